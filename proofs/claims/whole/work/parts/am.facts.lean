section PF
variable {L : Nat} {sg tt : Nat → Int32} {ch : Nat → Nat}
theorem opened_is (h : TX L sg tt ch) {a c o : Nat} (ha : a ≤ L) (ho : o ≤ 4) (hc : c ≤ 127) (h0 : c ≠ 0) : f_X8_isOpened (nI L) (nI a) (nI o) tt (nI c) = some (if o = 4 then ((0 : Int32), nI a, nI o) else if nx L ch a = c then ((1 : Int32), nI (a + 1), nI (o + 1)) else ((0 : Int32), nI a, nI o)) := by
  have hL := h.1
  unfold f_X8_isOpened
  by_cases e : o = 4
  · subst e
    rw [if_pos (by rfl), if_pos rfl]
  · rw [if_neg (by rw [show (4 : Int32) = nI 4 from rfl, n_eq (by omega) (by omega)]; exact e), is_is h ha hc h0, Option.bind_some, if_neg e]
    by_cases e2 : nx L ch a = c
    · rw [if_pos e2, if_neg (by exact i_10), if_pos e2, n_s]
    · rw [if_neg e2, if_pos (by rfl), if_neg e2]
theorem test_no (h : TX L sg tt ch) {a : Nat} (ha : a ≤ L) (hn : li3 (nx L ch a) = -1) (co val dig : Int32) (code : Nat → Int32) : f_X8_isTest (nI L) (nI a) val dig co tt code = some (0, nI a, val, dig, co, code) := by
  have hL := h.1
  have hx := nx_le h a
  have hz : ¬ (0 : Int32) ≤ -1 := by decide
  unfold f_X8_isTest
  by_cases hal : a < L
  · obtain ⟨-, h2, h3⟩ := h.2 a hal
    rw [show nx L ch a = ch a from if_pos hal] at hn
    rw [if_neg (by rw [n_le (by omega) (by omega)]; omega), n_gd (by omega) (by omega), n_gd (by omega) (by omega), n_cl (by omega), h2, show f_J0_indexOf_0f7a4 3 (nI (ch a)) = _ from ix3 ⟨ch a, by omega⟩, Option.bind_some, hn]
    unfold f_X8_isTest_41
    rw [if_neg hz, ite_self]
  · rw [if_pos (by rw [n_le (by omega) (by omega)]; omega)]
    unfold f_X8_isTest_41
    rw [if_neg hz]
theorem F_is (h : TX L sg tt ch) {o M : Nat} (ho : o ≤ 4) (hF : o < 4 → ∀ a, L - a < M → FJ L sg tt (o + 1) a) (hE : o < 4 → ∀ a, L - a < M → EJ L sg tt (o + 1) a) (a : Nat) (haM : L - a ≤ M) : FJ L sg tt o a := by
  intro len co num val dig st nu code d7 d8 ha hl hco h7 h8
  have hL := h.1
  have hx := nx_le h a
  obtain ⟨d7, rfl⟩ : ∃ D, d7 = D + 1 := ⟨d7 - 1, by omega⟩
  obtain ⟨D, rfl⟩ : ∃ D, d8 = D + 1 := ⟨d8 - 1, by omega⟩
  have e7 : (g_X5_either_X5_both_X5_factor (d7 + 1)).2.2 (nI L) (nI a) num (nI len) sg st nu (nI o) = f_X5_factor_b (g_X5_either_X5_both_X5_factor d7).1 (g_X5_either_X5_both_X5_factor d7).2.1 (g_X5_either_X5_both_X5_factor d7).2.2 (nI L) (nI a) num (nI len) sg st nu (nI o) := rfl
  have e8 : (g_X8_isE_X8_isT_X8_isF (D + 1)).2.2 (nI L) (nI a) val dig (nI o) (nI co) tt code = f_X8_isF_b (g_X8_isE_X8_isT_X8_isF D).1 (g_X8_isE_X8_isT_X8_isF D).2.1 (g_X8_isE_X8_isT_X8_isF D).2.2 (nI L) (nI a) val dig (nI o) (nI co) tt code := rfl
  unfold f_X5_factor_b at e7
  rw [next_is h ha, Option.bind_some] at e7
  unfold f_X8_isF_b at e8
  rw [show (33 : Int32) = nI 33 from rfl, show (40 : Int32) = nI 40 from rfl, opened_is h ha ho (by omega) (by omega), Option.bind_some] at e8
  have here : RJ L a len co (1 + 2 * (4 - o)) code false a st nu st nu (nI len) (nI co) code := ⟨Nat.le_refl a, ha, ⟨len, by omega, rfl⟩, fun _ _ => rfl, fun e => (Bool.false_ne_true e).elim⟩
  by_cases h33 : nx L ch a = 33
  · have hal : a < L := by
      apply Decidable.byContradiction
      intro e
      have : nx L ch a = 0 := if_neg e
      omega
    rw [if_pos (by rw [h33]; rfl)] at e7
    unfold f_X5_factor_14 at e7
    rw [if_neg (by exact i_10)] at e7
    unfold f_X5_factor_34 at e7
    by_cases h4 : o = 4
    · subst h4
      rw [if_neg (by decide)] at e7
      rw [if_pos rfl, if_pos (by rfl)] at e8
      dsimp only at e8
      rw [opened_is h ha ho (by omega) (by omega), Option.bind_some, if_pos rfl, if_pos (by rfl)] at e8
      dsimp only at e8
      rw [test_no h ha (by rw [h33]; rfl), Option.bind_some] at e8
      exact ⟨false, a, num, st, nu, nI len, val, dig, nI co, code, e7, e8.trans (gn_bI (b := false)), here⟩
    · rw [if_pos (lt_yes (c := 4) (by show (o : Int) < 4; omega) (by omega)), if_neg (by exact i_10), n_s, n_s] at e7
      rw [if_neg h4, if_pos h33, if_neg (by exact i_10)] at e8
      dsimp only at e8
      obtain ⟨ok1, a1, num1, st1, nu1, ln1, val1, dig1, co1, code1, x1, y1, r1, r2, ⟨n, hn, rfl⟩, r4, r5⟩ := hF (by omega) (a + 1) (by omega) len co num val dig st nu code d7 D (by omega) (by omega) (by omega) (by omega) (by omega)
      rw [x1, Option.bind_some] at e7
      rw [y1, Option.bind_some] at e8
      dsimp only at e7 e8
      have eo : nI (o + 1) - (1 : Int32) = nI o := by rw [show (1 : Int32) = nI 1 from rfl, pk_sub (by omega)]; rfl
      rw [eo] at e8
      cases ok1 with
      | false =>
        obtain ⟨st2, nu2, n2, hn2, p⟩ := put_any hn st1 nu1 (-1) 0
        rw [p, Option.bind_some, gn_bI] at e7
        rw [if_pos (by rfl)] at e8
        exact ⟨false, a1, num1, st2, nu2, nI n2, val1, dig1, co1, code1, e7, e8, by omega, r2, ⟨n2, hn2, rfl⟩, r4, fun e => (Bool.false_ne_true e).elim⟩
      | true =>
        obtain ⟨l1, c1, f1, s1, s2, s3, s4, s5, s6, s7, s8, s9, s10⟩ := r5 rfl
        subst s5
        rw [s4, put_is (by omega), Option.bind_some, gn_bI] at e7
        rw [if_neg (by exact i_10), codes_is (by omega), Option.bind_some, if_neg (by exact i_10)] at e8
        dsimp only at e8
        refine ⟨true, a1, num1, _, _, _, val1, dig1, _, _, e7, e8, by omega, r2, ⟨len + l1.length + 1, by omega, rfl⟩, fun i hi => by rw [upd_ne (by omega)]; exact r4 i hi, fun _ => ⟨l1 ++ [(-1, 0)], c1 ++ [0], fun fb => !(f1 fb), ?_, ?_, ?_, ?_, ?_, fun i hi => ?_, ?_, ?_, ?_, ?_⟩⟩
        · rw [List.length_append]; show a + (l1.length + 1) ≤ a1; omega
        · rw [List.length_append]; show a + (c1.length + 1) ≤ a1; omega
        · rw [List.length_append]; omega
        · rw [List.length_append]; rfl
        · rw [List.length_append]; rfl
        · obtain ⟨v1, v2⟩ := s6 i hi
          exact ⟨(upd_ne (by omega)).trans v1, (upd_ne (by omega)).trans v2⟩
        · exact SL.app.mpr ⟨SL.same (fun i hi => ⟨upd_ne (by omega), upd_ne (by omega)⟩) s7, upd_at, upd_at, trivial⟩
        · exact CL.app.mpr ⟨CL.same (fun i hi => upd_ne (by omega)) s8, upd_at, trivial⟩
        · exact (s9.not (by omega)).mono (by omega)
        · exact s10.not
  · rw [if_neg (by rw [show (33 : Int32) = nI 33 from rfl, n_eq (by omega) (by omega)]; exact h33)] at e7
    unfold f_X5_factor_14 at e7
    rw [if_pos rfl, next_is h ha, Option.bind_some] at e7
    have e33 : (if o = 4 then ((0 : Int32), nI a, nI o) else if nx L ch a = 33 then ((1 : Int32), nI (a + 1), nI (o + 1)) else ((0 : Int32), nI a, nI o)) = ((0 : Int32), nI a, nI o) := by rw [if_neg h33, ite_self]
    rw [e33, if_pos (by rfl)] at e8
    dsimp only at e8
    rw [opened_is h ha ho (by omega) (by omega), Option.bind_some] at e8
    by_cases h40 : nx L ch a = 40
    · have hal : a < L := by
        apply Decidable.byContradiction
        intro e
        have : nx L ch a = 0 := if_neg e
        omega
      rw [if_pos (by rw [h40]; rfl)] at e7
      unfold f_X5_factor_34 at e7
      by_cases h4 : o = 4
      · subst h4
        rw [if_neg (by decide)] at e7
        rw [if_pos rfl, if_pos (by rfl)] at e8
        dsimp only at e8
        rw [test_no h ha (by rw [h40]; rfl), Option.bind_some] at e8
        exact ⟨false, a, num, st, nu, nI len, val, dig, nI co, code, e7, e8.trans (gn_bI (b := false)), here⟩
      · rw [if_pos (lt_yes (c := 4) (by show (o : Int) < 4; omega) (by omega)), if_pos rfl, n_s, n_s] at e7
        rw [if_neg h4, if_pos h40, if_neg (by exact i_10)] at e8
        dsimp only at e8
        obtain ⟨ok1, a1, num1, st1, nu1, ln1, val1, dig1, co1, code1, x1, y1, r1, r2, r3, r4, r5⟩ := hE (by omega) (a + 1) (by omega) len co num val dig st nu code d7 D (by omega) (by omega) (by omega) (by omega) (by omega)
        rw [x1, Option.bind_some] at e7
        rw [y1, Option.bind_some] at e8
        dsimp only at e7 e8
        have eo : nI (o + 1) - (1 : Int32) = nI o := by rw [show (1 : Int32) = nI 1 from rfl, pk_sub (by omega)]; rfl
        rw [eo] at e8
        cases ok1 with
        | false =>
          rw [if_pos (by rfl)] at e7 e8
          exact ⟨false, a1, num1, st1, nu1, ln1, val1, dig1, co1, code1, e7, e8, by omega, r2, r3, r4, fun e => (Bool.false_ne_true e).elim⟩
        | true =>
          rw [if_neg (by exact i_10), show f_X5_take (nI L) (nI a1) sg (41 : Int32) = _ from take_is h r2 (c := 41) (by omega), Option.bind_some] at e7
          rw [if_neg (by exact i_10), show f_X8_is (nI L) (nI a1) tt (41 : Int32) = _ from is_is h r2 (c := 41) (by omega) (by omega), Option.bind_some] at e8
          by_cases h41 : nx L ch a1 = 41
          · have hal1 : a1 < L := by
              apply Decidable.byContradiction
              intro e
              have : nx L ch a1 = 0 := if_neg e
              omega
            rw [if_pos h41, if_neg (by exact i_10)] at e7 e8
            obtain ⟨l1, c1, f1, s1, s2, s3, s4, s5, s6, s7, s8, s9, s10⟩ := r5 rfl
            exact ⟨true, a1 + 1, num1, st1, nu1, ln1, val1, dig1, co1, code1, e7, e8, by omega, by omega, r3, r4, fun _ => ⟨l1, c1, f1, by omega, by omega, s3, s4, s5, s6, s7, s8, s9.mono (by omega), s10⟩⟩
          · rw [if_neg h41, if_pos (by rfl)] at e7 e8
            exact ⟨false, a1, num1, st1, nu1, ln1, val1, dig1, co1, code1, e7, e8, by omega, r2, r3, r4, fun e => (Bool.false_ne_true e).elim⟩
    · rw [if_neg (by rw [show (40 : Int32) = nI 40 from rfl, n_eq (by omega) (by omega)]; exact h40)] at e7
      have e40 : (if o = 4 then ((0 : Int32), nI a, nI o) else if nx L ch a = 40 then ((1 : Int32), nI (a + 1), nI (o + 1)) else ((0 : Int32), nI a, nI o)) = ((0 : Int32), nI a, nI o) := by rw [if_neg h40, ite_self]
      rw [e40, if_pos (by rfl)] at e8
      dsimp only at e8
      obtain ⟨ok1, a1, num1, st1, nu1, ln1, val1, dig1, co1, code1, x1, y1, r1, r2, r3, r4, r5⟩ := test_is h ha hl hco num val dig st nu code
      rw [x1, Option.bind_some, gn_bI] at e7
      rw [y1, Option.bind_some, gn_bI] at e8
      refine ⟨ok1, a1, num1, st1, nu1, ln1, val1, dig1, co1, code1, e7, e8, r1, r2, r3, r4, fun e => ?_⟩
      obtain ⟨l1, c1, f1, s1, s2, s3, s4, s5, s6, s7, s8, s9, s10⟩ := r5 e
      exact ⟨l1, c1, f1, s1, s2, s3, s4, s5, s6, s7, s8, s9.mono (by omega), s10⟩
theorem all_is (h : TX L sg tt ch) : ∀ (M o a : Nat), o ≤ 4 → L - a < M → FJ L sg tt o a ∧ TJ L sg tt o a ∧ EJ L sg tt o a := by
  intro M
  induction M with
  | zero => intro o a _ hlt; omega
  | succ M ih =>
    intro o a ho hlt
    have hF : ∀ b, L - b ≤ M → FJ L sg tt o b := fun b hb => F_is h ho (M := M) (fun h4 c hc => (ih (o + 1) c (by omega) hc).1) (fun h4 c hc => (ih (o + 1) c (by omega) hc).2.2) b hb
    have hT : ∀ b, L - b ≤ M → TJ L sg tt o b := fun b hb => T_is h ho (M := M) hF b hb
    exact ⟨hF a (by omega), hT a (by omega), E_is h ho (M := M) hT a (by omega)⟩
end PF
