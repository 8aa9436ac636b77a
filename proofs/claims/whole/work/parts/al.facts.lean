def rTail (rec : Int32 → Int32 → Int32 → Int32 → Int32 → Int32 → (Nat → Int32) → (Nat → Int32) → Option (Int32 × Int32 × Int32 × (Nat → Int32) × Int32 × Int32 × Int32)) (L a : Int32) (tt : Nat → Int32) (sign kc co : Int32) (code : Nat → Int32) (op val dig : Int32) : Option (Int32 × Int32 × Int32 × (Nat → Int32) × Int32 × Int32 × Int32) :=
  (f_X8_is L a tt sign).bind fun q2 => (if q2.1 = 0 then (some ((1 : Int32), q2.2, co, code, op, val, dig)) else ((rec L q2.2 val dig op co tt code).bind fun q3 => (if q3.1 = 0 then (some ((0 : Int32), q3.2.1, q3.2.2.1, q3.2.2.2.1, q3.2.2.2.2.1, q3.2.2.2.2.2.1, q3.2.2.2.2.2.2)) else ((f_X8_codes q3.2.2.1 q3.2.2.2.1 kc).bind fun q4 => (if q4.1 = 0 then (some ((0 : Int32), q3.2.1, q4.2.1, q4.2.2, q3.2.2.2.2.1, q3.2.2.2.2.2.1, q3.2.2.2.2.2.2)) else (some ((1 : Int32), q3.2.1, q4.2.1, q4.2.2, q3.2.2.2.2.1, q3.2.2.2.2.2.1, q3.2.2.2.2.2.2)))))))
section PY
variable {L : Nat} {sg tt : Nat → Int32} {ch : Nat → Nat}
theorem T_loop (h : TX L sg tt ch) {o M : Nat} (ho : o ≤ 4) (hS : ∀ a, L - a < M → FJ L sg tt o a) : ∀ (r a : Nat), L - a ≤ r → r ≤ M → a ≤ L → ∀ (len co : Nat) (num val dig : Int32) (st nu code : Nat → Int32) (d7 d8 x4 F : Nat), len ≤ a → co + (L - a) ≤ 700 → 1 + 3 * (4 - o) ≤ d7 → 3 * (L - a) ≤ d8 + 1 → x4 ≤ a → L - a < F → ∃ ok a' num' st' nu' ln val' dig' co' code', f_X5_both_10 (g_X5_either_X5_both_X5_factor d7).1 (g_X5_either_X5_both_X5_factor d7).2.1 (g_X5_either_X5_both_X5_factor d7).2.2 (nI L) sg (nI o) F 1 (nI x4) (nI a) st nu (nI len) num = some (bI ok, nI a', st', nu', ln, num') ∧ rTail (g_X8_isE_X8_isT_X8_isF d8).2.1 (nI L) (nI a) tt (38 : Int32) (1 : Int32) (nI co) code (nI o) val dig = some (bI ok, nI a', co', code', nI o, val', dig') ∧ RR (· && ·) L a len co (2 + 2 * (4 - o)) code ok a' st nu st' nu' ln co' code' := by
  have hL := h.1
  have none : ∀ (a : Nat), a ≤ L → nx L ch a ≠ 38 → ∀ (len co : Nat) (num val dig : Int32) (st nu code : Nat → Int32) (d7 d8 x4 F : Nat), len ≤ a → x4 ≤ a → 0 < F → ∃ ok a' num' st' nu' ln val' dig' co' code', f_X5_both_10 (g_X5_either_X5_both_X5_factor d7).1 (g_X5_either_X5_both_X5_factor d7).2.1 (g_X5_either_X5_both_X5_factor d7).2.2 (nI L) sg (nI o) F 1 (nI x4) (nI a) st nu (nI len) num = some (bI ok, nI a', st', nu', ln, num') ∧ rTail (g_X8_isE_X8_isT_X8_isF d8).2.1 (nI L) (nI a) tt (38 : Int32) (1 : Int32) (nI co) code (nI o) val dig = some (bI ok, nI a', co', code', nI o, val', dig') ∧ RR (· && ·) L a len co (2 + 2 * (4 - o)) code ok a' st nu st' nu' ln co' code' := by
    intro a ha hx len co num val dig st nu code d7 d8 x4 F hl hx4 hF
    obtain ⟨F, rfl⟩ : ∃ f, F = f + 1 := ⟨F - 1, by omega⟩
    refine ⟨true, a, num, st, nu, nI len, val, dig, nI co, code, ?_, ?_, Nat.le_refl a, ha, ⟨len, by omega, rfl⟩, fun _ _ => rfl, fun _ => ⟨[], [], (fun _ => true), Nat.le_refl a, Nat.le_refl a, rfl, rfl, fun _ _ => ⟨rfl, rfl⟩, trivial, trivial, XR_and_nil, CR_and_nil⟩⟩
    · unfold f_X5_both_10 f_X5_both_10_b
      by_cases e : (100 : Int32) ≤ nI x4
      · rw [if_pos e, gn_b1]; rfl
      · rw [if_neg e, if_neg i_10, show f_X5_take (nI L) (nI a) sg (38 : Int32) = _ from take_is h ha (c := 38) (by omega), Option.bind_some, if_neg hx, if_pos rfl, gn_b1]; rfl
    · unfold rTail
      rw [show f_X8_is (nI L) (nI a) tt (38 : Int32) = _ from is_is h ha (c := 38) (by omega) (by omega), Option.bind_some, if_neg hx, if_pos rfl]; rfl
  intro r
  induction r with
  | zero =>
    intro a hr hM ha len co num val dig st nu code d7 d8 x4 F hl hco h7 h8 hx4 hF
    exact none a ha (by unfold nx; rw [if_neg (by omega)]; omega) len co num val dig st nu code d7 d8 x4 F hl hx4 (by omega)
  | succ r ih =>
    intro a hr hM ha len co num val dig st nu code d7 d8 x4 F hl hco h7 h8 hx4 hF
    by_cases hx : nx L ch a = 38
    · have hal : a < L := by
        apply Decidable.byContradiction
        intro e
        have : nx L ch a = 0 := if_neg e
        omega
      obtain ⟨D, rfl⟩ : ∃ D, d8 = D + 1 := ⟨d8 - 1, by omega⟩
      obtain ⟨F, rfl⟩ : ∃ f, F = f + 2 := ⟨F - 2, by omega⟩
      obtain ⟨ok1, a1, num1, st1, nu1, ln1, val1, dig1, co1, code1, x1, y1, r1, r2, r3, r4, r5⟩ := hS (a + 1) (by omega) len co num val dig st nu code d7 D (by omega) (by omega) (by omega) h7 (by omega)
      have eT : (g_X8_isE_X8_isT_X8_isF (D + 1)).2.1 (nI L) (nI (a + 1)) val dig (nI o) (nI co) tt code = (if bI ok1 = 0 then some ((0 : Int32), nI a1, co1, code1, nI o, val1, dig1) else rTail (g_X8_isE_X8_isT_X8_isF D).2.1 (nI L) (nI a1) tt (38 : Int32) (1 : Int32) co1 code1 (nI o) val1 dig1) := by
        show f_X8_isT_b (g_X8_isE_X8_isT_X8_isF D).1 (g_X8_isE_X8_isT_X8_isF D).2.1 (g_X8_isE_X8_isT_X8_isF D).2.2 (nI L) (nI (a + 1)) val dig (nI o) (nI co) tt code = _
        unfold f_X8_isT_b
        rw [y1, Option.bind_some]
        rfl
      have e7 : ∀ F, f_X5_both_10 (g_X5_either_X5_both_X5_factor d7).1 (g_X5_either_X5_both_X5_factor d7).2.1 (g_X5_either_X5_both_X5_factor d7).2.2 (nI L) sg (nI o) (F + 1) 1 (nI x4) (nI a) st nu (nI len) num = (f_X2_put ln1 st1 nu1 (-2 : Int32) 0).bind (fun q3 => f_X5_both_10 (g_X5_either_X5_both_X5_factor d7).1 (g_X5_either_X5_both_X5_factor d7).2.1 (g_X5_either_X5_both_X5_factor d7).2.2 (nI L) sg (nI o) F (bI ok1) (nI (x4 + 1)) (nI a1) q3.1 q3.2.1 q3.2.2 num1) := by
        intro F
        conv => lhs; unfold f_X5_both_10 f_X5_both_10_b
        rw [if_neg (by rw [n_leT, n_toInt (by omega)]; show ¬ (100 : Int) ≤ x4; omega), if_neg i_10, show f_X5_take (nI L) (nI a) sg (38 : Int32) = _ from take_is h ha (c := 38) (by omega), Option.bind_some, if_pos hx, if_neg (by exact i_10), x1, Option.bind_some, n_s]
      have e8 : rTail (g_X8_isE_X8_isT_X8_isF (D + 1)).2.1 (nI L) (nI a) tt (38 : Int32) (1 : Int32) (nI co) code (nI o) val dig = (if bI ok1 = 0 then some ((0 : Int32), nI a1, co1, code1, nI o, val1, dig1) else rTail (g_X8_isE_X8_isT_X8_isF D).2.1 (nI L) (nI a1) tt (38 : Int32) (1 : Int32) co1 code1 (nI o) val1 dig1).bind (fun q3 => (if q3.1 = 0 then (some ((0 : Int32), q3.2.1, q3.2.2.1, q3.2.2.2.1, q3.2.2.2.2.1, q3.2.2.2.2.2.1, q3.2.2.2.2.2.2)) else ((f_X8_codes q3.2.2.1 q3.2.2.2.1 (1 : Int32)).bind fun q4 => (if q4.1 = 0 then (some ((0 : Int32), q3.2.1, q4.2.1, q4.2.2, q3.2.2.2.2.1, q3.2.2.2.2.2.1, q3.2.2.2.2.2.2)) else (some ((1 : Int32), q3.2.1, q4.2.1, q4.2.2, q3.2.2.2.2.1, q3.2.2.2.2.2.1, q3.2.2.2.2.2.2)))))) := by
        conv => lhs; unfold rTail
        rw [show f_X8_is (nI L) (nI a) tt (38 : Int32) = _ from is_is h ha (c := 38) (by omega) (by omega), Option.bind_some, if_pos hx, if_neg (by exact i_10)]
        dsimp only
        rw [eT]
      obtain ⟨n1, hn1, hln1⟩ := r3
      cases ok1 with
      | false =>
        obtain ⟨st2, nu2, n2, hn2, hp⟩ := put_any hn1 st1 nu1 (-2 : Int32) 0
        refine ⟨false, a1, num1, st2, nu2, nI n2, val1, dig1, co1, code1, ?_, ?_, by omega, r2, ⟨n2, hn2, rfl⟩, r4, fun e => (Bool.false_ne_true e).elim⟩
        · rw [e7, hln1, hp, Option.bind_some]
          unfold f_X5_both_10 f_X5_both_10_b
          by_cases e : (100 : Int32) ≤ nI (x4 + 1)
          · rw [if_pos e, gn_bI]
          · rw [if_neg e, if_pos (by rfl), gn_bI]
        · rw [e8, if_pos (by rfl), Option.bind_some, if_pos rfl]
          rfl
      | true =>
        obtain ⟨l1, c1, f1, s1, s2, s3, s4, s5, s6, s7, s8, s9, s10⟩ := r5 rfl
        subst s5
        obtain ⟨ok2, a2, num2, st3, nu3, ln3, val3, dig3, co3, code3, x2, y2, t1, t2, t3, t4, t5⟩ := ih a1 (by omega) (by omega) r2 (len + l1.length + 1) (co + c1.length) num1 val1 dig1 (upd st1 (len + l1.length) (-2 : Int32)) (upd nu1 (len + l1.length) 0) code1 d7 D (x4 + 1) (F + 1) (by omega) (by omega) h7 (by omega) (by omega) (by omega)
        have x3 : f_X5_both_10 (g_X5_either_X5_both_X5_factor d7).1 (g_X5_either_X5_both_X5_factor d7).2.1 (g_X5_either_X5_both_X5_factor d7).2.2 (nI L) sg (nI o) (F + 2) 1 (nI x4) (nI a) st nu (nI len) num = some (bI ok2, nI a2, st3, nu3, ln3, num2) := by
          rw [show F + 2 = (F + 1) + 1 from rfl, e7, s4, put_is (show len + l1.length < 100 by omega), Option.bind_some]
          exact x2
        rw [if_neg (by exact i_10), y2, Option.bind_some] at e8
        cases ok2 with
        | false =>
          refine ⟨false, a2, num2, st3, nu3, ln3, val3, dig3, co3, code3, x3, ?_, by omega, t2, t3, fun i hi => by rw [t4 i (by omega), r4 i hi], fun e => (Bool.false_ne_true e).elim⟩
          rw [e8, if_pos (by rfl)]
          rfl
        | true =>
          obtain ⟨l2, c2, f2, u1, u2, u4, u5, u6, u7, u8, u9, u10⟩ := t5 rfl
          subst u5
          refine ⟨true, a2, num2, st3, nu3, ln3, val3, dig3, nI (co + c1.length + c2.length + 1), upd code3 (co + c1.length + c2.length) 1, x3, ?_, by omega, t2, t3, fun i hi => by rw [upd_ne (by omega), t4 i (by omega), r4 i hi], fun _ => ⟨l1 ++ (((-2 : Int32), 0) :: l2), c1 ++ c2 ++ [1], fun fb => f1 fb && f2 fb, ?_, ?_, ?_, ?_, fun i hi => ?_, ?_, ?_, ?_, ?_⟩⟩
          · rw [e8, if_neg (by exact i_10), codes_is (by omega), Option.bind_some, if_neg (by exact i_10)]
            rfl
          · rw [List.length_append, List.length_cons]; omega
          · rw [List.length_append, List.length_append, List.length_cons, List.length_nil]; omega
          · rw [u4, List.length_append, List.length_cons]; congr 1; omega
          · rw [List.length_append, List.length_append, List.length_cons, List.length_nil]; congr 1; omega
          · obtain ⟨v1, v2⟩ := u6 i (by omega)
            obtain ⟨v3, v4⟩ := s6 i hi
            rw [v1, v2, upd_ne (by omega), upd_ne (by omega)]
            exact ⟨v3, v4⟩
          · obtain ⟨v1, v2⟩ := u6 (len + l1.length) (by omega)
            refine SL.app.mpr ⟨SL.same (fun i hi => ?_) s7, v1.trans upd_at, v2.trans upd_at, u7⟩
            obtain ⟨v1, v2⟩ := u6 i (by omega)
            rw [v1, v2, upd_ne (by omega), upd_ne (by omega)]
            exact ⟨rfl, rfl⟩
          · refine CL.app.mpr ⟨CL.app.mpr ⟨CL.same (fun i hi => ?_) s8, CL.same (fun i hi => upd_ne (by omega)) u8⟩, ?_, trivial⟩
            · rw [upd_ne (by omega), t4 i (by omega)]
            · rw [List.length_append, ← Nat.add_assoc]
              exact upd_at
          · have e := XR_cons (· && ·) (fun x y z => Bool.and_assoc x y z) (Or.inl ⟨rfl, rfl⟩) s9 (show XR (· && ·) l2 f2 (1 + 2 * (4 - o) + 1) by rw [show 1 + 2 * (4 - o) + 1 = 2 + 2 * (4 - o) by omega]; exact u9) (by omega)
            rw [show 1 + 2 * (4 - o) + 1 = 2 + 2 * (4 - o) by omega] at e
            exact e
          · exact CR_cons (· && ·) (Or.inl ⟨rfl, rfl⟩) s10 u10 s3
    · exact none a ha hx len co num val dig st nu code d7 d8 x4 F hl hx4 (by omega)
theorem T_is (h : TX L sg tt ch) {o M : Nat} (ho : o ≤ 4) (hS : ∀ a, L - a ≤ M → FJ L sg tt o a) (a : Nat) (haM : L - a ≤ M) : TJ L sg tt o a := by
  intro len co num val dig st nu code d7 d8 ha hl hco h7 h8
  have hL := h.1
  obtain ⟨d7, rfl⟩ : ∃ D, d7 = D + 1 := ⟨d7 - 1, by omega⟩
  obtain ⟨D, rfl⟩ : ∃ D, d8 = D + 1 := ⟨d8 - 1, by omega⟩
  obtain ⟨ok1, a1, num1, st1, nu1, ln1, val1, dig1, co1, code1, x1, y1, r1, r2, r3, r4, r5⟩ := hS a haM len co num val dig st nu code d7 D ha hl hco (by omega) (by omega)
  have eT : (g_X8_isE_X8_isT_X8_isF (D + 1)).2.1 (nI L) (nI a) val dig (nI o) (nI co) tt code = (if bI ok1 = 0 then some ((0 : Int32), nI a1, co1, code1, nI o, val1, dig1) else rTail (g_X8_isE_X8_isT_X8_isF D).2.1 (nI L) (nI a1) tt (38 : Int32) (1 : Int32) co1 code1 (nI o) val1 dig1) := by
    show f_X8_isT_b (g_X8_isE_X8_isT_X8_isF D).1 (g_X8_isE_X8_isT_X8_isF D).2.1 (g_X8_isE_X8_isT_X8_isF D).2.2 (nI L) (nI a) val dig (nI o) (nI co) tt code = _
    unfold f_X8_isT_b
    rw [y1, Option.bind_some]
    rfl
  have e7 : (g_X5_either_X5_both_X5_factor (d7 + 1)).2.1 (nI L) (nI a) num (nI len) sg st nu (nI o) = f_X5_both_10 (g_X5_either_X5_both_X5_factor d7).1 (g_X5_either_X5_both_X5_factor d7).2.1 (g_X5_either_X5_both_X5_factor d7).2.2 (nI L) sg (nI o) 1000 (bI ok1) (nI 0) (nI a1) st1 nu1 ln1 num1 := by
    show f_X5_both_b (g_X5_either_X5_both_X5_factor d7).1 (g_X5_either_X5_both_X5_factor d7).2.1 (g_X5_either_X5_both_X5_factor d7).2.2 (nI L) (nI a) num (nI len) sg st nu (nI o) = _
    unfold f_X5_both_b
    rw [x1, Option.bind_some]
    rfl
  cases ok1 with
  | false =>
    refine ⟨false, a1, num1, st1, nu1, ln1, val1, dig1, co1, code1, ?_, ?_, r1, r2, r3, r4, fun e => (Bool.false_ne_true e).elim⟩
    · rw [e7]
      unfold f_X5_both_10 f_X5_both_10_b
      rw [if_neg (by decide), if_pos (by rfl), gn_bI]
    · rw [eT, if_pos (by rfl)]
      rfl
  | true =>
    obtain ⟨l1, c1, f1, s1, s2, s3, s4, s5, s6, s7, s8, s9, s10⟩ := r5 rfl
    subst s4
    subst s5
    obtain ⟨ok2, a2, num2, st3, nu3, ln3, val3, dig3, co3, code3, x2, y2, t1, t2, t3, t4, t5⟩ := T_loop h ho (M := M) (fun a ha => hS a (by omega)) (L - a1) a1 (Nat.le_refl _) (by omega) r2 (len + l1.length) (co + c1.length) num1 val1 dig1 st1 nu1 code1 d7 D 0 1000 (by omega) (by omega) (by omega) (by omega) (by omega) (by omega)
    rw [if_neg (by exact i_10), y2] at eT
    rw [show (bI true) = (1 : Int32) from rfl, x2] at e7
    refine ⟨ok2, a2, num2, st3, nu3, ln3, val3, dig3, co3, code3, e7, eT, by omega, t2, t3, fun i hi => by rw [t4 i (by omega), r4 i hi], fun e => ?_⟩
    obtain ⟨l2, c2, f2, u1, u2, u4, u5, u6, u7, u8, u9, u10⟩ := t5 e
    refine ⟨l1 ++ l2, c1 ++ c2, fun fb => f1 fb && f2 fb, ?_, ?_, ?_, ?_, ?_, fun i hi => ?_, ?_, ?_, ?_, ?_⟩
    · rw [List.length_append]; omega
    · rw [List.length_append]; omega
    · rw [List.length_append]; omega
    · rw [u4, List.length_append]; congr 1; omega
    · rw [u5, List.length_append]; congr 1; omega
    · obtain ⟨v1, v2⟩ := u6 i (by omega)
      obtain ⟨v3, v4⟩ := s6 i hi
      exact ⟨v1.trans v3, v2.trans v4⟩
    · exact SL.app.mpr ⟨SL.same (fun i hi => u6 i hi) s7, u7⟩
    · exact CL.app.mpr ⟨CL.same (fun i hi => t4 i hi) s8, u8⟩
    · have e := XE_of (· && ·) s9 (show XR (· && ·) l2 f2 (1 + 2 * (4 - o) + 1) by rw [show 1 + 2 * (4 - o) + 1 = 2 + 2 * (4 - o) by omega]; exact u9)
      rw [show 1 + 2 * (4 - o) + 1 = 2 + 2 * (4 - o) by omega] at e
      exact e
    · exact CE_of (· && ·) s10 u10 s3
theorem E_loop (h : TX L sg tt ch) {o M : Nat} (ho : o ≤ 4) (hS : ∀ a, L - a < M → TJ L sg tt o a) : ∀ (r a : Nat), L - a ≤ r → r ≤ M → a ≤ L → ∀ (len co : Nat) (num val dig : Int32) (st nu code : Nat → Int32) (d7 d8 x4 F : Nat), len ≤ a → co + (L - a) ≤ 700 → 2 + 3 * (4 - o) ≤ d7 → 3 * (L - a) ≤ d8 → x4 ≤ a → L - a < F → ∃ ok a' num' st' nu' ln val' dig' co' code', f_X5_either_10 (g_X5_either_X5_both_X5_factor d7).1 (g_X5_either_X5_both_X5_factor d7).2.1 (g_X5_either_X5_both_X5_factor d7).2.2 (nI L) sg (nI o) F 1 (nI x4) (nI a) st nu (nI len) num = some (bI ok, nI a', st', nu', ln, num') ∧ rTail (g_X8_isE_X8_isT_X8_isF d8).1 (nI L) (nI a) tt (124 : Int32) (2 : Int32) (nI co) code (nI o) val dig = some (bI ok, nI a', co', code', nI o, val', dig') ∧ RR (· || ·) L a len co (3 + 2 * (4 - o)) code ok a' st nu st' nu' ln co' code' := by
  have hL := h.1
  have none : ∀ (a : Nat), a ≤ L → nx L ch a ≠ 124 → ∀ (len co : Nat) (num val dig : Int32) (st nu code : Nat → Int32) (d7 d8 x4 F : Nat), len ≤ a → x4 ≤ a → 0 < F → ∃ ok a' num' st' nu' ln val' dig' co' code', f_X5_either_10 (g_X5_either_X5_both_X5_factor d7).1 (g_X5_either_X5_both_X5_factor d7).2.1 (g_X5_either_X5_both_X5_factor d7).2.2 (nI L) sg (nI o) F 1 (nI x4) (nI a) st nu (nI len) num = some (bI ok, nI a', st', nu', ln, num') ∧ rTail (g_X8_isE_X8_isT_X8_isF d8).1 (nI L) (nI a) tt (124 : Int32) (2 : Int32) (nI co) code (nI o) val dig = some (bI ok, nI a', co', code', nI o, val', dig') ∧ RR (· || ·) L a len co (3 + 2 * (4 - o)) code ok a' st nu st' nu' ln co' code' := by
    intro a ha hx len co num val dig st nu code d7 d8 x4 F hl hx4 hF
    obtain ⟨F, rfl⟩ : ∃ f, F = f + 1 := ⟨F - 1, by omega⟩
    refine ⟨true, a, num, st, nu, nI len, val, dig, nI co, code, ?_, ?_, Nat.le_refl a, ha, ⟨len, by omega, rfl⟩, fun _ _ => rfl, fun _ => ⟨[], [], (fun _ => false), Nat.le_refl a, Nat.le_refl a, rfl, rfl, fun _ _ => ⟨rfl, rfl⟩, trivial, trivial, XR_or_nil, CR_or_nil⟩⟩
    · unfold f_X5_either_10 f_X5_either_10_b
      by_cases e : (100 : Int32) ≤ nI x4
      · rw [if_pos e, gn_b1]; rfl
      · rw [if_neg e, if_neg i_10, show f_X5_take (nI L) (nI a) sg (124 : Int32) = _ from take_is h ha (c := 124) (by omega), Option.bind_some, if_neg hx, if_pos rfl, gn_b1]; rfl
    · unfold rTail
      rw [show f_X8_is (nI L) (nI a) tt (124 : Int32) = _ from is_is h ha (c := 124) (by omega) (by omega), Option.bind_some, if_neg hx, if_pos rfl]; rfl
  intro r
  induction r with
  | zero =>
    intro a hr hM ha len co num val dig st nu code d7 d8 x4 F hl hco h7 h8 hx4 hF
    exact none a ha (by unfold nx; rw [if_neg (by omega)]; omega) len co num val dig st nu code d7 d8 x4 F hl hx4 (by omega)
  | succ r ih =>
    intro a hr hM ha len co num val dig st nu code d7 d8 x4 F hl hco h7 h8 hx4 hF
    by_cases hx : nx L ch a = 124
    · have hal : a < L := by
        apply Decidable.byContradiction
        intro e
        have : nx L ch a = 0 := if_neg e
        omega
      obtain ⟨D, rfl⟩ : ∃ D, d8 = D + 1 := ⟨d8 - 1, by omega⟩
      obtain ⟨F, rfl⟩ : ∃ f, F = f + 2 := ⟨F - 2, by omega⟩
      obtain ⟨ok1, a1, num1, st1, nu1, ln1, val1, dig1, co1, code1, x1, y1, r1, r2, r3, r4, r5⟩ := hS (a + 1) (by omega) len co num val dig st nu code d7 D (by omega) (by omega) (by omega) h7 (by omega)
      have eT : (g_X8_isE_X8_isT_X8_isF (D + 1)).1 (nI L) (nI (a + 1)) val dig (nI o) (nI co) tt code = (if bI ok1 = 0 then some ((0 : Int32), nI a1, co1, code1, nI o, val1, dig1) else rTail (g_X8_isE_X8_isT_X8_isF D).1 (nI L) (nI a1) tt (124 : Int32) (2 : Int32) co1 code1 (nI o) val1 dig1) := by
        show f_X8_isE_b (g_X8_isE_X8_isT_X8_isF D).1 (g_X8_isE_X8_isT_X8_isF D).2.1 (g_X8_isE_X8_isT_X8_isF D).2.2 (nI L) (nI (a + 1)) val dig (nI o) (nI co) tt code = _
        unfold f_X8_isE_b
        rw [y1, Option.bind_some]
        rfl
      have e7 : ∀ F, f_X5_either_10 (g_X5_either_X5_both_X5_factor d7).1 (g_X5_either_X5_both_X5_factor d7).2.1 (g_X5_either_X5_both_X5_factor d7).2.2 (nI L) sg (nI o) (F + 1) 1 (nI x4) (nI a) st nu (nI len) num = (f_X2_put ln1 st1 nu1 (-3 : Int32) 0).bind (fun q3 => f_X5_either_10 (g_X5_either_X5_both_X5_factor d7).1 (g_X5_either_X5_both_X5_factor d7).2.1 (g_X5_either_X5_both_X5_factor d7).2.2 (nI L) sg (nI o) F (bI ok1) (nI (x4 + 1)) (nI a1) q3.1 q3.2.1 q3.2.2 num1) := by
        intro F
        conv => lhs; unfold f_X5_either_10 f_X5_either_10_b
        rw [if_neg (by rw [n_leT, n_toInt (by omega)]; show ¬ (100 : Int) ≤ x4; omega), if_neg i_10, show f_X5_take (nI L) (nI a) sg (124 : Int32) = _ from take_is h ha (c := 124) (by omega), Option.bind_some, if_pos hx, if_neg (by exact i_10), x1, Option.bind_some, n_s]
      have e8 : rTail (g_X8_isE_X8_isT_X8_isF (D + 1)).1 (nI L) (nI a) tt (124 : Int32) (2 : Int32) (nI co) code (nI o) val dig = (if bI ok1 = 0 then some ((0 : Int32), nI a1, co1, code1, nI o, val1, dig1) else rTail (g_X8_isE_X8_isT_X8_isF D).1 (nI L) (nI a1) tt (124 : Int32) (2 : Int32) co1 code1 (nI o) val1 dig1).bind (fun q3 => (if q3.1 = 0 then (some ((0 : Int32), q3.2.1, q3.2.2.1, q3.2.2.2.1, q3.2.2.2.2.1, q3.2.2.2.2.2.1, q3.2.2.2.2.2.2)) else ((f_X8_codes q3.2.2.1 q3.2.2.2.1 (2 : Int32)).bind fun q4 => (if q4.1 = 0 then (some ((0 : Int32), q3.2.1, q4.2.1, q4.2.2, q3.2.2.2.2.1, q3.2.2.2.2.2.1, q3.2.2.2.2.2.2)) else (some ((1 : Int32), q3.2.1, q4.2.1, q4.2.2, q3.2.2.2.2.1, q3.2.2.2.2.2.1, q3.2.2.2.2.2.2)))))) := by
        conv => lhs; unfold rTail
        rw [show f_X8_is (nI L) (nI a) tt (124 : Int32) = _ from is_is h ha (c := 124) (by omega) (by omega), Option.bind_some, if_pos hx, if_neg (by exact i_10)]
        dsimp only
        rw [eT]
      obtain ⟨n1, hn1, hln1⟩ := r3
      cases ok1 with
      | false =>
        obtain ⟨st2, nu2, n2, hn2, hp⟩ := put_any hn1 st1 nu1 (-3 : Int32) 0
        refine ⟨false, a1, num1, st2, nu2, nI n2, val1, dig1, co1, code1, ?_, ?_, by omega, r2, ⟨n2, hn2, rfl⟩, r4, fun e => (Bool.false_ne_true e).elim⟩
        · rw [e7, hln1, hp, Option.bind_some]
          unfold f_X5_either_10 f_X5_either_10_b
          by_cases e : (100 : Int32) ≤ nI (x4 + 1)
          · rw [if_pos e, gn_bI]
          · rw [if_neg e, if_pos (by rfl), gn_bI]
        · rw [e8, if_pos (by rfl), Option.bind_some, if_pos rfl]
          rfl
      | true =>
        obtain ⟨l1, c1, f1, s1, s2, s3, s4, s5, s6, s7, s8, s9, s10⟩ := r5 rfl
        subst s5
        obtain ⟨ok2, a2, num2, st3, nu3, ln3, val3, dig3, co3, code3, x2, y2, t1, t2, t3, t4, t5⟩ := ih a1 (by omega) (by omega) r2 (len + l1.length + 1) (co + c1.length) num1 val1 dig1 (upd st1 (len + l1.length) (-3 : Int32)) (upd nu1 (len + l1.length) 0) code1 d7 D (x4 + 1) (F + 1) (by omega) (by omega) h7 (by omega) (by omega) (by omega)
        have x3 : f_X5_either_10 (g_X5_either_X5_both_X5_factor d7).1 (g_X5_either_X5_both_X5_factor d7).2.1 (g_X5_either_X5_both_X5_factor d7).2.2 (nI L) sg (nI o) (F + 2) 1 (nI x4) (nI a) st nu (nI len) num = some (bI ok2, nI a2, st3, nu3, ln3, num2) := by
          rw [show F + 2 = (F + 1) + 1 from rfl, e7, s4, put_is (show len + l1.length < 100 by omega), Option.bind_some]
          exact x2
        rw [if_neg (by exact i_10), y2, Option.bind_some] at e8
        cases ok2 with
        | false =>
          refine ⟨false, a2, num2, st3, nu3, ln3, val3, dig3, co3, code3, x3, ?_, by omega, t2, t3, fun i hi => by rw [t4 i (by omega), r4 i hi], fun e => (Bool.false_ne_true e).elim⟩
          rw [e8, if_pos (by rfl)]
          rfl
        | true =>
          obtain ⟨l2, c2, f2, u1, u2, u4, u5, u6, u7, u8, u9, u10⟩ := t5 rfl
          subst u5
          refine ⟨true, a2, num2, st3, nu3, ln3, val3, dig3, nI (co + c1.length + c2.length + 1), upd code3 (co + c1.length + c2.length) 2, x3, ?_, by omega, t2, t3, fun i hi => by rw [upd_ne (by omega), t4 i (by omega), r4 i hi], fun _ => ⟨l1 ++ (((-3 : Int32), 0) :: l2), c1 ++ c2 ++ [2], fun fb => f1 fb || f2 fb, ?_, ?_, ?_, ?_, fun i hi => ?_, ?_, ?_, ?_, ?_⟩⟩
          · rw [e8, if_neg (by exact i_10), codes_is (by omega), Option.bind_some, if_neg (by exact i_10)]
            rfl
          · rw [List.length_append, List.length_cons]; omega
          · rw [List.length_append, List.length_append, List.length_cons, List.length_nil]; omega
          · rw [u4, List.length_append, List.length_cons]; congr 1; omega
          · rw [List.length_append, List.length_append, List.length_cons, List.length_nil]; congr 1; omega
          · obtain ⟨v1, v2⟩ := u6 i (by omega)
            obtain ⟨v3, v4⟩ := s6 i hi
            rw [v1, v2, upd_ne (by omega), upd_ne (by omega)]
            exact ⟨v3, v4⟩
          · obtain ⟨v1, v2⟩ := u6 (len + l1.length) (by omega)
            refine SL.app.mpr ⟨SL.same (fun i hi => ?_) s7, v1.trans upd_at, v2.trans upd_at, u7⟩
            obtain ⟨v1, v2⟩ := u6 i (by omega)
            rw [v1, v2, upd_ne (by omega), upd_ne (by omega)]
            exact ⟨rfl, rfl⟩
          · refine CL.app.mpr ⟨CL.app.mpr ⟨CL.same (fun i hi => ?_) s8, CL.same (fun i hi => upd_ne (by omega)) u8⟩, ?_, trivial⟩
            · rw [upd_ne (by omega), t4 i (by omega)]
            · rw [List.length_append, ← Nat.add_assoc]
              exact upd_at
          · have e := XR_cons (· || ·) (fun x y z => Bool.or_assoc x y z) (Or.inr ⟨rfl, rfl⟩) s9 (show XR (· || ·) l2 f2 (2 + 2 * (4 - o) + 1) by rw [show 2 + 2 * (4 - o) + 1 = 3 + 2 * (4 - o) by omega]; exact u9) (by omega)
            rw [show 2 + 2 * (4 - o) + 1 = 3 + 2 * (4 - o) by omega] at e
            exact e
          · exact CR_cons (· || ·) (Or.inr ⟨rfl, rfl⟩) s10 u10 s3
    · exact none a ha hx len co num val dig st nu code d7 d8 x4 F hl hx4 (by omega)
theorem E_is (h : TX L sg tt ch) {o M : Nat} (ho : o ≤ 4) (hS : ∀ a, L - a ≤ M → TJ L sg tt o a) (a : Nat) (haM : L - a ≤ M) : EJ L sg tt o a := by
  intro len co num val dig st nu code d7 d8 ha hl hco h7 h8
  have hL := h.1
  obtain ⟨d7, rfl⟩ : ∃ D, d7 = D + 1 := ⟨d7 - 1, by omega⟩
  obtain ⟨D, rfl⟩ : ∃ D, d8 = D + 1 := ⟨d8 - 1, by omega⟩
  obtain ⟨ok1, a1, num1, st1, nu1, ln1, val1, dig1, co1, code1, x1, y1, r1, r2, r3, r4, r5⟩ := hS a haM len co num val dig st nu code d7 D ha hl hco (by omega) (by omega)
  have eT : (g_X8_isE_X8_isT_X8_isF (D + 1)).1 (nI L) (nI a) val dig (nI o) (nI co) tt code = (if bI ok1 = 0 then some ((0 : Int32), nI a1, co1, code1, nI o, val1, dig1) else rTail (g_X8_isE_X8_isT_X8_isF D).1 (nI L) (nI a1) tt (124 : Int32) (2 : Int32) co1 code1 (nI o) val1 dig1) := by
    show f_X8_isE_b (g_X8_isE_X8_isT_X8_isF D).1 (g_X8_isE_X8_isT_X8_isF D).2.1 (g_X8_isE_X8_isT_X8_isF D).2.2 (nI L) (nI a) val dig (nI o) (nI co) tt code = _
    unfold f_X8_isE_b
    rw [y1, Option.bind_some]
    rfl
  have e7 : (g_X5_either_X5_both_X5_factor (d7 + 1)).1 (nI L) (nI a) num (nI len) sg st nu (nI o) = f_X5_either_10 (g_X5_either_X5_both_X5_factor d7).1 (g_X5_either_X5_both_X5_factor d7).2.1 (g_X5_either_X5_both_X5_factor d7).2.2 (nI L) sg (nI o) 1000 (bI ok1) (nI 0) (nI a1) st1 nu1 ln1 num1 := by
    show f_X5_either_b (g_X5_either_X5_both_X5_factor d7).1 (g_X5_either_X5_both_X5_factor d7).2.1 (g_X5_either_X5_both_X5_factor d7).2.2 (nI L) (nI a) num (nI len) sg st nu (nI o) = _
    unfold f_X5_either_b
    rw [x1, Option.bind_some]
    rfl
  cases ok1 with
  | false =>
    refine ⟨false, a1, num1, st1, nu1, ln1, val1, dig1, co1, code1, ?_, ?_, r1, r2, r3, r4, fun e => (Bool.false_ne_true e).elim⟩
    · rw [e7]
      unfold f_X5_either_10 f_X5_either_10_b
      rw [if_neg (by decide), if_pos (by rfl), gn_bI]
    · rw [eT, if_pos (by rfl)]
      rfl
  | true =>
    obtain ⟨l1, c1, f1, s1, s2, s3, s4, s5, s6, s7, s8, s9, s10⟩ := r5 rfl
    subst s4
    subst s5
    obtain ⟨ok2, a2, num2, st3, nu3, ln3, val3, dig3, co3, code3, x2, y2, t1, t2, t3, t4, t5⟩ := E_loop h ho (M := M) (fun a ha => hS a (by omega)) (L - a1) a1 (Nat.le_refl _) (by omega) r2 (len + l1.length) (co + c1.length) num1 val1 dig1 st1 nu1 code1 d7 D 0 1000 (by omega) (by omega) (by omega) (by omega) (by omega) (by omega)
    rw [if_neg (by exact i_10), y2] at eT
    rw [show (bI true) = (1 : Int32) from rfl, x2] at e7
    refine ⟨ok2, a2, num2, st3, nu3, ln3, val3, dig3, co3, code3, e7, eT, by omega, t2, t3, fun i hi => by rw [t4 i (by omega), r4 i hi], fun e => ?_⟩
    obtain ⟨l2, c2, f2, u1, u2, u4, u5, u6, u7, u8, u9, u10⟩ := t5 e
    refine ⟨l1 ++ l2, c1 ++ c2, fun fb => f1 fb || f2 fb, ?_, ?_, ?_, ?_, ?_, fun i hi => ?_, ?_, ?_, ?_, ?_⟩
    · rw [List.length_append]; omega
    · rw [List.length_append]; omega
    · rw [List.length_append]; omega
    · rw [u4, List.length_append]; congr 1; omega
    · rw [u5, List.length_append]; congr 1; omega
    · obtain ⟨v1, v2⟩ := u6 i (by omega)
      obtain ⟨v3, v4⟩ := s6 i hi
      exact ⟨v1.trans v3, v2.trans v4⟩
    · exact SL.app.mpr ⟨SL.same (fun i hi => u6 i hi) s7, u7⟩
    · exact CL.app.mpr ⟨CL.same (fun i hi => t4 i hi) s8, u8⟩
    · have e := XE_of (· || ·) s9 (show XR (· || ·) l2 f2 (2 + 2 * (4 - o) + 1) by rw [show 2 + 2 * (4 - o) + 1 = 3 + 2 * (4 - o) by omega]; exact u9)
      rw [show 2 + 2 * (4 - o) + 1 = 3 + 2 * (4 - o) by omega] at e
      exact e
    · exact CE_of (· || ·) s10 u10 s3
end PY
