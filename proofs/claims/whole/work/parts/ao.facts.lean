/-- what a clause came to, of both sides -/
def CO (L a c i cd : Nat) (ok : Bool) (a' : Nat) (st' nu' : Nat → Int32) (ln need' : Int32) (word number begins length code word' number' begins' length' : Nat → Int32) (co' : Int32) (code' : Nat → Int32) : Prop :=
  a ≤ a' ∧ a' ≤ L ∧ (∀ j, j ≠ 10 * c + i → word' j = word j ∧ number' j = number j ∧ begins' j = begins j ∧ length' j = length j) ∧ (∀ j, j < cd → code' j = code j) ∧ (ok = true → ∃ len' cd', ln = nI len' ∧ co' = nI cd' ∧ len' ≤ a' ∧ cd ≤ cd' ∧ cd' + a ≤ cd + a' ∧ PL c (i + 1) len' need' st' nu' cd' word' number' begins' length' code')
section PC2
variable {L : Nat} {sg tt : Nat → Int32} {ch : Nat → Nat}
theorem cl_rest (h : TX L sg tt ch) {a len cd c i k : Nat} (ha : a ≤ L) (hl : len ≤ a) (hcd : cd + (L - a) ≤ 700) (hc : c < 6) (hi : i < 10) (hk : k < 3) {xc : Int32} (hx : (k = 0 ∧ xc = 115) ∨ (k = 1 ∧ xc = 98) ∨ (k = 2 ∧ xc = 110)) (num need val dig op : Int32) {st nu word number begins length code : Nat → Int32} (hP : PL c i len need st nu cd word number begins length code) : ∃ ok a' num' st' nu' ln need' val' dig' word' number' begins' op' length' co' code', f_X5_clause_29 (nI L) (nI a) num (nI len) need sg st nu k xc = some (bI ok, nI a', num', st', nu', ln, need') ∧ ((f_X8_isAll (nI L) (nI a) tt k).bind fun q => f_X8_isClause_115 (nI L) val dig op (nI cd) tt word number begins length code (nI (10 * c + i)) q.1 (nI k) q.2) = some (bI ok, nI a', val', dig', word', number', begins', op', length', co', code') ∧ CO L a c i cd ok a' st' nu' ln need' word number begins length code word' number' begins' length' co' code' := by
  have hL := h.1
  obtain ⟨okw, a1, w1, w2, w3, w4⟩ := word_is h hk ha
  generalize hE : f_X5_clause_29 (nI L) (nI a) num (nI len) need sg st nu k xc = E
  generalize hR : ((f_X8_isAll (nI L) (nI a) tt k).bind fun q => f_X8_isClause_115 (nI L) val dig op (nI cd) tt word number begins length code (nI (10 * c + i)) q.1 (nI k) q.2) = R
  unfold f_X5_clause_29 at hE
  rw [w3, Option.bind_some] at hE
  rw [w4, Option.bind_some] at hR
  unfold f_X8_isClause_115 at hR
  dsimp only at hE hR
  cases okw with
  | false =>
    rw [if_pos (by rfl)] at hE hR
    exact ⟨false, a1, _, _, _, _, _, _, _, _, _, _, _, _, _, _, hE.symm, hR.symm, w1, w2, fun _ _ => ⟨rfl, rfl, rfl, rfl⟩, fun _ _ => rfl, fun e => (Bool.false_ne_true e).elim⟩
  | true =>
    obtain ⟨okn, v, a2, g, g1, g2, g3, g4, g5, g6⟩ := num_is h w2
    rw [if_neg (by exact i_10), g5, Option.bind_some] at hE
    rw [if_neg (by exact i_10), g6, Option.bind_some] at hR
    dsimp only at hE hR
    cases okn with
    | false =>
      rw [if_pos (by rfl)] at hE hR
      exact ⟨false, a2, _, _, _, _, _, _, _, _, _, _, _, _, _, _, hE.symm, hR.symm, by omega, g3, fun _ _ => ⟨rfl, rfl, rfl, rfl⟩, fun _ _ => rfl, fun e => (Bool.false_ne_true e).elim⟩
    | true =>
      have g4 := g4 rfl
      rw [if_neg (by exact i_10)] at hE hR
      simp only [n_gd (show 10 * c + i < 61 by omega) (by omega : 61 < 2 ^ 31), n_cl (show 10 * c + i < 2 ^ 31 by omega)] at hR
      by_cases k2 : k = 2
      · subst k2
        obtain rfl : xc = 110 := by
          rcases hx with ⟨e, -⟩ | ⟨e, -⟩ | ⟨-, e⟩
          · omega
          · omega
          · exact e
        rw [if_pos rfl] at hE
        rw [if_pos (by decide)] at hR
        obtain ⟨l, W, p1, p2, p3, p4⟩ := hP
        exact ⟨true, a2, _, _, _, _, _, _, _, _, _, _, _, _, _, _, hE.symm, hR.symm, by omega, g3, fun j hj => ⟨upd_ne hj, upd_ne hj, upd_ne hj, upd_ne hj⟩, fun _ _ => rfl, fun _ => ⟨len, cd, rfl, rfl, by omega, Nat.le_refl cd, by omega, l, W, p1, p2, p3, p4.need hc upd_at upd_at (fun j hj => ⟨upd_ne hj, upd_ne hj, upd_ne hj, upd_ne hj⟩)⟩⟩
      · have hk2 : ¬ (2 : Int32) ≤ nI k := by
          have h : k = 0 ∨ k = 1 := by omega
          rcases h with rfl | rfl <;> decide
        have hxc : ¬ xc = (110 : Int32) := by
          rcases hx with ⟨-, rfl⟩ | ⟨-, rfl⟩ | ⟨e, -⟩
          · decide
          · decide
          · omega
        rw [if_neg hxc, show f_X5_take (nI L) (nI a2) sg (32 : Int32) = _ from take_is h g3 (c := 32) (by omega), Option.bind_some] at hE
        rw [if_neg hk2, show f_X8_is (nI L) (nI a2) tt (32 : Int32) = _ from is_is h g3 (c := 32) (by omega) (by omega), Option.bind_some] at hR
        by_cases h32 : nx L ch a2 = 32
        · have hal : a2 < L := by
            apply Decidable.byContradiction
            intro e
            have : nx L ch a2 = 0 := if_neg e
            omega
          rw [if_pos h32, if_neg (by exact i_10)] at hE hR
          dsimp only at hE hR
          obtain ⟨ok1, a3, num1, st1, nu1, ln1, val1, dig1, co1, code1, x1, y1, r1, r2, r3, r4, r5⟩ := (all_is h (L - (a2 + 1) + 1) 0 (a2 + 1) (by omega) (by omega)).2.2 len cd (nI v) (nI v) g st nu code 60 400 (by omega) (by omega) (by omega) (by omega) (by omega)
          rw [show f_X5_either 60 (nI L) (nI (a2 + 1)) (nI v) (nI len) sg st nu (0 : Int32) = _ from x1, Option.bind_some] at hE
          rw [show f_X8_isE 400 (nI L) (nI (a2 + 1)) (nI v) g (0 : Int32) (nI cd) tt code = _ from y1, Option.bind_some] at hR
          dsimp only at hE hR
          cases ok1 with
          | false =>
            rw [if_pos (by rfl)] at hE hR
            exact ⟨false, a3, _, _, _, _, _, _, _, _, _, _, _, _, _, _, hE.symm, hR.symm, by omega, r2, fun j hj => ⟨upd_ne hj, upd_ne hj, upd_ne hj, rfl⟩, r4, fun e => (Bool.false_ne_true e).elim⟩
          | true =>
            obtain ⟨l1, c1, f1, s1, s2, s3, s4, s5, s6, s7, s8, s9, s10⟩ := r5 rfl
            subst s4
            subst s5
            obtain ⟨l, W, p1, p2, p3, p4⟩ := hP
            subst p1
            have hm : E = some ((1 : Int32), nI a3, num1, upd st1 (l.length + l1.length) (-4), upd nu1 (l.length + l1.length) (if k = 0 then nI v else -nI v), nI (l.length + l1.length + 1), need) := by
              rw [← hE, if_neg (by exact i_10)]
              rcases hx with ⟨rfl, rfl⟩ | ⟨rfl, rfl⟩ | ⟨e, -⟩
              · rw [if_pos rfl, put_is (by omega), Option.bind_some, if_pos rfl]
              · rw [if_neg (by decide), put_is (by omega), Option.bind_some, if_neg (by decide)]
              · exact (k2 e).elim
            rw [if_neg (by exact i_10)] at hR
            refine ⟨true, a3, _, _, _, _, _, _, _, _, _, _, _, _, _, _, hm, hR.symm, by omega, r2, fun j hj => ⟨upd_ne hj, upd_ne hj, upd_ne hj, upd_ne hj⟩, r4, fun _ => ⟨l.length + l1.length + 1, cd + c1.length, rfl, rfl, by omega, by omega, by omega, l ++ (l1 ++ [(-4, if k = 0 then nI v else -nI v)]), _, ?_, ?_, p3.add s9, ?_⟩⟩
            · rw [List.length_append, List.length_append]; show l.length + (l1.length + 1) = l.length + l1.length + 1; omega
            · have e0 : SL st1 nu1 0 l := SL.same (fun j hj => s6 j (by omega)) p2
              refine SL.app.mpr ⟨SL.same (fun j hj => ⟨upd_ne (by omega), upd_ne (by omega)⟩) e0, ?_⟩
              rw [Nat.zero_add]
              exact SL.app.mpr ⟨SL.same (fun j hj => ⟨upd_ne (by omega), upd_ne (by omega)⟩) s7, upd_at, upd_at, trivial⟩
            · refine p4.add hc s10 s8 (by omega) (by omega) (show k < 2 by omega) upd_at upd_at upd_at ?_ (fun j hj => ⟨upd_ne hj, upd_ne hj, upd_ne hj, upd_ne hj⟩) r4
              rw [upd_at, upd_at, pk_sub (by omega)]
              congr 1
              omega
        · rw [if_neg h32, if_pos (by rfl)] at hE hR
          exact ⟨false, a2, _, _, _, _, _, _, _, _, _, _, _, _, _, _, hE.symm, hR.symm, by omega, g3, fun j hj => ⟨upd_ne hj, upd_ne hj, upd_ne hj, rfl⟩, fun _ _ => rfl, fun e => (Bool.false_ne_true e).elim⟩
theorem cl_is (h : TX L sg tt ch) {a len cd c i : Nat} (ha : a ≤ L) (hl : len ≤ a) (hcd : cd + (L - a) ≤ 700) (hc : c < 6) (hi : i < 10) (num need val dig op : Int32) {st nu word number begins length code : Nat → Int32} (hP : PL c i len need st nu cd word number begins length code) : ∃ ok a' num' st' nu' ln need' val' dig' word' number' begins' op' length' co' code', f_X5_clause (nI L) (nI a) num (nI len) need sg st nu = some (bI ok, nI a', num', st', nu', ln, need') ∧ f_X8_isClause (nI L) (nI a) val dig op (nI cd) tt word number begins length code (nI (10 * c + i)) = some (bI ok, nI a', val', dig', word', number', begins', op', length', co', code') ∧ CO L a c i cd ok a' st' nu' ln need' word number begins length code word' number' begins' length' co' code' := by
  have hL := h.1
  have hx := nx_le h a
  have r69 : f_X8_isClause (nI L) (nI a) val dig op (nI cd) tt word number begins length code (nI (10 * c + i)) = f_X8_isClause_69 (nI L) (nI a) val dig op (nI cd) tt word number begins length code (nI (10 * c + i)) (if nx L ch a = 115 then 0 else if nx L ch a = 98 then 1 else if nx L ch a = 110 then 2 else -1) := by
    unfold f_X8_isClause
    by_cases hal : a < L
    · obtain ⟨-, h2, h3⟩ := h.2 a hal
      have e (m : Nat) (hm : m ≤ 127) : (nI (ch a) = nI m) = (ch a = m) := n_eq (by omega) (by omega)
      rw [if_neg (by rw [n_le (by omega) (by omega)]; omega), n_gd (by omega) (by omega), n_gd (by omega) (by omega), n_gd (by omega) (by omega), n_cl (by omega), h2, show nx L ch a = ch a from if_pos hal]
      have y115 (x : ch a = 115) : nI (ch a) = (115 : Int32) := by rw [x]; rfl
      have z115 (x : ¬ ch a = 115) : ¬ nI (ch a) = (115 : Int32) := by rw [show (nI (ch a) = (115 : Int32)) = (ch a = 115) from e 115 (by omega)]; exact x
      have y98 (x : ch a = 98) : nI (ch a) = (98 : Int32) := by rw [x]; rfl
      have z98 (x : ¬ ch a = 98) : ¬ nI (ch a) = (98 : Int32) := by rw [show (nI (ch a) = (98 : Int32)) = (ch a = 98) from e 98 (by omega)]; exact x
      have y110 (x : ch a = 110) : nI (ch a) = (110 : Int32) := by rw [x]; rfl
      have z110 (x : ¬ ch a = 110) : ¬ nI (ch a) = (110 : Int32) := by rw [show (nI (ch a) = (110 : Int32)) = (ch a = 110) from e 110 (by omega)]; exact x
      by_cases e1 : ch a = 115
      · rw [if_pos (y115 e1), if_pos e1]
      · rw [if_neg (z115 e1), if_neg e1]
        by_cases e2 : ch a = 98
        · rw [if_pos (y98 e2), if_pos e2]
        · rw [if_neg (z98 e2), if_neg e2]
          by_cases e3 : ch a = 110
          · rw [if_pos (y110 e3), if_pos e3]
          · rw [if_neg (z110 e3), if_neg e3]
    · rw [if_pos (by rw [n_le (by omega) (by omega)]; omega), show nx L ch a = 0 from if_neg hal]
      rfl
  rw [r69]
  unfold f_X5_clause
  rw [next_is h ha, Option.bind_some]
  have e (m : Nat) (hm : m ≤ 127) : (nI (nx L ch a) = nI m) = (nx L ch a = m) := n_eq (by omega) (by omega)
  have y115 (x : nx L ch a = 115) : nI (nx L ch a) = (115 : Int32) := by rw [x]; rfl
  have z115 (x : ¬ nx L ch a = 115) : ¬ nI (nx L ch a) = (115 : Int32) := by rw [show (nI (nx L ch a) = (115 : Int32)) = (nx L ch a = 115) from e 115 (by omega)]; exact x
  have y98 (x : nx L ch a = 98) : nI (nx L ch a) = (98 : Int32) := by rw [x]; rfl
  have z98 (x : ¬ nx L ch a = 98) : ¬ nI (nx L ch a) = (98 : Int32) := by rw [show (nI (nx L ch a) = (98 : Int32)) = (nx L ch a = 98) from e 98 (by omega)]; exact x
  have y110 (x : nx L ch a = 110) : nI (nx L ch a) = (110 : Int32) := by rw [x]; rfl
  have z110 (x : ¬ nx L ch a = 110) : ¬ nI (nx L ch a) = (110 : Int32) := by rw [show (nI (nx L ch a) = (110 : Int32)) = (nx L ch a = 110) from e 110 (by omega)]; exact x
  by_cases e1 : nx L ch a = 115
  · rw [if_pos (y115 e1), if_pos e1, e1]
    unfold f_X8_isClause_69
    rw [if_pos rfl]
    exact cl_rest h ha hl hcd hc hi (k := 0) (by omega) (Or.inl ⟨rfl, rfl⟩) num need val dig op hP
  · rw [if_neg (z115 e1), if_neg e1]
    by_cases e2 : nx L ch a = 98
    · rw [if_pos (y98 e2), if_pos e2, e2]
      unfold f_X8_isClause_69
      rw [if_neg (by decide), if_pos rfl]
      exact cl_rest h ha hl hcd hc hi (k := 1) (by omega) (Or.inr (Or.inl ⟨rfl, rfl⟩)) num need val dig op hP
    · rw [if_neg (z98 e2), if_neg e2]
      by_cases e3 : nx L ch a = 110
      · rw [if_pos e3, e3]
        unfold f_X8_isClause_69
        rw [if_neg (by decide), if_neg (by decide), if_pos rfl]
        obtain ⟨okw, a1, w1, w2, w3, w4⟩ := word_is h (k := 2) (by omega) ha
        have := cl_rest h ha hl hcd hc hi (k := 2) (by omega) (Or.inr (Or.inr ⟨rfl, rfl⟩)) num need val dig op hP
        rw [w4, Option.bind_some] at this ⊢
        cases okw with
        | false => rw [if_pos (by rfl)]; exact this
        | true => rw [if_neg (by exact i_10)]; exact this
      · rw [if_neg e3]
        unfold f_X8_isClause_69 f_X5_clause_29
        rw [if_neg (by decide), if_neg (by decide), if_neg (by decide), word_no h ha e3, Option.bind_some, if_pos (by rfl)]
        unfold f_X8_isClause_115
        rw [if_pos rfl]
        exact ⟨false, a, _, _, _, _, _, _, _, _, _, _, _, _, _, _, rfl, rfl, Nat.le_refl a, ha, fun _ _ => ⟨rfl, rfl, rfl, rfl⟩, fun _ _ => rfl, fun e => (Bool.false_ne_true e).elim⟩
end PC2
