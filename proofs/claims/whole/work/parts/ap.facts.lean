section PP
variable {L : Nat} {sg tt : Nat → Int32} {ch : Nat → Nat}
theorem parse_loop (h : TX L sg tt ch) {c cd0 : Nat} (hc : c < 6) (holds : Int32) (clauses : Nat → Int32) : ∀ (m i a len cd : Nat) (need num val dig op : Int32) (st nu word number begins length code : Nat → Int32) (F F8 : Nat), i + m = 10 → 0 < m → a ≤ L → len ≤ a → cd0 ≤ cd → cd + (L - a) ≤ 700 → m < F → m < F8 → PL c i len need st nu cd word number begins length code → ∃ ok a' num' st' nu' ln need' val' dig' word' number' begins' op' length' co' code' K cd' clauses' holds', f_X5_parse_30 (nI L) sg (f_X5_parse_11 (nI L) sg F) (nI i) (nI len) need (nI a) num st nu = some (bI ok, ln, need', nI a', num', st', nu') ∧ f_X8_parish_29 (nI L) (nI c) holds tt clauses F8 (nI cd0) (nI i) 1 0 (nI a) val dig word number begins op length (nI cd) code = some (if ok then nI c else (-10 : Int32) - nI a', nI a', val', dig', word', number', begins', op', length', co', code', 0, clauses', holds', nI (if ok then c + 1 else c)) ∧ (∀ j, j < 10 * c → word' j = word j ∧ number' j = number j ∧ begins' j = begins j ∧ length' j = length j) ∧ (∀ j, j < cd0 → code' j = code j) ∧ (ok = true → K ≤ 10 ∧ clauses' = upd clauses c (nI K) ∧ holds' = nI c ∧ co' = nI cd' ∧ cd0 ≤ cd' ∧ cd' ≤ cd + (L - a) ∧ ∃ len', ln = nI len' ∧ len' ≤ 100 ∧ PL c K len' need' st' nu' cd' word' number' begins' length' code') ∧ (ok = false → clauses' = clauses ∧ holds' = holds ∧ co' = nI cd0) := by
  have hL := h.1
  intro m
  induction m with
  | zero => intro i a len cd need num val dig op st nu word number begins length code F F8 h1 h2; omega
  | succ m ih =>
    intro i a len cd need num val dig op st nu word number begins length code F F8 him h0 ha hl hcd0 hcd hF hF8 hP
    obtain ⟨F, rfl⟩ : ∃ f, F = f + 1 := ⟨F - 1, by omega⟩
    obtain ⟨F8, rfl⟩ : ∃ f, F8 = f + 2 := ⟨F8 - 2, by omega⟩
    obtain ⟨ok1, a1, num1, st1, nu1, ln1, need1, val1, dig1, word1, number1, begins1, op1, length1, co1, code1, x1, y1, r1, r2, r3, r4, r5⟩ := cl_is h ha hl hcd hc (i := i) (by omega) num need val dig op hP
    have fin0 (x2 : Int32) (x3 : Int32) (hx3 : x3 = 0 ∨ x3 = 1) (at1 : Int32) (val1 dig1 : Int32) (word1 number1 begins1 : Nat → Int32) (op1 : Int32) (length1 : Nat → Int32) (co1 : Int32) (code1 : Nat → Int32) : f_X8_parish_29 (nI L) (nI c) holds tt clauses (F8 + 1) (nI cd0) x2 0 0 at1 val1 dig1 word1 number1 begins1 op1 length1 co1 code1 = some ((-10 : Int32) - at1, at1, val1, dig1, word1, number1, begins1, op1, length1, nI cd0, code1, 0, clauses, holds, nI c) := by
      show f_X8_parish_29_b (nI L) (nI c) holds tt clauses (f_X8_parish_29 (nI L) (nI c) holds tt clauses F8) (nI cd0) x2 0 0 at1 val1 dig1 word1 number1 begins1 op1 length1 co1 code1 = _
      unfold f_X8_parish_29_b f_X8_parish_123
      rw [if_pos rfl, if_pos rfl]
    generalize hE : f_X5_parse_30 (nI L) sg (f_X5_parse_11 (nI L) sg (F + 1)) (nI i) (nI len) need (nI a) num st nu = E
    generalize hR : f_X8_parish_29 (nI L) (nI c) holds tt clauses (F8 + 2) (nI cd0) (nI i) 1 0 (nI a) val dig word number begins op length (nI cd) code = R
    unfold f_X5_parse_30 at hE
    rw [x1, Option.bind_some] at hE
    change f_X8_parish_29_b (nI L) (nI c) holds tt clauses (f_X8_parish_29 (nI L) (nI c) holds tt clauses (F8 + 1)) (nI cd0) (nI i) 1 0 (nI a) val dig word number begins op length (nI cd) code = R at hR
    unfold f_X8_parish_29_b at hR
    rw [if_neg (by exact i_10), if_pos rfl, if_neg (by rw [show (10 : Int32) = nI 10 from rfl, n_le (by omega) (by omega)]; omega), e_10, y1, Option.bind_some] at hR
    dsimp only at hE hR
    have hold : ∀ j, j < 10 * c → word1 j = word j ∧ number1 j = number j ∧ begins1 j = begins j ∧ length1 j = length j := fun j hj => r3 j (by omega)
    cases ok1 with
    | false =>
      rw [if_pos (by rfl)] at hE hR
      unfold f_X8_parish_65 at hR
      rw [if_pos rfl, fin0 _ 0 (Or.inl rfl)] at hR
      exact ⟨false, a1, _, _, _, _, _, _, _, _, _, _, _, _, _, _, 0, 0, _, _, hE.symm, hR.symm, hold, fun j hj => r4 j (by omega), fun e => (Bool.false_ne_true e).elim, fun _ => ⟨rfl, rfl, rfl⟩⟩
    | true =>
      obtain ⟨len', cd', rfl, rfl, t1, t2, t3, t4⟩ := r5 rfl
      rw [if_neg (by exact i_10)] at hE hR
      unfold f_X8_parish_65 at hR
      rw [if_neg (by exact i_10), n_s] at hR
      by_cases heq : a1 = L
      · subst heq
        rw [if_pos rfl] at hE hR
        unfold f_X8_parish_92 at hR
        rw [if_neg (by exact i_10)] at hR
        change f_X8_parish_29_b (nI a1) (nI c) holds tt clauses (f_X8_parish_29 (nI a1) (nI c) holds tt clauses F8) (nI cd0) (nI (i + 1)) 1 1 (nI a1) val1 dig1 word1 number1 begins1 op1 length1 (nI cd') code1 = R at hR
        unfold f_X8_parish_29_b f_X8_parish_123 at hR
        rw [if_neg (by exact i_10), if_neg (by exact i_10), if_neg (by exact i_10), n_gd hc (by omega), n_cl (by omega), n_s] at hR
        exact ⟨true, a1, _, _, _, _, _, _, _, _, _, _, _, _, _, _, i + 1, cd', _, _, hE.symm, hR.symm, hold, fun j hj => r4 j (by omega), fun _ => ⟨by omega, rfl, rfl, rfl, by omega, by omega, len', rfl, by omega, t4⟩, fun e => (Bool.false_ne_true e.symm).elim⟩
      · have hne : ¬ nI a1 = nI L := by rw [n_eq (by omega) (by omega)]; exact heq
        rw [if_neg hne] at hE hR
        unfold f_X8_parish_92 at hR
        rw [if_pos rfl] at hR
        rw [n_s] at hE
        change f_X5_parse_11_b (nI L) sg (f_X5_parse_11 (nI L) sg F) (nI (i + 1)) (nI len') need1 (nI a1) num1 st1 nu1 = E at hE
        unfold f_X5_parse_11_b at hE
        by_cases h10 : i + 1 = 10
        · have h10' : (10 : Int32) ≤ nI (i + 1) := by rw [h10]; decide
          rw [if_pos h10'] at hE hR
          rw [fin0 _ 0 (Or.inl rfl)] at hR
          exact ⟨false, a1, _, _, _, _, _, _, _, _, _, _, _, _, _, _, 0, 0, _, _, hE.symm, hR.symm, hold, fun j hj => r4 j (by omega), fun e => (Bool.false_ne_true e).elim, fun _ => ⟨rfl, rfl, rfl⟩⟩
        · have h10' : ¬ (10 : Int32) ≤ nI (i + 1) := by rw [show (10 : Int32) = nI 10 from rfl, n_le (by omega) (by omega)]; omega
          have hi0 : ¬ nI (i + 1) ≤ (0 : Int32) := le_nay (c := 0) (by show (0 : Int) < ((i + 1 : Nat) : Int); omega) (by omega)
          rw [if_neg h10', if_neg hi0, show f_X5_take (nI L) (nI a1) sg (59 : Int32) = _ from take_is h r2 (c := 59) (by omega), Option.bind_some] at hE
          rw [if_neg h10', show f_X8_is (nI L) (nI a1) tt (59 : Int32) = _ from is_is h r2 (c := 59) (by omega) (by omega), Option.bind_some] at hR
          by_cases h59 : nx L ch a1 = 59
          · have hal : a1 < L := by omega
            rw [if_pos h59, if_neg (by exact i_10)] at hE hR
            dsimp only at hE hR
            obtain ⟨ok, a', num', st', nu', ln, need', val', dig', word', number', begins', op', length', co', code', K, cd2, clauses', holds', u1, u2, u3, u4, u5, u6⟩ := ih (i + 1) (a1 + 1) len' cd' need1 num1 val1 dig1 op1 st1 nu1 word1 number1 begins1 length1 code1 F (F8 + 1) (by omega) (by omega) (by omega) (by omega) (by omega) (by omega) (by omega) (by omega) t4
            rw [u1] at hE
            rw [u2] at hR
            refine ⟨ok, a', num', st', nu', ln, need', val', dig', word', number', begins', op', length', co', code', K, cd2, clauses', holds', hE.symm, hR.symm, fun j hj => ?_, fun j hj => (u4 j hj).trans (r4 j (by omega)), fun e => ?_, u6⟩
            · obtain ⟨b1, b2, b3, b4⟩ := u3 j hj
              obtain ⟨d1, d2, d3, d4⟩ := hold j hj
              exact ⟨b1.trans d1, b2.trans d2, b3.trans d3, b4.trans d4⟩
            · obtain ⟨v1, v2, v3, v4, v5, v6, v7⟩ := u5 e
              exact ⟨v1, v2, v3, v4, v5, by omega, v7⟩
          · rw [if_neg h59, if_pos (by rfl)] at hE hR
            rw [fin0 _ 0 (Or.inl rfl)] at hR
            exact ⟨false, a1, _, _, _, _, _, _, _, _, _, _, _, _, _, _, 0, 0, _, _, hE.symm, hR.symm, hold, fun j hj => r4 j (by omega), fun e => (Bool.false_ne_true e).elim, fun _ => ⟨rfl, rfl, rfl⟩⟩
end PP
