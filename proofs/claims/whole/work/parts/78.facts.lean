theorem judge_loop {n z j t s : Nat} {de : Int32} {de' : Nat → Int32} {it : Nat → Int64} {ta sa : Nat → Int32} {io : Nat → Int64} (hn : n ≤ 6) (hj : j < z) (hz : z ≤ 60) (ht : t < 6) (hd : BR n de de') (hi : ∀ i, i < 60 → it i = io (60 * t + i)) (ha : sa t = nI z) (hs : ta t = nI s) (hs4 : s ≤ 4) : ∀ (m x F : Nat), x + m = n → m < F → ∃ r, f_X7_judge_62 (nI z) (nI n) de it (nI j) F (nI x) = some r ∧ f_X8_judge_36 (nI n) ta sa io de' (nI t) (nI j) F (nI x) = some r := by
  intro m
  induction m with
  | zero =>
    intro x F hx hF
    obtain ⟨F, rfl⟩ : ∃ f, F = f + 1 := ⟨F - 1, by omega⟩
    refine ⟨-5, ?_, ?_⟩
    · show f_X7_judge_62_b _ _ _ _ _ _ (nI x) = _
      unfold f_X7_judge_62_b
      rw [if_pos (by rw [n_le (by omega) (by omega)]; omega)]
    · show f_X8_judge_36_b _ _ _ _ _ _ _ _ (nI x) = _
      unfold f_X8_judge_36_b
      rw [if_pos (by rw [n_le (by omega) (by omega)]; omega)]
  | succ m ih =>
    intro x F hx hF
    obtain ⟨F, rfl⟩ : ∃ f, F = f + 1 := ⟨F - 1, by omega⟩
    obtain ⟨r, h1, h2⟩ := ih (x + 1) F (by omega) (by omega)
    have e2 : f_X8_judge_36 (nI n) ta sa io de' (nI t) (nI j) (F + 1) (nI x) = if j + x < z then (if (lg_cmp (io (60 * t + j + x)) (de' x).toInt64) = 0 then some r else some (nI x)) else some ((100 : Int32) + nI x) := by
      show f_X8_judge_36_b _ _ _ _ _ _ _ _ (nI x) = _
      unfold f_X8_judge_36_b
      rw [if_neg (by rw [n_le (by omega) (by omega)]; omega), n_gd ht (by omega), n_cl (by omega), hs, if_neg (nI_m1 (by omega)), if_neg (n_not_neg (by omega)), n_gd ht (by omega), ha]
      by_cases h : j + x < z
      · rw [if_pos (by rw [lg_cmp_lt, l_lt, w_sum _ _ (by rw [n_toInt (by omega)]; omega) (by rw [n_toInt (by omega)]; omega), Int32.toInt_toInt64, n_toInt (by omega), n_toInt (by omega), n_toInt (by omega)]; omega), if_pos h, n_604, n_gd (by omega) (by omega), n_gd (by omega) (by omega), n_cl (by omega), n_cl (by omega), n_s, h2]
      · rw [if_neg (by rw [lg_cmp_lt, l_lt, w_sum _ _ (by rw [n_toInt (by omega)]; omega) (by rw [n_toInt (by omega)]; omega), Int32.toInt_toInt64, n_toInt (by omega), n_toInt (by omega), n_toInt (by omega)]; omega), if_neg h]
    have e1 : f_X7_judge_62 (nI z) (nI n) de it (nI j) (F + 1) (nI x) = if j + x < z then (if (lg_cmp (io (60 * t + j + x)) (de' x).toInt64) = 0 then some r else some (nI x)) else some ((100 : Int32) + nI x) := by
      show f_X7_judge_62_b _ _ _ _ _ _ (nI x) = _
      unfold f_X7_judge_62_b
      rw [if_neg (by rw [n_le (by omega) (by omega)]; omega), nI_add]
      by_cases h : j + x < z
      · rw [has4_yes h hz, Option.bind_some, if_neg i_10, if_pos h, n_gd (by omega) (by omega), hd.at (by omega) hn, Option.bind_some, n_cl (by omega), hi _ (by omega), n_s, h1, Nat.add_assoc]
      · rw [has4_no (by rw [n_toInt (by omega)]; omega) hz, Option.bind_some, if_pos rfl, if_neg h]
    rw [e1, e2]
    split
    · split
      · exact ⟨_, rfl, rfl⟩
      · exact ⟨_, rfl, rfl⟩
    · exact ⟨_, rfl, rfl⟩
theorem F_judge (G : Gx) (l : Launch) (A : Lx) : Fact_judge G l A (Inv A.2.2.1) := by
  intro S T hI p1 p2
  obtain ⟨σ, φ, τ, nh, kh, ah⟩ := S
  obtain ⟨μ, α, ι⟩ := T
  have hI2 := hI
  obtain ⟨n, d, cnt, w, nd, hV, hl, hT, hH, hK, hX, hP, hA, hTp⟩ := hI
  have key : ∃ t r, t < 6 ∧ k_t6 p1.toNatClampNeg = t ∧ f_X7_judge (σ (53 + 2 * t)) (σ (54 + 2 * t)) (σ 2) (σ 4) (τ t) p1 p2 = some r ∧ f_X8_judge (μ 0) (α 45) (α 46) ι (α 3) p1 p2 = some r := by
    obtain ⟨⟨hn, hd, e2, e3, m0, m8⟩, -, -, -, -, hB, -⟩ := hV
    rcases n_cases p1 6 (by omega) with ⟨t, ht, rfl⟩ | hp
    · obtain ⟨g1, g2, g3, ⟨z, hz, g4⟩, g5⟩ := hTp t ht
      refine ⟨t, ?_⟩
      have goal : ∃ r, f_X7_judge (σ (53 + 2 * t)) (σ (54 + 2 * t)) (σ 2) (σ 4) (τ t) (nI t) p2 = some r ∧ f_X8_judge (μ 0) (α 45) (α 46) ι (α 3) (nI t) p2 = some r := by
        unfold f_X7_judge f_X8_judge
        rw [isT7_yes ht, Option.bind_some, if_neg i_10, wi_yes (c := 5) (by show (t : Int) ≤ 5; omega) (by omega), Option.bind_some, if_neg i_10, g1, g2, e2, m0]
        simp only [n_gd ht (by omega : 6 < 2 ^ 31), n_cl (show t < 2 ^ 31 by omega)]
        have main : (α 45 t = -1 ∨ α 45 t = nI 4) → ∃ r, f_X7_judge_35 (α 46 t) (nI n) (σ 4) (τ t) p2 = some r ∧ f_X8_judge_36 (nI n) (α 45) (α 46) ι (α 3) (nI t) p2 1000 0 = some r := by
          intro hso
          unfold f_X7_judge_35
          by_cases h0 : n = 0
          · subst h0
            rw [if_pos (show nI 0 = (0 : Int32) from rfl)]
            refine ⟨-5, rfl, ?_⟩
            show f_X8_judge_36_b _ _ _ _ _ _ _ _ (nI 0) = _
            unfold f_X8_judge_36_b
            rw [if_pos (by rw [n_le (by omega) (by omega)]; omega)]
          · rw [if_neg (eq_nay (c := 0) (by show (n : Int) ≠ 0; omega) (by omega)), g4]
            have no : (p2.toInt < 0 ∨ (z : Int) ≤ p2.toInt) → ∃ r, ((f_X4_has (nI z) p2).bind fun q1 => if q1 = 0 then some (100 : Int32) else f_X7_judge_62 (nI z) (nI n) (σ 4) (τ t) p2 1000 (0 : Int32)) = some r ∧ f_X8_judge_36 (nI n) (α 45) (α 46) ι (α 3) (nI t) p2 1000 0 = some r := by
              intro h
              rw [has4_no h hz, Option.bind_some, if_pos rfl]
              refine ⟨100, rfl, ?_⟩
              show f_X8_judge_36_b _ _ _ _ _ _ _ _ (nI 0) = _
              unfold f_X8_judge_36_b
              rw [if_neg (by rw [n_le (by omega) (by omega)]; omega), n_gd ht (by omega), n_cl (show t < 2 ^ 31 by omega)]
              split
              · rfl
              · split
                · rfl
                · rename_i h1
                  rw [n_ltT, i_t0] at h1
                  rw [n_gd ht (by omega), g4, if_neg (by rw [lg_cmp_lt, l_lt, w_sum _ _ (by omega) (by rw [n_toInt (by omega)]; omega), Int32.toInt_toInt64, n_toInt (by omega), n_toInt (by omega)]; omega)]
                  rfl
            rcases n_cases p2 z (by omega) with ⟨j, hj, rfl⟩ | hj
            · rcases g3 with ⟨g6, g7⟩ | ⟨s, hs, g6⟩
              · have : nI z = nI 0 := g4.symm.trans g7
                rw [n_eq (by omega) (by omega)] at this
                omega
              · rw [has4_yes hj hz, Option.bind_some, if_neg i_10]
                exact judge_loop hn hj hz ht hB g5 g4 g6 hs n 0 1000 (by omega) (by omega)
            · exact no hj
        have e4 : (4 : Int32) = nI 4 := rfl
        rcases g3 with ⟨g6, g7⟩ | ⟨s, hs, g6⟩
        · rw [g6, if_neg (by decide : ¬ (-1 : Int32) = 4), if_pos rfl, if_pos rfl]
          exact main (Or.inl g6)
        · by_cases h4 : s = 4
          · subst h4
            rw [g6, if_pos (show nI 4 = (4 : Int32) from rfl), if_neg (nI_m1 (by omega)), if_pos (show nI 4 = (4 : Int32) from rfl)]
            exact main (Or.inr g6)
          · rw [g6, if_neg (eq_nay (c := 4) (by show (s : Int) ≠ 4; omega) (by omega)), if_neg (nI_m1 (by omega)), if_neg (nI_m1 (by omega)), if_neg (eq_nay (c := 4) (by show (s : Int) ≠ 4; omega) (by omega))]
            exact ⟨_, rfl, rfl⟩
      obtain ⟨r, h1, h2⟩ := goal
      exact ⟨r, ht, k_t6_of ht, h1, h2⟩
    · refine ⟨k_t6 p1.toNatClampNeg, -1, k_t6_lt _, rfl, ?_, ?_⟩
      · unfold f_X7_judge
        rw [isT7_no hp, Option.bind_some, if_pos rfl]
      · unfold f_X8_judge
        rw [within_no (by show p1.toInt < 0 ∨ (5 : Int) < p1.toInt; omega), Option.bind_some, if_pos rfl]
  obtain ⟨t, r, ht, hk, hx, hm⟩ := key
  exact ⟨r, (σ, φ, τ, nh, kh, ah), (μ, α, ι), LX_judge _ _ _ _ _ _ _ _ _ _ _ _ _ _ _ t ht hk hx, L_M_judge _ _ _ _ _ _ _ _ _ _ hm, hI2⟩
