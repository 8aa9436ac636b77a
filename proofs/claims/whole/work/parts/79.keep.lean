theorem kp_2 (v_people : Int32) (v_day : Int32) (v_holds : Int32) (v_seen : Int32) (v_inPlan : Int32) (v_inBook : Int32) (v_kind : Nat → Int32) (v_v : Nat → Int32) (v_dead : Nat → Int32) (v_buried : Nat → Int32) (v_thrown : Nat → Int32) (v_rows : Nat → Int32) (v_hate : Nat → Int32) (v_seenBy : Nat → Int32) (v_seenOf : Nat → Int32) (v_seenIn : Nat → Int32) (v_seenSo : Nat → Int32) (v_goes : Nat → Int32) (v_whose : Nat → Int32) (v_bookBy : Nat → Int32) (v_bookOf : Nat → Int32) (v_bookHate : Nat → Int32) : ∀ (m k F : Nat) (w_p1 : Nat → Int32), k + m = 6 → m < F → ∃ (w2 : Nat → Int32), f_X8_keep_2 v_people v_day v_holds v_seen v_inPlan v_inBook v_kind v_v v_dead v_buried v_thrown v_rows v_hate v_seenBy v_seenOf v_seenIn v_seenSo v_goes v_whose v_bookBy v_bookOf v_bookHate F (nI k) w_p1 = (f_X8_keep_73 v_people v_day v_holds v_seen v_inPlan v_inBook v_rows v_hate v_seenBy v_seenOf v_seenIn v_seenSo v_goes v_whose v_bookBy v_bookOf v_bookHate 1000 (0 : Int32) w2) ∧ (∀ j, (j < 0 ∨ 30 ≤ j) → w2 j = w_p1 j) ∧ (∀ i, i < k → w2 i = w_p1 i) ∧ (∀ i, k ≤ i → i < 6 → w2 i = v_kind i) ∧ (∀ i, i < k → w2 (6 + i) = w_p1 (6 + i)) ∧ (∀ i, k ≤ i → i < 6 → w2 (6 + i) = v_v i) ∧ (∀ i, i < k → w2 (12 + i) = w_p1 (12 + i)) ∧ (∀ i, k ≤ i → i < 6 → w2 (12 + i) = v_dead i) ∧ (∀ i, i < k → w2 (18 + i) = w_p1 (18 + i)) ∧ (∀ i, k ≤ i → i < 6 → w2 (18 + i) = v_buried i) ∧ (∀ i, i < k → w2 (24 + i) = w_p1 (24 + i)) ∧ (∀ i, k ≤ i → i < 6 → w2 (24 + i) = v_thrown i) := by
  intro m
  induction m with
  | zero =>
    intro k F w_p1 hk hF
    obtain ⟨F, rfl⟩ : ∃ f, F = f + 1 := ⟨F - 1, by omega⟩
    refine ⟨w_p1, ?_, fun _ _ => rfl, fun _ _ => rfl, fun i _ _ => by omega, fun _ _ => rfl, fun i _ _ => by omega, fun _ _ => rfl, fun i _ _ => by omega, fun _ _ => rfl, fun i _ _ => by omega, fun _ _ => rfl, fun i _ _ => by omega⟩
    show f_X8_keep_2_b v_people v_day v_holds v_seen v_inPlan v_inBook v_kind v_v v_dead v_buried v_thrown v_rows v_hate v_seenBy v_seenOf v_seenIn v_seenSo v_goes v_whose v_bookBy v_bookOf v_bookHate _ (nI k) w_p1 = _
    unfold f_X8_keep_2_b
    rw [if_pos (by rw [n_leT, n_toInt (by omega)]; show (6 : Int) ≤ k; omega)]
  | succ m ih =>
    intro k F w_p1 hk hF
    obtain ⟨F, rfl⟩ : ∃ f, F = f + 1 := ⟨F - 1, by omega⟩
    obtain ⟨w2, h0, h1, a0, b0, a1, b1, a2, b2, a3, b3, a4, b4⟩ := ih (k + 1) F (upd (upd (upd (upd (upd w_p1 k (v_kind k)) (6 + k) (v_v k)) (12 + k) (v_dead k)) (18 + k) (v_buried k)) (24 + k) (v_thrown k)) (by omega) (by omega)
    refine ⟨w2, ?_, fun j hj => ?_, fun i hi => ?_, fun i hi hi2 => ?_, fun i hi => ?_, fun i hi hi2 => ?_, fun i hi => ?_, fun i hi hi2 => ?_, fun i hi => ?_, fun i hi hi2 => ?_, fun i hi => ?_, fun i hi hi2 => ?_⟩
    · show f_X8_keep_2_b v_people v_day v_holds v_seen v_inPlan v_inBook v_kind v_v v_dead v_buried v_thrown v_rows v_hate v_seenBy v_seenOf v_seenIn v_seenSo v_goes v_whose v_bookBy v_bookOf v_bookHate _ (nI k) w_p1 = _
      unfold f_X8_keep_2_b
      rw [if_neg (by rw [n_leT, n_toInt (by omega)]; show ¬ (6 : Int) ≤ k; omega), show (6 : Int32) = nI 6 from rfl, show (12 : Int32) = nI 12 from rfl, show (18 : Int32) = nI 18 from rfl, show (24 : Int32) = nI 24 from rfl]
      simp only [n_gd (show k < 6 by omega) (by omega : 6 < 2 ^ 31), n_cl (show k < 2 ^ 31 by omega), n_s, nI_add, n_gd (show k < 163 by omega) (by omega : 163 < 2 ^ 31), n_gd (show 6 + k < 163 by omega) (by omega : 163 < 2 ^ 31), n_cl (show 6 + k < 2 ^ 31 by omega), n_gd (show 12 + k < 163 by omega) (by omega : 163 < 2 ^ 31), n_cl (show 12 + k < 2 ^ 31 by omega), n_gd (show 18 + k < 163 by omega) (by omega : 163 < 2 ^ 31), n_cl (show 18 + k < 2 ^ 31 by omega), n_gd (show 24 + k < 163 by omega) (by omega : 163 < 2 ^ 31), n_cl (show 24 + k < 2 ^ 31 by omega)]
      exact h0
    · rw [h1 j hj, upd_ne (by omega), upd_ne (by omega), upd_ne (by omega), upd_ne (by omega), upd_ne (by omega)]
    · rw [a0 i (by omega), upd_ne (by omega), upd_ne (by omega), upd_ne (by omega), upd_ne (by omega), upd_ne (by omega)]
    · by_cases e : i = k
      · subst e
        rw [a0 i (by omega), upd_ne (by omega), upd_ne (by omega), upd_ne (by omega), upd_ne (by omega), upd_at]
      · exact b0 i (by omega) hi2
    · rw [a1 i (by omega), upd_ne (by omega), upd_ne (by omega), upd_ne (by omega), upd_ne (by omega), upd_ne (by omega)]
    · by_cases e : i = k
      · subst e
        rw [a1 i (by omega), upd_ne (by omega), upd_ne (by omega), upd_ne (by omega), upd_at]
      · exact b1 i (by omega) hi2
    · rw [a2 i (by omega), upd_ne (by omega), upd_ne (by omega), upd_ne (by omega), upd_ne (by omega), upd_ne (by omega)]
    · by_cases e : i = k
      · subst e
        rw [a2 i (by omega), upd_ne (by omega), upd_ne (by omega), upd_at]
      · exact b2 i (by omega) hi2
    · rw [a3 i (by omega), upd_ne (by omega), upd_ne (by omega), upd_ne (by omega), upd_ne (by omega), upd_ne (by omega)]
    · by_cases e : i = k
      · subst e
        rw [a3 i (by omega), upd_ne (by omega), upd_at]
      · exact b3 i (by omega) hi2
    · rw [a4 i (by omega), upd_ne (by omega), upd_ne (by omega), upd_ne (by omega), upd_ne (by omega), upd_ne (by omega)]
    · by_cases e : i = k
      · subst e
        rw [a4 i (by omega), upd_at]
      · exact b4 i (by omega) hi2
theorem kp_73 (v_people : Int32) (v_day : Int32) (v_holds : Int32) (v_seen : Int32) (v_inPlan : Int32) (v_inBook : Int32) (v_rows : Nat → Int32) (v_hate : Nat → Int32) (v_seenBy : Nat → Int32) (v_seenOf : Nat → Int32) (v_seenIn : Nat → Int32) (v_seenSo : Nat → Int32) (v_goes : Nat → Int32) (v_whose : Nat → Int32) (v_bookBy : Nat → Int32) (v_bookOf : Nat → Int32) (v_bookHate : Nat → Int32) : ∀ (m k F : Nat) (w_p1 : Nat → Int32), k + m = 24 → m < F → ∃ (w2 : Nat → Int32), f_X8_keep_73 v_people v_day v_holds v_seen v_inPlan v_inBook v_rows v_hate v_seenBy v_seenOf v_seenIn v_seenSo v_goes v_whose v_bookBy v_bookOf v_bookHate F (nI k) w_p1 = (f_X8_keep_99 v_people v_day v_holds v_seen v_inPlan v_inBook v_hate v_seenBy v_seenOf v_seenIn v_seenSo v_goes v_whose v_bookBy v_bookOf v_bookHate 1000 (0 : Int32) w2) ∧ (∀ j, (j < 30 ∨ 54 ≤ j) → w2 j = w_p1 j) ∧ (∀ i, i < k → w2 (30 + i) = w_p1 (30 + i)) ∧ (∀ i, k ≤ i → i < 24 → w2 (30 + i) = v_rows i) := by
  intro m
  induction m with
  | zero =>
    intro k F w_p1 hk hF
    obtain ⟨F, rfl⟩ : ∃ f, F = f + 1 := ⟨F - 1, by omega⟩
    refine ⟨w_p1, ?_, fun _ _ => rfl, fun _ _ => rfl, fun i _ _ => by omega⟩
    show f_X8_keep_73_b v_people v_day v_holds v_seen v_inPlan v_inBook v_rows v_hate v_seenBy v_seenOf v_seenIn v_seenSo v_goes v_whose v_bookBy v_bookOf v_bookHate _ (nI k) w_p1 = _
    unfold f_X8_keep_73_b
    rw [if_pos (by rw [n_leT, n_toInt (by omega)]; show (24 : Int) ≤ k; omega)]
  | succ m ih =>
    intro k F w_p1 hk hF
    obtain ⟨F, rfl⟩ : ∃ f, F = f + 1 := ⟨F - 1, by omega⟩
    obtain ⟨w2, h0, h1, a0, b0⟩ := ih (k + 1) F (upd w_p1 (30 + k) (v_rows k)) (by omega) (by omega)
    refine ⟨w2, ?_, fun j hj => ?_, fun i hi => ?_, fun i hi hi2 => ?_⟩
    · show f_X8_keep_73_b v_people v_day v_holds v_seen v_inPlan v_inBook v_rows v_hate v_seenBy v_seenOf v_seenIn v_seenSo v_goes v_whose v_bookBy v_bookOf v_bookHate _ (nI k) w_p1 = _
      unfold f_X8_keep_73_b
      rw [if_neg (by rw [n_leT, n_toInt (by omega)]; show ¬ (24 : Int) ≤ k; omega), show (30 : Int32) = nI 30 from rfl]
      simp only [n_gd (show k < 24 by omega) (by omega : 24 < 2 ^ 31), n_cl (show k < 2 ^ 31 by omega), n_s, nI_add, n_gd (show 30 + k < 163 by omega) (by omega : 163 < 2 ^ 31), n_cl (show 30 + k < 2 ^ 31 by omega)]
      exact h0
    · rw [h1 j hj, upd_ne (by omega)]
    · rw [a0 i (by omega), upd_ne (by omega)]
    · by_cases e : i = k
      · subst e
        rw [a0 i (by omega), upd_at]
      · exact b0 i (by omega) hi2
theorem kp_99 (v_people : Int32) (v_day : Int32) (v_holds : Int32) (v_seen : Int32) (v_inPlan : Int32) (v_inBook : Int32) (v_hate : Nat → Int32) (v_seenBy : Nat → Int32) (v_seenOf : Nat → Int32) (v_seenIn : Nat → Int32) (v_seenSo : Nat → Int32) (v_goes : Nat → Int32) (v_whose : Nat → Int32) (v_bookBy : Nat → Int32) (v_bookOf : Nat → Int32) (v_bookHate : Nat → Int32) : ∀ (m k F : Nat) (w_p1 : Nat → Int32), k + m = 36 → m < F → ∃ (w2 : Nat → Int32), f_X8_keep_99 v_people v_day v_holds v_seen v_inPlan v_inBook v_hate v_seenBy v_seenOf v_seenIn v_seenSo v_goes v_whose v_bookBy v_bookOf v_bookHate F (nI k) w_p1 = (f_X8_keep_125 v_people v_day v_holds v_seen v_inPlan v_inBook v_seenBy v_seenOf v_seenIn v_seenSo v_goes v_whose v_bookBy v_bookOf v_bookHate 1000 (0 : Int32) w2) ∧ (∀ j, (j < 54 ∨ 90 ≤ j) → w2 j = w_p1 j) ∧ (∀ i, i < k → w2 (54 + i) = w_p1 (54 + i)) ∧ (∀ i, k ≤ i → i < 36 → w2 (54 + i) = v_hate i) := by
  intro m
  induction m with
  | zero =>
    intro k F w_p1 hk hF
    obtain ⟨F, rfl⟩ : ∃ f, F = f + 1 := ⟨F - 1, by omega⟩
    refine ⟨w_p1, ?_, fun _ _ => rfl, fun _ _ => rfl, fun i _ _ => by omega⟩
    show f_X8_keep_99_b v_people v_day v_holds v_seen v_inPlan v_inBook v_hate v_seenBy v_seenOf v_seenIn v_seenSo v_goes v_whose v_bookBy v_bookOf v_bookHate _ (nI k) w_p1 = _
    unfold f_X8_keep_99_b
    rw [if_pos (by rw [n_leT, n_toInt (by omega)]; show (36 : Int) ≤ k; omega)]
  | succ m ih =>
    intro k F w_p1 hk hF
    obtain ⟨F, rfl⟩ : ∃ f, F = f + 1 := ⟨F - 1, by omega⟩
    obtain ⟨w2, h0, h1, a0, b0⟩ := ih (k + 1) F (upd w_p1 (54 + k) (v_hate k)) (by omega) (by omega)
    refine ⟨w2, ?_, fun j hj => ?_, fun i hi => ?_, fun i hi hi2 => ?_⟩
    · show f_X8_keep_99_b v_people v_day v_holds v_seen v_inPlan v_inBook v_hate v_seenBy v_seenOf v_seenIn v_seenSo v_goes v_whose v_bookBy v_bookOf v_bookHate _ (nI k) w_p1 = _
      unfold f_X8_keep_99_b
      rw [if_neg (by rw [n_leT, n_toInt (by omega)]; show ¬ (36 : Int) ≤ k; omega), show (54 : Int32) = nI 54 from rfl]
      simp only [n_gd (show k < 36 by omega) (by omega : 36 < 2 ^ 31), n_cl (show k < 2 ^ 31 by omega), n_s, nI_add, n_gd (show 54 + k < 163 by omega) (by omega : 163 < 2 ^ 31), n_cl (show 54 + k < 2 ^ 31 by omega)]
      exact h0
    · rw [h1 j hj, upd_ne (by omega)]
    · rw [a0 i (by omega), upd_ne (by omega)]
    · by_cases e : i = k
      · subst e
        rw [a0 i (by omega), upd_at]
      · exact b0 i (by omega) hi2
theorem kp_125 (v_people : Int32) (v_day : Int32) (v_holds : Int32) (v_seen : Int32) (v_inPlan : Int32) (v_inBook : Int32) (v_seenBy : Nat → Int32) (v_seenOf : Nat → Int32) (v_seenIn : Nat → Int32) (v_seenSo : Nat → Int32) (v_goes : Nat → Int32) (v_whose : Nat → Int32) (v_bookBy : Nat → Int32) (v_bookOf : Nat → Int32) (v_bookHate : Nat → Int32) : ∀ (m k F : Nat) (w_p1 : Nat → Int32), k + m = 5 → m < F → ∃ (w2 : Nat → Int32), f_X8_keep_125 v_people v_day v_holds v_seen v_inPlan v_inBook v_seenBy v_seenOf v_seenIn v_seenSo v_goes v_whose v_bookBy v_bookOf v_bookHate F (nI k) w_p1 = (f_X8_keep_186 v_people v_day v_holds v_seen v_inPlan v_inBook v_goes v_whose v_bookBy v_bookOf v_bookHate 1000 (0 : Int32) w2) ∧ (∀ j, (j < 90 ∨ 110 ≤ j) → w2 j = w_p1 j) ∧ (∀ i, i < k → w2 (90 + i) = w_p1 (90 + i)) ∧ (∀ i, k ≤ i → i < 5 → w2 (90 + i) = v_seenBy i) ∧ (∀ i, i < k → w2 (95 + i) = w_p1 (95 + i)) ∧ (∀ i, k ≤ i → i < 5 → w2 (95 + i) = v_seenOf i) ∧ (∀ i, i < k → w2 (100 + i) = w_p1 (100 + i)) ∧ (∀ i, k ≤ i → i < 5 → w2 (100 + i) = v_seenIn i) ∧ (∀ i, i < k → w2 (105 + i) = w_p1 (105 + i)) ∧ (∀ i, k ≤ i → i < 5 → w2 (105 + i) = v_seenSo i) := by
  intro m
  induction m with
  | zero =>
    intro k F w_p1 hk hF
    obtain ⟨F, rfl⟩ : ∃ f, F = f + 1 := ⟨F - 1, by omega⟩
    refine ⟨w_p1, ?_, fun _ _ => rfl, fun _ _ => rfl, fun i _ _ => by omega, fun _ _ => rfl, fun i _ _ => by omega, fun _ _ => rfl, fun i _ _ => by omega, fun _ _ => rfl, fun i _ _ => by omega⟩
    show f_X8_keep_125_b v_people v_day v_holds v_seen v_inPlan v_inBook v_seenBy v_seenOf v_seenIn v_seenSo v_goes v_whose v_bookBy v_bookOf v_bookHate _ (nI k) w_p1 = _
    unfold f_X8_keep_125_b
    rw [if_pos (by rw [n_leT, n_toInt (by omega)]; show (5 : Int) ≤ k; omega)]
  | succ m ih =>
    intro k F w_p1 hk hF
    obtain ⟨F, rfl⟩ : ∃ f, F = f + 1 := ⟨F - 1, by omega⟩
    obtain ⟨w2, h0, h1, a0, b0, a1, b1, a2, b2, a3, b3⟩ := ih (k + 1) F (upd (upd (upd (upd w_p1 (90 + k) (v_seenBy k)) (95 + k) (v_seenOf k)) (100 + k) (v_seenIn k)) (105 + k) (v_seenSo k)) (by omega) (by omega)
    refine ⟨w2, ?_, fun j hj => ?_, fun i hi => ?_, fun i hi hi2 => ?_, fun i hi => ?_, fun i hi hi2 => ?_, fun i hi => ?_, fun i hi hi2 => ?_, fun i hi => ?_, fun i hi hi2 => ?_⟩
    · show f_X8_keep_125_b v_people v_day v_holds v_seen v_inPlan v_inBook v_seenBy v_seenOf v_seenIn v_seenSo v_goes v_whose v_bookBy v_bookOf v_bookHate _ (nI k) w_p1 = _
      unfold f_X8_keep_125_b
      rw [if_neg (by rw [n_leT, n_toInt (by omega)]; show ¬ (5 : Int) ≤ k; omega), show (90 : Int32) = nI 90 from rfl, show (95 : Int32) = nI 95 from rfl, show (100 : Int32) = nI 100 from rfl, show (105 : Int32) = nI 105 from rfl]
      simp only [n_gd (show k < 5 by omega) (by omega : 5 < 2 ^ 31), n_cl (show k < 2 ^ 31 by omega), n_s, nI_add, n_gd (show 90 + k < 163 by omega) (by omega : 163 < 2 ^ 31), n_cl (show 90 + k < 2 ^ 31 by omega), n_gd (show 95 + k < 163 by omega) (by omega : 163 < 2 ^ 31), n_cl (show 95 + k < 2 ^ 31 by omega), n_gd (show 100 + k < 163 by omega) (by omega : 163 < 2 ^ 31), n_cl (show 100 + k < 2 ^ 31 by omega), n_gd (show 105 + k < 163 by omega) (by omega : 163 < 2 ^ 31), n_cl (show 105 + k < 2 ^ 31 by omega)]
      exact h0
    · rw [h1 j hj, upd_ne (by omega), upd_ne (by omega), upd_ne (by omega), upd_ne (by omega)]
    · rw [a0 i (by omega), upd_ne (by omega), upd_ne (by omega), upd_ne (by omega), upd_ne (by omega)]
    · by_cases e : i = k
      · subst e
        rw [a0 i (by omega), upd_ne (by omega), upd_ne (by omega), upd_ne (by omega), upd_at]
      · exact b0 i (by omega) hi2
    · rw [a1 i (by omega), upd_ne (by omega), upd_ne (by omega), upd_ne (by omega), upd_ne (by omega)]
    · by_cases e : i = k
      · subst e
        rw [a1 i (by omega), upd_ne (by omega), upd_ne (by omega), upd_at]
      · exact b1 i (by omega) hi2
    · rw [a2 i (by omega), upd_ne (by omega), upd_ne (by omega), upd_ne (by omega), upd_ne (by omega)]
    · by_cases e : i = k
      · subst e
        rw [a2 i (by omega), upd_ne (by omega), upd_at]
      · exact b2 i (by omega) hi2
    · rw [a3 i (by omega), upd_ne (by omega), upd_ne (by omega), upd_ne (by omega), upd_ne (by omega)]
    · by_cases e : i = k
      · subst e
        rw [a3 i (by omega), upd_at]
      · exact b3 i (by omega) hi2
theorem kp_186 (v_people : Int32) (v_day : Int32) (v_holds : Int32) (v_seen : Int32) (v_inPlan : Int32) (v_inBook : Int32) (v_goes : Nat → Int32) (v_whose : Nat → Int32) (v_bookBy : Nat → Int32) (v_bookOf : Nat → Int32) (v_bookHate : Nat → Int32) : ∀ (m k F : Nat) (w_p1 : Nat → Int32), k + m = 10 → m < F → ∃ (w2 : Nat → Int32), f_X8_keep_186 v_people v_day v_holds v_seen v_inPlan v_inBook v_goes v_whose v_bookBy v_bookOf v_bookHate F (nI k) w_p1 = (f_X8_keep_224 v_people v_day v_holds v_seen v_inPlan v_inBook v_bookBy v_bookOf v_bookHate 1000 (0 : Int32) w2) ∧ (∀ j, (j < 110 ∨ 130 ≤ j) → w2 j = w_p1 j) ∧ (∀ i, i < k → w2 (110 + i) = w_p1 (110 + i)) ∧ (∀ i, k ≤ i → i < 10 → w2 (110 + i) = v_goes i) ∧ (∀ i, i < k → w2 (120 + i) = w_p1 (120 + i)) ∧ (∀ i, k ≤ i → i < 10 → w2 (120 + i) = v_whose i) := by
  intro m
  induction m with
  | zero =>
    intro k F w_p1 hk hF
    obtain ⟨F, rfl⟩ : ∃ f, F = f + 1 := ⟨F - 1, by omega⟩
    refine ⟨w_p1, ?_, fun _ _ => rfl, fun _ _ => rfl, fun i _ _ => by omega, fun _ _ => rfl, fun i _ _ => by omega⟩
    show f_X8_keep_186_b v_people v_day v_holds v_seen v_inPlan v_inBook v_goes v_whose v_bookBy v_bookOf v_bookHate _ (nI k) w_p1 = _
    unfold f_X8_keep_186_b
    rw [if_pos (by rw [n_leT, n_toInt (by omega)]; show (10 : Int) ≤ k; omega)]
  | succ m ih =>
    intro k F w_p1 hk hF
    obtain ⟨F, rfl⟩ : ∃ f, F = f + 1 := ⟨F - 1, by omega⟩
    obtain ⟨w2, h0, h1, a0, b0, a1, b1⟩ := ih (k + 1) F (upd (upd w_p1 (110 + k) (v_goes k)) (120 + k) (v_whose k)) (by omega) (by omega)
    refine ⟨w2, ?_, fun j hj => ?_, fun i hi => ?_, fun i hi hi2 => ?_, fun i hi => ?_, fun i hi hi2 => ?_⟩
    · show f_X8_keep_186_b v_people v_day v_holds v_seen v_inPlan v_inBook v_goes v_whose v_bookBy v_bookOf v_bookHate _ (nI k) w_p1 = _
      unfold f_X8_keep_186_b
      rw [if_neg (by rw [n_leT, n_toInt (by omega)]; show ¬ (10 : Int) ≤ k; omega), show (110 : Int32) = nI 110 from rfl, show (120 : Int32) = nI 120 from rfl]
      simp only [n_gd (show k < 10 by omega) (by omega : 10 < 2 ^ 31), n_cl (show k < 2 ^ 31 by omega), n_s, nI_add, n_gd (show 110 + k < 163 by omega) (by omega : 163 < 2 ^ 31), n_cl (show 110 + k < 2 ^ 31 by omega), n_gd (show 120 + k < 163 by omega) (by omega : 163 < 2 ^ 31), n_cl (show 120 + k < 2 ^ 31 by omega)]
      exact h0
    · rw [h1 j hj, upd_ne (by omega), upd_ne (by omega)]
    · rw [a0 i (by omega), upd_ne (by omega), upd_ne (by omega)]
    · by_cases e : i = k
      · subst e
        rw [a0 i (by omega), upd_ne (by omega), upd_at]
      · exact b0 i (by omega) hi2
    · rw [a1 i (by omega), upd_ne (by omega), upd_ne (by omega)]
    · by_cases e : i = k
      · subst e
        rw [a1 i (by omega), upd_at]
      · exact b1 i (by omega) hi2
theorem kp_224 (v_people : Int32) (v_day : Int32) (v_holds : Int32) (v_seen : Int32) (v_inPlan : Int32) (v_inBook : Int32) (v_bookBy : Nat → Int32) (v_bookOf : Nat → Int32) (v_bookHate : Nat → Int32) : ∀ (m k F : Nat) (w_p1 : Nat → Int32), k + m = 8 → m < F → ∃ (w2 : Nat → Int32), f_X8_keep_224 v_people v_day v_holds v_seen v_inPlan v_inBook v_bookBy v_bookOf v_bookHate F (nI k) w_p1 = (some (upd (upd (upd (upd (upd (upd w2 (154 : Int32).toNatClampNeg v_people) (155 : Int32).toNatClampNeg v_day) (156 : Int32).toNatClampNeg v_seen) (157 : Int32).toNatClampNeg v_inPlan) (158 : Int32).toNatClampNeg v_inBook) (159 : Int32).toNatClampNeg v_holds)) ∧ (∀ j, (j < 130 ∨ 154 ≤ j) → w2 j = w_p1 j) ∧ (∀ i, i < k → w2 (130 + i) = w_p1 (130 + i)) ∧ (∀ i, k ≤ i → i < 8 → w2 (130 + i) = v_bookBy i) ∧ (∀ i, i < k → w2 (138 + i) = w_p1 (138 + i)) ∧ (∀ i, k ≤ i → i < 8 → w2 (138 + i) = v_bookOf i) ∧ (∀ i, i < k → w2 (146 + i) = w_p1 (146 + i)) ∧ (∀ i, k ≤ i → i < 8 → w2 (146 + i) = v_bookHate i) := by
  intro m
  induction m with
  | zero =>
    intro k F w_p1 hk hF
    obtain ⟨F, rfl⟩ : ∃ f, F = f + 1 := ⟨F - 1, by omega⟩
    refine ⟨w_p1, ?_, fun _ _ => rfl, fun _ _ => rfl, fun i _ _ => by omega, fun _ _ => rfl, fun i _ _ => by omega, fun _ _ => rfl, fun i _ _ => by omega⟩
    show f_X8_keep_224_b v_people v_day v_holds v_seen v_inPlan v_inBook v_bookBy v_bookOf v_bookHate _ (nI k) w_p1 = _
    unfold f_X8_keep_224_b
    rw [if_pos (by rw [n_leT, n_toInt (by omega)]; show (8 : Int) ≤ k; omega)]
  | succ m ih =>
    intro k F w_p1 hk hF
    obtain ⟨F, rfl⟩ : ∃ f, F = f + 1 := ⟨F - 1, by omega⟩
    obtain ⟨w2, h0, h1, a0, b0, a1, b1, a2, b2⟩ := ih (k + 1) F (upd (upd (upd w_p1 (130 + k) (v_bookBy k)) (138 + k) (v_bookOf k)) (146 + k) (v_bookHate k)) (by omega) (by omega)
    refine ⟨w2, ?_, fun j hj => ?_, fun i hi => ?_, fun i hi hi2 => ?_, fun i hi => ?_, fun i hi hi2 => ?_, fun i hi => ?_, fun i hi hi2 => ?_⟩
    · show f_X8_keep_224_b v_people v_day v_holds v_seen v_inPlan v_inBook v_bookBy v_bookOf v_bookHate _ (nI k) w_p1 = _
      unfold f_X8_keep_224_b
      rw [if_neg (by rw [n_leT, n_toInt (by omega)]; show ¬ (8 : Int) ≤ k; omega), show (130 : Int32) = nI 130 from rfl, show (138 : Int32) = nI 138 from rfl, show (146 : Int32) = nI 146 from rfl]
      simp only [n_gd (show k < 8 by omega) (by omega : 8 < 2 ^ 31), n_cl (show k < 2 ^ 31 by omega), n_s, nI_add, n_gd (show 130 + k < 163 by omega) (by omega : 163 < 2 ^ 31), n_cl (show 130 + k < 2 ^ 31 by omega), n_gd (show 138 + k < 163 by omega) (by omega : 163 < 2 ^ 31), n_cl (show 138 + k < 2 ^ 31 by omega), n_gd (show 146 + k < 163 by omega) (by omega : 163 < 2 ^ 31), n_cl (show 146 + k < 2 ^ 31 by omega)]
      exact h0
    · rw [h1 j hj, upd_ne (by omega), upd_ne (by omega), upd_ne (by omega)]
    · rw [a0 i (by omega), upd_ne (by omega), upd_ne (by omega), upd_ne (by omega)]
    · by_cases e : i = k
      · subst e
        rw [a0 i (by omega), upd_ne (by omega), upd_ne (by omega), upd_at]
      · exact b0 i (by omega) hi2
    · rw [a1 i (by omega), upd_ne (by omega), upd_ne (by omega), upd_ne (by omega)]
    · by_cases e : i = k
      · subst e
        rw [a1 i (by omega), upd_ne (by omega), upd_at]
      · exact b1 i (by omega) hi2
    · rw [a2 i (by omega), upd_ne (by omega), upd_ne (by omega), upd_ne (by omega)]
    · by_cases e : i = k
      · subst e
        rw [a2 i (by omega), upd_at]
      · exact b2 i (by omega) hi2
theorem ag_2 (v_p1 : Nat → Int32) (v_rows : Nat → Int32) (v_hate : Nat → Int32) (v_seenBy : Nat → Int32) (v_seenOf : Nat → Int32) (v_seenIn : Nat → Int32) (v_seenSo : Nat → Int32) (v_goes : Nat → Int32) (v_whose : Nat → Int32) (v_bookBy : Nat → Int32) (v_bookOf : Nat → Int32) (v_bookHate : Nat → Int32) : ∀ (m k F : Nat) (w_kind w_v w_dead w_buried w_thrown : Nat → Int32), k + m = 6 → m < F → ∃ (u_kind u_v u_dead u_buried u_thrown : Nat → Int32), f_X8_again_2 v_p1 v_rows v_hate v_seenBy v_seenOf v_seenIn v_seenSo v_goes v_whose v_bookBy v_bookOf v_bookHate F (nI k) w_kind w_v w_dead w_buried w_thrown = (f_X8_again_73 v_p1 v_hate v_seenBy v_seenOf v_seenIn v_seenSo v_goes v_whose v_bookBy v_bookOf v_bookHate 1000 (0 : Int32) u_kind u_v u_dead u_buried u_thrown v_rows) ∧ (∀ i, i < k → u_kind i = w_kind i) ∧ (∀ i, k ≤ i → i < 6 → u_kind i = v_p1 i) ∧ (∀ i, i < k → u_v i = w_v i) ∧ (∀ i, k ≤ i → i < 6 → u_v i = v_p1 (6 + i)) ∧ (∀ i, i < k → u_dead i = w_dead i) ∧ (∀ i, k ≤ i → i < 6 → u_dead i = v_p1 (12 + i)) ∧ (∀ i, i < k → u_buried i = w_buried i) ∧ (∀ i, k ≤ i → i < 6 → u_buried i = v_p1 (18 + i)) ∧ (∀ i, i < k → u_thrown i = w_thrown i) ∧ (∀ i, k ≤ i → i < 6 → u_thrown i = v_p1 (24 + i)) := by
  intro m
  induction m with
  | zero =>
    intro k F w_kind w_v w_dead w_buried w_thrown hk hF
    obtain ⟨F, rfl⟩ : ∃ f, F = f + 1 := ⟨F - 1, by omega⟩
    refine ⟨w_kind, w_v, w_dead, w_buried, w_thrown, ?_, fun _ _ => rfl, fun i _ _ => by omega, fun _ _ => rfl, fun i _ _ => by omega, fun _ _ => rfl, fun i _ _ => by omega, fun _ _ => rfl, fun i _ _ => by omega, fun _ _ => rfl, fun i _ _ => by omega⟩
    show f_X8_again_2_b v_p1 v_rows v_hate v_seenBy v_seenOf v_seenIn v_seenSo v_goes v_whose v_bookBy v_bookOf v_bookHate _ (nI k) w_kind w_v w_dead w_buried w_thrown = _
    unfold f_X8_again_2_b
    rw [if_pos (by rw [n_leT, n_toInt (by omega)]; show (6 : Int) ≤ k; omega)]
  | succ m ih =>
    intro k F w_kind w_v w_dead w_buried w_thrown hk hF
    obtain ⟨F, rfl⟩ : ∃ f, F = f + 1 := ⟨F - 1, by omega⟩
    obtain ⟨u_kind, u_v, u_dead, u_buried, u_thrown, h0, a0, b0, a1, b1, a2, b2, a3, b3, a4, b4⟩ := ih (k + 1) F (upd w_kind k (v_p1 k)) (upd w_v k (v_p1 (6 + k))) (upd w_dead k (v_p1 (12 + k))) (upd w_buried k (v_p1 (18 + k))) (upd w_thrown k (v_p1 (24 + k))) (by omega) (by omega)
    refine ⟨u_kind, u_v, u_dead, u_buried, u_thrown, ?_, fun i hi => ?_, fun i hi hi2 => ?_, fun i hi => ?_, fun i hi hi2 => ?_, fun i hi => ?_, fun i hi hi2 => ?_, fun i hi => ?_, fun i hi hi2 => ?_, fun i hi => ?_, fun i hi hi2 => ?_⟩
    · show f_X8_again_2_b v_p1 v_rows v_hate v_seenBy v_seenOf v_seenIn v_seenSo v_goes v_whose v_bookBy v_bookOf v_bookHate _ (nI k) w_kind w_v w_dead w_buried w_thrown = _
      unfold f_X8_again_2_b
      rw [if_neg (by rw [n_leT, n_toInt (by omega)]; show ¬ (6 : Int) ≤ k; omega), show (6 : Int32) = nI 6 from rfl, show (12 : Int32) = nI 12 from rfl, show (18 : Int32) = nI 18 from rfl, show (24 : Int32) = nI 24 from rfl]
      simp only [n_gd (show k < 6 by omega) (by omega : 6 < 2 ^ 31), n_cl (show k < 2 ^ 31 by omega), n_s, nI_add, n_gd (show k < 163 by omega) (by omega : 163 < 2 ^ 31), n_gd (show 6 + k < 163 by omega) (by omega : 163 < 2 ^ 31), n_cl (show 6 + k < 2 ^ 31 by omega), n_gd (show 12 + k < 163 by omega) (by omega : 163 < 2 ^ 31), n_cl (show 12 + k < 2 ^ 31 by omega), n_gd (show 18 + k < 163 by omega) (by omega : 163 < 2 ^ 31), n_cl (show 18 + k < 2 ^ 31 by omega), n_gd (show 24 + k < 163 by omega) (by omega : 163 < 2 ^ 31), n_cl (show 24 + k < 2 ^ 31 by omega)]
      exact h0
    · rw [a0 i (by omega), upd_ne (by omega)]
    · by_cases e : i = k
      · subst e
        rw [a0 i (by omega), upd_at]
      · exact b0 i (by omega) hi2
    · rw [a1 i (by omega), upd_ne (by omega)]
    · by_cases e : i = k
      · subst e
        rw [a1 i (by omega), upd_at]
      · exact b1 i (by omega) hi2
    · rw [a2 i (by omega), upd_ne (by omega)]
    · by_cases e : i = k
      · subst e
        rw [a2 i (by omega), upd_at]
      · exact b2 i (by omega) hi2
    · rw [a3 i (by omega), upd_ne (by omega)]
    · by_cases e : i = k
      · subst e
        rw [a3 i (by omega), upd_at]
      · exact b3 i (by omega) hi2
    · rw [a4 i (by omega), upd_ne (by omega)]
    · by_cases e : i = k
      · subst e
        rw [a4 i (by omega), upd_at]
      · exact b4 i (by omega) hi2
theorem ag_73 (v_p1 : Nat → Int32) (v_hate : Nat → Int32) (v_seenBy : Nat → Int32) (v_seenOf : Nat → Int32) (v_seenIn : Nat → Int32) (v_seenSo : Nat → Int32) (v_goes : Nat → Int32) (v_whose : Nat → Int32) (v_bookBy : Nat → Int32) (v_bookOf : Nat → Int32) (v_bookHate : Nat → Int32) : ∀ (m k F : Nat) (w_kind w_v w_dead w_buried w_thrown w_rows : Nat → Int32), k + m = 24 → m < F → ∃ (u_rows : Nat → Int32), f_X8_again_73 v_p1 v_hate v_seenBy v_seenOf v_seenIn v_seenSo v_goes v_whose v_bookBy v_bookOf v_bookHate F (nI k) w_kind w_v w_dead w_buried w_thrown w_rows = (f_X8_again_99 v_p1 v_seenBy v_seenOf v_seenIn v_seenSo v_goes v_whose v_bookBy v_bookOf v_bookHate 1000 (0 : Int32) w_kind w_v w_dead w_buried w_thrown u_rows v_hate) ∧ (∀ i, i < k → u_rows i = w_rows i) ∧ (∀ i, k ≤ i → i < 24 → u_rows i = v_p1 (30 + i)) := by
  intro m
  induction m with
  | zero =>
    intro k F w_kind w_v w_dead w_buried w_thrown w_rows hk hF
    obtain ⟨F, rfl⟩ : ∃ f, F = f + 1 := ⟨F - 1, by omega⟩
    refine ⟨w_rows, ?_, fun _ _ => rfl, fun i _ _ => by omega⟩
    show f_X8_again_73_b v_p1 v_hate v_seenBy v_seenOf v_seenIn v_seenSo v_goes v_whose v_bookBy v_bookOf v_bookHate _ (nI k) w_kind w_v w_dead w_buried w_thrown w_rows = _
    unfold f_X8_again_73_b
    rw [if_pos (by rw [n_leT, n_toInt (by omega)]; show (24 : Int) ≤ k; omega)]
  | succ m ih =>
    intro k F w_kind w_v w_dead w_buried w_thrown w_rows hk hF
    obtain ⟨F, rfl⟩ : ∃ f, F = f + 1 := ⟨F - 1, by omega⟩
    obtain ⟨u_rows, h0, a0, b0⟩ := ih (k + 1) F w_kind w_v w_dead w_buried w_thrown (upd w_rows k (v_p1 (30 + k))) (by omega) (by omega)
    refine ⟨u_rows, ?_, fun i hi => ?_, fun i hi hi2 => ?_⟩
    · show f_X8_again_73_b v_p1 v_hate v_seenBy v_seenOf v_seenIn v_seenSo v_goes v_whose v_bookBy v_bookOf v_bookHate _ (nI k) w_kind w_v w_dead w_buried w_thrown w_rows = _
      unfold f_X8_again_73_b
      rw [if_neg (by rw [n_leT, n_toInt (by omega)]; show ¬ (24 : Int) ≤ k; omega), show (30 : Int32) = nI 30 from rfl]
      simp only [n_gd (show k < 24 by omega) (by omega : 24 < 2 ^ 31), n_cl (show k < 2 ^ 31 by omega), n_s, nI_add, n_gd (show 30 + k < 163 by omega) (by omega : 163 < 2 ^ 31), n_cl (show 30 + k < 2 ^ 31 by omega)]
      exact h0
    · rw [a0 i (by omega), upd_ne (by omega)]
    · by_cases e : i = k
      · subst e
        rw [a0 i (by omega), upd_at]
      · exact b0 i (by omega) hi2
theorem ag_99 (v_p1 : Nat → Int32) (v_seenBy : Nat → Int32) (v_seenOf : Nat → Int32) (v_seenIn : Nat → Int32) (v_seenSo : Nat → Int32) (v_goes : Nat → Int32) (v_whose : Nat → Int32) (v_bookBy : Nat → Int32) (v_bookOf : Nat → Int32) (v_bookHate : Nat → Int32) : ∀ (m k F : Nat) (w_kind w_v w_dead w_buried w_thrown w_rows w_hate : Nat → Int32), k + m = 36 → m < F → ∃ (u_hate : Nat → Int32), f_X8_again_99 v_p1 v_seenBy v_seenOf v_seenIn v_seenSo v_goes v_whose v_bookBy v_bookOf v_bookHate F (nI k) w_kind w_v w_dead w_buried w_thrown w_rows w_hate = (f_X8_again_125 v_p1 v_goes v_whose v_bookBy v_bookOf v_bookHate 1000 (0 : Int32) w_kind w_v w_dead w_buried w_thrown w_rows u_hate v_seenBy v_seenOf v_seenIn v_seenSo) ∧ (∀ i, i < k → u_hate i = w_hate i) ∧ (∀ i, k ≤ i → i < 36 → u_hate i = v_p1 (54 + i)) := by
  intro m
  induction m with
  | zero =>
    intro k F w_kind w_v w_dead w_buried w_thrown w_rows w_hate hk hF
    obtain ⟨F, rfl⟩ : ∃ f, F = f + 1 := ⟨F - 1, by omega⟩
    refine ⟨w_hate, ?_, fun _ _ => rfl, fun i _ _ => by omega⟩
    show f_X8_again_99_b v_p1 v_seenBy v_seenOf v_seenIn v_seenSo v_goes v_whose v_bookBy v_bookOf v_bookHate _ (nI k) w_kind w_v w_dead w_buried w_thrown w_rows w_hate = _
    unfold f_X8_again_99_b
    rw [if_pos (by rw [n_leT, n_toInt (by omega)]; show (36 : Int) ≤ k; omega)]
  | succ m ih =>
    intro k F w_kind w_v w_dead w_buried w_thrown w_rows w_hate hk hF
    obtain ⟨F, rfl⟩ : ∃ f, F = f + 1 := ⟨F - 1, by omega⟩
    obtain ⟨u_hate, h0, a0, b0⟩ := ih (k + 1) F w_kind w_v w_dead w_buried w_thrown w_rows (upd w_hate k (v_p1 (54 + k))) (by omega) (by omega)
    refine ⟨u_hate, ?_, fun i hi => ?_, fun i hi hi2 => ?_⟩
    · show f_X8_again_99_b v_p1 v_seenBy v_seenOf v_seenIn v_seenSo v_goes v_whose v_bookBy v_bookOf v_bookHate _ (nI k) w_kind w_v w_dead w_buried w_thrown w_rows w_hate = _
      unfold f_X8_again_99_b
      rw [if_neg (by rw [n_leT, n_toInt (by omega)]; show ¬ (36 : Int) ≤ k; omega), show (54 : Int32) = nI 54 from rfl]
      simp only [n_gd (show k < 36 by omega) (by omega : 36 < 2 ^ 31), n_cl (show k < 2 ^ 31 by omega), n_s, nI_add, n_gd (show 54 + k < 163 by omega) (by omega : 163 < 2 ^ 31), n_cl (show 54 + k < 2 ^ 31 by omega)]
      exact h0
    · rw [a0 i (by omega), upd_ne (by omega)]
    · by_cases e : i = k
      · subst e
        rw [a0 i (by omega), upd_at]
      · exact b0 i (by omega) hi2
theorem ag_125 (v_p1 : Nat → Int32) (v_goes : Nat → Int32) (v_whose : Nat → Int32) (v_bookBy : Nat → Int32) (v_bookOf : Nat → Int32) (v_bookHate : Nat → Int32) : ∀ (m k F : Nat) (w_kind w_v w_dead w_buried w_thrown w_rows w_hate w_seenBy w_seenOf w_seenIn w_seenSo : Nat → Int32), k + m = 5 → m < F → ∃ (u_seenBy u_seenOf u_seenIn u_seenSo : Nat → Int32), f_X8_again_125 v_p1 v_goes v_whose v_bookBy v_bookOf v_bookHate F (nI k) w_kind w_v w_dead w_buried w_thrown w_rows w_hate w_seenBy w_seenOf w_seenIn w_seenSo = (f_X8_again_186 v_p1 v_bookBy v_bookOf v_bookHate 1000 (0 : Int32) w_kind w_v w_dead w_buried w_thrown w_rows w_hate u_seenBy u_seenOf u_seenIn u_seenSo v_goes v_whose) ∧ (∀ i, i < k → u_seenBy i = w_seenBy i) ∧ (∀ i, k ≤ i → i < 5 → u_seenBy i = v_p1 (90 + i)) ∧ (∀ i, i < k → u_seenOf i = w_seenOf i) ∧ (∀ i, k ≤ i → i < 5 → u_seenOf i = v_p1 (95 + i)) ∧ (∀ i, i < k → u_seenIn i = w_seenIn i) ∧ (∀ i, k ≤ i → i < 5 → u_seenIn i = v_p1 (100 + i)) ∧ (∀ i, i < k → u_seenSo i = w_seenSo i) ∧ (∀ i, k ≤ i → i < 5 → u_seenSo i = v_p1 (105 + i)) := by
  intro m
  induction m with
  | zero =>
    intro k F w_kind w_v w_dead w_buried w_thrown w_rows w_hate w_seenBy w_seenOf w_seenIn w_seenSo hk hF
    obtain ⟨F, rfl⟩ : ∃ f, F = f + 1 := ⟨F - 1, by omega⟩
    refine ⟨w_seenBy, w_seenOf, w_seenIn, w_seenSo, ?_, fun _ _ => rfl, fun i _ _ => by omega, fun _ _ => rfl, fun i _ _ => by omega, fun _ _ => rfl, fun i _ _ => by omega, fun _ _ => rfl, fun i _ _ => by omega⟩
    show f_X8_again_125_b v_p1 v_goes v_whose v_bookBy v_bookOf v_bookHate _ (nI k) w_kind w_v w_dead w_buried w_thrown w_rows w_hate w_seenBy w_seenOf w_seenIn w_seenSo = _
    unfold f_X8_again_125_b
    rw [if_pos (by rw [n_leT, n_toInt (by omega)]; show (5 : Int) ≤ k; omega)]
  | succ m ih =>
    intro k F w_kind w_v w_dead w_buried w_thrown w_rows w_hate w_seenBy w_seenOf w_seenIn w_seenSo hk hF
    obtain ⟨F, rfl⟩ : ∃ f, F = f + 1 := ⟨F - 1, by omega⟩
    obtain ⟨u_seenBy, u_seenOf, u_seenIn, u_seenSo, h0, a0, b0, a1, b1, a2, b2, a3, b3⟩ := ih (k + 1) F w_kind w_v w_dead w_buried w_thrown w_rows w_hate (upd w_seenBy k (v_p1 (90 + k))) (upd w_seenOf k (v_p1 (95 + k))) (upd w_seenIn k (v_p1 (100 + k))) (upd w_seenSo k (v_p1 (105 + k))) (by omega) (by omega)
    refine ⟨u_seenBy, u_seenOf, u_seenIn, u_seenSo, ?_, fun i hi => ?_, fun i hi hi2 => ?_, fun i hi => ?_, fun i hi hi2 => ?_, fun i hi => ?_, fun i hi hi2 => ?_, fun i hi => ?_, fun i hi hi2 => ?_⟩
    · show f_X8_again_125_b v_p1 v_goes v_whose v_bookBy v_bookOf v_bookHate _ (nI k) w_kind w_v w_dead w_buried w_thrown w_rows w_hate w_seenBy w_seenOf w_seenIn w_seenSo = _
      unfold f_X8_again_125_b
      rw [if_neg (by rw [n_leT, n_toInt (by omega)]; show ¬ (5 : Int) ≤ k; omega), show (90 : Int32) = nI 90 from rfl, show (95 : Int32) = nI 95 from rfl, show (100 : Int32) = nI 100 from rfl, show (105 : Int32) = nI 105 from rfl]
      simp only [n_gd (show k < 5 by omega) (by omega : 5 < 2 ^ 31), n_cl (show k < 2 ^ 31 by omega), n_s, nI_add, n_gd (show 90 + k < 163 by omega) (by omega : 163 < 2 ^ 31), n_cl (show 90 + k < 2 ^ 31 by omega), n_gd (show 95 + k < 163 by omega) (by omega : 163 < 2 ^ 31), n_cl (show 95 + k < 2 ^ 31 by omega), n_gd (show 100 + k < 163 by omega) (by omega : 163 < 2 ^ 31), n_cl (show 100 + k < 2 ^ 31 by omega), n_gd (show 105 + k < 163 by omega) (by omega : 163 < 2 ^ 31), n_cl (show 105 + k < 2 ^ 31 by omega)]
      exact h0
    · rw [a0 i (by omega), upd_ne (by omega)]
    · by_cases e : i = k
      · subst e
        rw [a0 i (by omega), upd_at]
      · exact b0 i (by omega) hi2
    · rw [a1 i (by omega), upd_ne (by omega)]
    · by_cases e : i = k
      · subst e
        rw [a1 i (by omega), upd_at]
      · exact b1 i (by omega) hi2
    · rw [a2 i (by omega), upd_ne (by omega)]
    · by_cases e : i = k
      · subst e
        rw [a2 i (by omega), upd_at]
      · exact b2 i (by omega) hi2
    · rw [a3 i (by omega), upd_ne (by omega)]
    · by_cases e : i = k
      · subst e
        rw [a3 i (by omega), upd_at]
      · exact b3 i (by omega) hi2
theorem ag_186 (v_p1 : Nat → Int32) (v_bookBy : Nat → Int32) (v_bookOf : Nat → Int32) (v_bookHate : Nat → Int32) : ∀ (m k F : Nat) (w_kind w_v w_dead w_buried w_thrown w_rows w_hate w_seenBy w_seenOf w_seenIn w_seenSo w_goes w_whose : Nat → Int32), k + m = 10 → m < F → ∃ (u_goes u_whose : Nat → Int32), f_X8_again_186 v_p1 v_bookBy v_bookOf v_bookHate F (nI k) w_kind w_v w_dead w_buried w_thrown w_rows w_hate w_seenBy w_seenOf w_seenIn w_seenSo w_goes w_whose = (f_X8_again_224 v_p1 1000 (0 : Int32) w_kind w_v w_dead w_buried w_thrown w_rows w_hate w_seenBy w_seenOf w_seenIn w_seenSo u_goes u_whose v_bookBy v_bookOf v_bookHate) ∧ (∀ i, i < k → u_goes i = w_goes i) ∧ (∀ i, k ≤ i → i < 10 → u_goes i = v_p1 (110 + i)) ∧ (∀ i, i < k → u_whose i = w_whose i) ∧ (∀ i, k ≤ i → i < 10 → u_whose i = v_p1 (120 + i)) := by
  intro m
  induction m with
  | zero =>
    intro k F w_kind w_v w_dead w_buried w_thrown w_rows w_hate w_seenBy w_seenOf w_seenIn w_seenSo w_goes w_whose hk hF
    obtain ⟨F, rfl⟩ : ∃ f, F = f + 1 := ⟨F - 1, by omega⟩
    refine ⟨w_goes, w_whose, ?_, fun _ _ => rfl, fun i _ _ => by omega, fun _ _ => rfl, fun i _ _ => by omega⟩
    show f_X8_again_186_b v_p1 v_bookBy v_bookOf v_bookHate _ (nI k) w_kind w_v w_dead w_buried w_thrown w_rows w_hate w_seenBy w_seenOf w_seenIn w_seenSo w_goes w_whose = _
    unfold f_X8_again_186_b
    rw [if_pos (by rw [n_leT, n_toInt (by omega)]; show (10 : Int) ≤ k; omega)]
  | succ m ih =>
    intro k F w_kind w_v w_dead w_buried w_thrown w_rows w_hate w_seenBy w_seenOf w_seenIn w_seenSo w_goes w_whose hk hF
    obtain ⟨F, rfl⟩ : ∃ f, F = f + 1 := ⟨F - 1, by omega⟩
    obtain ⟨u_goes, u_whose, h0, a0, b0, a1, b1⟩ := ih (k + 1) F w_kind w_v w_dead w_buried w_thrown w_rows w_hate w_seenBy w_seenOf w_seenIn w_seenSo (upd w_goes k (v_p1 (110 + k))) (upd w_whose k (v_p1 (120 + k))) (by omega) (by omega)
    refine ⟨u_goes, u_whose, ?_, fun i hi => ?_, fun i hi hi2 => ?_, fun i hi => ?_, fun i hi hi2 => ?_⟩
    · show f_X8_again_186_b v_p1 v_bookBy v_bookOf v_bookHate _ (nI k) w_kind w_v w_dead w_buried w_thrown w_rows w_hate w_seenBy w_seenOf w_seenIn w_seenSo w_goes w_whose = _
      unfold f_X8_again_186_b
      rw [if_neg (by rw [n_leT, n_toInt (by omega)]; show ¬ (10 : Int) ≤ k; omega), show (110 : Int32) = nI 110 from rfl, show (120 : Int32) = nI 120 from rfl]
      simp only [n_gd (show k < 10 by omega) (by omega : 10 < 2 ^ 31), n_cl (show k < 2 ^ 31 by omega), n_s, nI_add, n_gd (show 110 + k < 163 by omega) (by omega : 163 < 2 ^ 31), n_cl (show 110 + k < 2 ^ 31 by omega), n_gd (show 120 + k < 163 by omega) (by omega : 163 < 2 ^ 31), n_cl (show 120 + k < 2 ^ 31 by omega)]
      exact h0
    · rw [a0 i (by omega), upd_ne (by omega)]
    · by_cases e : i = k
      · subst e
        rw [a0 i (by omega), upd_at]
      · exact b0 i (by omega) hi2
    · rw [a1 i (by omega), upd_ne (by omega)]
    · by_cases e : i = k
      · subst e
        rw [a1 i (by omega), upd_at]
      · exact b1 i (by omega) hi2
theorem ag_224 (v_p1 : Nat → Int32) : ∀ (m k F : Nat) (w_kind w_v w_dead w_buried w_thrown w_rows w_hate w_seenBy w_seenOf w_seenIn w_seenSo w_goes w_whose w_bookBy w_bookOf w_bookHate : Nat → Int32), k + m = 8 → m < F → ∃ (u_bookBy u_bookOf u_bookHate : Nat → Int32), f_X8_again_224 v_p1 F (nI k) w_kind w_v w_dead w_buried w_thrown w_rows w_hate w_seenBy w_seenOf w_seenIn w_seenSo w_goes w_whose w_bookBy w_bookOf w_bookHate = (some (w_kind, w_v, w_dead, w_buried, w_thrown, w_rows, w_hate, w_seenBy, w_seenOf, w_seenIn, w_seenSo, w_goes, w_whose, v_p1 (154 : Int32).toNatClampNeg, v_p1 (155 : Int32).toNatClampNeg, v_p1 (156 : Int32).toNatClampNeg, v_p1 (157 : Int32).toNatClampNeg, v_p1 (158 : Int32).toNatClampNeg, v_p1 (159 : Int32).toNatClampNeg, u_bookBy, u_bookOf, u_bookHate)) ∧ (∀ i, i < k → u_bookBy i = w_bookBy i) ∧ (∀ i, k ≤ i → i < 8 → u_bookBy i = v_p1 (130 + i)) ∧ (∀ i, i < k → u_bookOf i = w_bookOf i) ∧ (∀ i, k ≤ i → i < 8 → u_bookOf i = v_p1 (138 + i)) ∧ (∀ i, i < k → u_bookHate i = w_bookHate i) ∧ (∀ i, k ≤ i → i < 8 → u_bookHate i = v_p1 (146 + i)) := by
  intro m
  induction m with
  | zero =>
    intro k F w_kind w_v w_dead w_buried w_thrown w_rows w_hate w_seenBy w_seenOf w_seenIn w_seenSo w_goes w_whose w_bookBy w_bookOf w_bookHate hk hF
    obtain ⟨F, rfl⟩ : ∃ f, F = f + 1 := ⟨F - 1, by omega⟩
    refine ⟨w_bookBy, w_bookOf, w_bookHate, ?_, fun _ _ => rfl, fun i _ _ => by omega, fun _ _ => rfl, fun i _ _ => by omega, fun _ _ => rfl, fun i _ _ => by omega⟩
    show f_X8_again_224_b v_p1 _ (nI k) w_kind w_v w_dead w_buried w_thrown w_rows w_hate w_seenBy w_seenOf w_seenIn w_seenSo w_goes w_whose w_bookBy w_bookOf w_bookHate = _
    unfold f_X8_again_224_b
    rw [if_pos (by rw [n_leT, n_toInt (by omega)]; show (8 : Int) ≤ k; omega)]
  | succ m ih =>
    intro k F w_kind w_v w_dead w_buried w_thrown w_rows w_hate w_seenBy w_seenOf w_seenIn w_seenSo w_goes w_whose w_bookBy w_bookOf w_bookHate hk hF
    obtain ⟨F, rfl⟩ : ∃ f, F = f + 1 := ⟨F - 1, by omega⟩
    obtain ⟨u_bookBy, u_bookOf, u_bookHate, h0, a0, b0, a1, b1, a2, b2⟩ := ih (k + 1) F w_kind w_v w_dead w_buried w_thrown w_rows w_hate w_seenBy w_seenOf w_seenIn w_seenSo w_goes w_whose (upd w_bookBy k (v_p1 (130 + k))) (upd w_bookOf k (v_p1 (138 + k))) (upd w_bookHate k (v_p1 (146 + k))) (by omega) (by omega)
    refine ⟨u_bookBy, u_bookOf, u_bookHate, ?_, fun i hi => ?_, fun i hi hi2 => ?_, fun i hi => ?_, fun i hi hi2 => ?_, fun i hi => ?_, fun i hi hi2 => ?_⟩
    · show f_X8_again_224_b v_p1 _ (nI k) w_kind w_v w_dead w_buried w_thrown w_rows w_hate w_seenBy w_seenOf w_seenIn w_seenSo w_goes w_whose w_bookBy w_bookOf w_bookHate = _
      unfold f_X8_again_224_b
      rw [if_neg (by rw [n_leT, n_toInt (by omega)]; show ¬ (8 : Int) ≤ k; omega), show (130 : Int32) = nI 130 from rfl, show (138 : Int32) = nI 138 from rfl, show (146 : Int32) = nI 146 from rfl]
      simp only [n_gd (show k < 8 by omega) (by omega : 8 < 2 ^ 31), n_cl (show k < 2 ^ 31 by omega), n_s, nI_add, n_gd (show 130 + k < 163 by omega) (by omega : 163 < 2 ^ 31), n_cl (show 130 + k < 2 ^ 31 by omega), n_gd (show 138 + k < 163 by omega) (by omega : 163 < 2 ^ 31), n_cl (show 138 + k < 2 ^ 31 by omega), n_gd (show 146 + k < 163 by omega) (by omega : 163 < 2 ^ 31), n_cl (show 146 + k < 2 ^ 31 by omega)]
      exact h0
    · rw [a0 i (by omega), upd_ne (by omega)]
    · by_cases e : i = k
      · subst e
        rw [a0 i (by omega), upd_at]
      · exact b0 i (by omega) hi2
    · rw [a1 i (by omega), upd_ne (by omega)]
    · by_cases e : i = k
      · subst e
        rw [a1 i (by omega), upd_at]
      · exact b1 i (by omega) hi2
    · rw [a2 i (by omega), upd_ne (by omega)]
    · by_cases e : i = k
      · subst e
        rw [a2 i (by omega), upd_at]
      · exact b2 i (by omega) hi2
