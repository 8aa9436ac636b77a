/-- the sum of the first k -/
def sm (f : Nat → Int32) : Nat → Int32
  | 0 => 0
  | k + 1 => sm f k + f k
theorem sm_z {f : Nat → Int32} {k : Nat} : ∀ m, (∀ j, k ≤ j → j < k + m → f j = 0) → sm f (k + m) = sm f k := by
  intro m
  induction m with
  | zero => intro _; rfl
  | succ m ih =>
    intro h
    show sm f (k + m) + f (k + m) = _
    rw [ih (fun j h1 h2 => h j h1 (by omega)), h (k + m) (by omega) (by omega), Int32.add_zero]
theorem allHate7 (ha : Nat → Int32) : ∀ (m k F : Nat), k + m = 36 → m < F → f_X6_allHate_4 ha F (sm ha k) (nI k) = some (sm ha 36) := by
  intro m
  induction m with
  | zero =>
    intro k F hk hF
    obtain ⟨F, rfl⟩ : ∃ f, F = f + 1 := ⟨F - 1, by omega⟩
    obtain rfl : k = 36 := by omega
    show f_X6_allHate_4_b _ _ _ _ = _
    unfold f_X6_allHate_4_b
    rw [if_pos (by decide)]
  | succ m ih =>
    intro k F hk hF
    obtain ⟨F, rfl⟩ : ∃ f, F = f + 1 := ⟨F - 1, by omega⟩
    show f_X6_allHate_4_b _ _ _ _ = _
    unfold f_X6_allHate_4_b
    rw [if_neg (by rw [n_leT, n_toInt (by omega)]; show ¬ (36 : Int) ≤ k; omega), n_gd (by omega) (by omega), n_cl (by omega)]
    dsimp only [nm]
    rw [n_s]
    exact ih (k + 1) F (by omega) (by omega)
theorem allHate_14 {n : Nat} {ha ha' : Nat → Int32} (hn : n ≤ 6) (h5 : ∀ p q, p < n → q < n → ha (6 * p + q) = ha' (6 * p + q)) (h0 : ∀ p, p < n → ha' (6 * p + p) = 0) (k4 : Int32 → Int32 → Option Int32) {i : Nat} (hi : i < n) : ∀ (m j F : Nat), j + m = n → m < F → f_X8_allHate_14 (nI n) ha' k4 F (sm ha (6 * i + j)) (nI i) (nI j) = k4 (sm ha (6 * i + n)) (nI (i + 1)) := by
  intro m
  induction m with
  | zero =>
    intro j F hj hF
    obtain ⟨F, rfl⟩ : ∃ f, F = f + 1 := ⟨F - 1, by omega⟩
    obtain rfl : j = n := by omega
    show f_X8_allHate_14_b _ _ _ _ _ _ _ = _
    unfold f_X8_allHate_14_b
    rw [if_pos (by rw [n_le (by omega) (by omega)]; omega), n_s]
  | succ m ih =>
    intro j F hj hF
    obtain ⟨F, rfl⟩ : ∃ f, F = f + 1 := ⟨F - 1, by omega⟩
    show f_X8_allHate_14_b _ _ _ _ _ _ _ = _
    unfold f_X8_allHate_14_b
    rw [if_neg (by rw [n_le (by omega) (by omega)]; omega)]
    have nx := ih (j + 1) F (by omega) (by omega)
    by_cases hij : i = j
    · subst hij
      rw [if_pos rfl, n_s]
      have e : sm ha (6 * i + (i + 1)) = sm ha (6 * i + i) := by
        show sm ha (6 * i + i) + ha (6 * i + i) = _
        rw [h5 i i hi hi, h0 i hi, Int32.add_zero]
      rw [← e]
      exact nx
    · rw [if_neg (by rw [n_eq (by omega) (by omega)]; exact hij), n_mulL, n_gd (by omega) (by omega), n_cl (by omega)]
      dsimp only [nm]
      rw [n_s, ← h5 i j hi (by omega)]
      exact nx
theorem allHate_4 {n : Nat} {ha ha' : Nat → Int32} (hn : n ≤ 6) (h5 : ∀ p q, p < n → q < n → ha (6 * p + q) = ha' (6 * p + q)) (h0 : ∀ p, p < n → ha' (6 * p + p) = 0) (h6 : ∀ p q, p < 6 → q < 6 → ¬ (p < n ∧ q < n) → ha (6 * p + q) = 0) : ∀ (m i F : Nat), i + m = n → m < F → f_X8_allHate_4 (nI n) ha' F (sm ha (6 * i)) (nI i) = some (sm ha 36) := by
  intro m
  induction m with
  | zero =>
    intro i F hi hF
    obtain ⟨F, rfl⟩ : ∃ f, F = f + 1 := ⟨F - 1, by omega⟩
    obtain rfl : i = n := by omega
    show f_X8_allHate_4_b _ _ _ _ _ = _
    unfold f_X8_allHate_4_b
    rw [if_pos (by rw [n_le (by omega) (by omega)]; omega)]
    have e := sm_z (f := ha) (k := 6 * i) (36 - 6 * i) (fun j h1 h2 => by
      have h := h6 (j / 6) (j % 6) (by omega) (by omega) (by omega)
      rw [show 6 * (j / 6) + j % 6 = j by omega] at h
      exact h)
    rw [← e, show 6 * i + (36 - 6 * i) = 36 by omega]
  | succ m ih =>
    intro i F hi hF
    obtain ⟨F, rfl⟩ : ∃ f, F = f + 1 := ⟨F - 1, by omega⟩
    show f_X8_allHate_4_b _ _ _ _ _ = _
    unfold f_X8_allHate_4_b
    rw [if_neg (by rw [n_le (by omega) (by omega)]; omega)]
    have e := allHate_14 hn h5 h0 (f_X8_allHate_4 (nI n) ha' F) (i := i) (by omega) n 0 1000 (by omega) (by omega)
    have e2 := sm_z (f := ha) (k := 6 * i + n) (6 - n) (fun j h1 h2 => by
      have h := h6 i (j - 6 * i) (by omega) (by omega) (by omega)
      rw [show 6 * i + (j - 6 * i) = j by omega] at h
      exact h)
    rw [show 6 * i + n + (6 - n) = 6 * (i + 1) by omega] at e2
    have nx := ih (i + 1) F (by omega) (by omega)
    rw [e2] at nx
    exact e.trans nx
theorem allHate_eq {bd n d : Nat} {pe da de bu pe' da' : Int32} {ki vs th ha ro ki' vs' de' bu' th' ro' ha' : Nat → Int32} (h : VR bd n d pe da de bu ki vs th ha ro pe' da' ki' vs' de' bu' th' ro' ha') : ∃ r, f_X6_allHate ha = some r ∧ f_X8_allHate (nI n) ha' = some r := by
  obtain ⟨⟨hn, -⟩, -, -, -, ⟨h5, h6⟩, -⟩ := h
  exact ⟨sm ha 36, allHate7 ha 36 0 1000 (by omega) (by omega), allHate_4 hn (fun p q hp hq => (h5 p q hp hq).1) (fun p hp => (h5 p p hp hp).2.2 rfl) h6 n 0 1000 (by omega) (by omega)⟩
