theorem b_ac : ∀ (D : Fin 64) (k : Fin 6), (nI (D.1 % 2 ^ k.1) ||| ((if D.1.testBit k.1 then (1 : Int32) else 0) <<< (nI k.1 &&& 31))) = nI (D.1 % 2 ^ (k.1 + 1)) := by decide +kernel
theorem dead_loop {n D : Nat} {de' : Nat → Int32} (hn : n ≤ 6) (hD : D < 2 ^ n) (h : ∀ p, p < n → de' p = if D.testBit p then 1 else 0) : ∀ (m k F : Nat), k + m = n → m < F → f_X8_deadBits_4 (nI n) de' F (nI (D % 2 ^ k)) (nI k) = some (nI D) ∧ f_X8_buriedBits_4 (nI n) de' F (nI (D % 2 ^ k)) (nI k) = some (nI D) := by
  intro m
  induction m with
  | zero =>
    intro k F hk hF
    obtain ⟨F, rfl⟩ : ∃ f, F = f + 1 := ⟨F - 1, by omega⟩
    obtain rfl : k = n := by omega
    constructor
    · show f_X8_deadBits_4_b _ _ _ _ _ = _
      unfold f_X8_deadBits_4_b
      rw [if_pos (by rw [n_le (by omega) (by omega)]; omega), Nat.mod_eq_of_lt hD]
    · show f_X8_buriedBits_4_b _ _ _ _ _ = _
      unfold f_X8_buriedBits_4_b
      rw [if_pos (by rw [n_le (by omega) (by omega)]; omega), Nat.mod_eq_of_lt hD]
  | succ m ih =>
    intro k F hk hF
    obtain ⟨F, rfl⟩ : ∃ f, F = f + 1 := ⟨F - 1, by omega⟩
    have hD6 : D < 64 := Nat.lt_of_lt_of_le hD (pow6 hn)
    have e : nI (D % 2 ^ k) ||| ((de' k) <<< (nI k &&& 31)) = nI (D % 2 ^ (k + 1)) := by
      rw [h k (by omega)]
      exact b_ac ⟨D, hD6⟩ ⟨k, by omega⟩
    obtain ⟨n1, n2⟩ := ih (k + 1) F (by omega) (by omega)
    constructor
    · show f_X8_deadBits_4_b _ _ _ _ _ = _
      unfold f_X8_deadBits_4_b
      rw [if_neg (by rw [n_le (by omega) (by omega)]; omega), n_gd (by omega) (by omega), n_cl (by omega)]
      dsimp only [nm]
      rw [e, n_s]
      exact n1
    · show f_X8_buriedBits_4_b _ _ _ _ _ = _
      unfold f_X8_buriedBits_4_b
      rw [if_neg (by rw [n_le (by omega) (by omega)]; omega), n_gd (by omega) (by omega), n_cl (by omega)]
      dsimp only [nm]
      rw [e, n_s]
      exact n2
theorem BR.dead {n : Nat} {de : Int32} {de' : Nat → Int32} (h : BR n de de') (hn : n ≤ 6) : f_X8_deadBits (nI n) de' = some de ∧ f_X8_buriedBits (nI n) de' = some de := by
  obtain ⟨D, hD, rfl, h⟩ := h
  have := dead_loop hn hD h n 0 1000 (by omega) (by omega)
  rw [Nat.pow_zero, Nat.mod_one] at this
  exact this
