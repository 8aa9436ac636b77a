theorem common_loop : ∀ (b a x F : Nat), a < 2 ^ 31 → b < 99 → x + b ≤ 99 → b < F → f_X7_common_7 F (nI a) (nI b) (nI x) = some (nI (Nat.gcd a b)) := by
  intro b
  induction b using Nat.strongRecOn with
  | _ b ih =>
    intro a x F ha hb hx hF
    obtain ⟨F, rfl⟩ : ∃ f, F = f + 1 := ⟨F - 1, by omega⟩
    unfold f_X7_common_7 f_X7_common_7_b
    rw [if_neg (by rw [n_leT, n_toInt (by omega)]; show ¬ (100 : Int) ≤ x; omega)]
    by_cases h : b = 0
    · subst h
      rw [if_pos (show nI 0 = (0 : Int32) from rfl), Nat.gcd_zero_right]
    · have hz : ¬ nI b = (0 : Int32) := eq_nay (c := 0) (by show (b : Int) ≠ 0; omega) (by omega)
      have hm : a % b < b := Nat.mod_lt _ (by omega)
      rw [if_neg hz]
      unfold gz
      rw [if_neg hz]
      dsimp only [nm]
      rw [pk_rem ha (by omega) (by omega), n_s, ih (a % b) hm b (x + 1) F (by omega) (by omega) (by omega) (by omega), Nat.gcd_comm a b, Nat.gcd_rec b a, Nat.gcd_comm]
theorem part_loop (p1 p2 p3 : Int32) : ∀ (b a F : Nat), a < 2 ^ 31 → b < 99 → b < F → f_X8_part_5 p1 p2 p3 F (nI a) (nI b) = if p3 = 0 then (gz (nI (Nat.gcd a b)) (some ((p1 / nI (Nat.gcd a b)).toInt64))) else (gz (nI (Nat.gcd a b)) (some ((p2 / nI (Nat.gcd a b)).toInt64))) := by
  intro b
  induction b using Nat.strongRecOn with
  | _ b ih =>
    intro a F ha hb hF
    obtain ⟨F, rfl⟩ : ∃ f, F = f + 1 := ⟨F - 1, by omega⟩
    unfold f_X8_part_5 f_X8_part_5_b
    by_cases h : b = 0
    · subst h
      rw [if_pos (show nI 0 = (0 : Int32) from rfl), Nat.gcd_zero_right]
    · have hz : ¬ nI b = (0 : Int32) := eq_nay (c := 0) (by show (b : Int) ≠ 0; omega) (by omega)
      have hm : a % b < b := Nat.mod_lt _ (by omega)
      have e : Nat.gcd b (a % b) = Nat.gcd a b := by rw [Nat.gcd_comm a b, Nat.gcd_rec b a, Nat.gcd_comm]
      rw [if_neg hz]
      conv => lhs; unfold gz
      rw [if_neg hz]
      dsimp only [nm]
      rw [pk_rem ha (by omega) (by omega), ih (a % b) hm b F (by omega) (by omega) (by omega), e]
