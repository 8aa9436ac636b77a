theorem enemy_eq {W : (Nat → Int32) → Int32} {N len need : Int32} {steps numbers : Nat → Int32} {holds : Int32} {clauses word number begins length code : Nat → Int32} (hC : PC W N len need steps numbers) (hM : PM W N holds clauses word number begins length code) {bd n dd : Nat} {pe da de bu pe' da' : Int32} {ki vs th ha ro ki' vs' de' bu' th' ro' ha' : Nat → Int32} (hV : VR bd n dd pe da de bu ki vs th ha ro pe' da' ki' vs' de' bu' th' ro' ha') {p q d : Nat} (hp : p < n) (hq : q < n) (hpq : p ≠ q) (hd : d ≤ 20000) : ∃ b : Bool, (b = true → de' p = 0) ∧ ∀ fa stack : Nat → Int32, ∃ fa2 st2, f_X6_isEnemy (nI n) de ha vs ki fa len need steps numbers ro (nI p) (nI q) (nI d) = some ((if b then 1 else 0), fa2) ∧ f_X8_isEnemy holds de' ha' clauses word begins length stack code ki' vs' number ro' (nI p) (nI q) (nI d) = some ((if b then 1 else 0), st2) := by
  obtain ⟨r, hr⟩ := spite_eq hC hM hV hp hq hd
  obtain ⟨⟨hn, -⟩, h1, -, -, ⟨h5, -⟩, hB, -⟩ := hV
  have hne : ¬ nI p = nI q := by rw [n_eq (by omega) (by omega)]; exact hpq
  have hb := hB.at hp hn
  have h01 : de' p = 0 ∨ de' p = 1 := by
    obtain ⟨D, -, -, h⟩ := hB
    rw [h p hp]
    split
    · exact Or.inr rfl
    · exact Or.inl rfl
  rcases h01 with h0 | h0
  · refine ⟨decide (¬ r < N), fun _ => h0, fun fa stack => ?_⟩
    obtain ⟨fa2, st2, hx, hm⟩ := hr fa stack
    refine ⟨fa2, st2, ?_, ?_⟩
    · unfold f_X6_isEnemy
      rw [has_yes hp hn, Option.bind_some, if_neg i_10, if_neg hne, hb, Option.bind_some, h0, if_neg (by decide), hateOf_yes hp hq hn, Option.bind_some, n_gd (by omega) (by omega), n_cl (by omega), (h5 p q hp hq).1, (h1 p hp).2.1, hx, Option.bind_some, hC.1]
      by_cases h : r < N
      · rw [if_pos h, if_neg (by simp [h])]
      · rw [if_neg h, if_pos (by simp [h])]
    · unfold f_X8_isEnemy f_X8_does
      rw [n_gd (by omega) (by omega), n_cl (by omega), if_pos h0, hm, Option.bind_some, hM.1, Option.bind_some]
      by_cases h : r < N
      · rw [if_pos h, Option.bind_some, if_pos rfl, if_neg (by simp [h])]
      · rw [if_neg h, Option.bind_some, if_neg i_10, if_pos (by simp [h])]
  · refine ⟨false, fun h => (Bool.false_ne_true h).elim, fun fa stack => ⟨fa, stack, ?_, ?_⟩⟩
    · unfold f_X6_isEnemy
      rw [has_yes hp hn, Option.bind_some, if_neg i_10, if_neg hne, hb, Option.bind_some, h0, if_pos rfl]
      rfl
    · unfold f_X8_isEnemy
      rw [n_gd (by omega) (by omega), n_cl (by omega), h0, if_neg i_10]
      rfl
theorem enemy_self {n p : Nat} {de : Int32} {ha vs ki fa : Nat → Int32} {len need : Int32} {steps numbers ro : Nat → Int32} {x d : Int32} (hp : p < n) (hn : n ≤ 6) (hx : x = nI p) : f_X6_isEnemy (nI n) de ha vs ki fa len need steps numbers ro (nI p) x d = some (0, fa) := by
  unfold f_X6_isEnemy
  rw [has_yes hp hn, Option.bind_some, if_neg i_10, if_pos hx.symm]
theorem enemies_loop {W : (Nat → Int32) → Int32} {N len need : Int32} {steps numbers : Nat → Int32} {holds : Int32} {clauses word number begins length code : Nat → Int32} (hC : PC W N len need steps numbers) (hM : PM W N holds clauses word number begins length code) {bd n dd : Nat} {pe da de bu pe' da' : Int32} {ki vs th ha ro ki' vs' de' bu' th' ro' ha' : Nat → Int32} (hV : VR bd n dd pe da de bu ki vs th ha ro pe' da' ki' vs' de' bu' th' ro' ha') {q d : Nat} (hq : q < n) (hd : d ≤ 20000) : ∀ (m k E : Nat), k + m = n → E < 2 ^ k → (E.testBit q = false ∧ ∀ p, E.testBit p = true → de' p = 0) → ∃ E', E' < 2 ^ n ∧ (E'.testBit q = false ∧ ∀ p, E'.testBit p = true → de' p = 0) ∧ ∀ F, m < F → ∀ fa stack : Nat → Int32, ∃ fa2 st2, f_X6_enemiesOf_5 (nI n) de ha vs ki len need steps numbers ro (nI q) (nI d) F (nI E) (nI k) fa = some (nI E', fa2) ∧ f_X8_enemies_5 (nI n) holds de' ha' clauses word begins length code ki' vs' number ro' (nI q) (nI d) F (nI E) (nI k) stack = some (nI E', st2) := by
  have hn : n ≤ 6 := hV.1.1
  intro m
  induction m with
  | zero =>
    intro k E hk hE hEq
    obtain rfl : k = n := by omega
    refine ⟨E, hE, hEq, fun F hF fa stack => ⟨fa, stack, ?_, ?_⟩⟩
    · obtain ⟨F, rfl⟩ : ∃ f, F = f + 1 := ⟨F - 1, by omega⟩
      show f_X6_enemiesOf_5_b _ _ _ _ _ _ _ _ _ _ _ _ _ _ _ _ = _
      unfold f_X6_enemiesOf_5_b
      rw [if_pos (by rw [n_le (by omega) (by omega)]; omega)]
    · obtain ⟨F, rfl⟩ : ∃ f, F = f + 1 := ⟨F - 1, by omega⟩
      show f_X8_enemies_5_b _ _ _ _ _ _ _ _ _ _ _ _ _ _ _ _ _ _ _ = _
      unfold f_X8_enemies_5_b
      rw [if_pos (by rw [n_le (by omega) (by omega)]; omega)]
  | succ m ih =>
    intro k E hk hE hEq
    have hk6 : ¬ nI n ≤ nI k := by rw [n_le (by omega) (by omega)]; omega
    have hE6 : E < 64 := Nat.lt_of_lt_of_le hE (pow6 (by omega))
    have hE2 : E < 2 ^ (k + 1) := Nat.lt_trans hE (Nat.pow_lt_pow_right (by omega) (by omega))
    by_cases hkq : k = q
    · obtain ⟨E', h1, h2, h3⟩ := ih (k + 1) E (by omega) hE2 hEq
      refine ⟨E', h1, h2, fun F hF fa stack => ?_⟩
      obtain ⟨F, rfl⟩ : ∃ f, F = f + 1 := ⟨F - 1, by omega⟩
      obtain ⟨fa2, st2, hx, hm⟩ := h3 F (by omega) fa stack
      refine ⟨fa2, st2, ?_, ?_⟩
      · show f_X6_enemiesOf_5_b _ _ _ _ _ _ _ _ _ _ _ _ _ _ _ _ = _
        unfold f_X6_enemiesOf_5_b
        rw [if_neg hk6, enemy_self (by omega) hn (by rw [hkq]), Option.bind_some, if_pos rfl, n_s]
        exact hx
      · show f_X8_enemies_5_b _ _ _ _ _ _ _ _ _ _ _ _ _ _ _ _ _ _ _ = _
        unfold f_X8_enemies_5_b
        rw [if_neg hk6, if_pos (by rw [hkq]), n_s]
        exact hm
    · obtain ⟨b, hb0, hb⟩ := enemy_eq hC hM hV (p := k) (by omega) hq hkq hd
      have hne : ¬ nI k = nI q := by rw [n_eq (by omega) (by omega)]; exact hkq
      cases b with
      | false =>
        obtain ⟨E', h1, h2, h3⟩ := ih (k + 1) E (by omega) hE2 hEq
        refine ⟨E', h1, h2, fun F hF fa stack => ?_⟩
        obtain ⟨F, rfl⟩ : ∃ f, F = f + 1 := ⟨F - 1, by omega⟩
        obtain ⟨fa1, st1, hx1, hm1⟩ := hb fa stack
        obtain ⟨fa2, st2, hx, hm⟩ := h3 F (by omega) fa1 st1
        refine ⟨fa2, st2, ?_, ?_⟩
        · show f_X6_enemiesOf_5_b _ _ _ _ _ _ _ _ _ _ _ _ _ _ _ _ = _
          unfold f_X6_enemiesOf_5_b
          rw [if_neg hk6, hx1, Option.bind_some, if_pos (by rfl), n_s]
          exact hx
        · show f_X8_enemies_5_b _ _ _ _ _ _ _ _ _ _ _ _ _ _ _ _ _ _ _ = _
          unfold f_X8_enemies_5_b
          rw [if_neg hk6, if_neg hne, hm1, Option.bind_some, if_pos (by rfl), n_s]
          exact hm
      | true =>
        have hT := fun (j : Nat) (hj : j < 6) => b_orT ⟨E, hE6⟩ ⟨k, by omega⟩ ⟨j, hj⟩
        have hbit : ∀ j, (E ||| 2 ^ k).testBit j = true → de' j = 0 := fun j hj => by
          rw [Nat.testBit_or, Nat.testBit_two_pow] at hj
          by_cases e : k = j
          · rw [← e]; exact hb0 rfl
          · rw [decide_eq_false e, Bool.or_false] at hj
            exact hEq.2 j hj
        obtain ⟨E', h1, h2, h3⟩ := ih (k + 1) (E ||| 2 ^ k) (by omega) (Nat.or_lt_two_pow hE2 (Nat.pow_lt_pow_right (by omega) (by omega))) ⟨by rw [Nat.testBit_or, Nat.testBit_two_pow, decide_eq_false hkq, Bool.or_false]; exact hEq.1, hbit⟩
        refine ⟨E', h1, h2, fun F hF fa stack => ?_⟩
        obtain ⟨F, rfl⟩ : ∃ f, F = f + 1 := ⟨F - 1, by omega⟩
        obtain ⟨fa1, st1, hx1, hm1⟩ := hb fa stack
        obtain ⟨fa2, st2, hx, hm⟩ := h3 F (by omega) fa1 st1
        have hor : nI E ||| ((1 : Int32) <<< (nI k &&& 31)) = nI (E ||| 2 ^ k) := b_or ⟨E, hE6⟩ ⟨k, by omega⟩
        refine ⟨fa2, st2, ?_, ?_⟩
        · show f_X6_enemiesOf_5_b _ _ _ _ _ _ _ _ _ _ _ _ _ _ _ _ = _
          unfold f_X6_enemiesOf_5_b
          rw [if_neg hk6, hx1, Option.bind_some, if_neg (by exact i_10)]
          dsimp only [nm]
          rw [hor, n_s]
          exact hx
        · show f_X8_enemies_5_b _ _ _ _ _ _ _ _ _ _ _ _ _ _ _ _ _ _ _ = _
          unfold f_X8_enemies_5_b
          rw [if_neg hk6, if_neg hne, hm1, Option.bind_some, if_neg (by exact i_10)]
          dsimp only [nm]
          rw [hor, n_s]
          exact hm
/-- the enemies of q on day d, of both sides -/
theorem enemies_eq {W : (Nat → Int32) → Int32} {N len need : Int32} {steps numbers : Nat → Int32} {holds : Int32} {clauses word number begins length code : Nat → Int32} (hC : PC W N len need steps numbers) (hM : PM W N holds clauses word number begins length code) {bd n dd : Nat} {pe da de bu pe' da' : Int32} {ki vs th ha ro ki' vs' de' bu' th' ro' ha' : Nat → Int32} (hV : VR bd n dd pe da de bu ki vs th ha ro pe' da' ki' vs' de' bu' th' ro' ha') {q d : Nat} (hq : q < n) (hd : d ≤ 20000) : ∃ E, E < 2 ^ n ∧ E.testBit q = false ∧ (∀ p, E.testBit p = true → de' p = 0) ∧ ∀ fa stack : Nat → Int32, ∃ fa2 st2, f_X6_enemiesOf (nI n) de ha vs ki fa len need steps numbers ro (nI q) (nI d) = some (nI E, fa2) ∧ f_X8_enemies (nI n) holds de' ha' clauses word begins length stack code ki' vs' number ro' (nI q) (nI d) = some (nI E, st2) := by
  have hn : n ≤ 6 := hV.1.1
  obtain ⟨E, h1, ⟨h2, h3⟩, h4⟩ := enemies_loop hC hM hV hq hd n 0 0 (by omega) (by omega) ⟨Nat.zero_testBit _, fun p h => by rw [Nat.zero_testBit] at h; exact (Bool.false_ne_true h).elim⟩
  exact ⟨E, h1, h2, h3, fun fa stack => h4 1000 (by omega) fa stack⟩
