/-- the enemies, by one and day: of the class, of the reference, what they are -/
def EC (E : Nat → Nat → Nat) (n : Nat) (de : Int32) (ha vs ki : Nat → Int32) (len need : Int32) (steps numbers ro : Nat → Int32) : Prop := ∀ q d, q < n → d ≤ 20000 → ∀ fa : Nat → Int32, ∃ fa2, f_X6_enemiesOf (nI n) de ha vs ki fa len need steps numbers ro (nI q) (nI d) = some (nI (E q d), fa2)
def EM (E : Nat → Nat → Nat) (n : Nat) (holds : Int32) (de' ha' clauses word begins length code ki' vs' number ro' : Nat → Int32) : Prop := ∀ q d, q < n → d ≤ 20000 → ∀ stack : Nat → Int32, ∃ st2, f_X8_enemies (nI n) holds de' ha' clauses word begins length stack code ki' vs' number ro' (nI q) (nI d) = some (nI (E q d), st2)
def EP (E : Nat → Nat → Nat) (n : Nat) (de' : Nat → Int32) : Prop := ∀ q d, q < n → d ≤ 20000 → E q d < 2 ^ n ∧ (E q d).testBit q = false ∧ ∀ p, (E q d).testBit p = true → de' p = 0
theorem ens {W : (Nat → Int32) → Int32} {N len need : Int32} {steps numbers : Nat → Int32} {holds : Int32} {clauses word number begins length code : Nat → Int32} (hC : PC W N len need steps numbers) (hM : PM W N holds clauses word number begins length code) {bd n dd : Nat} {pe da de bu pe' da' : Int32} {ki vs th ha ro ki' vs' de' bu' th' ro' ha' : Nat → Int32} (hV : VR bd n dd pe da de bu ki vs th ha ro pe' da' ki' vs' de' bu' th' ro' ha') : ∃ E, EC E n de ha vs ki len need steps numbers ro ∧ EM E n holds de' ha' clauses word begins length code ki' vs' number ro' ∧ EP E n de' := by
  have h : ∀ x : Nat × Nat, ∃ e : Nat, x.1 < n → x.2 ≤ 20000 → (e < 2 ^ n ∧ e.testBit x.1 = false ∧ (∀ p, e.testBit p = true → de' p = 0)) ∧ ∀ fa stack : Nat → Int32, ∃ fa2 st2, f_X6_enemiesOf (nI n) de ha vs ki fa len need steps numbers ro (nI x.1) (nI x.2) = some (nI e, fa2) ∧ f_X8_enemies (nI n) holds de' ha' clauses word begins length stack code ki' vs' number ro' (nI x.1) (nI x.2) = some (nI e, st2) := by
    intro x
    by_cases h1 : x.1 < n
    · by_cases h2 : x.2 ≤ 20000
      · obtain ⟨e, a, b, c, f⟩ := enemies_eq hC hM hV h1 h2
        exact ⟨e, fun _ _ => ⟨⟨a, b, c⟩, f⟩⟩
      · exact ⟨0, fun _ h => absurd h h2⟩
    · exact ⟨0, fun h => absurd h h1⟩
  obtain ⟨e, he⟩ := Classical.axiomOfChoice h
  refine ⟨fun q d => e (q, d), fun q d hq hd fa => ?_, fun q d hq hd st => ?_, fun q d hq hd => (he (q, d) hq hd).1⟩
  · obtain ⟨fa2, st2, h1, h2⟩ := (he (q, d) hq hd).2 fa fa
    exact ⟨fa2, h1⟩
  · obtain ⟨fa2, st2, h1, h2⟩ := (he (q, d) hq hd).2 st st
    exact ⟨st2, h2⟩
theorem al_is : ∀ (n : Fin 7) (D : Fin 64), ((((1 : Int32) <<< (nI n.1 &&& 31)) - (1 : Int32)) &&& (nI D.1 ^^^ (-1 : Int32))) = nI ((2 ^ n.1 - 1) &&& (63 ^^^ D.1)) := by decide +kernel
/-- who is not dead, as bits -/
def alv (n D : Nat) : Nat := (2 ^ n - 1) &&& (63 ^^^ D)
theorem alv_lt {n D : Nat} : alv n D < 2 ^ n := Nat.lt_of_le_of_lt Nat.and_le_left (Nat.sub_lt (Nat.two_pow_pos n) (by omega))
theorem alv_at {n D p : Nat} (hp : p < n) (hn : n ≤ 6) : (alv n D).testBit p = !D.testBit p := by
  unfold alv
  rw [b_notT (by omega), Nat.testBit_two_pow_sub_one, decide_eq_true hp, Bool.true_and]
theorem bit_is {U k : Nat} (hU : U < 64) (hk : k < 6) : f_X7_bit (nI U) (nI k) = some (if U.testBit k then 1 else 0) := congrArg some (b_at ⟨U, hU⟩ ⟨k, hk⟩)
theorem bit_lt {U n k : Nat} (hU : U < 2 ^ n) (h : U.testBit k = true) : k < n := by
  apply Decidable.byContradiction
  intro h2
  rw [Nat.testBit_lt_two_pow (Nat.lt_of_lt_of_le hU (Nat.pow_le_pow_right (by omega) (by omega : n ≤ k)))] at h
  exact Bool.false_ne_true h
theorem n_eq0 {a : Nat} (ha : a < 2 ^ 31) : (nI a = (0 : Int32)) = (a = 0) := n_eq (b := 0) ha (by omega)
theorem x_and (a b : Nat) : nI a &&& nI b = nI (a &&& b) := by
  apply Int32.toBitVec_inj.mp
  exact BitVec.ofNat_and.symm
theorem find_loop {E : Nat → Nat → Nat} {n d U : Nat} {de : Int32} {ha vs ki : Nat → Int32} {len need : Int32} {steps numbers ro : Nat → Int32} (hE : EC E n de ha vs ki len need steps numbers ro) (hn : n ≤ 6) (hd : d ≤ 20000) (hU : U < 2 ^ n) : ∀ (m k : Nat) (en : Nat → Int32), k + m = 6 → ∃ en2, (∀ p, p < k → en2 p = en p) ∧ (∀ p, k ≤ p → p < 6 → en2 p = nI (if U.testBit p then E p d else 0)) ∧ ∀ F, m < F → ∀ fa, ∃ fa2, f_X1_findEnemies_2 (nI n) (nI d) de ha vs ki len need steps numbers ro (nI U) F (nI k) en fa = some (en2, fa2) := by
  have p6 := pow6 hn
  intro m
  induction m with
  | zero =>
    intro k en hk
    refine ⟨en, fun _ _ => rfl, fun p h1 h2 => by omega, fun F hF fa => ⟨fa, ?_⟩⟩
    obtain ⟨F, rfl⟩ : ∃ f, F = f + 1 := ⟨F - 1, by omega⟩
    obtain rfl : k = 6 := by omega
    unfold f_X1_findEnemies_2 f_X1_findEnemies_2_b
    rw [if_pos (by decide)]
  | succ m ih =>
    intro k en hk
    have hk6 : ¬ (6 : Int32) ≤ nI k := by rw [n_leT, n_toInt (by omega)]; show ¬ (6 : Int) ≤ k; omega
    obtain ⟨en2, g1, g2, g3⟩ := ih (k + 1) (upd en k (nI (if U.testBit k then E k d else 0))) (by omega)
    refine ⟨en2, fun p hp => ?_, fun p h1 h2 => ?_, fun F hF fa => ?_⟩
    · rw [g1 p (by omega), upd_ne (by omega)]
    · by_cases e : p = k
      · subst e
        rw [g1 p (by omega), upd_at]
      · exact g2 p (by omega) h2
    · obtain ⟨F, rfl⟩ : ∃ f, F = f + 1 := ⟨F - 1, by omega⟩
      conv => enter [1, fa2]; lhs; unfold f_X1_findEnemies_2 f_X1_findEnemies_2_b
      rw [if_neg hk6, bit_is (by omega) (by omega), Option.bind_some]
      cases hb : U.testBit k with
      | true =>
        rw [hb] at g3
        obtain ⟨fa1, h1⟩ := hE k d (bit_lt hU hb) hd fa
        obtain ⟨fa2, h2⟩ := g3 F (by omega) fa1
        refine ⟨fa2, ?_⟩
        rw [if_pos (by rfl), h1, Option.bind_some, n_gd (by omega) (by omega), n_cl (by omega), n_s]
        exact h2
      | false =>
        rw [hb] at g3
        obtain ⟨fa2, h2⟩ := g3 F (by omega) fa
        refine ⟨fa2, ?_⟩
        rw [if_neg (by decide), n_gd (by omega) (by omega), n_cl (by omega), n_s]
        exact h2
theorem find_is {E : Nat → Nat → Nat} {n d U : Nat} {de : Int32} {ha vs ki : Nat → Int32} {len need : Int32} {steps numbers ro : Nat → Int32} (hE : EC E n de ha vs ki len need steps numbers ro) (hn : n ≤ 6) (hd : d ≤ 20000) (hU : U < 2 ^ n) (en fa : Nat → Int32) : ∃ en2 fa2, f_X1_findEnemies (nI n) (nI d) de en ha vs ki fa len need steps numbers ro (nI U) = some (en2, fa2) ∧ ∀ p, p < 6 → en2 p = nI (if U.testBit p then E p d else 0) := by
  obtain ⟨en2, -, g2, g3⟩ := find_loop hE hn hd hU 6 0 en (by omega)
  obtain ⟨fa2, h⟩ := g3 1000 (by omega) fa
  exact ⟨en2, fa2, h, fun p hp => g2 p (by omega) hp⟩
/-- the bits of those of the first k -/
def bt (pr : Nat → Bool) : Nat → Nat
  | 0 => 0
  | k + 1 => if pr k then bt pr k ||| 2 ^ k else bt pr k
theorem bt_lt (pr : Nat → Bool) : ∀ k, bt pr k < 2 ^ k := by
  intro k
  induction k with
  | zero => exact Nat.one_pos
  | succ k ih =>
    have h2 : bt pr k < 2 ^ (k + 1) := Nat.lt_trans ih (Nat.pow_lt_pow_right (by omega) (by omega))
    show (if pr k then bt pr k ||| 2 ^ k else bt pr k) < _
    split
    · exact Nat.or_lt_two_pow h2 (Nat.pow_lt_pow_right (by omega) (by omega))
    · exact h2
theorem bt_ge {pr : Nat → Bool} {n : Nat} (h : ∀ p, n ≤ p → pr p = false) : ∀ m, bt pr (n + m) = bt pr n := by
  intro m
  induction m with
  | zero => rfl
  | succ m ih =>
    show (if pr (n + m) then bt pr (n + m) ||| 2 ^ (n + m) else bt pr (n + m)) = _
    rw [h _ (by omega), ih]
    rfl
theorem lonely7 {U : Nat} {en : Nat → Int32} {pr : Nat → Bool} (hU : U < 64) (h : ∀ p, p < 6 → (pr p = true ↔ (U.testBit p = true ∧ en p = 0))) (fa : Nat → Int32) : ∀ (m k F : Nat), k + m = 6 → m < F → f_X1_lonely_16 F (nI U) (nI (bt pr k)) (nI k) en fa = some (nI (bt pr 6), en, fa) := by
  intro m
  induction m with
  | zero =>
    intro k F hk hF
    obtain ⟨F, rfl⟩ : ∃ f, F = f + 1 := ⟨F - 1, by omega⟩
    obtain rfl : k = 6 := by omega
    unfold f_X1_lonely_16 f_X1_lonely_16_b
    rw [if_pos (by decide)]
  | succ m ih =>
    intro k F hk hF
    obtain ⟨F, rfl⟩ : ∃ f, F = f + 1 := ⟨F - 1, by omega⟩
    have hk6 : ¬ (6 : Int32) ≤ nI k := by rw [n_leT, n_toInt (by omega)]; show ¬ (6 : Int) ≤ k; omega
    have hX : bt pr k < 64 := Nat.lt_of_lt_of_le (bt_lt pr k) (pow6 (by omega))
    have hor : nI (bt pr k) ||| ((1 : Int32) <<< (nI k &&& 31)) = nI (bt pr k ||| 2 ^ k) := b_or ⟨_, hX⟩ ⟨k, by omega⟩
    have nx := ih (k + 1) F (by omega) (by omega)
    have e1 : bt pr (k + 1) = if pr k then bt pr k ||| 2 ^ k else bt pr k := rfl
    unfold f_X1_lonely_16 f_X1_lonely_16_b
    rw [if_neg hk6, bit_is hU (by omega), Option.bind_some, n_gd (by omega) (by omega), n_cl (by omega)]
    dsimp only [nm]
    rw [hor, n_s]
    cases hb : U.testBit k with
    | false =>
      have hp : pr k = false := Bool.eq_false_iff.mpr fun hp => by
        rw [(h k (by omega)).mp hp |>.1] at hb
        exact Bool.false_ne_true hb.symm
      rw [e1, hp] at nx
      rw [if_neg (by decide)]
      exact nx
    | true =>
      rw [if_pos (by rfl)]
      by_cases he : en k = 0
      · rw [e1, (h k (by omega)).mpr ⟨hb, he⟩] at nx
        rw [if_pos he]
        exact nx
      · have hp : pr k = false := Bool.eq_false_iff.mpr fun hp => he ((h k (by omega)).mp hp).2
        rw [e1, hp] at nx
        rw [if_neg he]
        exact nx
theorem lonely8 {E : Nat → Nat → Nat} {n d : Nat} {holds : Int32} {de' ha' clauses word begins length code ki' vs' number ro' : Nat → Int32} (hE : EM E n holds de' ha' clauses word begins length code ki' vs' number ro') (hn : n ≤ 6) (hd : d ≤ 20000) (hEP : EP E n de') {pr : Nat → Bool} (h : ∀ p, p < n → (pr p = true ↔ (de' p = 0 ∧ E p d = 0))) : ∀ (m k F : Nat), k + m = n → m < F → ∀ st, ∃ st2, f_X8_lonely_4 (nI n) (nI d) holds de' ha' clauses word begins length code ki' vs' number ro' F (nI (bt pr k)) (nI k) st = some (nI (bt pr n), st2) := by
  intro m
  induction m with
  | zero =>
    intro k F hk hF st
    obtain ⟨F, rfl⟩ : ∃ f, F = f + 1 := ⟨F - 1, by omega⟩
    obtain rfl : k = n := by omega
    refine ⟨st, ?_⟩
    unfold f_X8_lonely_4 f_X8_lonely_4_b
    rw [if_pos (by rw [n_le (by omega) (by omega)]; omega)]
  | succ m ih =>
    intro k F hk hF st
    obtain ⟨F, rfl⟩ : ∃ f, F = f + 1 := ⟨F - 1, by omega⟩
    have hk6 : ¬ nI n ≤ nI k := by rw [n_le (by omega) (by omega)]; omega
    have hX : bt pr k < 64 := Nat.lt_of_lt_of_le (bt_lt pr k) (pow6 (by omega))
    have hor : nI (bt pr k) ||| ((1 : Int32) <<< (nI k &&& 31)) = nI (bt pr k ||| 2 ^ k) := b_or ⟨_, hX⟩ ⟨k, by omega⟩
    have e1 : bt pr (k + 1) = if pr k then bt pr k ||| 2 ^ k else bt pr k := rfl
    have hE2 := (hEP k d (by omega) hd).1
    have p6 := pow6 hn
    conv => enter [1, st2]; lhs; unfold f_X8_lonely_4 f_X8_lonely_4_b
    rw [if_neg hk6, n_gd (by omega) (by omega), n_cl (by omega)]
    by_cases h0 : de' k = 0
    · obtain ⟨st1, h1⟩ := hE k d (by omega) hd st
      obtain ⟨st2, nx⟩ := ih (k + 1) F (by omega) (by omega) st1
      refine ⟨st2, ?_⟩
      rw [if_pos h0, h1, Option.bind_some]
      dsimp only [nm]
      rw [hor, n_s]
      by_cases he : E k d = 0
      · rw [e1, (h k (by omega)).mpr ⟨h0, he⟩] at nx
        rw [if_pos (show nI (E k d) = (0 : Int32) by rw [he]; rfl)]
        exact nx
      · have hp : pr k = false := Bool.eq_false_iff.mpr fun hp => he ((h k (by omega)).mp hp).2
        rw [e1, hp] at nx
        rw [if_neg (show ¬ nI (E k d) = (0 : Int32) by rw [n_eq0 (by omega)]; exact he)]
        exact nx
    · obtain ⟨st2, nx⟩ := ih (k + 1) F (by omega) (by omega) st
      have hp : pr k = false := Bool.eq_false_iff.mpr fun hp => h0 ((h k (by omega)).mp hp).1
      refine ⟨st2, ?_⟩
      rw [e1, hp] at nx
      rw [if_neg h0, n_s]
      exact nx
/-- what class and reference know of the living -/
theorem alive_is {n D : Nat} (hn : n ≤ 6) (hD : D < 2 ^ n) : f_X6_alive (nI n) (nI D) = some (nI (alv n D)) := congrArg some (al_is ⟨n, by omega⟩ ⟨D, Nat.lt_of_lt_of_le hD (pow6 hn)⟩)
theorem lonely_eq {E : Nat → Nat → Nat} {n d D : Nat} {ha vs ki : Nat → Int32} {len need : Int32} {steps numbers ro : Nat → Int32} {holds : Int32} {de' ha' clauses word begins length code ki' vs' number ro' : Nat → Int32} (hC : EC E n (nI D) ha vs ki len need steps numbers ro) (hM : EM E n holds de' ha' clauses word begins length code ki' vs' number ro') (hP : EP E n de') (hn : n ≤ 6) (hd : d ≤ 20000) (hD : D < 2 ^ n) (hB : ∀ p, p < n → de' p = if D.testBit p then 1 else 0) (en fa st : Nat → Int32) : ∃ r en2 fa2 st2, f_X1_lonely (nI n) (nI d) (nI D) en ha vs ki fa len need steps numbers ro = some (r, en2, fa2) ∧ f_X8_lonely (nI n) (nI d) holds de' ha' clauses word begins length st code ki' vs' number ro' = some (r, st2) := by
  have p6 := pow6 hn
  obtain ⟨en2, fa2, h1, h2⟩ := find_is hC hn hd (alv_lt (n := n) (D := D)) en fa
  have hU6 : alv n D < 64 := Nat.lt_of_lt_of_le alv_lt p6
  have key : ∀ p, p < n → ((decide (p < n) && ((alv n D).testBit p && decide (E p d = 0))) = true ↔ (de' p = 0 ∧ E p d = 0)) := by
    intro p hp
    rw [decide_eq_true hp, Bool.true_and, Bool.and_eq_true, decide_eq_true_iff, alv_at hp hn, hB p hp]
    cases D.testBit p <;> simp
  have k7 : ∀ p, p < 6 → ((decide (p < n) && ((alv n D).testBit p && decide (E p d = 0))) = true ↔ ((alv n D).testBit p = true ∧ en2 p = 0)) := by
    intro p hp
    rw [h2 p hp]
    by_cases hpn : p < n
    · have hE2 := (hP p d hpn hd).1
      rw [decide_eq_true hpn, Bool.true_and, Bool.and_eq_true, decide_eq_true_iff]
      constructor
      · rintro ⟨a, b⟩
        rw [a, if_pos rfl, b]
        exact ⟨rfl, rfl⟩
      · rintro ⟨a, b⟩
        rw [a, if_pos rfl, n_eq0 (by omega)] at b
        exact ⟨a, b⟩
    · rw [decide_eq_false hpn, Bool.false_and]
      exact ⟨fun h => (Bool.false_ne_true h).elim, fun ⟨a, _⟩ => absurd (bit_lt alv_lt a) hpn⟩
  have g7 := lonely7 (pr := fun p => decide (p < n) && ((alv n D).testBit p && decide (E p d = 0))) hU6 k7 fa2 6 0 1000 (by omega) (by omega)
  obtain ⟨st2, g8⟩ := lonely8 hM hn hd hP (pr := fun p => decide (p < n) && ((alv n D).testBit p && decide (E p d = 0))) key n 0 1000 (by omega) (by omega) st
  refine ⟨_, en2, fa2, st2, ?_, g8⟩
  unfold f_X1_lonely
  rw [alive_is hn hD, Option.bind_some, h1, Option.bind_some]
  refine Eq.trans g7 ?_
  rw [show (6 : Nat) = n + (6 - n) by omega, bt_ge (n := n) (fun p hp => by
    show (decide (p < n) && _) = false
    rw [decide_eq_false (by omega), Bool.false_and])]
