/-- the reference's throws, none of whom has thrown more than once more -/
def TB (n c M : Nat) (th' : Nat → Int32) : Prop := ∀ p, p < n → ∃ t, t ≤ c + (if M.testBit p then 1 else 0) ∧ th' p = nI t
theorem VR.more {bd bd2 n d : Nat} {pe da de bu pe' da' : Int32} {ki vs th ha ro ki' vs' de' bu' th' ro' ha' : Nat → Int32} (h : VR bd n d pe da de bu ki vs th ha ro pe' da' ki' vs' de' bu' th' ro' ha') (hb : bd ≤ bd2) : VR bd2 n d pe da de bu ki vs th ha ro pe' da' ki' vs' de' bu' th' ro' ha' := by
  obtain ⟨⟨a, b, c⟩, h1, h2⟩ := h
  refine ⟨⟨a, by omega, c⟩, fun p hp => ?_, h2⟩
  obtain ⟨x1, x2, x3, x4, x5, t, x6, x7⟩ := h1 p hp
  exact ⟨x1, x2, x3, x4, x5, t, by omega, x7⟩
theorem ahead_loop {W : (Nat → Int32) → Int32} {N len need : Int32} {steps numbers : Nat → Int32} {holds : Int32} {clauses word number begins length code : Nat → Int32} (hC : PC W N len need steps numbers) (hM : PM W N holds clauses word number begins length code) {c n d : Nat} (hc : c ≤ 30000) (hd : d ≤ 20000) {pe da de pe' da' : Int32} {ki vs ro ki' vs' de' ro' : Nat → Int32} : ∀ (m k M : Nat) (bu : Int32) (th ha bu' th' ha' : Nat → Int32), k + m = n → M < 2 ^ n → VR (c + 1) n d pe da de bu ki vs th ha ro pe' da' ki' vs' de' bu' th' ro' ha' → TB n c M th' → ∃ (M2 : Nat) (bu2 : Int32) (th2 ha2 bu2' th2' ha2' : Nat → Int32), VR (c + 1) n d pe da de bu2 ki vs th2 ha2 ro pe' da' ki' vs' de' bu2' th2' ro' ha2' ∧ TB n c M2 th2' ∧ ∀ F, m < F → ∀ fa stack : Nat → Int32, ∃ fa2 st2, f_X6_goDay_4 (nI n) (nI d) de vs ki len need steps numbers ro (1000000 : Int32) F (nI M) (nI k) fa bu th ha = some (nI d + (1 : Int32), fa2, bu2, th2, ha2) ∧ f_X8_goesDay_4 (nI n) (nI d) holds de' clauses word begins length code ki' vs' number ro' F (nI M) (nI k) stack bu' th' ha' = some (nI d + (1 : Int32), st2, bu2', th2', ha2') := by
  intro m
  induction m with
  | zero =>
    intro k M bu th ha bu' th' ha' hk hMn hV hT
    refine ⟨M, bu, th, ha, bu', th', ha', hV, hT, fun F hF fa stack => ⟨fa, stack, ?_, ?_⟩⟩
    · obtain ⟨F, rfl⟩ : ∃ f, F = f + 1 := ⟨F - 1, by omega⟩
      have := hV.1.1
      unfold f_X6_goDay_4 f_X6_goDay_4_b
      rw [if_pos (by rw [n_le (by omega) (by omega)]; omega)]
    · obtain ⟨F, rfl⟩ : ∃ f, F = f + 1 := ⟨F - 1, by omega⟩
      have := hV.1.1
      unfold f_X8_goesDay_4 f_X8_goesDay_4_b
      rw [if_pos (by rw [n_le (by omega) (by omega)]; omega)]
  | succ m ih =>
    intro k M bu th ha bu' th' ha' hk hMn hV hT
    have hn := hV.1.1
    have hk6 : ¬ nI n ≤ nI k := by rw [n_le (by omega) (by omega)]; omega
    have p6 := pow6 hn
    obtain ⟨D, hD, eD, hD2⟩ := id hV.2.2.2.2.2.1
    obtain ⟨B, hB, eB, hB2⟩ := id hV.2.2.2.2.2.2
    have eb : f_X7_bit (de &&& (bu ^^^ (-1 : Int32))) (nI k) = some (if D.testBit k && !B.testBit k then 1 else 0) := by
      rw [eD, eB, b_not ⟨D, by omega⟩ ⟨B, by omega⟩]
      have h := b_at ⟨D &&& (63 ^^^ B), Nat.lt_of_le_of_lt Nat.and_le_left (by omega)⟩ ⟨k, by omega⟩
      rw [b_notT (by omega)] at h
      exact congrArg some h
    by_cases act : (D.testBit k && !B.testBit k) = true
    · obtain ⟨E, hE, hE1, hE2, hE3⟩ := enemies_eq hC hM hV (q := k) (by omega) hd
      have hdk : de' k = 1 := by
        rw [hD2 k (by omega), if_pos (by simp only [Bool.and_eq_true] at act; exact act.1)]
      have hbk : bu' k = 0 := by
        rw [hB2 k (by omega), if_neg (by simp only [Bool.and_eq_true, Bool.not_eq_true'] at act; rw [act.2]; exact Bool.false_ne_true)]
      have eY : nI E &&& (nI M ^^^ (-1 : Int32)) = nI (E &&& (63 ^^^ M)) := b_not ⟨E, by omega⟩ ⟨M, by omega⟩
      have hY6 : E &&& (63 ^^^ M) < 64 := Nat.lt_of_le_of_lt Nat.and_le_left (by omega)
      have eZ : f_J6_numberOfTrailingZeros_0f7a4 (nI (E &&& (63 ^^^ M))) = some (nI (ctz6 (E &&& (63 ^^^ M)))) := ntz6 ⟨E &&& (63 ^^^ M), hY6⟩
      by_cases hY : E &&& (63 ^^^ M) = 0
      · obtain ⟨M2, bu2, th2, ha2, bu2', th2', ha2', g1, g2, g3⟩ := ih (k + 1) M bu th ha bu' th' ha' (by omega) hMn hV hT
        refine ⟨M2, bu2, th2, ha2, bu2', th2', ha2', g1, g2, fun F hF fa stack => ?_⟩
        obtain ⟨F, rfl⟩ : ∃ f, F = f + 1 := ⟨F - 1, by omega⟩
        obtain ⟨fa1, st1, hx1, hm1⟩ := hE3 fa stack
        obtain ⟨fa2, st2, hx, hm⟩ := g3 F (by omega) fa1 st1
        rw [hY] at eY
        refine ⟨fa2, st2, ?_, ?_⟩
        · unfold f_X6_goDay_4 f_X6_goDay_4_b
          rw [if_neg hk6, eb, Option.bind_some, if_pos act, if_neg i_10, hx1, Option.bind_some, eY, first_0, Option.bind_some, has_no (x := (-1 : Int32)) (Or.inl (by decide)) hn, Option.bind_some, if_pos rfl, n_s]
          exact hx
        · unfold f_X8_goesDay_4 f_X8_goesDay_4_b
          rw [if_neg hk6, n_gd (by omega) (by omega), n_cl (by omega), hdk, if_neg i_10, n_gd (by omega) (by omega), hbk, if_neg (by decide), hm1, Option.bind_some]
          dsimp only [nm]
          rw [eY, if_pos (by rfl), n_s]
          exact hm
      · have hzz : ctz6 (E &&& (63 ^^^ M)) < 6 ∧ (E &&& (63 ^^^ M)).testBit (ctz6 (E &&& (63 ^^^ M))) = true := ctz6_is ⟨E &&& (63 ^^^ M), hY6⟩ hY
        obtain ⟨hz, hzt⟩ := hzz
        have eF : f_X7_firstOf (nI (E &&& (63 ^^^ M))) = some (nI (ctz6 (E &&& (63 ^^^ M)))) := first6 ⟨E &&& (63 ^^^ M), hY6⟩ hY
        generalize ctz6 (E &&& (63 ^^^ M)) = q at hz hzt eZ eF
        rw [b_notT hz, Bool.and_eq_true, Bool.not_eq_true'] at hzt
        have hqn : q < n := by
          apply Decidable.byContradiction
          intro h
          have := Nat.testBit_lt_two_pow (Nat.lt_of_lt_of_le hE (Nat.pow_le_pow_right (by omega) (by omega : n ≤ q)))
          rw [this] at hzt
          exact Bool.false_ne_true hzt.1
        have hqk : q ≠ k := fun e => by rw [e, hE1] at hzt; exact Bool.false_ne_true hzt.1
        obtain ⟨t, ht1, ht2⟩ := hT q hqn
        rw [hzt.2, if_neg Bool.false_ne_true] at ht1
        have hth : th q = nI t := by rw [(hV.2.1 q hqn).2.2.1, ht2]
        have hmn : f_J9_min_7cf53 (nI (t + 1)) (1000000 : Int32) = some (nI (t + 1)) := by
          have := min_is (x := t + 1) (c := 1000000) (by omega) (by omega)
          rw [Nat.min_eq_left (by omega)] at this
          exact this
        have hM6 : M < 64 := by omega
        have hor : nI M ||| ((1 : Int32) <<< (nI q &&& 31)) = nI (M ||| 2 ^ q) := b_or ⟨M, hM6⟩ ⟨q, hz⟩
        have hV2 := ((hV.throws hqn (x := t + 1) (by omega)).hate (p := q) (q := k) (k := 0) hqn (by omega) (by omega) (Or.inr rfl)).bury (k := k) (by omega)
        have hT2 : TB n c (M ||| 2 ^ q) (upd th' q (nI (t + 1))) := by
          intro p hp
          by_cases hpq : p = q
          · subst hpq
            rw [upd_at, Nat.testBit_or, Nat.testBit_two_pow, decide_eq_true rfl, Bool.or_true, if_pos rfl]
            exact ⟨t + 1, by omega, rfl⟩
          · rw [upd_ne hpq, Nat.testBit_or, Nat.testBit_two_pow, decide_eq_false (fun e => hpq e.symm), Bool.or_false]
            exact hT p hp
        obtain ⟨M2, bu2, th2, ha2, bu2', th2', ha2', g1, g2, g3⟩ := ih (k + 1) (M ||| 2 ^ q) _ _ _ _ (upd th' q (nI (t + 1))) _ (by omega) (Nat.or_lt_two_pow hMn (Nat.pow_lt_pow_right (by omega) hqn)) hV2 hT2
        refine ⟨M2, bu2, th2, ha2, bu2', th2', ha2', g1, g2, fun F hF fa stack => ?_⟩
        obtain ⟨F, rfl⟩ : ∃ f, F = f + 1 := ⟨F - 1, by omega⟩
        obtain ⟨fa1, st1, hx1, hm1⟩ := hE3 fa stack
        obtain ⟨fa2, st2, hx, hm⟩ := g3 F (by omega) fa1 st1
        refine ⟨fa2, st2, ?_, ?_⟩
        · unfold f_X6_goDay_4 f_X6_goDay_4_b
          rw [if_neg hk6, eb, Option.bind_some, if_pos act, if_neg i_10, hx1, Option.bind_some, eY, eF, Option.bind_some, has_yes hqn hn, Option.bind_some, if_neg i_10]
          dsimp only [nm]
          rw [n_gd (by omega) (by omega), n_cl (by omega), hth, n_s, hmn, Option.bind_some, n_gd (by omega) (by omega), setHate_yes hqn (by omega) hn, Option.bind_some, hor, n_s]
          exact hx
        · unfold f_X8_goesDay_4 f_X8_goesDay_4_b
          rw [if_neg hk6, n_gd (by omega) (by omega), n_cl (by omega), hdk, if_neg i_10, n_gd (by omega) (by omega), hbk, if_neg (by decide), hm1, Option.bind_some]
          dsimp only [nm]
          rw [eY, if_neg (eq_nay (c := 0) (by show ((E &&& (63 ^^^ M) : Nat) : Int) ≠ 0; omega) (by omega)), eZ, Option.bind_some, n_gd (by omega) (by omega), n_gd (by omega) (by omega), n_gd (by omega) (by omega), n_mulL, n_gd (by omega) (by omega), n_cl (show q < 2 ^ 31 by omega), n_cl (by omega), ht2, n_s, hor, n_s]
          exact hm
    · obtain ⟨M2, bu2, th2, ha2, bu2', th2', ha2', g1, g2, g3⟩ := ih (k + 1) M bu th ha bu' th' ha' (by omega) hMn hV hT
      refine ⟨M2, bu2, th2, ha2, bu2', th2', ha2', g1, g2, fun F hF fa stack => ?_⟩
      obtain ⟨F, rfl⟩ : ∃ f, F = f + 1 := ⟨F - 1, by omega⟩
      obtain ⟨fa2, st2, hx, hm⟩ := g3 F (by omega) fa stack
      refine ⟨fa2, st2, ?_, ?_⟩
      · unfold f_X6_goDay_4 f_X6_goDay_4_b
        rw [if_neg hk6, eb, Option.bind_some, if_neg act, if_pos rfl, n_s]
        exact hx
      · unfold f_X8_goesDay_4 f_X8_goesDay_4_b
        rw [if_neg hk6, n_gd (by omega) (by omega), n_cl (by omega), hD2 k (by omega)]
        cases h1 : D.testBit k with
        | false =>
          rw [if_neg Bool.false_ne_true, if_pos rfl, n_s]
          exact hm
        | true =>
          cases h2 : B.testBit k with
          | false =>
            rw [h1, h2] at act
            exact absurd rfl act
          | true =>
            rw [if_pos rfl, if_neg i_10, n_gd (by omega) (by omega), hB2 k (by omega), h2, if_pos rfl, if_pos rfl, n_s]
            exact hm
/-- one day ahead, of both sides, without a cap -/
theorem ahead_day {W : (Nat → Int32) → Int32} {N len need : Int32} {steps numbers : Nat → Int32} {holds : Int32} {clauses word number begins length code : Nat → Int32} (hC : PC W N len need steps numbers) (hM : PM W N holds clauses word number begins length code) {c n d : Nat} (hc : c ≤ 19000) (hd : d ≤ c) {pe de bu pe' : Int32} {ki vs th ha ro ki' vs' de' bu' th' ro' ha' : Nat → Int32} (hV : VR c n d pe (nI d) de bu ki vs th ha ro pe' (nI d) ki' vs' de' bu' th' ro' ha') : ∃ (bu2 : Int32) (th2 ha2 bu2' th2' ha2' : Nat → Int32), VR (c + 1) n (d + 1) pe (nI (d + 1)) de bu2 ki vs th2 ha2 ro pe' (nI (d + 1)) ki' vs' de' bu2' th2' ro' ha2' ∧ ∀ fa stack : Nat → Int32, ∃ fa2 st2, f_X6_goDay (nI n) (nI d) de bu ha vs ki fa len need steps numbers ro th (1000000 : Int32) = some (nI (d + 1), fa2, bu2, th2, ha2) ∧ f_X8_goesDay (nI n) (nI d) holds de' bu' ha' clauses word begins length stack code ki' vs' number ro' th' = some (nI (d + 1), st2, bu2', th2', ha2') := by
  have hT : TB n c 0 th' := fun p hp => by
    obtain ⟨-, -, -, -, -, t, h1, h2⟩ := hV.2.1 p hp
    exact ⟨t, by omega, h2⟩
  obtain ⟨M2, bu2, th2, ha2, bu2', th2', ha2', g1, -, g3⟩ := ahead_loop hC hM (c := c) (by omega) (d := d) (by omega) n 0 0 bu th ha bu' th' ha' (by omega) (Nat.two_pow_pos n) (hV.more (by omega)) hT
  refine ⟨bu2, th2, ha2, bu2', th2', ha2', g1.day (by omega), fun fa stack => ?_⟩
  obtain ⟨fa2, st2, hx, hm⟩ := g3 1000 (by have := hV.1.1; omega) fa stack
  rw [n_s] at hx hm
  exact ⟨fa2, st2, hx, hm⟩
