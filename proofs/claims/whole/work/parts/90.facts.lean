theorem VR.day {bd n d d2 : Nat} {pe da de bu pe' da' : Int32} {ki vs th ha ro ki' vs' de' bu' th' ro' ha' : Nat → Int32} (h : VR bd n d pe da de bu ki vs th ha ro pe' da' ki' vs' de' bu' th' ro' ha') (h2 : d2 ≤ bd) : VR bd n d2 pe (nI d2) de bu ki vs th ha ro pe' (nI d2) ki' vs' de' bu' th' ro' ha' := by
  obtain ⟨⟨a, b, c, e, f, g⟩, h1⟩ := h
  exact ⟨⟨a, h2, c, rfl, f, rfl⟩, h1⟩
theorem VR.thr {bd n d : Nat} {pe da de bu pe' da' : Int32} {ki vs th ha ro ki' vs' de' bu' th' ro' ha' t2 : Nat → Int32} (h : VR bd n d pe da de bu ki vs th ha ro pe' da' ki' vs' de' bu' th' ro' ha') (e : ∀ p, p < n → t2 p = th' p) : VR bd n d pe da de bu ki vs th ha ro pe' da' ki' vs' de' bu' t2 ro' ha' := by
  obtain ⟨h0, h1, h2⟩ := h
  refine ⟨h0, fun p hp => ?_, h2⟩
  rw [e p hp]
  exact h1 p hp
theorem pass_41 {n : Nat} (hn : n ≤ 6) (x2 day : Int32) (bu ha : Nat → Int32) : ∀ (m k : Nat) (th : Nat → Int32), k + m = n → (∀ p, p < n → ∃ t, t < 2 ^ 31 ∧ th p = nI t) → ∃ th2, (∀ p, p < k → th2 p = th p) ∧ (∀ p t, k ≤ p → p < n → t < 2 ^ 31 → th p = nI t → th2 p = nI (min t 9999)) ∧ ∀ (k30 : Int32 → Int32 → (Nat → Int32) → (Nat → Int32) → (Nat → Int32) → (Nat → Int32) → Option (Int32 × Int32 × (Nat → Int32) × (Nat → Int32) × (Nat → Int32) × (Nat → Int32))) (F : Nat), m < F → ∀ st, f_X8_pass_41 (nI n) k30 F x2 (nI k) day st bu th ha = k30 (x2 + (1 : Int32)) day st bu th2 ha := by
  intro m
  induction m with
  | zero =>
    intro k th hk _
    refine ⟨th, fun _ _ => rfl, fun p t h1 h2 => by omega, fun k30 F hF st => ?_⟩
    obtain ⟨F, rfl⟩ : ∃ f, F = f + 1 := ⟨F - 1, by omega⟩
    unfold f_X8_pass_41 f_X8_pass_41_b
    rw [if_pos (by rw [n_le (by omega) (by omega)]; omega)]
  | succ m ih =>
    intro k th hk ht
    obtain ⟨t, ht1, ht2⟩ := ht k (by omega)
    obtain ⟨th2, h1, h2, h3⟩ := ih (k + 1) (upd th k (nI (min t 9999))) (by omega) (fun p hp => by
      by_cases e : p = k
      · subst e; exact ⟨min t 9999, by omega, upd_at⟩
      · rw [upd_ne e]; exact ht p hp)
    refine ⟨th2, fun p hp => ?_, fun p u hp hp2 hu e => ?_, fun k30 F hF st => ?_⟩
    · rw [h1 p (by omega), upd_ne (by omega)]
    · by_cases ek : p = k
      · subst ek
        rw [h1 p (by omega), upd_at]
        rw [ht2, n_eq (by omega) (by omega)] at e
        rw [e]
      · exact h2 p u (by omega) hp2 hu (by rw [upd_ne ek]; exact e)
    · obtain ⟨F, rfl⟩ : ∃ f, F = f + 1 := ⟨F - 1, by omega⟩
      unfold f_X8_pass_41 f_X8_pass_41_b
      have hm : f_J9_min_7cf53 (9999 : Int32) (nI t) = some (nI (min t 9999)) := by
        rw [Nat.min_comm]
        exact min_is (x := 9999) (by omega) (by omega)
      rw [if_neg (by rw [n_le (by omega) (by omega)]; omega), n_gd (by omega) (by omega), n_cl (by omega), ht2, hm, Option.bind_some, n_gd (by omega) (by omega), n_s]
      exact h3 k30 F (by omega) st
theorem pass_loop {W : (Nat → Int32) → Int32} {N len need : Int32} {steps numbers : Nat → Int32} {holds : Int32} {clauses word number begins length code : Nat → Int32} (hC : PC W N len need steps numbers) (hM : PM W N holds clauses word number begins length code) {n j : Nat} (hj : j ≤ 60) {pe de pe' : Int32} {ki vs ro ki' vs' de' ro' : Nat → Int32} : ∀ (m k d : Nat) (bu : Int32) (th ha bu' th' ha' : Nat → Int32), k + m = j → d + m ≤ 9999 → VR 9999 n d pe (nI d) de bu ki vs th ha ro pe' (nI d) ki' vs' de' bu' th' ro' ha' → ∃ (d2 : Nat) (bu2 : Int32) (th2 ha2 bu2' th2' ha2' : Nat → Int32), VR 9999 n d2 pe (nI d2) de bu2 ki vs th2 ha2 ro pe' (nI d2) ki' vs' de' bu2' th2' ro' ha2' ∧ ∀ F, m < F → ∀ fa stack : Nat → Int32, ∃ fa2 st2, f_X7_pass_33 (nI n) de vs ki len need steps numbers ro (nI j) F (nI k) (nI d) fa bu th ha = some (nI d2, nI d2, fa2, bu2, th2, ha2) ∧ f_X8_pass_30 (nI n) holds de' clauses word begins length code ki' vs' number ro' (nI j) F (nI k) (nI d) stack bu' th' ha' = some (nI d2, nI d2, st2, bu2', th2', ha2') := by
  intro m
  induction m with
  | zero =>
    intro k d bu th ha bu' th' ha' hk hd hV
    refine ⟨d, bu, th, ha, bu', th', ha', hV, fun F hF fa stack => ⟨fa, stack, ?_, ?_⟩⟩
    · obtain ⟨F, rfl⟩ : ∃ f, F = f + 1 := ⟨F - 1, by omega⟩
      unfold f_X7_pass_33 f_X7_pass_33_b
      rw [if_pos (by rw [n_le (by omega) (by omega)]; omega)]
    · obtain ⟨F, rfl⟩ : ∃ f, F = f + 1 := ⟨F - 1, by omega⟩
      unfold f_X8_pass_30 f_X8_pass_30_b
      rw [if_pos (by rw [n_le (by omega) (by omega)]; omega)]
  | succ m ih =>
    intro k d bu th ha bu' th' ha' hk hd hV
    have hn := hV.1.1
    have hT : TH n 9999 0 th' th' := fun p hp => by
      obtain ⟨-, -, -, -, -, t, h1, h2⟩ := hV.2.1 p hp
      exact ⟨t, by omega, h2, by rw [h2, Nat.min_eq_left (by omega)]⟩
    obtain ⟨M2, bu1, th1, ha1, bu1', th1', tc1, ha1', g1, g2, g3⟩ := goDay_loop hC hM (c := 9999) (by omega) (d := d) (by omega) n 0 0 bu th ha bu' th' th' ha' (by omega) (Nat.two_pow_pos n) hV hT
    obtain ⟨th3, -, h2, h3⟩ := pass_41 hn (nI k) (nI (d + 1)) bu1' ha1' n 0 th1' (by omega) (fun p hp => by
      obtain ⟨t, e1, e2, e3⟩ := g2 p hp
      exact ⟨t, by split at e1 <;> omega, e2⟩)
    have hV3 := (g1.thr (t2 := th3) (fun p hp => by
      obtain ⟨t, e1, e2, e3⟩ := g2 p hp
      rw [h2 p t (by omega) hp (by split at e1 <;> omega) e2, e3])).day (d2 := d + 1) (by omega)
    obtain ⟨d2, bu2, th2, ha2, bu2', th2', ha2', r1, r2⟩ := ih (k + 1) (d + 1) bu1 th1 ha1 bu1' th3 ha1' (by omega) (by omega) hV3
    refine ⟨d2, bu2, th2, ha2, bu2', th2', ha2', r1, fun F hF fa stack => ?_⟩
    obtain ⟨F, rfl⟩ : ∃ f, F = f + 1 := ⟨F - 1, by omega⟩
    obtain ⟨fa1, st1, hx1, hm1⟩ := g3 1000 (by omega) fa stack
    obtain ⟨fa2, st2, hx, hm⟩ := r2 F (by omega) fa1 st1
    have hkj : ¬ nI j ≤ nI k := by rw [n_le (by omega) (by omega)]; omega
    rw [n_s] at hx1 hm1
    refine ⟨fa2, st2, ?_, ?_⟩
    · unfold f_X7_pass_33 f_X7_pass_33_b f_X6_goDay
      rw [if_neg hkj, show f_X6_goDay_4 (nI n) (nI d) de vs ki len need steps numbers ro (9999 : Int32) 1000 (0 : Int32) (0 : Int32) fa bu th ha = some (nI (d + 1), fa1, bu1, th1, ha1) from hx1, Option.bind_some, n_s]
      exact hx
    · unfold f_X8_pass_30 f_X8_pass_30_b f_X8_goesDay
      rw [if_neg hkj, show f_X8_goesDay_4 (nI n) (nI d) holds de' clauses word begins length code ki' vs' number ro' 1000 (0 : Int32) (0 : Int32) stack bu' th' ha' = some (nI (d + 1), st1, bu1', th1', ha1') from hm1, Option.bind_some]
      exact (h3 _ 1000 (by omega) st1).trans (by rw [n_s]; exact hm)
