theorem fraction_eq {s n t : Nat} (hs : s < 2 ^ 31) (hn : n ≤ 60) (h0 : n ≠ 0) (ht : t ≤ 1) : ∃ v, f_X7_fraction (nI s) (nI n) (nI t) = some v ∧ f_X8_part (nI s) (nI n) (nI t) = some v := by
  have hg : 0 < Nat.gcd s n := Nat.gcd_pos_of_pos_right s (by omega)
  have hg2 : Nat.gcd s n ≤ n := Nat.gcd_le_right s (by omega)
  have hz : ¬ nI (Nat.gcd s n) = (0 : Int32) := eq_nay (c := 0) (by show ((Nat.gcd s n : Nat) : Int) ≠ 0; omega) (by omega)
  have hp : (0 : Int32) < nI (Nat.gcd s n) := by rw [n_ltT, n_toInt (by omega)]; show (0 : Int) < _; omega
  have e1 : f_X7_common (nI s) (nI n) = some (nI (Nat.gcd s n)) := common_loop n s 0 1000 hs (by omega) (by omega) (by omega)
  have e2 := part_loop (nI s) (nI n) (nI t) n s 1000 hs (by omega) (by omega)
  unfold f_X7_fraction f_X8_part
  rw [if_neg (le_nay (c := 0) (by show (0 : Int) < n; omega) (by omega)), if_neg (n_not_neg (by omega)), if_pos (le_yes (c := 1) (by show (t : Int) ≤ 1; omega) (by omega)), e1, Option.bind_some, if_pos hp, e2]
  unfold gz
  rw [if_neg hz, if_neg hz]
  split
  · exact ⟨_, rfl, rfl⟩
  · exact ⟨_, rfl, rfl⟩
theorem sm_nat {f : Nat → Int32} (h : ∀ j, j < 36 → ∃ k, k ≤ 99 ∧ f j = nI k) : ∀ k, k ≤ 36 → ∃ s, s ≤ 99 * k ∧ sm f k = nI s := by
  intro k
  induction k with
  | zero => intro _; exact ⟨0, by omega, rfl⟩
  | succ k ih =>
    intro hk
    obtain ⟨s, h1, h2⟩ := ih (by omega)
    obtain ⟨x, h3, h4⟩ := h k (by omega)
    refine ⟨s + x, by omega, ?_⟩
    show sm f k + f k = _
    rw [h2, h4, nI_add]
theorem allHate_nat {bd n d : Nat} {pe da de bu pe' da' : Int32} {ki vs th ha ro ki' vs' de' bu' th' ro' ha' : Nat → Int32} (h : VR bd n d pe da de bu ki vs th ha ro pe' da' ki' vs' de' bu' th' ro' ha') : ∃ s, s ≤ 3564 ∧ f_X6_allHate ha = some (nI s) ∧ f_X8_allHate (nI n) ha' = some (nI s) := by
  obtain ⟨⟨hn, -⟩, -, -, -, ⟨h5, h6⟩, -⟩ := h
  obtain ⟨s, h1, h2⟩ := sm_nat (f := ha) (fun j hj => by
    by_cases e : j / 6 < n ∧ j % 6 < n
    · obtain ⟨a, ⟨x, b, c⟩, -⟩ := h5 (j / 6) (j % 6) e.1 e.2
      rw [show 6 * (j / 6) + j % 6 = j by omega] at a c
      exact ⟨x, b, a.trans c⟩
    · have := h6 (j / 6) (j % 6) (by omega) (by omega) e
      rw [show 6 * (j / 6) + j % 6 = j by omega] at this
      exact ⟨0, by omega, this⟩) 36 (by omega)
  refine ⟨s, by omega, ?_, ?_⟩
  · rw [← h2]
    exact allHate7 ha 36 0 1000 (by omega) (by omega)
  · rw [← h2]
    exact allHate_4 hn (fun p q hp hq => (h5 p q hp hq).1) (fun p hp => (h5 p p hp hp).2.2 rfl) h6 n 0 1000 (by omega) (by omega)
theorem F_mean (G : Gx) (l : Launch) (A : Lx) : Fact_mean G l A (Inv A.2.2.1) := by
  intro S T hI p1
  obtain ⟨σ, φ, τ, nh, kh, ah⟩ := S
  obtain ⟨μ, α, ι⟩ := T
  have hI2 := hI
  obtain ⟨n, d, cnt, w, nd, hV, hl, hT, hH, hK, hX, hP, hA, hTp⟩ := hI
  have key : ∃ r, f_X7_mean (σ 2) (φ 3) p1 = some r ∧ f_X8_mean (μ 0) (α 7) p1 = some r := by
    obtain ⟨s, hs, e1, e2⟩ := allHate_nat hV
    obtain ⟨⟨hn, hd, a2, a3, m0, m8⟩, -⟩ := hV
    unfold f_X7_mean f_X8_mean
    rw [a2, m0, e1, Option.bind_some]
    rcases n_cases p1 2 (by omega) with ⟨t, ht, rfl⟩ | h
    · rw [wi_yes (c := 1) (by show (t : Int) ≤ 1; omega) (by omega), Option.bind_some, if_neg i_10]
      by_cases h0 : n = 0
      · subst h0
        rw [if_pos (show nI 0 = (0 : Int32) from rfl)]
        exact ⟨_, rfl, rfl⟩
      · obtain ⟨v, f1, f2⟩ := fraction_eq (s := s) (n := n) (t := t) (by omega) (by omega) h0 (by omega)
        rw [if_neg (eq_nay (c := 0) (by show (n : Int) ≠ 0; omega) (by omega)), e2, Option.bind_some, f1, f2]
        exact ⟨_, rfl, rfl⟩
    · rw [within_no (by show p1.toInt < 0 ∨ (1 : Int) < p1.toInt; omega), Option.bind_some, if_pos rfl]
      unfold f_X7_fraction
      rw [le_no (c := 1) (by show p1.toInt < 0 ∨ (1 : Int) < p1.toInt; omega)]
      split
      · exact ⟨_, rfl, rfl⟩
      · exact ⟨_, rfl, rfl⟩
  obtain ⟨r, hx, hm⟩ := key
  exact ⟨r, (σ, φ, τ, nh, kh, ah), (μ, α, ι), L_X_mean _ _ _ _ _ _ _ _ _ _ _ _ _ _ hx, L_M_mean _ _ _ _ _ _ _ _ _ hm, hI2⟩
