theorem part_yes {z a k : Nat} (h : a + k ≤ z) (hz : z ≤ 60) : f_X4_hasPart (nI z) (nI a) (nI k) = some 1 := by
  unfold f_X4_hasPart
  have e : (nI z - nI k).toInt = (z : Int) - k := by
    rw [Int32.toInt_sub, n_toInt (by omega), n_toInt (by omega), Int.bmod_eq_of_le (by omega) (by omega)]
  rw [if_neg (n_not_neg (by omega)), if_neg (by rw [n_lt (by omega) (by omega)]; omega), if_neg (n_not_neg (by omega)), if_neg (by rw [n_ltT, e, n_toInt (by omega)]; omega)]
theorem part_no {z : Nat} {p k : Int32} (h : ¬ (0 ≤ k.toInt ∧ 0 ≤ p.toInt ∧ p.toInt + k.toInt ≤ z)) (hz : z ≤ 60) : f_X4_hasPart (nI z) p k = some 0 := by
  unfold f_X4_hasPart
  by_cases h1 : k < 0
  · rw [if_pos h1]
  · rw [if_neg h1]
    by_cases h2 : nI z < k
    · rw [if_pos h2]
    · rw [if_neg h2]
      by_cases h3 : p < 0
      · rw [if_pos h3]
      · rw [if_neg h3, if_pos]
        rw [n_ltT, i_t0] at h1 h3
        rw [n_ltT, n_toInt (by omega)] at h2
        rw [n_ltT, Int32.toInt_sub, n_toInt (by omega), Int.bmod_eq_of_le (by omega) (by omega)]
        omega
theorem w_sum (x y : Int32) (h0 : 0 ≤ x.toInt) (h1 : 0 ≤ y.toInt) : (x.toInt64 + y.toInt64).toInt = x.toInt + y.toInt := by
  have := Int32.toInt_lt x
  have := Int32.toInt_lt y
  rw [Int64.toInt_add, Int32.toInt_toInt64, Int32.toInt_toInt64, Int.bmod_eq_of_le (by omega) (by omega)]
theorem l_lt (x y : Int64) : (x < y) = (x.toInt < y.toInt) := propext Int64.lt_iff_toInt_lt
theorem l_le (x y : Int64) : (x ≤ y) = (x.toInt ≤ y.toInt) := propext Int64.le_iff_toInt_le
theorem n_604 {p a x : Nat} : (60 : Int32) * nI p + nI a + nI x = nI (60 * p + a + x) := by rw [n_60L, nI_add]
/-- what a shift leaves -/
def shifted (it : Nat → Int64) (s t k j : Nat) : Int64 := if t ≤ j ∧ j < t + k then it (s + (j - t)) else it j
theorem shift_170 {t u a b k : Nat} (ht : t < 6) (hu : u < 6) (ha : a + k ≤ 60) (hb : b + k ≤ 60) (hba : t = u → b ≤ a) (i0 : Nat → Int64) : ∀ (m x F : Nat) (it : Nat → Int64), x + m = k → m < F → (∀ j, it j = shifted i0 (60 * t + a) (60 * u + b) x j) → ∃ it', f_X8_shift_170 (nI t) (nI a) (nI u) (nI b) (nI k) F (nI x) it = some (nI k, it') ∧ ∀ j, it' j = shifted i0 (60 * t + a) (60 * u + b) k j := by
  intro m
  induction m with
  | zero =>
    intro x F it hx hF hi
    obtain ⟨F, rfl⟩ : ∃ f, F = f + 1 := ⟨F - 1, by omega⟩
    obtain rfl : x = k := by omega
    refine ⟨it, ?_, hi⟩
    show f_X8_shift_170_b _ _ _ _ _ _ (nI x) it = _
    unfold f_X8_shift_170_b
    rw [if_pos (by rw [n_le (by omega) (by omega)]; omega)]
  | succ m ih =>
    intro x F it hx hF hi
    obtain ⟨F, rfl⟩ : ∃ f, F = f + 1 := ⟨F - 1, by omega⟩
    have e : f_X8_shift_170 (nI t) (nI a) (nI u) (nI b) (nI k) (F + 1) (nI x) it = f_X8_shift_170 (nI t) (nI a) (nI u) (nI b) (nI k) F (nI (x + 1)) (vp_updL it (60 * u + b + x) (it (60 * t + a + x))) := by
      show f_X8_shift_170_b _ _ _ _ _ _ (nI x) it = _
      unfold f_X8_shift_170_b
      rw [if_neg (by rw [n_le (by omega) (by omega)]; omega), n_604, n_604, n_gd (by omega) (by omega), n_gd (by omega) (by omega), n_cl (by omega), n_cl (by omega), n_s]
    rw [e]
    refine ih (x + 1) F _ (by omega) (by omega) (fun j => ?_)
    have hr : it (60 * t + a + x) = i0 (60 * t + a + x) := by
      rw [hi]
      unfold shifted
      rw [if_neg]
      intro h
      have : t = u := by omega
      have := hba this
      omega
    by_cases ej : j = 60 * u + b + x
    · subst ej
      rw [updL_at, hr]
      unfold shifted
      rw [if_pos ⟨by omega, by omega⟩]
      congr 1
      omega
    · rw [updL_ne ej, hi]
      unfold shifted
      by_cases h : 60 * u + b ≤ j ∧ j < 60 * u + b + x
      · rw [if_pos h, if_pos ⟨by omega, by omega⟩]
      · rw [if_neg h, if_neg (by omega)]
theorem n_dec {x : Nat} : nI (x + 1) - (1 : Int32) = nI x := by rw [← n_s, n_s1]
theorem shift_124 {t a b k : Nat} (ht : t < 6) (ha : a + k ≤ 60) (hb : b + k ≤ 60) (hba : a < b) (i0 : Nat → Int64) : ∀ (x F : Nat) (it : Nat → Int64), x ≤ k → x < F → (∀ j, it j = if 60 * t + b + x ≤ j ∧ j < 60 * t + b + k then i0 (60 * t + a + (j - (60 * t + b))) else i0 j) → ∃ it', f_X8_shift_124 (nI t) (nI a) (nI t) (nI b) (nI k) F (nI x - (1 : Int32)) it = some (nI k, it') ∧ ∀ j, it' j = shifted i0 (60 * t + a) (60 * t + b) k j := by
  intro x
  induction x with
  | zero =>
    intro F it hx hF hi
    obtain ⟨F, rfl⟩ : ∃ f, F = f + 1 := ⟨F - 1, by omega⟩
    refine ⟨it, ?_, hi⟩
    show f_X8_shift_124_b _ _ _ _ _ _ (nI 0 - (1 : Int32)) it = _
    unfold f_X8_shift_124_b
    rw [if_pos (by decide)]
  | succ x ih =>
    intro F it hx hF hi
    obtain ⟨F, rfl⟩ : ∃ f, F = f + 1 := ⟨F - 1, by omega⟩
    have e : f_X8_shift_124 (nI t) (nI a) (nI t) (nI b) (nI k) (F + 1) (nI (x + 1) - (1 : Int32)) it = f_X8_shift_124 (nI t) (nI a) (nI t) (nI b) (nI k) F (nI x - (1 : Int32)) (vp_updL it (60 * t + b + x) (it (60 * t + a + x))) := by
      rw [n_dec]
      show f_X8_shift_124_b _ _ _ _ _ _ (nI x) it = _
      unfold f_X8_shift_124_b
      rw [if_neg (n_not_neg (by omega)), n_604, n_604, n_gd (by omega) (by omega), n_gd (by omega) (by omega), n_cl (by omega), n_cl (by omega), Int32.sub_eq_add_neg]
    rw [e]
    refine ih F _ (by omega) (by omega) (fun j => ?_)
    have hr : it (60 * t + a + x) = i0 (60 * t + a + x) := by
      rw [hi, if_neg (by omega)]
    by_cases ej : j = 60 * t + b + x
    · subst ej
      rw [updL_at, hr, if_pos ⟨by omega, by omega⟩]
      congr 1
      omega
    · rw [updL_ne ej, hi]
      by_cases h : 60 * t + b + (x + 1) ≤ j ∧ j < 60 * t + b + k
      · rw [if_pos h, if_pos ⟨by omega, by omega⟩]
      · rw [if_neg h, if_neg (by omega)]
theorem F_shift (G : Gx) (l : Launch) (A : Lx) : Fact_shift G l A (Inv A.2.2.1) := by
  intro S T hI p1 p2 p3 p4 p5
  obtain ⟨σ, φ, τ, nh, kh, ah⟩ := S
  obtain ⟨μ, α, ι⟩ := T
  obtain ⟨n, d, cnt, w, nd, hV, hl, hT, hH, hK, hX, hP, hA, hTp⟩ := hI
  have key : ∃ t u q q', t < 6 ∧ k_t6 p1.toNatClampNeg = t ∧ u < 6 ∧ k_t6 p3.toNatClampNeg = u ∧ f_X7_shift (σ (53 + 2 * t)) (σ (54 + 2 * t)) (σ (53 + 2 * u)) (σ (54 + 2 * u)) (τ t) (τ u) p1 p2 p3 p4 p5 = some q ∧ f_X8_shift (α 45) (α 46) ι p1 p2 p3 p4 p5 = some q' ∧ q'.1 = q.1 ∧ ITap σ (va_up τ u q.2) α q'.2 := by
    have same : ∀ u, ITap σ (va_up τ u (τ u)) α ι := by
      intro u
      rw [va_up_same]
      exact hTp
    rcases n_cases p1 6 (by omega) with ⟨t, ht, rfl⟩ | hp
    · rcases n_cases p3 6 (by omega) with ⟨u, hu, rfl⟩ | hq
      · refine ⟨t, u, ?_⟩
        have goal : ∃ q q', f_X7_shift (σ (53 + 2 * t)) (σ (54 + 2 * t)) (σ (53 + 2 * u)) (σ (54 + 2 * u)) (τ t) (τ u) (nI t) p2 (nI u) p4 p5 = some q ∧ f_X8_shift (α 45) (α 46) ι (nI t) p2 (nI u) p4 p5 = some q' ∧ q'.1 = q.1 ∧ ITap σ (va_up τ u q.2) α q'.2 := by
          obtain ⟨e1, e2, e3, ⟨z, hz, e4⟩, e5⟩ := hTp t ht
          obtain ⟨g1, g2, g3, ⟨y, hy, g4⟩, g5⟩ := hTp u hu
          unfold f_X7_shift f_X8_shift
          rw [isT7_yes ht, Option.bind_some, if_neg i_10, isT8_yes ht, Option.bind_some, if_neg i_10, isT7_yes hu, Option.bind_some, if_neg i_10, isT8_yes hu, Option.bind_some, if_neg i_10, e1, e2, g1, g2]
          simp only [n_gd ht (by omega : 6 < 2 ^ 31), n_cl (show t < 2 ^ 31 by omega), n_gd hu (by omega : 6 < 2 ^ 31), n_cl (show u < 2 ^ 31 by omega)]
          rcases e3 with ⟨e6, e7⟩ | ⟨s, hs, e6⟩
          · rw [e6, if_pos rfl, if_pos m1_neg]
            exact ⟨_, _, rfl, rfl, rfl, same u⟩
          · rw [e6, if_neg (nI_m1 (by omega)), if_neg (n_not_neg (by omega))]
            rcases g3 with ⟨g6, g7⟩ | ⟨r, hr, g6⟩
            · rw [g6, if_pos rfl, if_neg m1_nn]
              exact ⟨_, _, rfl, rfl, rfl, same u⟩
            · rw [g6, if_neg (nI_m1 (by omega)), if_pos (n_nneg (by omega))]
              by_cases hsr : nI s = nI r
              · rw [if_pos hsr, if_pos hsr, e4, g4]
                by_cases good : (0 ≤ p5.toInt ∧ 0 ≤ p2.toInt ∧ p2.toInt + p5.toInt ≤ z) ∧ (0 ≤ p5.toInt ∧ 0 ≤ p4.toInt ∧ p4.toInt + p5.toInt ≤ y)
                · obtain ⟨⟨c1, c2, c3⟩, -, c4, c5⟩ := good
                  obtain ⟨k, hk, rfl⟩ := n_of (x := p5) (m := 61) c1 (by omega) (by omega)
                  obtain ⟨a, ha, rfl⟩ := n_of (x := p2) (m := 61) c2 (by omega) (by omega)
                  obtain ⟨b, hb, rfl⟩ := n_of (x := p4) (m := 61) c4 (by omega) (by omega)
                  have hab := c3
                  have hbb := c5
                  rw [n_toInt (by omega), n_toInt (by omega)] at hab hbb
                  rw [part_yes (by omega) hz, Option.bind_some, if_neg i_10, part_yes (by omega) hy, Option.bind_some, if_neg i_10]
                  have hg : ∀ {β : Type} {X : Option β}, gcp (nI a) (nI b) (nI k) 60 60 X = X := by
                    intro β X
                    unfold gcp
                    rw [if_neg]
                    rw [n_cl (by omega), n_cl (by omega), n_cl (by omega)]
                    rintro ((h | h | h) | h | h)
                    · exact n_not_neg (by omega) h
                    · exact n_not_neg (by omega) h
                    · exact n_not_neg (by omega) h
                    · omega
                    · omega
                  rw [hg, n_cl (by omega), n_cl (by omega), n_cl (by omega)]
                  have fin : ∀ it', (∀ j, it' j = shifted ι (60 * t + a) (60 * u + b) k j) → ITap σ (va_up τ u (va_cpy (τ t) (τ u) a b k)) α it' := by
                    intro it' hit
                    refine hTp.put hu (fun i hi => ?_) (fun v i hv hne hi => ?_)
                    · rw [hit]
                      unfold shifted
                      by_cases h : b ≤ i ∧ i < b + k
                      · rw [pk_cpy_in h.1 h.2, if_pos ⟨by omega, by omega⟩, e5 _ (by omega)]
                        congr 1
                        omega
                      · rw [pk_cpy_out (by omega), if_neg (by omega)]
                        exact g5 i hi
                    · rw [hit]
                      unfold shifted
                      rw [if_neg (by omega)]
                  rw [if_neg (n_not_neg (by omega)), if_neg (n_not_neg (by omega)), if_neg (n_not_neg (by omega)), if_neg (by rw [lg_cmp_gt, l_lt, w_sum _ _ c2 c1, Int32.toInt_toInt64, n_toInt (show z < 2 ^ 31 by omega)]; omega), if_pos (by rw [lg_cmp_le, l_le, w_sum _ _ c4 c1, Int32.toInt_toInt64, n_toInt (show y < 2 ^ 31 by omega)]; omega)]
                  have up : (t = u → b ≤ a) → ∃ it', f_X8_shift_170 (nI t) (nI a) (nI u) (nI b) (nI k) 1000 (0 : Int32) ι = some (nI k, it') ∧ ∀ j, it' j = shifted ι (60 * t + a) (60 * u + b) k j := fun h =>
                    shift_170 ht hu (by omega) (by omega) h ι k 0 1000 ι (by omega) (by omega) (fun j => by unfold shifted; rw [if_neg (by omega)])
                  by_cases htu : t = u
                  · subst htu
                    rw [if_pos rfl]
                    by_cases hba : b ≤ a
                    · rw [if_pos (by rw [n_le (by omega) (by omega)]; exact hba)]
                      obtain ⟨it', h1, h2⟩ := up (fun _ => hba)
                      exact ⟨_, _, rfl, h1, rfl, fin it' h2⟩
                    · rw [if_neg (by rw [n_le (by omega) (by omega)]; exact hba)]
                      obtain ⟨it', h1, h2⟩ := shift_124 ht (a := a) (b := b) (k := k) (by omega) (by omega) (by omega) ι k 1000 ι (by omega) (by omega) (fun j => by rw [if_neg (by omega)])
                      exact ⟨_, _, rfl, h1, rfl, fin it' h2⟩
                  · rw [if_neg (by rw [n_eq (by omega) (by omega)]; exact htu)]
                    obtain ⟨it', h1, h2⟩ := up (fun h => absurd h htu)
                    exact ⟨_, _, rfl, h1, rfl, fin it' h2⟩
                · have hx : ∃ c, (f_X4_hasPart (nI z) p2 p5).bind (fun q3 => if q3 = 0 then some ((-13 : Int32), τ u) else (f_X4_hasPart (nI y) p4 p5).bind fun q4 => if q4 = 0 then some ((-13 : Int32), τ u) else gcp p2 p4 p5 60 60 (some (p5, va_cpy (τ t) (τ u) p2.toNatClampNeg p4.toNatClampNeg p5.toNatClampNeg))) = some c ∧ c = (-13, τ u) := by
                    by_cases h : 0 ≤ p5.toInt ∧ 0 ≤ p2.toInt ∧ p2.toInt + p5.toInt ≤ z
                    · obtain ⟨c1, c2, c3⟩ := h
                      have h2 : ¬ (0 ≤ p5.toInt ∧ 0 ≤ p4.toInt ∧ p4.toInt + p5.toInt ≤ y) := fun h => good ⟨⟨c1, c2, c3⟩, h⟩
                      rw [part_no h2 hy]
                      obtain ⟨k, hk, rfl⟩ := n_of (x := p5) (m := 61) c1 (by omega) (by omega)
                      obtain ⟨a, ha, rfl⟩ := n_of (x := p2) (m := 61) c2 (by omega) (by omega)
                      rw [n_toInt (by omega), n_toInt (by omega)] at c3
                      rw [part_yes (by omega) hz, Option.bind_some, if_neg i_10, Option.bind_some, if_pos rfl]
                      exact ⟨_, rfl, rfl⟩
                    · rw [part_no h hz, Option.bind_some, if_pos rfl]
                      exact ⟨_, rfl, rfl⟩
                  obtain ⟨c, hc, rfl⟩ := hx
                  refine ⟨_, (-13, ι), hc, ?_, rfl, same u⟩
                  split
                  · rfl
                  · rename_i h5
                    split
                    · rfl
                    · rename_i h2
                      split
                      · rfl
                      · rename_i h4
                        rw [n_ltT, i_t0] at h5 h2 h4
                        split
                        · rfl
                        · rename_i h6
                          rw [lg_cmp_gt, l_lt, w_sum _ _ (by omega) (by omega), Int32.toInt_toInt64, n_toInt (show z < 2 ^ 31 by omega)] at h6
                          rw [if_neg]
                          rw [lg_cmp_le, l_le, w_sum _ _ (by omega) (by omega), Int32.toInt_toInt64, n_toInt (show y < 2 ^ 31 by omega)]
                          intro h7
                          exact good ⟨⟨by omega, by omega, by omega⟩, by omega, by omega, by omega⟩
              · rw [if_neg hsr, if_neg hsr]
                exact ⟨_, _, rfl, rfl, rfl, same u⟩
        obtain ⟨q, q', h1, h2, h3⟩ := goal
        exact ⟨q, q', ht, k_t6_of ht, hu, k_t6_of hu, h1, h2, h3⟩
      · refine ⟨t, k_t6 p3.toNatClampNeg, (-1, τ (k_t6 p3.toNatClampNeg)), (-1, ι), ht, k_t6_of ht, k_t6_lt _, rfl, ?_, ?_, rfl, same _⟩
        · unfold f_X7_shift
          rw [isT7_yes ht, Option.bind_some, if_neg i_10, isT7_no hq, Option.bind_some, if_pos rfl]
        · unfold f_X8_shift
          rw [isT8_yes ht, Option.bind_some, if_neg i_10, isT8_no hq, Option.bind_some, if_pos rfl]
    · refine ⟨k_t6 p1.toNatClampNeg, k_t6 p3.toNatClampNeg, (-1, τ (k_t6 p3.toNatClampNeg)), (-1, ι), k_t6_lt _, rfl, k_t6_lt _, rfl, ?_, ?_, rfl, same _⟩
      · unfold f_X7_shift
        rw [isT7_no hp, Option.bind_some, if_pos rfl]
      · unfold f_X8_shift
        rw [isT8_no hp, Option.bind_some, if_pos rfl]
  obtain ⟨t, u, q, q', ht, hk, hu, hk2, hx, hm, e, hN⟩ := key
  refine ⟨q.1, (σ, φ, va_up τ u q.2, nh, kh, ah), (μ, α, q'.2), LX_shift _ _ _ _ _ _ _ _ _ _ _ _ _ _ _ _ _ _ t ht hk u hu hk2 hx, e ▸ L_M_shift _ _ _ _ _ _ _ _ _ _ _ _ _ hm, ?_⟩
  exact ⟨n, d, cnt, w, nd, hV, hl, hT, hH, hK, hX, hP, hA, hN⟩
