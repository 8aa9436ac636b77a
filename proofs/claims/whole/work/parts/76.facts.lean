theorem isT7_yes {t : Nat} (h : t < 6) : f_X7_isTape (nI t) = some 1 := by
  unfold f_X7_isTape
  rw [if_neg (n_not_neg (by omega)), if_neg (by rw [n_leT, n_toInt (by omega)]; show ¬ (6 : Int) ≤ t; omega)]
theorem isT7_no {x : Int32} (h : x.toInt < 0 ∨ (6 : Int) ≤ x.toInt) : f_X7_isTape x = some 0 := by
  unfold f_X7_isTape
  by_cases h0 : x < 0
  · rw [if_pos h0]
  · rw [if_neg h0, if_pos]
    rw [n_ltT] at h0
    rw [n_leT]
    have := i_t0
    show (6 : Int) ≤ _
    omega
theorem isT8_yes {t : Nat} (h : t < 6) : f_X8_isTape (nI t) = some 1 := by
  unfold f_X8_isTape
  rw [wi_yes (c := 5) (by show (t : Int) ≤ 5; omega) (by omega)]
  exact gn_b1
theorem isT8_no {x : Int32} (h : x.toInt < 0 ∨ (6 : Int) ≤ x.toInt) : f_X8_isTape x = some 0 := by
  unfold f_X8_isTape
  rw [within_no (by show x.toInt < 0 ∨ (5 : Int) < x.toInt; omega)]
  exact gn_b0
theorem has4_yes {z j : Nat} (h : j < z) (hz : z ≤ 60) : f_X4_has (nI z) (nI j) = some 1 := by
  unfold f_X4_has
  rw [if_neg (n_not_neg (by omega)), if_neg (by rw [n_le (by omega) (by omega)]; omega)]
theorem has4_no {z : Nat} {x : Int32} (h : x.toInt < 0 ∨ (z : Int) ≤ x.toInt) (hz : z ≤ 60) : f_X4_has (nI z) x = some 0 := by
  unfold f_X4_has
  by_cases h0 : x < 0
  · rw [if_pos h0]
  · rw [if_neg h0, if_pos]
    rw [n_ltT] at h0
    rw [n_leT, n_toInt (by omega)]
    have := i_t0
    omega
theorem has4_0 {x : Int32} : f_X4_has (0 : Int32) x = some 0 := has4_no (z := 0) (by omega) (by omega)
theorem k_t6_own {t : Nat} (h : t < 6) : k_t6 t = t := if_pos h
theorem n_60L {p q : Nat} : (60 : Int32) * nI p + nI q = nI (60 * p + q) := by rw [show (60 : Int32) = nI 60 from rfl, pk_mul, nI_add]
theorem wi_z {z j : Nat} (h : j < z) (hz : z ≤ 60) : f_X8_within (nI j) (0 : Int32) (nI z - (1 : Int32)) = some 1 := within_yes (by rw [n_toInt (by omega)]; show (0 : Int) ≤ j; omega) (by rw [n_toInt (by omega), n_m1 (by omega)]; omega)
theorem wi_zno {z : Nat} {x : Int32} (h : x.toInt < 0 ∨ (z : Int) ≤ x.toInt) (hz : z ≤ 60) : f_X8_within x (0 : Int32) (nI z - (1 : Int32)) = some 0 := within_no (by rw [n_m1 (by omega)]; show x.toInt < 0 ∨ _; omega)
theorem n_nneg {s : Nat} (h : s < 2 ^ 31) : (0 : Int32) ≤ nI s := by rw [n_leT, n_toInt h]; show (0 : Int) ≤ s; omega
theorem m1_neg : (-1 : Int32) < 0 := by decide
theorem m1_nn : ¬ (0 : Int32) ≤ -1 := by decide
theorem F_read (G : Gx) (l : Launch) (A : Lx) : Fact_read G l A (Inv A.2.2.1) := by
  intro S T hI p1 p2
  obtain ⟨σ, φ, τ, nh, kh, ah⟩ := S
  obtain ⟨μ, α, ι⟩ := T
  have hI2 := hI
  obtain ⟨n, d, cnt, w, nd, hV, hl, hT, hH, hK, hX, hP, hA, hTp⟩ := hI
  have key : ∃ t r, t < 6 ∧ k_t6 p1.toNatClampNeg = t ∧ f_X7_read (σ (54 + 2 * t)) (τ t) p1 p2 = some r ∧ f_X8_read (α 45) (α 46) ι p1 p2 = some r := by
    rcases n_cases p1 6 (by omega) with ⟨t, ht, rfl⟩ | hp
    · obtain ⟨e1, e2, e3, ⟨z, hz, e4⟩, e5⟩ := hTp t ht
      refine ⟨t, ?_⟩
      unfold f_X7_read f_X8_read
      rw [isT7_yes ht, Option.bind_some, if_neg i_10, isT8_yes ht, Option.bind_some, if_neg i_10, e2]
      simp only [n_gd ht (by omega : 6 < 2 ^ 31), n_cl (show t < 2 ^ 31 by omega)]
      rcases e3 with ⟨e6, e7⟩ | ⟨s, hs, e6⟩
      · rw [e6, e7, if_pos m1_neg, has4_0, Option.bind_some, if_pos rfl]
        exact ⟨_, ht, k_t6_own ht, rfl, rfl⟩
      · rw [e6, e4, if_neg (n_not_neg (by omega))]
        rcases n_cases p2 z (by omega) with ⟨j, hj, rfl⟩ | hj
        · rw [has4_yes hj hz, Option.bind_some, if_neg i_10, wi_z hj hz, Option.bind_some, if_neg i_10, n_gd (by omega) (by omega), n_60L, n_gd (by omega) (by omega), n_cl (by omega), n_cl (by omega), e5 j (by omega)]
          exact ⟨_, ht, k_t6_own ht, rfl, rfl⟩
        · rw [has4_no hj hz, Option.bind_some, if_pos rfl, wi_zno hj hz, Option.bind_some, if_pos rfl]
          exact ⟨_, ht, k_t6_own ht, rfl, rfl⟩
    · refine ⟨k_t6 p1.toNatClampNeg, -9223372036854775808, k_t6_lt _, rfl, ?_, ?_⟩
      · unfold f_X7_read
        rw [isT7_no hp, Option.bind_some, if_pos rfl]
      · unfold f_X8_read
        rw [isT8_no hp, Option.bind_some, if_pos rfl]
  obtain ⟨t, r, ht, hk, hx, hm⟩ := key
  exact ⟨r, (σ, φ, τ, nh, kh, ah), (μ, α, ι), LX_read _ _ _ _ _ _ _ _ _ _ _ _ _ _ _ t ht hk hx, L_M_read _ _ _ _ _ _ _ _ _ _ hm, hI2⟩
theorem ITap.set {σ σ' : Nat → Int32} {τ : Nat → Nat → Int64} {α α' : Nat → Nat → Int32} {ι : Nat → Int64} (h : ITap σ τ α ι) {t : Nat} (ht : t < 6) {s z : Int32} {f g : Nat → Int64} (hs : (s = -1 ∧ z = 0) ∨ ∃ k, k ≤ 4 ∧ s = nI k) (hz : ∃ y, y ≤ 60 ∧ z = nI y) (hf : ∀ i, i < 60 → f i = g (60 * t + i)) (hg : ∀ u i, u < 6 → u ≠ t → i < 60 → g (60 * u + i) = ι (60 * u + i)) (s1 : σ' (53 + 2 * t) = s) (s2 : σ' (54 + 2 * t) = z) (s3 : ∀ u, u ≠ t → σ' (53 + 2 * u) = σ (53 + 2 * u) ∧ σ' (54 + 2 * u) = σ (54 + 2 * u)) (a1 : α' 45 t = s) (a2 : α' 46 t = z) (a3 : ∀ u, u ≠ t → α' 45 u = α 45 u ∧ α' 46 u = α 46 u) : ITap σ' (va_up τ t f) α' g := by
  intro u hu
  by_cases e : u = t
  · subst e
    rw [s1, s2, a1, a2, vup_at]
    exact ⟨rfl, rfl, hs, hz, hf⟩
  · rw [(s3 u e).1, (s3 u e).2, (a3 u e).1, (a3 u e).2, vup_ne e]
    obtain ⟨b1, b2, b3, b4, b5⟩ := h u hu
    exact ⟨b1, b2, b3, b4, fun i hi => by rw [hg u i hu e hi]; exact b5 i hi⟩
theorem ITap.put {σ : Nat → Int32} {τ : Nat → Nat → Int64} {α : Nat → Nat → Int32} {ι : Nat → Int64} (h : ITap σ τ α ι) {t : Nat} (ht : t < 6) {f g : Nat → Int64} (hf : ∀ i, i < 60 → f i = g (60 * t + i)) (hg : ∀ u i, u < 6 → u ≠ t → i < 60 → g (60 * u + i) = ι (60 * u + i)) : ITap σ (va_up τ t f) α g := by
  obtain ⟨b1, b2, b3, b4, b5⟩ := h t ht
  exact h.set ht b3 b4 hf hg b1 b2 (fun _ _ => ⟨rfl, rfl⟩) rfl rfl (fun _ _ => ⟨rfl, rfl⟩)
theorem cut_kept {s : Nat} (hs : s ≤ 4) (v : Int64) : f_X4_cut (nI s) v = f_X8_kept (nI s) v := by
  have h : s = 0 ∨ s = 1 ∨ s = 2 ∨ s = 3 ∨ s = 4 := by omega
  rcases h with rfl | rfl | rfl | rfl | rfl <;> rfl
theorem kept_some (s : Int32) (v : Int64) : ∃ r, f_X8_kept s v = some r := by
  unfold f_X8_kept
  repeat' split
  all_goals exact ⟨_, rfl⟩
theorem updL_at {f : Nat → Int64} {i : Nat} {v : Int64} : vp_updL f i v i = v := if_pos rfl
theorem updL_ne {f : Nat → Int64} {i j : Nat} {v : Int64} (h : j ≠ i) : vp_updL f i v j = f j := if_neg h
theorem F_item (G : Gx) (l : Launch) (A : Lx) : Fact_item G l A (Inv A.2.2.1) := by
  intro S T hI p1 p2 p3
  obtain ⟨σ, φ, τ, nh, kh, ah⟩ := S
  obtain ⟨μ, α, ι⟩ := T
  obtain ⟨n, d, cnt, w, nd, hV, hl, hT, hH, hK, hX, hP, hA, hTp⟩ := hI
  have key : ∃ t q q', t < 6 ∧ k_t6 p1.toNatClampNeg = t ∧ f_X7_item (σ (53 + 2 * t)) (σ (54 + 2 * t)) (τ t) p1 p2 p3 = some q ∧ f_X8_item (α 45) (α 46) ι p1 p2 p3 = some q' ∧ q'.1 = q.1 ∧ ITap σ (va_up τ t q.2) α q'.2 := by
    rcases n_cases p1 6 (by omega) with ⟨t, ht, rfl⟩ | hp
    · obtain ⟨e1, e2, e3, ⟨z, hz, e4⟩, e5⟩ := hTp t ht
      refine ⟨t, ?_⟩
      have same : ITap σ (va_up τ t (τ t)) α ι := hTp.put ht e5 (fun _ _ _ _ _ => rfl)
      unfold f_X7_item f_X8_item
      rw [isT7_yes ht, Option.bind_some, if_neg i_10, isT8_yes ht, Option.bind_some, if_neg i_10, e1, e2]
      simp only [n_gd ht (by omega : 6 < 2 ^ 31), n_cl (show t < 2 ^ 31 by omega)]
      rcases e3 with ⟨e6, e7⟩ | ⟨s, hs, e6⟩
      · rw [e6, if_pos rfl, if_neg m1_nn]
        exact ⟨_, _, ht, k_t6_own ht, rfl, rfl, rfl, same⟩
      · rw [e6, e4, if_neg (nI_m1 (by omega)), if_pos (n_nneg (by omega))]
        rcases n_cases p2 z (by omega) with ⟨j, hj, rfl⟩ | hj
        · obtain ⟨r, hr⟩ := kept_some (nI s) p3
          rw [has4_yes hj hz, Option.bind_some, if_neg i_10, wi_z hj hz, Option.bind_some, if_neg i_10, cut_kept hs, hr, Option.bind_some, Option.bind_some, n_gd (by omega) (by omega), n_60L, n_gd (by omega) (by omega), n_cl (by omega), n_cl (by omega)]
          refine ⟨_, _, ht, k_t6_own ht, rfl, rfl, rfl, hTp.put ht (fun i hi => ?_) (fun u i hu hne hi => updL_ne (by omega))⟩
          show vp_updL (τ t) j r i = vp_updL ι (60 * t + j) r (60 * t + i)
          by_cases e : i = j
          · rw [e, updL_at, updL_at]
          · rw [updL_ne e, updL_ne (by omega)]
            exact e5 i hi
        · rw [has4_no hj hz, Option.bind_some, if_pos rfl, wi_zno hj hz, Option.bind_some, if_pos rfl]
          exact ⟨_, _, ht, k_t6_own ht, rfl, rfl, rfl, same⟩
    · refine ⟨k_t6 p1.toNatClampNeg, (-1, τ (k_t6 p1.toNatClampNeg)), (-1, ι), k_t6_lt _, rfl, ?_, ?_, rfl, ?_⟩
      · unfold f_X7_item
        rw [isT7_no hp, Option.bind_some, if_pos rfl]
      · unfold f_X8_item
        rw [isT8_no hp, Option.bind_some, if_pos rfl]
      · exact hTp.put (k_t6_lt _) (hTp _ (k_t6_lt _)).2.2.2.2 (fun _ _ _ _ _ => rfl)
  obtain ⟨t, q, q', ht, hk, hx, hm, e, hN⟩ := key
  refine ⟨q.1, (σ, φ, va_up τ t q.2, nh, kh, ah), (μ, α, q'.2), LX_item _ _ _ _ _ _ _ _ _ _ _ _ _ _ _ _ t ht hk hx, e ▸ L_M_item _ _ _ _ _ _ _ _ _ _ _ hm, ?_⟩
  exact ⟨n, d, cnt, w, nd, hV, hl, hT, hH, hK, hX, hP, hA, hN⟩
theorem become_21 : ∀ (m k F : Nat) (s z : Int32) (it : Nat → Int64), k + m = 60 → m < F → ∃ it', f_X4_become_21 F (nI k) s z it = some (s, z, it') ∧ (∀ i, i < k → it' i = it i) ∧ (∀ i, k ≤ i → i < 60 → it' i = 0) := by
  intro m
  induction m with
  | zero =>
    intro k F s z it hk hF
    obtain ⟨F, rfl⟩ : ∃ f, F = f + 1 := ⟨F - 1, by omega⟩
    refine ⟨it, ?_, fun _ _ => rfl, fun i _ _ => by omega⟩
    show f_X4_become_21_b _ (nI k) s z it = _
    unfold f_X4_become_21_b
    rw [if_pos (by rw [n_leT, n_toInt (by omega)]; show (60 : Int) ≤ k; omega)]
  | succ m ih =>
    intro k F s z it hk hF
    obtain ⟨F, rfl⟩ : ∃ f, F = f + 1 := ⟨F - 1, by omega⟩
    obtain ⟨it', h1, h2, h3⟩ := ih (k + 1) F s z (vp_updL it k 0) (by omega) (by omega)
    refine ⟨it', ?_, fun i hi => ?_, fun i hi hi2 => ?_⟩
    · show f_X4_become_21_b _ (nI k) s z it = _
      unfold f_X4_become_21_b
      rw [if_neg (by rw [n_leT, n_toInt (by omega)]; show ¬ (60 : Int) ≤ k; omega), n_gd (by omega) (by omega), n_cl (by omega), n_s]
      exact h1
    · rw [h2 i (by omega), updL_ne (by omega)]
    · by_cases e : i = k
      · subst e
        rw [h2 i (by omega), updL_at]
      · exact h3 i (by omega) hi2
theorem tape_67 {t : Nat} (ht : t < 6) : ∀ (m k F : Nat) (s z : Nat → Int32) (it : Nat → Int64), k + m = 60 → m < F → ∃ it', f_X8_tape_67 (nI t) F (nI k) s z it = some (1, s, z, it') ∧ (∀ i, (i < 60 * t + k ∨ 60 * t + 60 ≤ i) → it' i = it i) ∧ (∀ i, k ≤ i → i < 60 → it' (60 * t + i) = 0) := by
  intro m
  induction m with
  | zero =>
    intro k F s z it hk hF
    obtain ⟨F, rfl⟩ : ∃ f, F = f + 1 := ⟨F - 1, by omega⟩
    refine ⟨it, ?_, fun _ _ => rfl, fun i _ _ => by omega⟩
    show f_X8_tape_67_b _ _ (nI k) s z it = _
    unfold f_X8_tape_67_b
    rw [if_pos (by rw [n_leT, n_toInt (by omega)]; show (60 : Int) ≤ k; omega)]
  | succ m ih =>
    intro k F s z it hk hF
    obtain ⟨F, rfl⟩ : ∃ f, F = f + 1 := ⟨F - 1, by omega⟩
    obtain ⟨it', h1, h2, h3⟩ := ih (k + 1) F s z (vp_updL it (60 * t + k) 0) (by omega) (by omega)
    refine ⟨it', ?_, fun i hi => ?_, fun i hi hi2 => ?_⟩
    · show f_X8_tape_67_b _ _ (nI k) s z it = _
      unfold f_X8_tape_67_b
      rw [if_neg (by rw [n_leT, n_toInt (by omega)]; show ¬ (60 : Int) ≤ k; omega), n_60L, n_gd (by omega) (by omega), n_cl (by omega), n_s]
      exact h1
    · rw [h2 i (by omega), updL_ne (by omega)]
    · by_cases e : i = k
      · subst e
        rw [h2 (60 * t + i) (by omega), updL_at]
      · exact h3 i (by omega) hi2
theorem become_yes {z : Nat} (hz : z ≤ 60) (s : Int32) (it : Nat → Int64) : ∃ it', f_X4_become it s (nI z) = some (s, nI z, it') ∧ ∀ i, i < 60 → it' i = 0 := by
  obtain ⟨it', h1, h2, h3⟩ := become_21 60 0 1000 s (nI z) it (by omega) (by omega)
  refine ⟨it', ?_, fun i hi => h3 i (by omega) hi⟩
  unfold f_X4_become f_J9_min_7cf53 f_J9_max_7cf53
  rw [show (if (60 : Int32) < nI z then some (60 : Int32) else some (nI z)) = some (nI z) from if_neg (lt_nay' (c := 60) (by show (z : Int) ≤ 60; omega) (by omega)), Option.bind_some]
  have e : (if (0 : Int32) < nI z then some (nI z) else some (0 : Int32)) = some (nI z) := by
    by_cases h : z = 0
    · subst h; rfl
    · exact if_pos (by rw [n_ltT, n_toInt (by omega)]; show (0 : Int) < z; omega)
  rw [e, Option.bind_some]
  exact h1
theorem Inv.tapes {pa : Nat → Nat} {σ σ' : Nat → Int32} {φ : Nat → Nat → Int32} {τ' : Nat → Nat → Int64} {nh kh ah : Nat} {μ : Nat → Int32} {α α' : Nat → Nat → Int32} {ι' : Nat → Int64} (hs : ∀ i, i < 53 → σ' i = σ i) (ha : ∀ i, i < 45 → α' i = α i) {n d cnt : Nat} {w : Nat → (Nat → Int32) → Int32} {nd : Nat → Int32}
    (hV : VR 9999 n d (σ 2) (σ 3) (σ 4) (σ 5) (φ 0) (φ 1) (φ 2) (φ 3) (φ 4) (μ 0) (μ 8) (α 1) (α 2) (α 3) (α 4) (α 5) (α 6) (α 7))
    (hl : σ 21 = 5 ∧ σ 23 = 10 ∧ σ 25 = 8)
    (hT : TR n (σ 22) (φ 24) (σ 24) (φ 25) (σ 26) (φ 26) (μ 25) (α 26) (α 27) (α 28) (α 29) (μ 30) (α 31) (α 32) (μ 33) (α 34) (α 35) (α 36))
    (hH : HR pa cnt nh (μ 16)) (hK : IKept pa cnt kh σ φ (α 40) (μ 39)) (hX : ITxt (σ 14) (φ 18) (μ 9) (α 10)) (hP : IPar cnt w nd σ φ μ α) (hA : IAct (σ 17) (φ 23) (μ 37) (α 38)) (hN : ITap σ' τ' α' ι') : Inv pa (σ', φ, τ', nh, kh, ah) (μ, α', ι') := by
  refine ⟨n, d, cnt, w, nd, ?_, ?_, ?_, hH, ?_, ?_, hP.keep (hs 1 (by omega)) (fun i h1 h2 => hs i (by omega)) (fun _ _ _ => rfl) rfl rfl (fun i h1 h2 => ha i (by omega)), ?_, hN⟩
  · rw [hs 2 (by omega), hs 3 (by omega), hs 4 (by omega), hs 5 (by omega), ha 1 (by omega), ha 2 (by omega), ha 3 (by omega), ha 4 (by omega), ha 5 (by omega), ha 6 (by omega), ha 7 (by omega)]
    exact hV
  · rw [hs 21 (by omega), hs 23 (by omega), hs 25 (by omega)]
    exact hl
  · rw [hs 22 (by omega), hs 24 (by omega), hs 26 (by omega), ha 26 (by omega), ha 27 (by omega), ha 28 (by omega), ha 29 (by omega), ha 31 (by omega), ha 32 (by omega), ha 34 (by omega), ha 35 (by omega), ha 36 (by omega)]
    exact hT
  · unfold IKept at hK ⊢
    rw [hs 0 (by omega), hs 6 (by omega), hs 7 (by omega), hs 8 (by omega), hs 9 (by omega), hs 28 (by omega), hs 30 (by omega), hs 32 (by omega), ha 40 (by omega)]
    exact hK
  · rw [hs 14 (by omega), ha 10 (by omega)]
    exact hX
  · rw [hs 17 (by omega), ha 38 (by omega)]
    exact hA
theorem F_tape (G : Gx) (l : Launch) (A : Lx) : Fact_tape G l A (Inv A.2.2.1) := by
  intro S T hI p1 p2 p3
  obtain ⟨σ, φ, τ, nh, kh, ah⟩ := S
  obtain ⟨μ, α, ι⟩ := T
  obtain ⟨n, d, cnt, w, nd, hV, hl, hT, hH, hK, hX, hP, hA, hTp⟩ := hI
  have key : ∃ t q q', t < 6 ∧ k_t6 p1.toNatClampNeg = t ∧ f_X7_tape (σ (53 + 2 * t)) (σ (54 + 2 * t)) (τ t) p1 p2 p3 = some q ∧ f_X8_tape (α 45) (α 46) ι p1 p2 p3 = some q' ∧ q'.1 = q.1 ∧ ITap (upd (upd σ (53 + 2 * t) q.2.1) (54 + 2 * t) q.2.2.1) (va_up τ t q.2.2.2) (va_up (va_up α 45 q'.2.1) 46 q'.2.2.1) q'.2.2.2 := by
    rcases n_cases p1 6 (by omega) with ⟨t, ht, rfl⟩ | hp
    · refine ⟨t, ?_⟩
      have same : ITap (upd (upd σ (53 + 2 * t) (σ (53 + 2 * t))) (54 + 2 * t) (σ (54 + 2 * t))) (va_up τ t (τ t)) (va_up (va_up α 45 (α 45)) 46 (α 46)) ι := by
        rw [upd_same, upd_same, va_up_same, va_up_same, va_up_same]
        exact hTp
      have step : ∀ (s : Int32) (z : Nat), z ≤ 60 → ((s = -1 ∧ z = 0) ∨ ∃ k, k ≤ 4 ∧ s = nI k) → ∃ q q', (f_X4_become (τ t) s (nI z)).bind (fun q2 => some ((1 : Int32), q2.1, q2.2.1, q2.2.2)) = some q ∧ f_X8_tape_67 (nI t) 1000 (0 : Int32) (upd (α 45) t s) (upd (α 46) t (nI z)) ι = some q' ∧ q'.1 = q.1 ∧ ITap (upd (upd σ (53 + 2 * t) q.2.1) (54 + 2 * t) q.2.2.1) (va_up τ t q.2.2.2) (va_up (va_up α 45 q'.2.1) 46 q'.2.2.1) q'.2.2.2 := by
        intro s z hz hs
        obtain ⟨it, h1, h2⟩ := become_yes hz s (τ t)
        obtain ⟨io, h3, h4, h5⟩ := tape_67 ht 60 0 1000 (upd (α 45) t s) (upd (α 46) t (nI z)) ι (by omega) (by omega)
        rw [h1, Option.bind_some]
        refine ⟨_, _, rfl, h3, rfl, hTp.set (s := s) (z := nI z) ht (hs.imp (fun h => ⟨h.1, by rw [h.2]; rfl⟩) id) ⟨z, hz, rfl⟩ (fun i hi => ?_) (fun u i hu hne hi => h4 _ (by omega)) ?_ upd_at (fun u hu => ⟨?_, ?_⟩) ?_ ?_ (fun u hu => ⟨?_, ?_⟩)⟩
        · exact (h2 i hi).trans (h5 i (by omega) hi).symm
        · exact (upd_ne (by omega)).trans upd_at
        · exact (upd_ne (by omega)).trans (upd_ne (by omega))
        · exact (upd_ne (by omega)).trans (upd_ne (by omega))
        · show upd (α 45) t s t = s
          exact upd_at
        · show upd (α 46) t (nI z) t = nI z
          exact upd_at
        · show upd (α 45) t s u = α 45 u
          exact upd_ne hu
        · show upd (α 46) t (nI z) u = α 46 u
          exact upd_ne hu
      unfold f_X7_tape f_X8_tape f_X8_tape_42
      rw [isT7_yes ht, Option.bind_some, if_neg i_10, isT8_yes ht, Option.bind_some, if_neg i_10]
      simp only [n_gd ht (by omega : 6 < 2 ^ 31), n_cl (show t < 2 ^ 31 by omega)]
      by_cases hm1 : p2 = -1
      · subst hm1
        rw [if_pos rfl, show f_X8_within (-1 : Int32) (-1 : Int32) (4 : Int32) = some 1 from rfl, Option.bind_some, if_neg i_10, if_pos m1_neg, if_pos m1_neg, if_neg m1_nn]
        obtain ⟨q, q', h1, h2, h3⟩ := step (-1) 0 (by omega) (Or.inl ⟨rfl, rfl⟩)
        exact ⟨q, q', ht, k_t6_own ht, h1, h2, h3⟩
      · rw [if_neg hm1]
        rcases n_cases p2 5 (by omega) with ⟨s, hs, rfl⟩ | hs
        · rw [if_neg (n_not_neg (by omega)), if_neg (lt_nay' (c := 4) (by show (s : Int) ≤ 4; omega) (by omega)), within_yes (lo := -1) (hi := 4) (by rw [n_toInt (by omega)]; show (-1 : Int) ≤ s; omega) (by rw [n_toInt (by omega)]; show (s : Int) ≤ 4; omega), Option.bind_some, if_neg i_10, if_neg (n_not_neg (by omega)), if_neg (n_not_neg (by omega)), if_pos (n_nneg (by omega))]
          by_cases h60 : p3 ≤ 60
          · rw [if_pos h60, if_pos h60]
            by_cases h0 : 0 ≤ p3
            · rw [if_pos h0, if_pos h0]
              rw [n_leT] at h60 h0
              have e60 : (60 : Int32).toInt = 60 := rfl
              have e0 := i_t0
              obtain ⟨z, hz, rfl⟩ := n_of (x := p3) (m := 61) (by omega) (by omega) (by omega)
              obtain ⟨q, q', h1, h2, h3⟩ := step (nI s) z (by omega) (Or.inr ⟨s, by omega, rfl⟩)
              exact ⟨q, q', ht, k_t6_own ht, h1, h2, h3⟩
            · rw [if_neg h0, if_neg h0]
              exact ⟨_, _, ht, k_t6_own ht, rfl, rfl, rfl, same⟩
          · rw [if_neg h60, if_neg h60]
            exact ⟨_, _, ht, k_t6_own ht, rfl, rfl, rfl, same⟩
        · have hs2 : p2.toInt < 0 ∨ (4 : Int) < p2.toInt := by omega
          have hs3 : p2.toInt < -1 ∨ (4 : Int) < p2.toInt := by
            rcases hs2 with h | h
            · left
              have : p2.toInt ≠ -1 := fun e => hm1 (Int32.toInt_inj.mp e)
              omega
            · exact Or.inr h
          rw [gt_no (c := 4) hs2, within_no (lo := -1) (hi := 4) hs3, Option.bind_some, if_pos rfl]
          exact ⟨_, _, ht, k_t6_own ht, rfl, rfl, rfl, same⟩
    · have hk := k_t6_lt p1.toNatClampNeg
      refine ⟨k_t6 p1.toNatClampNeg, (-1, σ (53 + 2 * k_t6 p1.toNatClampNeg), σ (54 + 2 * k_t6 p1.toNatClampNeg), τ (k_t6 p1.toNatClampNeg)), (-1, α 45, α 46, ι), hk, rfl, ?_, ?_, rfl, ?_⟩
      · unfold f_X7_tape
        rw [isT7_no hp, Option.bind_some, if_pos rfl]
      · unfold f_X8_tape
        rw [isT8_no hp, Option.bind_some, if_pos rfl]
      · rw [upd_same, upd_same, va_up_same, va_up_same, va_up_same]
        exact hTp
  obtain ⟨t, q, q', ht, hk, hx, hm, e, hN⟩ := key
  refine ⟨q.1, (upd (upd σ (53 + 2 * t) q.2.1) (54 + 2 * t) q.2.2.1, φ, va_up τ t q.2.2.2, nh, kh, ah), (μ, va_up (va_up α 45 q'.2.1) 46 q'.2.2.1, q'.2.2.2), LX_tape _ _ _ _ _ _ _ _ _ _ _ _ _ _ _ _ t ht hk hx, e ▸ L_M_tape _ _ _ _ _ _ _ _ _ _ _ hm, ?_⟩
  have hs : ∀ i, i < 53 → upd (upd σ (53 + 2 * t) q.2.1) (54 + 2 * t) q.2.2.1 i = σ i := fun i hi => (upd_ne (by omega)).trans (upd_ne (by omega))
  have ha : ∀ i, i < 45 → va_up (va_up α 45 q'.2.1) 46 q'.2.2.1 i = α i := fun i hi => (vup_ne (by omega)).trans (vup_ne (by omega))
  exact Inv.tapes hs ha hV hl hT hH hK hX hP hA hN
