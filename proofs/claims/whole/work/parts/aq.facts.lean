theorem RQ.pm {c K cd : Nat} {W : (Nat → Int32) → Int32} {N : Int32} {word number begins length code : Nat → Int32} (h : RQ c K W N cd word number begins length code) (hc : c < 6) (hK : K ≤ 10) {clauses wo no be le co : Nat → Int32} (h1 : clauses c = nI K) (h2 : ∀ j, 10 * c ≤ j → j < 10 * c + K → wo j = word j ∧ no j = number j ∧ be j = begins j ∧ le j = length j) (h3 : ∀ j, j < cd → co j = code j) : PM W N (nI c) clauses wo no be le co := by
  obtain ⟨r1, r2⟩ := h clauses wo no be le co K h1 (Nat.le_refl K) hK h2 h3
  obtain ⟨F, hF⟩ : ∃ F, 1000 = F + 1 + K := ⟨999 - K, by omega⟩
  have hle : nI K ≤ nI K := by rw [n_le (by omega) (by omega)]; omega
  refine ⟨?_, fun p q d ki v ha stack hp hq hd => ?_⟩
  · unfold f_X8_need
    rw [hF, r1 (F + 1)]
    show f_X8_need_5_b (nI c) clauses wo no (f_X8_need_5 (nI c) clauses wo no F) N (nI K) = _
    unfold f_X8_need_5_b
    rw [if_neg (n_nm1 hc), n_gd hc (by omega), n_cl (by omega), h1, if_pos hle]
  · obtain ⟨st, e⟩ := r2 p q d (F + 1) ki v ha stack (ha (6 * p + q)) hp hq hd
    refine ⟨st, ?_⟩
    unfold f_X8_sum
    rw [n_mulL, n_gd (by omega) (by omega), n_cl (by omega)]
    dsimp only [nm]
    rw [hF, e]
    show f_X8_sum_16_b (nI c) ha clauses wo be le co ki v no (nI p) (nI q) (nI d) (f_X8_sum_16 (nI c) ha clauses wo be le co ki v no (nI p) (nI q) (nI d) F) (ha (6 * p + q) + W (k_fa p q ki v ha d)) (nI K) st = _
    unfold f_X8_sum_16_b
    rw [if_neg (n_nm1 hc), n_gd hc (by omega), n_cl (by omega), h1, if_pos hle]
theorem XQ.pc {l : List (Int32 × Int32)} {W : (Nat → Int32) → Int32} {need : Int32} {st nu : Nat → Int32} (h : XQ l W) (hS : SL st nu 0 l) (hl : l.length ≤ 100) : PC W need (nI l.length) need st nu := by
  refine ⟨rfl, fun fa fb hf => ?_⟩
  obtain ⟨F, hF⟩ : ∃ F, 1000 = F + 1 + l.length := ⟨999 - l.length, by omega⟩
  unfold f_X2_weigh
  rw [hF, h l.length (F + 1) fa fb st nu hf (Nat.le_refl _) hl hS]
  show f_X2_weigh_7_b (nI l.length) fa st nu (f_X2_weigh_7 (nI l.length) fa st nu F) (W fb) 0 (nI l.length) = _
  unfold f_X2_weigh_7_b
  rw [if_pos (by rw [n_le (by omega) (by omega)]; omega)]
theorem PMs.keep {cnt cd : Nat} {w : Nat → (Nat → Int32) → Int32} {nd : Nat → Int32} {α α' : Nat → Nat → Int32} (h : PMs cnt cd w nd α) (h1 : ∀ j, j < cnt → α' 17 j = α 17 j) (h2 : ∀ i, i < 10 * cnt → α' 18 i = α 18 i ∧ α' 19 i = α 19 i ∧ α' 20 i = α 20 i ∧ α' 21 i = α 21 i) (h3 : ∀ i, i < cd → α' 22 i = α 22 i) : PMs cnt cd w nd α' := by
  intro k hk clauses wo no be le co g1 g2 g3
  refine h k hk clauses wo no be le co (fun j hj => (g1 j hj).trans (h1 j hj)) (fun i hi => ?_) (fun i hi => (g3 i hi).trans (h3 i hi))
  obtain ⟨a1, a2, a3, a4⟩ := g2 i hi
  obtain ⟨b1, b2, b3, b4⟩ := h2 i hi
  exact ⟨a1.trans b1, a2.trans b2, a3.trans b3, a4.trans b4⟩
theorem HR.le {pa : Nat → Nat} {cnt cnt' nh : Nat} {holds : Int32} (h : HR pa cnt nh holds) (hc : cnt ≤ cnt') : HR pa cnt' nh holds := by
  rcases h with h | ⟨k, h1, h2, h3⟩
  · exact Or.inl h
  · exact Or.inr ⟨k, by omega, h2, h3⟩
theorem Inv_parish {pa : Nat → Nat} {n d cnt cnt' : Nat} {w' : Nat → (Nat → Int32) → Int32} {nd' : Nat → Int32} {σ σ' : Nat → Int32} {φ φ' : Nat → Nat → Int32} {τ : Nat → Nat → Int64} {nh' kh ah : Nat} {μ μ' : Nat → Int32} {α α' : Nat → Nat → Int32} {ι : Nat → Int64}
    (hV : VR 9999 n d (σ 2) (σ 3) (σ 4) (σ 5) (φ 0) (φ 1) (φ 2) (φ 3) (φ 4) (μ 0) (μ 8) (α 1) (α 2) (α 3) (α 4) (α 5) (α 6) (α 7))
    (hl : σ 21 = 5 ∧ σ 23 = 10 ∧ σ 25 = 8)
    (hT : TR n (σ 22) (φ 24) (σ 24) (φ 25) (σ 26) (φ 26) (μ 25) (α 26) (α 27) (α 28) (α 29) (μ 30) (α 31) (α 32) (μ 33) (α 34) (α 35) (α 36))
    (hK : IKept pa cnt kh σ φ (α 40) (μ 39)) (hA : IAct (σ 17) (φ 23) (μ 37) (α 38)) (hTp : ITap σ τ α ι)
    (hs : ∀ i, i < 39 → i ≠ 1 → i ≠ 14 → i ≠ 15 → i ≠ 16 → σ' i = σ i) (hs2 : ∀ i, 53 ≤ i → σ' i = σ i) (hf : ∀ i, i < 33 → φ' i = φ i)
    (hm : ∀ i, i ≠ 9 → i ≠ 11 → i ≠ 12 → i ≠ 13 → i ≠ 14 → i ≠ 15 → i ≠ 16 → i ≠ 23 → μ' i = μ i) (ha : ∀ i, i < 17 ∨ 23 ≤ i → α' i = α i)
    (h14 : σ' 14 = 0) (h9 : μ' 9 = 0) (hP' : IPar cnt' w' nd' σ' φ' μ' α') (hH' : HR pa cnt' nh' (μ' 16)) (hc : cnt ≤ cnt') : Inv pa (σ', φ', τ, nh', kh, ah) (μ', α', ι) := by
  refine ⟨n, d, cnt', w', nd', ?_, ?_, ?_, hH', ?_, ⟨0, by omega, h14, h9, fun i hi => (Nat.not_lt_zero i hi).elim⟩, hP', ?_, ?_⟩
  · rw [hs 2 (by omega) (by omega) (by omega) (by omega) (by omega), hs 3 (by omega) (by omega) (by omega) (by omega) (by omega), hs 4 (by omega) (by omega) (by omega) (by omega) (by omega), hs 5 (by omega) (by omega) (by omega) (by omega) (by omega), hf 0 (by omega), hf 1 (by omega), hf 2 (by omega), hf 3 (by omega), hf 4 (by omega), hm 0 (by omega) (by omega) (by omega) (by omega) (by omega) (by omega) (by omega) (by omega), hm 8 (by omega) (by omega) (by omega) (by omega) (by omega) (by omega) (by omega) (by omega), ha 1 (by omega), ha 2 (by omega), ha 3 (by omega), ha 4 (by omega), ha 5 (by omega), ha 6 (by omega), ha 7 (by omega)]
    exact hV
  · rw [hs 21 (by omega) (by omega) (by omega) (by omega) (by omega), hs 23 (by omega) (by omega) (by omega) (by omega) (by omega), hs 25 (by omega) (by omega) (by omega) (by omega) (by omega)]
    exact hl
  · rw [hs 22 (by omega) (by omega) (by omega) (by omega) (by omega), hs 24 (by omega) (by omega) (by omega) (by omega) (by omega), hs 26 (by omega) (by omega) (by omega) (by omega) (by omega), hf 24 (by omega), hf 25 (by omega), hf 26 (by omega), hm 25 (by omega) (by omega) (by omega) (by omega) (by omega) (by omega) (by omega) (by omega), hm 30 (by omega) (by omega) (by omega) (by omega) (by omega) (by omega) (by omega) (by omega), hm 33 (by omega) (by omega) (by omega) (by omega) (by omega) (by omega) (by omega) (by omega), ha 26 (by omega), ha 27 (by omega), ha 28 (by omega), ha 29 (by omega), ha 31 (by omega), ha 32 (by omega), ha 34 (by omega), ha 35 (by omega), ha 36 (by omega)]
    exact hT
  · unfold IKept at hK ⊢
    rw [hs 0 (by omega) (by omega) (by omega) (by omega) (by omega), hs 6 (by omega) (by omega) (by omega) (by omega) (by omega), hs 7 (by omega) (by omega) (by omega) (by omega) (by omega), hs 8 (by omega) (by omega) (by omega) (by omega) (by omega), hs 9 (by omega) (by omega) (by omega) (by omega) (by omega), hs 28 (by omega) (by omega) (by omega) (by omega) (by omega), hs 30 (by omega) (by omega) (by omega) (by omega) (by omega), hs 32 (by omega) (by omega) (by omega) (by omega) (by omega), hf 6 (by omega), hf 7 (by omega), hf 8 (by omega), hf 9 (by omega), hf 10 (by omega), hf 27 (by omega), hf 28 (by omega), hf 29 (by omega), ha 40 (by omega), hm 39 (by omega) (by omega) (by omega) (by omega) (by omega) (by omega) (by omega) (by omega)]
    rcases hK with h | ⟨h1, h2, n2, d2, kV, kT, kH⟩
    · exact Or.inl h
    · exact Or.inr ⟨h1, h2, n2, d2, kV, kT, kH.le hc⟩
  · rw [hs 17 (by omega) (by omega) (by omega) (by omega) (by omega), hf 23 (by omega), hm 37 (by omega) (by omega) (by omega) (by omega) (by omega) (by omega) (by omega) (by omega), ha 38 (by omega)]
    exact hA
  · intro t ht
    rw [hs2 (53 + 2 * t) (by omega), hs2 (54 + 2 * t) (by omega), ha 45 (by omega), ha 46 (by omega)]
    exact hTp t ht
theorem LX_parish (G : Gx) (xa : Nat) (R : Nat → Nat → Nat) (pa ta : Nat → Nat) (σ : Nat → Int32) (φ : Nat → Nat → Int32) (τ : Nat → Nat → Int64) (nh kh ah : Nat) (l : Launch) (q : Int32 × Int32 × Int32 × Int32 × Int32 × (Nat → Int32) × (Nat → Int32) × Int32 × Nat × Int32) {k : Nat} (hk : k < 6) (ht : (σ 1).toNatClampNeg = k) (hf : f_X7_parish (pa k) (σ 1) (σ (39 + 2 * k)) (σ (40 + 2 * k)) (σ 14) (σ 15) (σ 16) (φ 18) (φ (33 + 2 * k)) (φ (34 + 2 * k)) nh = some q) : MI G l yX7_parish cX7_parish 4 .int 69 [.ref xa] (XW G xa R pa ta σ φ τ nh kh ah) (XW G xa R pa ta (upd (upd (upd (upd (upd (upd σ (39 + 2 * k) q.2.1) (40 + 2 * k) q.2.2.1) 15 q.2.2.2.1) 16 q.2.2.2.2.1) 14 q.2.2.2.2.2.2.2.1) 1 q.2.2.2.2.2.2.2.2.2) (va_up (va_up φ (33 + 2 * k) q.2.2.2.2.2.1) (34 + 2 * k) q.2.2.2.2.2.2.1) τ q.2.2.2.2.2.2.2.2.1 kh ah) q.1 := by
  have h : k = 0 ∨ k = 1 ∨ k = 2 ∨ k = 3 ∨ k = 4 ∨ k = 5 := by omega
  rcases h with rfl | rfl | rfl | rfl | rfl | rfl
  · exact L_X_parish_0 G xa R pa ta σ φ τ nh kh ah l q (by rw [ht]; rfl) hf
  · exact L_X_parish_1 G xa R pa ta σ φ τ nh kh ah l q (by rw [ht]; rfl) hf
  · exact L_X_parish_2 G xa R pa ta σ φ τ nh kh ah l q (by rw [ht]; rfl) hf
  · exact L_X_parish_3 G xa R pa ta σ φ τ nh kh ah l q (by rw [ht]; rfl) hf
  · exact L_X_parish_4 G xa R pa ta σ φ τ nh kh ah l q (by rw [ht]; rfl) hf
  · exact L_X_parish_5 G xa R pa ta σ φ τ nh kh ah l q (by rw [ht]; rfl) hf
theorem F_parish (G : Gx) (l : Launch) (A : Lx) : Fact_parish G l A (Inv A.2.2.1) := by
  intro S T hI
  obtain ⟨σ, φ, τ, nh, kh, ah⟩ := S
  obtain ⟨μ, α, ι⟩ := T
  have hI2 := hI
  obtain ⟨n, d, cnt, w, nd, hV, hl, hT, hH, hK, hX, hP, hA, hTp⟩ := hI
  obtain ⟨⟨h6, e1, e15, cd, hcd, e23, hM⟩, hz, hC⟩ := hP
  obtain ⟨t, ht, e14, e9, hb⟩ := hX
  by_cases hfull : cnt = 6
  · subst hfull
    have fx : f_X7_parish (A.2.2.1 0) (σ 1) (σ 39) (σ 40) (σ 14) (σ 15) (σ 16) (φ 18) (φ 33) (φ 34) nh = some (-4, σ 39, σ 40, σ 15, σ 16, φ 33, φ 34, σ 14, nh, σ 1) := by
      unfold f_X7_parish
      rw [if_neg (by rw [e1]; decide)]
    have fm : f_X8_parish (μ 9) (μ 11) (μ 12) (μ 13) (μ 14) (μ 15) (μ 16) (μ 23) (α 10) (α 18) (α 19) (α 20) (α 21) (α 22) (α 17) = some (-4, μ 11, μ 12, μ 13, α 18, α 19, α 20, μ 14, α 21, μ 23, α 22, μ 9, α 17, μ 16, μ 15) := by
      unfold f_X8_parish
      rw [if_pos (by rw [e15]; rfl)]
    refine ⟨-4, (upd (upd (upd (upd (upd (upd σ 39 (σ 39)) 40 (σ 40)) 15 (σ 15)) 16 (σ 16)) 14 (σ 14)) 1 (σ 1), va_up (va_up φ 33 (φ 33)) 34 (φ 34), τ, nh, kh, ah), (upd (upd (upd (upd (upd (upd (upd (upd μ 11 (μ 11)) 12 (μ 12)) 13 (μ 13)) 14 (μ 14)) 23 (μ 23)) 9 (μ 9)) 16 (μ 16)) 15 (μ 15), va_up (va_up (va_up (va_up (va_up (va_up α 18 (α 18)) 19 (α 19)) 20 (α 20)) 21 (α 21)) 22 (α 22)) 17 (α 17), ι), L_X_parish_0 _ _ _ _ _ _ _ _ _ _ _ _ _ (by rw [e1]; decide) fx, L_M_parish _ _ _ _ _ _ _ _ fm, ?_⟩
    simp only [upd_same, va_up_same]
    exact hI2
  · have hc : cnt < 6 := by omega
    have hTX : TX t (φ 18) (α 10) (fun i => (α 10 i).toNatClampNeg) := by
      refine ⟨ht, fun i hi => ?_⟩
      obtain ⟨x1, c, x2, x3⟩ := hb i hi
      show φ 18 i = nI (α 10 i).toNatClampNeg ∧ α 10 i = nI (α 10 i).toNatClampNeg ∧ (α 10 i).toNatClampNeg ≤ 127
      have e : (α 10 i).toNatClampNeg = c := by rw [x3]; exact n_cl (by omega)
      rw [e]
      exact ⟨x1.trans x3, x3, x2⟩
    obtain ⟨ok, a', num', st', nu', ln, need', val', dig', word', number', begins', op', length', co', code', K, cd', clauses', holds', x1, y1, r1, r2, r3, r4⟩ := parse_loop hTX hc (cd0 := cd) (μ 16) (α 17) 10 0 0 0 cd 30 (σ 16) (μ 12) (μ 13) (μ 14) (φ (33 + 2 * cnt)) (φ (34 + 2 * cnt)) (α 18) (α 19) (α 20) (α 21) (α 22) 999 1000 (by omega) (by omega) (by omega) (by omega) (by omega) (by omega) (by omega) (by omega) ⟨[], k_z, rfl, trivial, XQ_nil, RQ_nil⟩
    have fm : f_X8_parish (μ 9) (μ 11) (μ 12) (μ 13) (μ 14) (μ 15) (μ 16) (μ 23) (α 10) (α 18) (α 19) (α 20) (α 21) (α 22) (α 17) = some (if ok then nI cnt else (-10 : Int32) - nI a', nI a', val', dig', word', number', begins', op', length', co', code', 0, clauses', holds', nI (if ok then cnt + 1 else cnt)) := by
      unfold f_X8_parish
      rw [if_neg (by rw [e15, show (6 : Int32) = nI 6 from rfl, n_eq (by omega) (by omega)]; exact hfull), e9, e15, e23]
      exact y1
    have fx : f_X7_parish (A.2.2.1 cnt) (σ 1) (σ (39 + 2 * cnt)) (σ (40 + 2 * cnt)) (σ 14) (σ 15) (σ 16) (φ 18) (φ (33 + 2 * cnt)) (φ (34 + 2 * cnt)) nh = some (if ok then nI cnt else (-10 : Int32) - nI a', ln, need', nI a', num', st', nu', 0, if ok then A.2.2.1 cnt else nh, nI (if ok then cnt + 1 else cnt)) := by
      unfold f_X7_parish f_X5_parse f_X2_startOver
      rw [if_pos (by rw [e1]; exact lt_yes (c := 6) (by show (cnt : Int) < 6; omega) (by omega)), e1, n_gd hc (by omega), Option.bind_some]
      have e : f_X5_parse_11 (σ 14) (φ 18) 1000 0 0 30 0 (σ 16) (φ (33 + 2 * cnt)) (φ (34 + 2 * cnt)) = some (bI ok, ln, need', nI a', num', st', nu') := by
        rw [e14]
        show f_X5_parse_11_b (nI t) (φ 18) (f_X5_parse_11 (nI t) (φ 18) 999) 0 0 30 0 (σ 16) (φ (33 + 2 * cnt)) (φ (34 + 2 * cnt)) = _
        unfold f_X5_parse_11_b
        rw [if_neg (by decide), if_pos (by decide)]
        exact x1
      rw [e, Option.bind_some]
      cases ok with
      | false => rw [if_pos (by rfl)]; rfl
      | true => rw [if_neg (by exact i_10), n_s1, n_s]; rfl
    have hsm (x1 x2 x3 x4 x5 x6 : Int32) : (∀ i, i < 39 → i ≠ 1 → i ≠ 14 → i ≠ 15 → i ≠ 16 → (upd (upd (upd (upd (upd (upd σ (39 + 2 * cnt) x1) (40 + 2 * cnt) x2) 15 x3) 16 x4) 14 x5) 1 x6) i = σ i) ∧ (∀ i, 53 ≤ i → (upd (upd (upd (upd (upd (upd σ (39 + 2 * cnt) x1) (40 + 2 * cnt) x2) 15 x3) 16 x4) 14 x5) 1 x6) i = σ i) ∧ (∀ i, 39 ≤ i → i ≠ 39 + 2 * cnt → i ≠ 40 + 2 * cnt → (upd (upd (upd (upd (upd (upd σ (39 + 2 * cnt) x1) (40 + 2 * cnt) x2) 15 x3) 16 x4) 14 x5) 1 x6) i = σ i) := by
      refine ⟨fun i h1 h2 h3 h4 h5 => ?_, fun i h1 => ?_, fun i h1 h2 h3 => ?_⟩ <;> rw [upd_ne (by omega), upd_ne (by omega), upd_ne (by omega), upd_ne (by omega), upd_ne (by omega), upd_ne (by omega)]
    refine ⟨if ok then nI cnt else (-10 : Int32) - nI a', (upd (upd (upd (upd (upd (upd σ (39 + 2 * cnt) ln) (40 + 2 * cnt) need') 15 (nI a')) 16 num') 14 0) 1 (nI (if ok then cnt + 1 else cnt)), va_up (va_up φ (33 + 2 * cnt) st') (34 + 2 * cnt) nu', τ, if ok then A.2.2.1 cnt else nh, kh, ah), (upd (upd (upd (upd (upd (upd (upd (upd μ 11 (nI a')) 12 val') 13 dig') 14 op') 23 co') 9 0) 16 holds') 15 (nI (if ok then cnt + 1 else cnt)), va_up (va_up (va_up (va_up (va_up (va_up α 18 word') 19 number') 20 begins') 21 length') 22 code') 17 clauses', ι), LX_parish _ _ _ _ _ _ _ _ _ _ _ _ _ hc (by rw [e1]; exact n_cl (by omega)) fx, L_M_parish _ _ _ _ _ _ _ _ fm, ?_⟩
    obtain ⟨g1, g2, g3⟩ := hsm ln need' (nI a') num' 0 (nI (if ok then cnt + 1 else cnt))
    have hff : ∀ i, i ≠ 33 + 2 * cnt → i ≠ 34 + 2 * cnt → (va_up (va_up φ (33 + 2 * cnt) st') (34 + 2 * cnt) nu') i = φ i := fun i h1 h2 => by rw [vup_ne (by omega), vup_ne (by omega)]
    have hmm : ∀ i, i ≠ 9 → i ≠ 11 → i ≠ 12 → i ≠ 13 → i ≠ 14 → i ≠ 15 → i ≠ 16 → i ≠ 23 → (upd (upd (upd (upd (upd (upd (upd (upd μ 11 (nI a')) 12 val') 13 dig') 14 op') 23 co') 9 0) 16 holds') 15 (nI (if ok then cnt + 1 else cnt))) i = μ i := fun i h1 h2 h3 h4 h5 h6 h7 h8 => by rw [upd_ne (by omega), upd_ne (by omega), upd_ne (by omega), upd_ne (by omega), upd_ne (by omega), upd_ne (by omega), upd_ne (by omega), upd_ne (by omega)]
    have haa : ∀ i, i < 17 ∨ 23 ≤ i → (va_up (va_up (va_up (va_up (va_up (va_up α 18 word') 19 number') 20 begins') 21 length') 22 code') 17 clauses') i = α i := fun i h => by rw [vup_ne (by omega), vup_ne (by omega), vup_ne (by omega), vup_ne (by omega), vup_ne (by omega), vup_ne (by omega)]
    have hCk : ∀ k, k < cnt → PC (w k) (nd k) ((upd (upd (upd (upd (upd (upd σ (39 + 2 * cnt) ln) (40 + 2 * cnt) need') 15 (nI a')) 16 num') 14 0) 1 (nI (if ok then cnt + 1 else cnt))) (39 + 2 * k)) ((upd (upd (upd (upd (upd (upd σ (39 + 2 * cnt) ln) (40 + 2 * cnt) need') 15 (nI a')) 16 num') 14 0) 1 (nI (if ok then cnt + 1 else cnt))) (40 + 2 * k)) ((va_up (va_up φ (33 + 2 * cnt) st') (34 + 2 * cnt) nu') (33 + 2 * k)) ((va_up (va_up φ (33 + 2 * cnt) st') (34 + 2 * cnt) nu') (34 + 2 * k)) := fun k hk => by
      rw [g3 (39 + 2 * k) (by omega) (by omega) (by omega), g3 (40 + 2 * k) (by omega) (by omega) (by omega), hff (33 + 2 * k) (by omega) (by omega), hff (34 + 2 * k) (by omega) (by omega)]
      exact hC k hk
    have hzz : PC k_z 30 ((upd (upd (upd (upd (upd (upd σ (39 + 2 * cnt) ln) (40 + 2 * cnt) need') 15 (nI a')) 16 num') 14 0) 1 (nI (if ok then cnt + 1 else cnt))) 51) ((upd (upd (upd (upd (upd (upd σ (39 + 2 * cnt) ln) (40 + 2 * cnt) need') 15 (nI a')) 16 num') 14 0) 1 (nI (if ok then cnt + 1 else cnt))) 52) ((va_up (va_up φ (33 + 2 * cnt) st') (34 + 2 * cnt) nu') 45) ((va_up (va_up φ (33 + 2 * cnt) st') (34 + 2 * cnt) nu') 46) := by
      rw [g3 51 (by omega) (by omega) (by omega), g3 52 (by omega) (by omega) (by omega), hff 45 (by omega) (by omega), hff 46 (by omega) (by omega)]
      exact hz
    cases ok with
    | false =>
      obtain ⟨rfl, rfl, rfl⟩ := r4 rfl
      refine Inv_parish hV hl hT hK hA hTp g1 g2 (fun i hi => hff i (by omega) (by omega)) hmm haa rfl rfl (cnt' := cnt) (w' := w) (nd' := nd) ⟨⟨h6, rfl, rfl, cd, hcd, rfl, ?_⟩, hzz, hCk⟩ hH (Nat.le_refl cnt)
      exact hM.keep (fun j hj => rfl) (fun i hi => r1 i hi) (fun i hi => r2 i hi)
    | true =>
      obtain ⟨q1, rfl, rfl, rfl, q2, q3, len', rfl, q4, ll, W, rfl, q5, q6, q7⟩ := r3 rfl
      refine Inv_parish hV hl hT hK hA hTp g1 g2 (fun i hi => hff i (by omega) (by omega)) hmm haa rfl rfl (cnt' := cnt + 1) (w' := fun k => if k = cnt then W else w k) (nd' := fun k => if k = cnt then need' else nd k) ⟨⟨by omega, rfl, rfl, cd', by omega, rfl, ?_⟩, hzz, fun k hk => ?_⟩ (Or.inr ⟨cnt, by omega, hc, rfl, rfl⟩) (by omega)
      · intro k hk clauses wo no be le co k1 k2 k3
        by_cases e : k = cnt
        · subst e
          dsimp only
          rw [if_pos rfl, if_pos rfl]
          exact q7.pm hc q1 ((k1 k (by omega)).trans upd_at) (fun j h1 h2 => k2 j (by omega)) k3
        · dsimp only
          rw [if_neg e, if_neg e]
          refine hM k (by omega) clauses wo no be le co (fun j hj => (k1 j (by omega)).trans (upd_ne (by omega))) (fun i hi => ?_) (fun i hi => (k3 i (by omega)).trans (r2 i hi))
          obtain ⟨a1, a2, a3, a4⟩ := k2 i (by omega)
          obtain ⟨b1, b2, b3, b4⟩ := r1 i hi
          exact ⟨a1.trans b1, a2.trans b2, a3.trans b3, a4.trans b4⟩
      · by_cases e : k = cnt
        · subst e
          dsimp only
          rw [if_pos rfl, if_pos rfl]
          have e1 : (upd (upd (upd (upd (upd (upd σ (39 + 2 * k) (nI ll.length)) (40 + 2 * k) need') 15 (nI a')) 16 num') 14 0) 1 (nI (if true then k + 1 else k))) (39 + 2 * k) = nI ll.length := by
            rw [upd_ne (by omega), upd_ne (by omega), upd_ne (by omega), upd_ne (by omega), upd_ne (by omega), upd_at]
          have e2 : (upd (upd (upd (upd (upd (upd σ (39 + 2 * k) (nI ll.length)) (40 + 2 * k) need') 15 (nI a')) 16 num') 14 0) 1 (nI (if true then k + 1 else k))) (40 + 2 * k) = need' := by
            rw [upd_ne (by omega), upd_ne (by omega), upd_ne (by omega), upd_ne (by omega), upd_at]
          have e3 : (va_up (va_up φ (33 + 2 * k) st') (34 + 2 * k) nu') (33 + 2 * k) = st' := by
            rw [vup_ne (by omega)]
            exact if_pos rfl
          have e4 : (va_up (va_up φ (33 + 2 * k) st') (34 + 2 * k) nu') (34 + 2 * k) = nu' := if_pos rfl
          rw [e1, e2, e3, e4]
          exact q6.pc q5 q4
        · dsimp only
          rw [if_neg e, if_neg e]
          exact hCk k (by omega)
