theorem F_pass (G : Gx) (l : Launch) (A : Lx) : Fact_pass G l A (Inv A.2.2.1) := by
  intro S T hI p1
  obtain ⟨σ, φ, τ, nh, kh, ah⟩ := S
  obtain ⟨μ, α, ι⟩ := T
  obtain ⟨n, d, cnt, w, nd, hV, hl, hT, hH, hK, hX, hP, hA, hTp⟩ := hI
  obtain ⟨k, W, N, hk7, hnh, hC, hM⟩ := held hH hP
  have key : ∃ q q', f_X7_pass (σ 2) (σ 3) (σ 4) (σ 5) (φ 3) (φ 1) (φ 0) (φ 5) (σ (39 + 2 * k)) (σ (40 + 2 * k)) (φ (33 + 2 * k)) (φ (34 + 2 * k)) (φ 4) (φ 2) p1 = some q ∧ f_X8_pass (μ 0) (μ 8) (μ 16) (α 3) (α 4) (α 7) (α 17) (α 18) (α 20) (α 21) (α 24) (α 22) (α 1) (α 2) (α 19) (α 6) (α 5) p1 = some q' ∧ q'.1 = q.1 ∧ ∃ d2, VR 9999 n d2 (σ 2) q.2.1 (σ 4) q.2.2.2.1 (φ 0) (φ 1) q.2.2.2.2.1 q.2.2.2.2.2 (φ 4) (μ 0) q'.2.1 (α 1) (α 2) (α 3) q'.2.2.2.1 q'.2.2.2.2.1 (α 6) q'.2.2.2.2.2 := by
    have hV2 := hV
    obtain ⟨⟨hn, hd, e2, e3, m0, m8⟩, -⟩ := hV
    unfold f_X7_pass f_X8_pass
    rw [e2, m0, e3, m8] at hV2 ⊢
    rcases n_cases p1 61 (by omega) with ⟨j, hj, rfl⟩ | h
    · rw [if_neg (n_not_neg (by omega)), if_pos (le_yes (c := 60) (by show (j : Int) ≤ 60; omega) (by omega)), wi_yes (c := 60) (by show (j : Int) ≤ 60; omega) (by omega), Option.bind_some, if_neg i_10, nI_add]
      by_cases h : d + j ≤ 9999
      · rw [if_pos (le_yes (c := 9999) (by show ((d + j : Nat) : Int) ≤ 9999; omega) (by omega)), if_pos (le_yes (c := 9999) (by show ((d + j : Nat) : Int) ≤ 9999; omega) (by omega))]
        obtain ⟨d2, bu2, th2, ha2, bu2', th2', ha2', r1, r2⟩ := pass_loop hC hM (j := j) (by omega) j 0 d (σ 5) (φ 2) (φ 3) (α 4) (α 5) (α 7) (by omega) (by omega) hV2
        obtain ⟨fa2, st2, hx, hm⟩ := r2 1000 (by omega) (φ 5) (α 24)
        exact ⟨_, _, hx, hm, rfl, d2, r1⟩
      · rw [if_neg (le_nay (c := 9999) (by show (9999 : Int) < ((d + j : Nat) : Int); omega) (by omega)), if_neg (le_nay (c := 9999) (by show (9999 : Int) < ((d + j : Nat) : Int); omega) (by omega))]
        exact ⟨_, _, rfl, rfl, rfl, d, hV2⟩
    · rw [le_no (c := 60) (by show p1.toInt < 0 ∨ (60 : Int) < p1.toInt; omega), within_no (by show p1.toInt < 0 ∨ (60 : Int) < p1.toInt; omega), Option.bind_some, if_pos rfl]
      exact ⟨_, _, rfl, rfl, rfl, d, hV2⟩
  obtain ⟨q, q', hx, hm, e, d2, hN⟩ := key
  subst hnh
  refine ⟨q.1, (upd (upd σ 3 q.2.1) 5 q.2.2.2.1, va_up (va_up (va_up φ 5 q.2.2.1) 2 q.2.2.2.2.1) 3 q.2.2.2.2.2, τ, A.2.2.1 k, kh, ah), (upd μ 8 q'.2.1, va_up (va_up (va_up (va_up α 24 q'.2.2.1) 4 q'.2.2.2.1) 5 q'.2.2.2.2.1) 7 q'.2.2.2.2.2, ι), LX_pass _ _ _ _ _ _ _ _ _ _ _ _ _ k hk7 hx, e ▸ L_M_pass _ _ _ _ _ _ _ _ _ hm, ?_⟩
  refine ⟨n, d2, cnt, w, nd, hN, hl, hT, hH, hK, hX, hP.keep rfl (fun i h1 h2 => (upd_ne (by omega)).trans (upd_ne (by omega))) (fun i h1 h2 => ?_) rfl rfl (fun i h1 h2 => ?_), hA, hTp.keep (fun i h => (upd_ne (by omega)).trans (upd_ne (by omega))) rfl rfl rfl rfl⟩
  · rw [vup_ne (by omega), vup_ne (by omega), vup_ne (by omega)]
  · rw [vup_ne (by omega), vup_ne (by omega), vup_ne (by omega), vup_ne (by omega)]
