theorem F_of (G : Gx) (l : Launch) (A : Lx) : Fact_of G l A (Inv A.2.2.1) := by
  intro S T hI p1 p2
  obtain ⟨σ, φ, τ, nh, kh, ah⟩ := S
  obtain ⟨μ, α, ι⟩ := T
  obtain ⟨n, d, cnt, w, nd, hV, hl, hT, hH, hK, hX, hP, hA, hTp⟩ := hI
  obtain ⟨k, W, N, hk7, hnh, hC, hM⟩ := held hH hP
  have key : ∃ q q', f_X7_of (σ 2) (σ 3) (σ 4) (σ 5) (A.2.2.1 k) (φ 0) (φ 1) (φ 2) (φ 3) (φ 5) (σ (39 + 2 * k)) (σ (40 + 2 * k)) (φ (33 + 2 * k)) (φ (34 + 2 * k)) (φ 4) (σ 10) (σ 11) (σ 12) (σ 13) ah (φ 12) (φ 13) (φ 14) (φ 15) (φ 16) (σ 34) (σ 22) (φ 24) (φ 30) (σ 36) (σ 24) (φ 25) (φ 31) (σ 38) (σ 26) (φ 26) (φ 32) (φ 17) p1 p2 = some q ∧ f_X8_of (μ 0) (μ 8) (μ 16) (μ 25) (μ 30) (μ 33) (α 1) (α 2) (α 3) (α 4) (α 5) (α 7) (α 17) (α 18) (α 20) (α 21) (α 24) (α 22) (α 19) (α 6) (α 41) (α 26) (α 27) (α 28) (α 29) (α 31) (α 32) (α 34) (α 35) (α 36) p1 p2 = some q' ∧ q'.1 = q.1 ∧ BK n d σ φ (μ 16) (q'.2.2.1, q'.2.2.2.1, q'.2.2.2.2.1, q'.2.2.2.2.2.1, q'.2.2.2.2.2.2.1, q'.2.2.2.2.2.2.2.1, q'.2.2.2.2.2.2.2.2.1, q'.2.2.2.2.2.2.2.2.2.1, q'.2.2.2.2.2.2.2.2.2.2.1, q'.2.2.2.2.2.2.2.2.2.2.2.1, q'.2.2.2.2.2.2.2.2.2.2.2.2.1, q'.2.2.2.2.2.2.2.2.2.2.2.2.2.1, q'.2.2.2.2.2.2.2.2.2.2.2.2.2.2.1, q'.2.2.2.2.2.2.2.2.2.2.2.2.2.2.2.1, q'.2.2.2.2.2.2.2.2.2.2.2.2.2.2.2.2.1, q'.2.2.2.2.2.2.2.2.2.2.2.2.2.2.2.2.2.1, q'.2.2.2.2.2.2.2.2.2.2.2.2.2.2.2.2.2.2.1, q'.2.2.2.2.2.2.2.2.2.2.2.2.2.2.2.2.2.2.2.1, q'.2.2.2.2.2.2.2.2.2.2.2.2.2.2.2.2.2.2.2.2.1, q'.2.2.2.2.2.2.2.2.2.2.2.2.2.2.2.2.2.2.2.2.2.1, q'.2.2.2.2.2.2.2.2.2.2.2.2.2.2.2.2.2.2.2.2.2.2.1, q'.2.2.2.2.2.2.2.2.2.2.2.2.2.2.2.2.2.2.2.2.2.2.2.1, q'.2.2.2.2.2.2.2.2.2.2.2.2.2.2.2.2.2.2.2.2.2.2.2.2, α 24) := by
    obtain ⟨⟨hn, hd, e2, e3, m0, m8⟩, h1, -, -, -, hBd, hBb⟩ := id hV
    unfold f_X7_of f_X8_of
    rcases n_cases p1 n (by omega) with ⟨p, hp, rfl⟩ | hp
    · have c1 := has_yes hp hn
      have c2 := isOne_yes hp hn
      rw [← e2] at c1
      rw [← m0] at c2
      rw [c1, Option.bind_some, if_neg i_10, c2, Option.bind_some, if_neg i_10]
      simp only [n_gd (show p < 6 by omega) (by omega : 6 < 2 ^ 31), n_cl (show p < 2 ^ 31 by omega)]
      by_cases t0 : p2 = 0
      · rw [if_pos t0, if_pos t0]
        exact ⟨_, _, rfl, rfl, (h1 p hp).1.symm, BK.same hV hT (α 41) (α 24)⟩
      rw [if_neg t0, if_neg t0]
      by_cases t1 : p2 = 1
      · rw [if_pos t1, if_pos t1]
        exact ⟨_, _, rfl, rfl, (h1 p hp).2.1.symm, BK.same hV hT (α 41) (α 24)⟩
      rw [if_neg t1, if_neg t1]
      by_cases t2 : p2 = 2
      · rw [if_pos t2, if_pos t2, hBd.at hp hn]
        exact ⟨_, _, rfl, rfl, rfl, BK.same hV hT (α 41) (α 24)⟩
      rw [if_neg t2, if_neg t2]
      by_cases t3 : p2 = 3
      · rw [if_pos t3, if_pos t3, hBb.at hp hn]
        exact ⟨_, _, rfl, rfl, rfl, BK.same hV hT (α 41) (α 24)⟩
      rw [if_neg t3, if_neg t3]
      by_cases t4 : p2 = 4
      · rw [if_pos t4, if_pos t4]
        exact ⟨_, _, rfl, rfl, (h1 p hp).2.2.1.symm, BK.same hV hT (α 41) (α 24)⟩
      rw [if_neg t4, if_neg t4]
      by_cases t5 : p2 = 5
      · rw [if_pos t5, if_pos t5]
        obtain ⟨E, -, -, -, hE⟩ := enemies_eq hC hM hV (q := p) hp (d := d) (by omega)
        obtain ⟨fa2, st2, hx, hm⟩ := hE (φ 5) (α 24)
        rw [← e2, ← e3] at hx
        rw [← m0, ← m8] at hm
        rw [hx, hm]
        exact ⟨_, _, rfl, rfl, rfl, BK.same hV hT (α 41) (α 24)⟩
      rw [if_neg t5, if_neg t5]
      by_cases t6 : p2 = 6
      · rw [if_pos t6, if_pos t6]
        obtain ⟨q, q', y0, y1, y2, y3⟩ := lies_eq (pa := A.2.2.1) (k := k) (ah := ah) hC hM hV hT hp
        rw [y0, y1]
        exact ⟨_, _, rfl, rfl, y2, y3⟩
      rw [if_neg t6, if_neg t6]
      exact ⟨_, _, rfl, rfl, rfl, BK.same hV hT (α 41) (α 24)⟩
    · have c1 := has_no hp hn
      have c2 := isOne_no hp hn
      rw [← e2] at c1
      rw [← m0] at c2
      rw [c1, Option.bind_some, if_pos rfl, c2, Option.bind_some, if_pos rfl]
      exact ⟨_, _, rfl, rfl, rfl, BK.same hV hT (α 41) (α 24)⟩
  obtain ⟨q, q', hx, hm, e, hB⟩ := key
  subst hnh
  refine ⟨q.1, (upd (upd (upd (upd (upd (upd (upd σ 10 q.2.2.1) 11 q.2.2.2.1) 12 q.2.2.2.2.1) 13 q.2.2.2.2.2.1) 34 q.2.2.2.2.2.2.2.2.2.2.2.1) 36 q.2.2.2.2.2.2.2.2.2.2.2.2.2.1) 38 q.2.2.2.2.2.2.2.2.2.2.2.2.2.2.2.1, va_up (va_up (va_up (va_up (va_up (va_up (va_up (va_up (va_up (va_up φ 5 q.2.1) 12 q.2.2.2.2.2.2.1) 13 q.2.2.2.2.2.2.2.1) 14 q.2.2.2.2.2.2.2.2.1) 15 q.2.2.2.2.2.2.2.2.2.1) 16 q.2.2.2.2.2.2.2.2.2.2.1) 30 q.2.2.2.2.2.2.2.2.2.2.2.2.1) 31 q.2.2.2.2.2.2.2.2.2.2.2.2.2.2.1) 32 q.2.2.2.2.2.2.2.2.2.2.2.2.2.2.2.2.1) 17 q.2.2.2.2.2.2.2.2.2.2.2.2.2.2.2.2.2.2, τ, A.2.2.1 k, kh, q.2.2.2.2.2.2.2.2.2.2.2.2.2.2.2.2.2.1), (upd (upd (upd (upd (upd (upd μ 0 q'.2.2.2.2.2.2.2.2.2.2.2.2.2.2.2.2.1) 8 q'.2.2.2.2.2.2.2.2.2.2.2.2.2.2.2.2.2.1) 25 q'.2.2.2.2.2.2.2.2.2.2.2.2.2.2.2.2.2.2.1) 30 q'.2.2.2.2.2.2.2.2.2.2.2.2.2.2.2.2.2.2.2.1) 33 q'.2.2.2.2.2.2.2.2.2.2.2.2.2.2.2.2.2.2.2.2.1) 16 q'.2.2.2.2.2.2.2.2.2.2.2.2.2.2.2.2.2.2.2.2.2.1, va_up (va_up (va_up (va_up (va_up (va_up (va_up (va_up (va_up (va_up (va_up (va_up (va_up (va_up (va_up (va_up (va_up (va_up α 24 q'.2.1) 41 q'.2.2.1) 1 q'.2.2.2.1) 2 q'.2.2.2.2.1) 3 q'.2.2.2.2.2.1) 4 q'.2.2.2.2.2.2.1) 5 q'.2.2.2.2.2.2.2.1) 6 q'.2.2.2.2.2.2.2.2.1) 7 q'.2.2.2.2.2.2.2.2.2.1) 26 q'.2.2.2.2.2.2.2.2.2.2.1) 27 q'.2.2.2.2.2.2.2.2.2.2.2.1) 28 q'.2.2.2.2.2.2.2.2.2.2.2.2.1) 29 q'.2.2.2.2.2.2.2.2.2.2.2.2.2.1) 31 q'.2.2.2.2.2.2.2.2.2.2.2.2.2.2.1) 32 q'.2.2.2.2.2.2.2.2.2.2.2.2.2.2.2.1) 34 q'.2.2.2.2.2.2.2.2.2.2.2.2.2.2.2.2.2.2.2.2.2.2.1) 35 q'.2.2.2.2.2.2.2.2.2.2.2.2.2.2.2.2.2.2.2.2.2.2.2.1) 36 q'.2.2.2.2.2.2.2.2.2.2.2.2.2.2.2.2.2.2.2.2.2.2.2.2, ι), LX_of _ _ _ _ _ _ _ _ _ _ _ _ _ _ k hk7 hx, e ▸ L_M_of _ _ _ _ _ _ _ _ _ _ hm, ?_⟩
  obtain ⟨hV2, hT2, hH2⟩ := hB
  refine ⟨n, d, cnt, w, nd, hV2, hl, hT2, ?_, hK, hX, hP.keep rfl (fun i h1 h2 => ?_) (fun i h1 h2 => ?_) rfl rfl (fun i h1 h2 => ?_), hA, hTp.keep (fun i h => ?_) rfl rfl rfl rfl⟩
  · show HR A.2.2.1 cnt (A.2.2.1 k) q'.2.2.2.2.2.2.2.2.2.2.2.2.2.2.2.2.2.2.2.2.2.1
    rw [hH2]
    exact hH
  · rw [upd_ne (by omega), upd_ne (by omega), upd_ne (by omega), upd_ne (by omega), upd_ne (by omega), upd_ne (by omega), upd_ne (by omega)]
  · rw [vup_ne (by omega), vup_ne (by omega), vup_ne (by omega), vup_ne (by omega), vup_ne (by omega), vup_ne (by omega), vup_ne (by omega), vup_ne (by omega), vup_ne (by omega), vup_ne (by omega)]
  · rw [vup_ne (by omega), vup_ne (by omega), vup_ne (by omega), vup_ne (by omega), vup_ne (by omega), vup_ne (by omega), vup_ne (by omega), vup_ne (by omega), vup_ne (by omega), vup_ne (by omega), vup_ne (by omega), vup_ne (by omega), vup_ne (by omega), vup_ne (by omega), vup_ne (by omega), vup_ne (by omega), vup_ne (by omega), vup_ne (by omega)]
  · rw [upd_ne (by omega), upd_ne (by omega), upd_ne (by omega), upd_ne (by omega), upd_ne (by omega), upd_ne (by omega), upd_ne (by omega)]
