theorem F_orders (G : Gx) (l : Launch) (A : Lx) : Fact_orders G l A (Inv A.2.2.1) := by
  intro S T hI p1
  obtain ⟨σ, φ, τ, nh, kh, ah⟩ := S
  obtain ⟨μ, α, ι⟩ := T
  obtain ⟨n, d, cnt, w, nd, hV, hl, hT, hH, hK, hX, hP, hA, hTp⟩ := hI
  obtain ⟨k, W, N, hk7, hnh, hC, hM⟩ := held hH hP
  have key : ∃ q q', f_X7_orders (σ 2) (σ 3) (σ 4) (φ 21) (φ 3) (φ 1) (φ 0) (φ 5) (σ (39 + 2 * k)) (σ (40 + 2 * k)) (φ (33 + 2 * k)) (φ (34 + 2 * k)) (φ 4) (φ 22) p1 = some q ∧ f_X8_orders (μ 0) (μ 8) (μ 16) (α 3) (α 7) (α 17) (α 18) (α 20) (α 21) (α 24) (α 22) (α 1) (α 2) (α 19) (α 6) p1 = some q' ∧ q'.1 = q.1 := by
    obtain ⟨E, eC, eM, eP⟩ := ens hC hM hV
    obtain ⟨⟨hn, hd, e2, e3, m0, m8⟩, -, -, -, -, ⟨D, hD, hD1, hD2⟩, -⟩ := id hV
    rw [hD1] at eC
    unfold f_X7_orders f_X8_orders
    rw [e2, e3, m0, m8, hD1]
    rcases n_cases p1 7 (by omega) with ⟨j, hj, rfl⟩ | h
    · obtain ⟨r, eb2, fa2, w2, st2, x, y⟩ := orders_eq eC eM eP hn hd hD hD2 (show j ≤ 6 by omega) (φ 21) (φ 5) (φ 22) (α 24)
      rw [if_neg (n_not_neg (by omega)), if_pos (le_yes (c := 6) (by show (j : Int) ≤ 6; omega) (by omega)), wi_yes (c := 6) (by show (j : Int) ≤ 6; omega) (by omega), Option.bind_some, if_neg i_10, x, y]
      exact ⟨_, _, rfl, rfl, rfl⟩
    · rw [le_no (c := 6) (by show p1.toInt < 0 ∨ (6 : Int) < p1.toInt; omega), within_no (by show p1.toInt < 0 ∨ (6 : Int) < p1.toInt; omega), Option.bind_some, if_pos rfl]
      exact ⟨_, _, rfl, rfl, rfl⟩
  obtain ⟨q, q', hx, hm, e⟩ := key
  subst hnh
  refine ⟨q.1, (σ, va_up (va_up (va_up φ 21 q.2.1) 5 q.2.2.1) 22 q.2.2.2, τ, A.2.2.1 k, kh, ah), (μ, va_up α 24 q'.2, ι), LX_orders _ _ _ _ _ _ _ _ _ _ _ _ _ k hk7 hx, e ▸ L_M_orders _ _ _ _ _ _ _ _ _ hm, ?_⟩
  refine ⟨n, d, cnt, w, nd, hV, hl, hT, hH, hK, hX, hP.keep rfl (fun _ _ _ => rfl) (fun i h1 h2 => ?_) rfl rfl (fun i h1 h2 => ?_), hA, hTp.keep (fun _ _ => rfl) rfl rfl rfl rfl⟩
  · rw [vup_ne (by omega), vup_ne (by omega), vup_ne (by omega)]
  · rw [vup_ne (by omega)]
theorem F_told (G : Gx) (l : Launch) (A : Lx) : Fact_told G l A (Inv A.2.2.1) := by
  intro S T hI p1
  obtain ⟨σ, φ, τ, nh, kh, ah⟩ := S
  obtain ⟨μ, α, ι⟩ := T
  obtain ⟨n, d, cnt, w, nd, hV, hl, hT, hH, hK, hX, hP, hA, hTp⟩ := hI
  obtain ⟨k, W, N, hk7, hnh, hC, hM⟩ := held hH hP
  have key : ∃ q q', f_X7_told (σ 2) (σ 3) (σ 4) (σ 5) (σ (39 + 2 * k)) (σ (40 + 2 * k)) (φ 3) (φ 19) (φ 1) (φ 0) (φ 5) (φ (33 + 2 * k)) (φ (34 + 2 * k)) (φ 4) (φ 21) (φ 22) p1 = some q ∧ f_X8_told (μ 0) (μ 8) (μ 16) (α 17) (α 18) (α 19) (α 3) (α 4) (α 7) (α 20) (α 21) (α 24) (α 22) (α 1) (α 2) (α 6) p1 = some q' ∧ q'.1 = q.1 := by
    obtain ⟨E, eC, eM, eP⟩ := ens hC hM hV
    obtain ⟨rh, ah1, ah2⟩ := allHate_eq hV
    obtain ⟨⟨hn, hd, e2, e3, m0, m8⟩, -, -, -, -, hBd, hBb⟩ := id hV
    obtain ⟨D, hD, hD1, hD2⟩ := id hBd
    have hd1 := (hBd.dead hn).1
    have hb1 := (hBb.dead hn).2
    have hBR := hBd
    rw [hD1] at eC hBR
    unfold f_X7_told f_X8_told
    by_cases t0 : p1 = 0
    · rw [if_pos t0, if_pos t0]
      exact ⟨_, _, rfl, rfl, m8.trans e3.symm⟩
    rw [if_neg t0, if_neg t0]
    by_cases t1 : p1 = 1
    · rw [if_pos t1, if_pos t1, hM.1, hC.1]
      exact ⟨_, _, rfl, rfl, rfl⟩
    rw [if_neg t1, if_neg t1]
    by_cases t2 : p1 = 2
    · rw [if_pos t2, if_pos t2, m0, hd1]
      exact ⟨_, _, rfl, rfl, rfl⟩
    rw [if_neg t2, if_neg t2]
    by_cases t3 : p1 = 3
    · rw [if_pos t3, if_pos t3, m0, hb1]
      exact ⟨_, _, rfl, rfl, rfl⟩
    rw [if_neg t3, if_neg t3]
    by_cases t4 : p1 = 4
    · rw [if_pos t4, if_pos t4, m0, ah1, ah2]
      exact ⟨_, _, rfl, rfl, rfl⟩
    rw [if_neg t4, if_neg t4]
    by_cases t5 : p1 = 5
    · rw [if_pos t5, if_pos t5, e2, e3, m0, m8, hD1]
      obtain ⟨r, en2, fa2, st2, x, y⟩ := lonely_eq eC eM eP hn (d := d) (by omega) hD hD2 (φ 19) (φ 5) (α 24)
      rw [x, y]
      exact ⟨_, _, rfl, rfl, rfl⟩
    rw [if_neg t5, if_neg t5]
    by_cases t6 : p1 = 6
    · rw [if_pos t6, if_pos t6, e2, e3, m0, m8, hD1]
      obtain ⟨r, en2, fa2, st2, x, y⟩ := keep_eq eC eM eP hn (d := d) (by omega) hD hBR hD2 (φ 19) (φ 5) (α 24)
      rw [x, y]
      exact ⟨_, _, rfl, rfl, rfl⟩
    rw [if_neg t6, if_neg t6]
    by_cases t7 : p1 = 7
    · rw [if_pos t7, if_pos t7, e2, e3, m0, m8, hD1]
      obtain ⟨r, eb2, fa2, w2, st2, x, y⟩ := longest_eq eC eM eP hn (d := d) (by omega) hD hD2 (φ 21) (φ 5) (φ 22) (α 24)
      rw [x, y]
      exact ⟨_, _, rfl, rfl, rfl⟩
    rw [if_neg t7, if_neg t7]
    exact ⟨_, _, rfl, rfl, rfl⟩
  obtain ⟨q, q', hx, hm, e⟩ := key
  subst hnh
  refine ⟨q.1, (σ, va_up (va_up (va_up (va_up φ 19 q.2.1) 5 q.2.2.1) 21 q.2.2.2.1) 22 q.2.2.2.2, τ, A.2.2.1 k, kh, ah), (μ, va_up α 24 q'.2, ι), LX_told _ _ _ _ _ _ _ _ _ _ _ _ _ k hk7 hx, e ▸ L_M_told _ _ _ _ _ _ _ _ _ hm, ?_⟩
  refine ⟨n, d, cnt, w, nd, hV, hl, hT, hH, hK, hX, hP.keep rfl (fun _ _ _ => rfl) (fun i h1 h2 => ?_) rfl rfl (fun i h1 h2 => ?_), hA, hTp.keep (fun _ _ => rfl) rfl rfl rfl rfl⟩
  · rw [vup_ne (by omega), vup_ne (by omega), vup_ne (by omega), vup_ne (by omega)]
  · rw [vup_ne (by omega)]
