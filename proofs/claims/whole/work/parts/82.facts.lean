theorem F_undo (G : Gx) (l : Launch) (A : Lx) : Fact_undo G l A (Inv A.2.2.1) := by
  intro S T hI
  obtain ⟨σ, φ, τ, nh, kh, ah⟩ := S
  obtain ⟨μ, α, ι⟩ := T
  have hI2 := hI
  obtain ⟨n, d, cnt, w, nd, hV, hl, hT, hH, hK, hX, hP, hA, hTp⟩ := hI
  rcases hK with ⟨z0, z39⟩ | ⟨z0, z39, n2, d2, kV, kT, kH⟩
  · have fx : f_X7_undo (σ 0) (σ 2) (σ 3) (σ 4) (σ 5) nh (σ 6) (σ 7) (σ 8) (σ 9) kh (φ 6) (φ 0) (φ 7) (φ 1) (φ 8) (φ 2) (φ 9) (φ 3) (φ 10) (φ 4) (σ 22) (σ 28) (φ 27) (φ 24) (σ 24) (σ 30) (φ 28) (φ 25) (σ 26) (σ 32) (φ 29) (φ 26) = some (-3, σ 2, σ 3, σ 4, σ 5, φ 0, φ 1, φ 2, φ 3, φ 4, σ 22, φ 24, σ 24, φ 25, σ 26, φ 26, nh) := by
      unfold f_X7_undo
      rw [if_pos z0]
    have fm : f_X8_undo (μ 0) (μ 8) (μ 16) (μ 25) (μ 30) (μ 33) (μ 39) (α 40) (α 1) (α 2) (α 3) (α 4) (α 5) (α 6) (α 7) (α 26) (α 27) (α 28) (α 29) (α 31) (α 32) (α 34) (α 35) (α 36) = some (-3, α 1, α 2, α 3, α 4, α 5, α 6, α 7, α 26, α 27, α 28, α 29, α 31, α 32, μ 0, μ 8, μ 25, μ 30, μ 33, μ 16, α 34, α 35, α 36) := by
      unfold f_X8_undo
      rw [if_pos z39]
    refine ⟨-3, (upd (upd (upd (upd (upd (upd (upd σ 2 (σ 2)) 3 (σ 3)) 4 (σ 4)) 5 (σ 5)) 22 (σ 22)) 24 (σ 24)) 26 (σ 26), va_up (va_up (va_up (va_up (va_up (va_up (va_up (va_up φ 0 (φ 0)) 1 (φ 1)) 2 (φ 2)) 3 (φ 3)) 4 (φ 4)) 24 (φ 24)) 25 (φ 25)) 26 (φ 26), τ, nh, kh, ah), (upd (upd (upd (upd (upd (upd μ 0 (μ 0)) 8 (μ 8)) 25 (μ 25)) 30 (μ 30)) 33 (μ 33)) 16 (μ 16), va_up (va_up (va_up (va_up (va_up (va_up (va_up (va_up (va_up (va_up (va_up (va_up (va_up (va_up (va_up (va_up α 1 (α 1)) 2 (α 2)) 3 (α 3)) 4 (α 4)) 5 (α 5)) 6 (α 6)) 7 (α 7)) 26 (α 26)) 27 (α 27)) 28 (α 28)) 29 (α 29)) 31 (α 31)) 32 (α 32)) 34 (α 34)) 35 (α 35)) 36 (α 36), ι), L_X_undo _ _ _ _ _ _ _ _ _ _ _ _ _ fx, L_M_undo _ _ _ _ _ _ _ _ fm, ?_⟩
    simp only [upd_same, va_up_same]
    exact hI2
  · obtain ⟨ki2, vs2, th2, ha2, ro2, ce2, pc2, bc2, hx, c1, c2, c3, c4, c5, c6, c7, c8⟩ := copy_is (σ 6) (σ 7) (σ 8) (σ 9) (φ 6) (φ 0) (φ 7) (φ 1) (φ 8) (φ 2) (φ 9) (φ 3) (φ 10) (φ 4) (σ 28) (φ 27) (φ 24) (σ 30) (φ 28) (φ 25) (σ 32) (φ 29) (φ 26)
    obtain ⟨y1, y2, y3, y4, y5, y6, y7, y8, y9, y10, y11, y12, y13, y14, y15, y16, hm, k1, k2, k3, k4, k5, k6, -⟩ := again_is (α 40) (α 6) (α 7) (α 26) (α 27) (α 28) (α 29) (α 31) (α 32) (α 34) (α 35) (α 36) (α 1) (α 2) (α 3) (α 4) (α 5)
    have n10 : ¬ (1 : Int32) = 0 := by decide
    have fx : f_X7_undo (σ 0) (σ 2) (σ 3) (σ 4) (σ 5) nh (σ 6) (σ 7) (σ 8) (σ 9) kh (φ 6) (φ 0) (φ 7) (φ 1) (φ 8) (φ 2) (φ 9) (φ 3) (φ 10) (φ 4) (σ 22) (σ 28) (φ 27) (φ 24) (σ 24) (σ 30) (φ 28) (φ 25) (σ 26) (σ 32) (φ 29) (φ 26) = some (σ 6, σ 6, σ 7, σ 8, σ 9, ki2, vs2, th2, ha2, ro2, σ 28, ce2, σ 30, pc2, σ 32, bc2, kh) := by
      unfold f_X7_undo
      rw [z0, if_neg n10, hx, Option.bind_some]
    have fm : f_X8_undo (μ 0) (μ 8) (μ 16) (μ 25) (μ 30) (μ 33) (μ 39) (α 40) (α 1) (α 2) (α 3) (α 4) (α 5) (α 6) (α 7) (α 26) (α 27) (α 28) (α 29) (α 31) (α 32) (α 34) (α 35) (α 36) = some (α 40 154, y1, y2, y3, y4, y5, y6, y7, y8, y9, y10, y11, y12, y13, α 40 154, α 40 155, α 40 156, α 40 157, α 40 158, α 40 159, y14, y15, y16) := by
      unfold f_X8_undo
      rw [z39, if_neg n10, hm, Option.bind_some]
    have e : α 40 154 = σ 6 := kV.1.2.2.2.2.1.trans kV.1.2.2.1.symm
    refine ⟨σ 6, (upd (upd (upd (upd (upd (upd (upd σ 2 (σ 6)) 3 (σ 7)) 4 (σ 8)) 5 (σ 9)) 22 (σ 28)) 24 (σ 30)) 26 (σ 32), va_up (va_up (va_up (va_up (va_up (va_up (va_up (va_up φ 0 ki2) 1 vs2) 2 th2) 3 ha2) 4 ro2) 24 ce2) 25 pc2) 26 bc2, τ, kh, kh, ah), (upd (upd (upd (upd (upd (upd μ 0 (α 40 154)) 8 (α 40 155)) 25 (α 40 156)) 30 (α 40 157)) 33 (α 40 158)) 16 (α 40 159), va_up (va_up (va_up (va_up (va_up (va_up (va_up (va_up (va_up (va_up (va_up (va_up (va_up (va_up (va_up (va_up α 1 y1) 2 y2) 3 y3) 4 y4) 5 y5) 6 y6) 7 y7) 26 y8) 27 y9) 28 y10) 29 y11) 31 y12) 32 y13) 34 y14) 35 y15) 36 y16, ι), L_X_undo _ _ _ _ _ _ _ _ _ _ _ _ _ fx, ?_, ?_⟩
    · have h := L_M_undo G A.2.2.2.2.1 A.2.2.2.2.2 μ α ι l _ fm
      rw [show (σ 6 : Int32) = α 40 154 from e.symm]
      exact h
    · refine ⟨n2, d2, cnt, w, nd, ?_, hl, ?_, kH, Or.inr ⟨z0, z39, n2, d2, kV, kT, kH⟩, hX, hP.keep rfl (fun i h1 h2 => ?_) (fun i h1 h2 => ?_) rfl rfl (fun i h1 h2 => ?_), hA, hTp.keep (fun i h => ?_) rfl rfl rfl rfl⟩
      · exact kV.copy c1 c2 c3 c4 c5 (fun p hp => (k1 p hp).1.symm) (fun p hp => (k1 p hp).2.1.symm) (fun p hp => (k1 p hp).2.2.1.symm) (fun p hp => (k1 p hp).2.2.2.1.symm) (fun p hp => (k1 p hp).2.2.2.2.symm) (fun i hi => (k2 i hi).symm) (fun i hi => (k3 i hi).symm)
      · exact kT.copy c6 c7 c8 (fun i hi => ⟨(k4 i hi).1.symm, (k4 i hi).2.1.symm, (k4 i hi).2.2.1.symm, (k4 i hi).2.2.2.symm⟩) (fun i hi => ⟨(k5 i hi).1.symm, (k5 i hi).2.symm⟩) (fun i hi => ⟨(k6 i hi).1.symm, (k6 i hi).2.1.symm, (k6 i hi).2.2.symm⟩)
      · rw [upd_ne (by omega), upd_ne (by omega), upd_ne (by omega), upd_ne (by omega), upd_ne (by omega), upd_ne (by omega), upd_ne (by omega)]
      · rw [vup_ne (by omega), vup_ne (by omega), vup_ne (by omega), vup_ne (by omega), vup_ne (by omega), vup_ne (by omega), vup_ne (by omega), vup_ne (by omega)]
      · rw [vup_ne (by omega), vup_ne (by omega), vup_ne (by omega), vup_ne (by omega), vup_ne (by omega), vup_ne (by omega), vup_ne (by omega), vup_ne (by omega), vup_ne (by omega), vup_ne (by omega), vup_ne (by omega), vup_ne (by omega), vup_ne (by omega), vup_ne (by omega), vup_ne (by omega), vup_ne (by omega)]
      · rw [upd_ne (by omega), upd_ne (by omega), upd_ne (by omega), upd_ne (by omega), upd_ne (by omega), upd_ne (by omega), upd_ne (by omega)]
