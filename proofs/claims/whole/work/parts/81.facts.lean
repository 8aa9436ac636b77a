theorem again_is (im rows hate seenBy seenOf seenIn seenSo goes whose bookBy bookOf bookHate kind v dead buried thrown : Nat → Int32) : ∃ kind2 v2 dead2 buried2 thrown2 rows2 hate2 seenBy2 seenOf2 seenIn2 seenSo2 goes2 whose2 bookBy2 bookOf2 bookHate2 : Nat → Int32, f_X8_again im kind v dead buried thrown rows hate seenBy seenOf seenIn seenSo goes whose bookBy bookOf bookHate = some (kind2, v2, dead2, buried2, thrown2, rows2, hate2, seenBy2, seenOf2, seenIn2, seenSo2, goes2, whose2, im 154, im 155, im 156, im 157, im 158, im 159, bookBy2, bookOf2, bookHate2) ∧ KI im (im 154) (im 155) (im 159) (im 156) (im 157) (im 158) kind2 v2 dead2 buried2 thrown2 rows2 hate2 seenBy2 seenOf2 seenIn2 seenSo2 goes2 whose2 bookBy2 bookOf2 bookHate2 := by
  obtain ⟨k1, k2, k3, k4, k5, a0, -, a1, -, a2, -, a3, -, a4, -, a5⟩ := ag_2 im rows hate seenBy seenOf seenIn seenSo goes whose bookBy bookOf bookHate 6 0 1000 kind v dead buried thrown (by omega) (by omega)
  obtain ⟨r1, b0, -, b1⟩ := ag_73 im hate seenBy seenOf seenIn seenSo goes whose bookBy bookOf bookHate 24 0 1000 k1 k2 k3 k4 k5 rows (by omega) (by omega)
  obtain ⟨h1, c0, -, c1⟩ := ag_99 im seenBy seenOf seenIn seenSo goes whose bookBy bookOf bookHate 36 0 1000 k1 k2 k3 k4 k5 r1 hate (by omega) (by omega)
  obtain ⟨s1, s2, s3, s4, d0, -, d1, -, d2, -, d3, -, d4⟩ := ag_125 im goes whose bookBy bookOf bookHate 5 0 1000 k1 k2 k3 k4 k5 r1 h1 seenBy seenOf seenIn seenSo (by omega) (by omega)
  obtain ⟨g1, g2, e0, -, e1, -, e2⟩ := ag_186 im bookBy bookOf bookHate 10 0 1000 k1 k2 k3 k4 k5 r1 h1 s1 s2 s3 s4 goes whose (by omega) (by omega)
  obtain ⟨o1, o2, o3, f0, -, f1, -, f2, -, f3⟩ := ag_224 im 8 0 1000 k1 k2 k3 k4 k5 r1 h1 s1 s2 s3 s4 g1 g2 bookBy bookOf bookHate (by omega) (by omega)
  refine ⟨k1, k2, k3, k4, k5, r1, h1, s1, s2, s3, s4, g1, g2, o1, o2, o3, a0.trans (b0.trans (c0.trans (d0.trans (e0.trans f0)))), ?_⟩
  exact ⟨fun p hp => ⟨(a1 p (by omega) hp).symm, (a2 p (by omega) hp).symm, (a3 p (by omega) hp).symm, (a4 p (by omega) hp).symm, (a5 p (by omega) hp).symm⟩, fun i hi => (b1 i (by omega) hi).symm, fun i hi => (c1 i (by omega) hi).symm, fun i hi => ⟨(d1 i (by omega) hi).symm, (d2 i (by omega) hi).symm, (d3 i (by omega) hi).symm, (d4 i (by omega) hi).symm⟩, fun i hi => ⟨(e1 i (by omega) hi).symm, (e2 i (by omega) hi).symm⟩, fun i hi => ⟨(f1 i (by omega) hi).symm, (f2 i (by omega) hi).symm, (f3 i (by omega) hi).symm⟩, rfl, rfl, rfl, rfl, rfl, rfl⟩
theorem F_image (G : Gx) (l : Launch) (A : Lx) : Fact_image G l A (Inv A.2.2.1) := by
  intro S T hI
  obtain ⟨σ, φ, τ, nh, kh, ah⟩ := S
  obtain ⟨μ, α, ι⟩ := T
  obtain ⟨n, d, cnt, w, nd, hV, hl, hT, hH, hK, hX, hP, hA, hTp⟩ := hI
  obtain ⟨ki2, vs2, th2, ha2, ro2, ce2, pc2, bc2, hx, c1, c2, c3, c4, c5, c6, c7, c8⟩ := copy_is (σ 2) (σ 3) (σ 4) (σ 5) (φ 0) (φ 6) (φ 1) (φ 7) (φ 2) (φ 8) (φ 3) (φ 9) (φ 4) (φ 10) (σ 22) (φ 24) (φ 27) (σ 24) (φ 25) (φ 28) (σ 26) (φ 26) (φ 29)
  obtain ⟨im, hm, k1, k2, k3, k4, k5, k6, k7, k8, k9, k10, k11, k12⟩ := keep_is (μ 0) (μ 8) (μ 16) (μ 25) (μ 30) (μ 33) (α 40) (α 1) (α 2) (α 3) (α 4) (α 5) (α 6) (α 7) (α 26) (α 27) (α 28) (α 29) (α 31) (α 32) (α 34) (α 35) (α 36)
  have fx : f_X7_image (σ 2) (σ 3) (σ 4) (σ 5) (φ 0) (φ 6) (φ 1) (φ 7) (φ 2) (φ 8) (φ 3) (φ 9) (φ 4) (φ 10) (σ 22) (φ 24) (φ 27) (σ 24) (φ 25) (φ 28) (σ 26) (φ 26) (φ 29) = some (σ 2, σ 2, σ 3, σ 4, σ 5, ki2, vs2, th2, ha2, ro2, σ 22, ce2, σ 24, pc2, σ 26, bc2, 1) := by
    unfold f_X7_image
    rw [hx, Option.bind_some]
  have fm : f_X8_image (μ 0) (μ 8) (μ 16) (μ 25) (μ 30) (μ 33) (α 40) (α 1) (α 2) (α 3) (α 4) (α 5) (α 6) (α 7) (α 26) (α 27) (α 28) (α 29) (α 31) (α 32) (α 34) (α 35) (α 36) = some (μ 0, 1, im) := by
    unfold f_X8_image
    rw [hm, Option.bind_some]
  have e : μ 0 = σ 2 := hV.1.2.2.2.2.1.trans hV.1.2.2.1.symm
  refine ⟨σ 2, (upd (upd (upd (upd (upd (upd (upd (upd σ 6 (σ 2)) 7 (σ 3)) 8 (σ 4)) 9 (σ 5)) 28 (σ 22)) 30 (σ 24)) 32 (σ 26)) 0 1, va_up (va_up (va_up (va_up (va_up (va_up (va_up (va_up φ 6 ki2) 7 vs2) 8 th2) 9 ha2) 10 ro2) 27 ce2) 28 pc2) 29 bc2, τ, nh, nh, ah), (upd μ 39 1, va_up α 40 im, ι), L_X_image _ _ _ _ _ _ _ _ _ _ _ _ _ fx, e ▸ L_M_image _ _ _ _ _ _ _ _ fm, ?_⟩
  refine ⟨n, d, cnt, w, nd, hV, hl, hT, hH, Or.inr ⟨rfl, rfl, n, d, ?_, ?_, ?_⟩, hX, hP.keep rfl (fun i h1 h2 => ?_) (fun i h1 h2 => ?_) rfl rfl (fun i h1 h2 => if_neg (by omega)), hA, hTp.keep (fun i h => ?_) rfl rfl rfl rfl⟩
  · show VR 9999 n d (σ 2) (σ 3) (σ 4) (σ 5) ki2 vs2 th2 ha2 ro2 (im 154) (im 155) (fun p => im p) (fun p => im (6 + p)) (fun p => im (12 + p)) (fun p => im (18 + p)) (fun p => im (24 + p)) (fun i => im (30 + i)) (fun i => im (54 + i))
    rw [k7, k8]
    exact hV.copy c1 c2 c3 c4 c5 (fun p hp => (k1 p hp).1) (fun p hp => (k1 p hp).2.1) (fun p hp => (k1 p hp).2.2.1) (fun p hp => (k1 p hp).2.2.2.1) (fun p hp => (k1 p hp).2.2.2.2) k2 k3
  · show TR n (σ 22) ce2 (σ 24) pc2 (σ 26) bc2 (im 156) (fun i => im (90 + i)) (fun i => im (95 + i)) (fun i => im (100 + i)) (fun i => im (105 + i)) (im 157) (fun i => im (110 + i)) (fun i => im (120 + i)) (im 158) (fun i => im (130 + i)) (fun i => im (138 + i)) (fun i => im (146 + i))
    rw [k9, k10, k11]
    exact hT.copy c6 c7 c8 k4 k5 k6
  · show HR A.2.2.1 cnt nh (im 159)
    rw [k12]
    exact hH
  · rw [upd_ne (by omega), upd_ne (by omega), upd_ne (by omega), upd_ne (by omega), upd_ne (by omega), upd_ne (by omega), upd_ne (by omega), upd_ne (by omega)]
  · rw [vup_ne (by omega), vup_ne (by omega), vup_ne (by omega), vup_ne (by omega), vup_ne (by omega), vup_ne (by omega), vup_ne (by omega), vup_ne (by omega)]
  · rw [upd_ne (by omega), upd_ne (by omega), upd_ne (by omega), upd_ne (by omega), upd_ne (by omega), upd_ne (by omega), upd_ne (by omega), upd_ne (by omega)]
