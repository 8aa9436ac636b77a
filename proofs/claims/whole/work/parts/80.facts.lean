theorem VR.copy {bd n d : Nat} {pe da de bu pe' da' : Int32} {ki vs th ha ro ki' vs' de' bu' th' ro' ha' : Nat → Int32} (h : VR bd n d pe da de bu ki vs th ha ro pe' da' ki' vs' de' bu' th' ro' ha') {ki2 vs2 th2 ha2 ro2 ki2' vs2' de2' bu2' th2' ro2' ha2' : Nat → Int32}
    (c1 : ∀ i, i < 6 → ki2 i = ki i) (c2 : ∀ i, i < 6 → vs2 i = vs i) (c3 : ∀ i, i < 6 → th2 i = th i) (c4 : ∀ i, i < 36 → ha2 i = ha i) (c5 : ∀ i, i < 24 → ro2 i = ro i)
    (m1 : ∀ i, i < 6 → ki2' i = ki' i) (m2 : ∀ i, i < 6 → vs2' i = vs' i) (m3 : ∀ i, i < 6 → de2' i = de' i) (m4 : ∀ i, i < 6 → bu2' i = bu' i) (m5 : ∀ i, i < 6 → th2' i = th' i) (m6 : ∀ i, i < 24 → ro2' i = ro' i) (m7 : ∀ i, i < 36 → ha2' i = ha' i) : VR bd n d pe da de bu ki2 vs2 th2 ha2 ro2 pe' da' ki2' vs2' de2' bu2' th2' ro2' ha2' := by
  obtain ⟨⟨hn, h0⟩, h1, h2, ⟨h3, h4⟩, ⟨h5, h6⟩, ⟨D, h7, h8, h9⟩, ⟨B, h10, h11, h12⟩⟩ := h
  refine ⟨⟨hn, h0⟩, fun p hp => ?_, fun p hp hp2 => ?_, ⟨fun p k hp hk => ?_, fun p k hp hp2 hk => ?_⟩, ⟨fun p q hp hq => ?_, fun p q hp hq hpq => ?_⟩, ⟨D, h7, h8, fun p hp => ?_⟩, ⟨B, h10, h11, fun p hp => ?_⟩⟩
  · rw [c1 p (by omega), c2 p (by omega), c3 p (by omega), m1 p (by omega), m2 p (by omega), m5 p (by omega)]
    exact h1 p hp
  · rw [c3 p (by omega)]
    exact h2 p hp hp2
  · rw [c5 _ (by omega), m6 _ (by omega)]
    exact h3 p k hp hk
  · rw [c5 _ (by omega)]
    exact h4 p k hp hp2 hk
  · rw [c4 _ (by omega), m7 _ (by omega)]
    exact h5 p q hp hq
  · rw [c4 _ (by omega)]
    exact h6 p q hp hq hpq
  · rw [m3 p (by omega)]
    exact h9 p hp
  · rw [m4 p (by omega)]
    exact h12 p hp
theorem TR.copy {n : Nat} {sz : Int32} {ce : Nat → Int32} {pz : Int32} {pc : Nat → Int32} {bz : Int32} {bc : Nat → Int32} {seen : Int32} {by' of' in' so' : Nat → Int32} {inPlan : Int32} {goes whose : Nat → Int32} {inBook : Int32} {bby bof bh : Nat → Int32} (h : TR n sz ce pz pc bz bc seen by' of' in' so' inPlan goes whose inBook bby bof bh) {ce2 pc2 bc2 by2 of2 in2 so2 go2 wh2 bb2 bo2 bh2 : Nat → Int32}
    (c1 : ∀ i, i < 40 → ce2 i = ce i) (c2 : ∀ i, i < 40 → pc2 i = pc i) (c3 : ∀ i, i < 40 → bc2 i = bc i) (m1 : ∀ i, i < 5 → by2 i = by' i ∧ of2 i = of' i ∧ in2 i = in' i ∧ so2 i = so' i) (m2 : ∀ i, i < 10 → go2 i = goes i ∧ wh2 i = whose i) (m3 : ∀ i, i < 8 → bb2 i = bby i ∧ bo2 i = bof i ∧ bh2 i = bh i) : TR n sz ce2 pz pc2 bz bc2 seen by2 of2 in2 so2 inPlan go2 wh2 inBook bb2 bo2 bh2 := by
  obtain ⟨⟨a, a1, a2, a3, a4⟩, ⟨b, b1, b2, b3, b4⟩, ⟨c, x1, x2, x3, x4⟩⟩ := h
  refine ⟨⟨a, a1, a2, a3, fun i hi => ?_⟩, ⟨b, b1, b2, b3, fun i hi => ?_⟩, ⟨c, x1, x2, x3, fun i hi => ?_⟩⟩
  · obtain ⟨e1, e2, e3, e4⟩ := m1 i (by omega)
    rw [c1 _ (by omega), c1 _ (by omega), c1 _ (by omega), c1 _ (by omega), e1, e2, e3, e4]
    exact a4 i hi
  · obtain ⟨e1, e2⟩ := m2 i (by omega)
    rw [c2 _ (by omega), c2 _ (by omega), e1, e2]
    exact b4 i hi
  · obtain ⟨e1, e2, e3⟩ := m3 i (by omega)
    rw [c3 _ (by omega), c3 _ (by omega), c3 _ (by omega), e1, e2, e3]
    exact x4 i hi
/-- an image of the reference's village -/
def KI (im : Nat → Int32) (people day holds seen inPlan inBook : Int32) (kind v dead buried thrown rows hate seenBy seenOf seenIn seenSo goes whose bookBy bookOf bookHate : Nat → Int32) : Prop :=
  (∀ p, p < 6 → im p = kind p ∧ im (6 + p) = v p ∧ im (12 + p) = dead p ∧ im (18 + p) = buried p ∧ im (24 + p) = thrown p) ∧ (∀ i, i < 24 → im (30 + i) = rows i) ∧ (∀ i, i < 36 → im (54 + i) = hate i) ∧ (∀ i, i < 5 → im (90 + i) = seenBy i ∧ im (95 + i) = seenOf i ∧ im (100 + i) = seenIn i ∧ im (105 + i) = seenSo i) ∧ (∀ i, i < 10 → im (110 + i) = goes i ∧ im (120 + i) = whose i) ∧ (∀ i, i < 8 → im (130 + i) = bookBy i ∧ im (138 + i) = bookOf i ∧ im (146 + i) = bookHate i) ∧ im 154 = people ∧ im 155 = day ∧ im 156 = seen ∧ im 157 = inPlan ∧ im 158 = inBook ∧ im 159 = holds
theorem keep_is (people day holds seen inPlan inBook : Int32) (p1 kind v dead buried thrown rows hate seenBy seenOf seenIn seenSo goes whose bookBy bookOf bookHate : Nat → Int32) : ∃ im, f_X8_keep people day holds seen inPlan inBook p1 kind v dead buried thrown rows hate seenBy seenOf seenIn seenSo goes whose bookBy bookOf bookHate = some im ∧ KI im people day holds seen inPlan inBook kind v dead buried thrown rows hate seenBy seenOf seenIn seenSo goes whose bookBy bookOf bookHate := by
  obtain ⟨w2, a0, ax, -, a1, -, a2, -, a3, -, a4, -, a5⟩ := kp_2 people day holds seen inPlan inBook kind v dead buried thrown rows hate seenBy seenOf seenIn seenSo goes whose bookBy bookOf bookHate 6 0 1000 p1 (by omega) (by omega)
  obtain ⟨w3, b0, bx, -, b1⟩ := kp_73 people day holds seen inPlan inBook rows hate seenBy seenOf seenIn seenSo goes whose bookBy bookOf bookHate 24 0 1000 w2 (by omega) (by omega)
  obtain ⟨w4, c0, cx, -, c1⟩ := kp_99 people day holds seen inPlan inBook hate seenBy seenOf seenIn seenSo goes whose bookBy bookOf bookHate 36 0 1000 w3 (by omega) (by omega)
  obtain ⟨w5, d0, dx, -, d1, -, d2, -, d3, -, d4⟩ := kp_125 people day holds seen inPlan inBook seenBy seenOf seenIn seenSo goes whose bookBy bookOf bookHate 5 0 1000 w4 (by omega) (by omega)
  obtain ⟨w6, e0, ex, -, e1, -, e2⟩ := kp_186 people day holds seen inPlan inBook goes whose bookBy bookOf bookHate 10 0 1000 w5 (by omega) (by omega)
  obtain ⟨w7, f0, fx, -, f1, -, f2, -, f3⟩ := kp_224 people day holds seen inPlan inBook bookBy bookOf bookHate 8 0 1000 w6 (by omega) (by omega)
  refine ⟨_, a0.trans (b0.trans (c0.trans (d0.trans (e0.trans f0)))), ?_⟩
  show KI (upd (upd (upd (upd (upd (upd w7 154 people) 155 day) 156 seen) 157 inPlan) 158 inBook) 159 holds) _ _ _ _ _ _ _ _ _ _ _ _ _ _ _ _ _ _ _ _ _ _
  have g7 : ∀ j, j < 154 → upd (upd (upd (upd (upd (upd w7 154 people) 155 day) 156 seen) 157 inPlan) 158 inBook) 159 holds j = w7 j := fun j hj => by
    rw [upd_ne (by omega), upd_ne (by omega), upd_ne (by omega), upd_ne (by omega), upd_ne (by omega), upd_ne (by omega)]
  have g2 : ∀ j, j < 30 → upd (upd (upd (upd (upd (upd w7 154 people) 155 day) 156 seen) 157 inPlan) 158 inBook) 159 holds j = w2 j := fun j hj => by
    rw [g7 j (by omega), fx j (by omega), ex j (by omega), dx j (by omega), cx j (by omega), bx j (by omega)]
  refine ⟨fun p hp => ⟨?_, ?_, ?_, ?_, ?_⟩, fun i hi => ?_, fun i hi => ?_, fun i hi => ⟨?_, ?_, ?_, ?_⟩, fun i hi => ⟨?_, ?_⟩, fun i hi => ⟨?_, ?_, ?_⟩, rfl, rfl, rfl, rfl, rfl, rfl⟩
  · rw [g2 _ (by omega)]; exact a1 p (by omega) hp
  · rw [g2 _ (by omega)]; exact a2 p (by omega) hp
  · rw [g2 _ (by omega)]; exact a3 p (by omega) hp
  · rw [g2 _ (by omega)]; exact a4 p (by omega) hp
  · rw [g2 _ (by omega)]; exact a5 p (by omega) hp
  · rw [g7 _ (by omega), fx _ (by omega), ex _ (by omega), dx _ (by omega), cx _ (by omega)]; exact b1 i (by omega) hi
  · rw [g7 _ (by omega), fx _ (by omega), ex _ (by omega), dx _ (by omega)]; exact c1 i (by omega) hi
  · rw [g7 _ (by omega), fx _ (by omega), ex _ (by omega)]; exact d1 i (by omega) hi
  · rw [g7 _ (by omega), fx _ (by omega), ex _ (by omega)]; exact d2 i (by omega) hi
  · rw [g7 _ (by omega), fx _ (by omega), ex _ (by omega)]; exact d3 i (by omega) hi
  · rw [g7 _ (by omega), fx _ (by omega), ex _ (by omega)]; exact d4 i (by omega) hi
  · rw [g7 _ (by omega), fx _ (by omega)]; exact e1 i (by omega) hi
  · rw [g7 _ (by omega), fx _ (by omega)]; exact e2 i (by omega) hi
  · rw [g7 _ (by omega)]; exact f1 i (by omega) hi
  · rw [g7 _ (by omega)]; exact f2 i (by omega) hi
  · rw [g7 _ (by omega)]; exact f3 i (by omega) hi
theorem cpy_0 {f g : Nat → Int32} {n j : Nat} (h : j < n) : va_cpy f g 0 0 n j = f j := by
  rw [pk_cpy_in (by omega) (by omega)]
  congr 1
  omega
theorem gcp_0 {α : Type} {c : Int32} {n : Nat} {X : Option α} (h : ¬ c < 0) (hn : c.toNatClampNeg ≤ n) : gcp (0 : Int32) (0 : Int32) c n n X = X := by
  unfold gcp
  rw [if_neg]
  have e0 : (0 : Int32).toNatClampNeg = 0 := rfl
  have e1 : ¬ (0 : Int32) < 0 := by decide
  rw [e0]
  rintro ((h1 | h1 | h1) | h1 | h1)
  · exact e1 h1
  · exact e1 h1
  · exact h h1
  · omega
  · omega
theorem copy_is (pe da de bu : Int32) (ki ki0 vs vs0 th th0 ha ha0 ro ro0 : Nat → Int32) (sz : Int32) (ce ce0 : Nat → Int32) (pz : Int32) (pc pc0 : Nat → Int32) (bz : Int32) (bc bc0 : Nat → Int32) : ∃ ki2 vs2 th2 ha2 ro2 ce2 pc2 bc2 : Nat → Int32, f_X6_copyFrom pe da de bu ki ki0 vs vs0 th th0 ha ha0 ro ro0 sz ce ce0 pz pc pc0 bz bc bc0 = some (pe, da, de, bu, ki2, vs2, th2, ha2, ro2, sz, ce2, pz, pc2, bz, bc2) ∧ (∀ i, i < 6 → ki2 i = ki i) ∧ (∀ i, i < 6 → vs2 i = vs i) ∧ (∀ i, i < 6 → th2 i = th i) ∧ (∀ i, i < 36 → ha2 i = ha i) ∧ (∀ i, i < 24 → ro2 i = ro i) ∧ (∀ i, i < 40 → ce2 i = ce i) ∧ (∀ i, i < 40 → pc2 i = pc i) ∧ (∀ i, i < 40 → bc2 i = bc i) := by
  have hX : f_X6_copyFrom pe da de bu ki ki0 vs vs0 th th0 ha ha0 ro ro0 sz ce ce0 pz pc pc0 bz bc bc0 = some (pe, da, de, bu, va_cpy ki ki0 0 0 6, va_cpy vs vs0 0 0 6, va_cpy th th0 0 0 6, va_cpy ha ha0 0 0 36, va_cpy ro ro0 0 0 24, sz, va_cpy ce ce0 0 0 40, pz, va_cpy pc pc0 0 0 40, bz, va_cpy bc bc0 0 0 40) := by
    unfold f_X6_copyFrom f_X3_copyFrom
    rw [gcp_0 (by decide) (by decide), gcp_0 (by decide) (by decide), gcp_0 (by decide) (by decide), gcp_0 (by decide) (by decide), gcp_0 (by decide) (by decide), gcp_0 (by decide) (by decide), Option.bind_some, gcp_0 (by decide) (by decide), Option.bind_some, gcp_0 (by decide) (by decide), Option.bind_some]
    rfl
  exact ⟨_, _, _, _, _, _, _, _, hX, fun i h => cpy_0 h, fun i h => cpy_0 h, fun i h => cpy_0 h, fun i h => cpy_0 h, fun i h => cpy_0 h, fun i h => cpy_0 h, fun i h => cpy_0 h, fun i h => cpy_0 h⟩
