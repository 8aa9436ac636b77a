abbrev TbM : Type := (Nat → Int32) × (Nat → Int32) × (Nat → Int32) × (Nat → Int32) × (Nat → Int32) × (Nat → Int32) × (Nat → Int32) × (Nat → Int32) × (Nat → Int32) × (Nat → Int32) × (Nat → Int32) × (Nat → Int32) × (Nat → Int32) × (Nat → Int32) × Int32 × Int32 × Int32 × Int32 × Int32 × Int32 × (Nat → Int32) × (Nat → Int32) × (Nat → Int32) × (Nat → Int32)
/-- the reference stands as it stood: the image was laid again -/
def BK (n d : Nat) (σ : Nat → Int32) (φ : Nat → Nat → Int32) (hold : Int32) : TbM → Prop
  | (_, kind, v, dead, buried, thrown, rows, hate, seenBy, seenOf, seenIn, seenSo, goes, whose, people, day, seen, inPlan, inBook, holds, bookBy, bookOf, bookHate, _) =>
    VR 9999 n d (σ 2) (σ 3) (σ 4) (σ 5) (φ 0) (φ 1) (φ 2) (φ 3) (φ 4) people day kind v dead buried thrown rows hate ∧
    TR n (σ 22) (φ 24) (σ 24) (φ 25) (σ 26) (φ 26) seen seenBy seenOf seenIn seenSo inPlan goes whose inBook bookBy bookOf bookHate ∧ holds = hold
theorem BK.same {n d : Nat} {σ : Nat → Int32} {φ : Nat → Nat → Int32} {μ : Nat → Int32} {α : Nat → Nat → Int32} (hV : VR 9999 n d (σ 2) (σ 3) (σ 4) (σ 5) (φ 0) (φ 1) (φ 2) (φ 3) (φ 4) (μ 0) (μ 8) (α 1) (α 2) (α 3) (α 4) (α 5) (α 6) (α 7)) (hT : TR n (σ 22) (φ 24) (σ 24) (φ 25) (σ 26) (φ 26) (μ 25) (α 26) (α 27) (α 28) (α 29) (μ 30) (α 31) (α 32) (μ 33) (α 34) (α 35) (α 36)) (x y : Nat → Int32) : BK n d σ φ (μ 16) (x, α 1, α 2, α 3, α 4, α 5, α 6, α 7, α 26, α 27, α 28, α 29, α 31, α 32, μ 0, μ 8, μ 25, μ 30, μ 33, μ 16, α 34, α 35, α 36, y) := ⟨hV, hT, rfl⟩
/-- the image laid again, whatever stood there -/
theorem BK.again {n d : Nat} {σ : Nat → Int32} {φ : Nat → Nat → Int32} {μ : Nat → Int32} {α : Nat → Nat → Int32} (hV : VR 9999 n d (σ 2) (σ 3) (σ 4) (σ 5) (φ 0) (φ 1) (φ 2) (φ 3) (φ 4) (μ 0) (μ 8) (α 1) (α 2) (α 3) (α 4) (α 5) (α 6) (α 7)) (hT : TR n (σ 22) (φ 24) (σ 24) (φ 25) (σ 26) (φ 26) (μ 25) (α 26) (α 27) (α 28) (α 29) (μ 30) (α 31) (α 32) (μ 33) (α 34) (α 35) (α 36)) {im : Nat → Int32} (hK : KI im (μ 0) (μ 8) (μ 16) (μ 25) (μ 30) (μ 33) (α 1) (α 2) (α 3) (α 4) (α 5) (α 6) (α 7) (α 26) (α 27) (α 28) (α 29) (α 31) (α 32) (α 34) (α 35) (α 36)) (kind v dead buried thrown rows hate seenBy seenOf seenIn seenSo goes whose bookBy bookOf bookHate st : Nat → Int32) : ∃ q, f_X8_again im kind v dead buried thrown rows hate seenBy seenOf seenIn seenSo goes whose bookBy bookOf bookHate = some q ∧ BK n d σ φ (μ 16) (im, q.1, q.2.1, q.2.2.1, q.2.2.2.1, q.2.2.2.2.1, q.2.2.2.2.2.1, q.2.2.2.2.2.2.1, q.2.2.2.2.2.2.2.1, q.2.2.2.2.2.2.2.2.1, q.2.2.2.2.2.2.2.2.2.1, q.2.2.2.2.2.2.2.2.2.2.1, q.2.2.2.2.2.2.2.2.2.2.2.1, q.2.2.2.2.2.2.2.2.2.2.2.2.1, q.2.2.2.2.2.2.2.2.2.2.2.2.2.1, q.2.2.2.2.2.2.2.2.2.2.2.2.2.2.1, q.2.2.2.2.2.2.2.2.2.2.2.2.2.2.2.1, q.2.2.2.2.2.2.2.2.2.2.2.2.2.2.2.2.1, q.2.2.2.2.2.2.2.2.2.2.2.2.2.2.2.2.2.1, q.2.2.2.2.2.2.2.2.2.2.2.2.2.2.2.2.2.2.1, q.2.2.2.2.2.2.2.2.2.2.2.2.2.2.2.2.2.2.2.1, q.2.2.2.2.2.2.2.2.2.2.2.2.2.2.2.2.2.2.2.2.1, q.2.2.2.2.2.2.2.2.2.2.2.2.2.2.2.2.2.2.2.2.2, st) := by
  obtain ⟨y1, y2, y3, y4, y5, y6, y7, y8, y9, y10, y11, y12, y13, y14, y15, y16, hm, k1, k2, k3, k4, k5, k6, -⟩ := again_is im rows hate seenBy seenOf seenIn seenSo goes whose bookBy bookOf bookHate kind v dead buried thrown
  obtain ⟨j1, j2, j3, j4, j5, j6, j7, j8, j9, j10, j11, j12⟩ := hK
  refine ⟨_, hm, ?_⟩
  show VR 9999 n d (σ 2) (σ 3) (σ 4) (σ 5) (φ 0) (φ 1) (φ 2) (φ 3) (φ 4) (im 154) (im 155) y1 y2 y3 y4 y5 y6 y7 ∧ TR n (σ 22) (φ 24) (σ 24) (φ 25) (σ 26) (φ 26) (im 156) y8 y9 y10 y11 (im 157) y12 y13 (im 158) y14 y15 y16 ∧ im 159 = μ 16
  rw [j7, j8, j9, j10, j11, j12]
  refine ⟨hV.copy (fun _ _ => rfl) (fun _ _ => rfl) (fun _ _ => rfl) (fun _ _ => rfl) (fun _ _ => rfl) (fun p hp => ?_) (fun p hp => ?_) (fun p hp => ?_) (fun p hp => ?_) (fun p hp => ?_) (fun i hi => ?_) (fun i hi => ?_), hT.copy (fun _ _ => rfl) (fun _ _ => rfl) (fun _ _ => rfl) (fun i hi => ⟨?_, ?_, ?_, ?_⟩) (fun i hi => ⟨?_, ?_⟩) (fun i hi => ⟨?_, ?_, ?_⟩), rfl⟩
  · exact (k1 p hp).1.symm.trans (j1 p hp).1
  · exact (k1 p hp).2.1.symm.trans (j1 p hp).2.1
  · exact (k1 p hp).2.2.1.symm.trans (j1 p hp).2.2.1
  · exact (k1 p hp).2.2.2.1.symm.trans (j1 p hp).2.2.2.1
  · exact (k1 p hp).2.2.2.2.symm.trans (j1 p hp).2.2.2.2
  · exact (k2 i hi).symm.trans (j2 i hi)
  · exact (k3 i hi).symm.trans (j3 i hi)
  · exact (k4 i hi).1.symm.trans (j4 i hi).1
  · exact (k4 i hi).2.1.symm.trans (j4 i hi).2.1
  · exact (k4 i hi).2.2.1.symm.trans (j4 i hi).2.2.1
  · exact (k4 i hi).2.2.2.symm.trans (j4 i hi).2.2.2
  · exact (k5 i hi).1.symm.trans (j5 i hi).1
  · exact (k5 i hi).2.symm.trans (j5 i hi).2
  · exact (k6 i hi).1.symm.trans (j6 i hi).1
  · exact (k6 i hi).2.1.symm.trans (j6 i hi).2.1
  · exact (k6 i hi).2.2.symm.trans (j6 i hi).2.2
/-- days ahead, of both sides -/
theorem on_loop {W : (Nat → Int32) → Int32} {N len need : Int32} {steps numbers : Nat → Int32} {holds : Int32} {clauses word number begins length code : Nat → Int32} (hC : PC W N len need steps numbers) (hM : PM W N holds clauses word number begins length code) {n j : Nat} (hj : j ≤ 30) {de : Int32} {ki vs ro ki' vs' de' ro' : Nat → Int32} (nh : Nat) (x3 x4 x5 x6 x7 s1 s2 s3 p2 : Int32) (c1 c2 c3 ahead b1 b2 b3 b4 b5 b6 b7 b8 b9 : Nat → Int32) : ∀ (m k c d : Nat) (bu : Int32) (th ha bu' th' ha' : Nat → Int32), k + m = j → d ≤ c → c + m ≤ 19000 → VR c n d (nI n) (nI d) de bu ki vs th ha ro (nI n) (nI d) ki' vs' de' bu' th' ro' ha' → ∃ (c2' d2 : Nat) (bu2 : Int32) (th2 ha2 bu2' th2' ha2' : Nat → Int32), VR c2' n d2 (nI n) (nI d2) de bu2 ki vs th2 ha2 ro (nI n) (nI d2) ki' vs' de' bu2' th2' ro' ha2' ∧ ∀ F, ∀ fa stack : Nat → Int32, ∃ fa2 st2, f_X7_on_127 nh len need steps numbers (nI j) (F + m) x3 x4 x5 x6 x7 (nI k) (nI n) (nI d) de bu ki vs th ha ro s1 c1 s2 c2 s3 c3 fa = f_X7_on_127 nh len need steps numbers (nI j) F x3 x4 x5 x6 x7 (nI j) (nI n) (nI d2) de bu2 ki vs th2 ha2 ro s1 c1 s2 c2 s3 c3 fa2 ∧ f_X8_on_33 (nI n) holds ki' vs' de' ro' b1 b2 b3 b4 b5 b6 b7 b8 b9 clauses word begins length code number (nI j) p2 (F + m) (nI k) ahead bu' th' ha' (nI d) stack = f_X8_on_33 (nI n) holds ki' vs' de' ro' b1 b2 b3 b4 b5 b6 b7 b8 b9 clauses word begins length code number (nI j) p2 F (nI j) ahead bu2' th2' ha2' (nI d2) st2 := by
  intro m
  induction m with
  | zero =>
    intro k c d bu th ha bu' th' ha' hk hd hc hV
    obtain rfl : k = j := by omega
    exact ⟨c, d, bu, th, ha, bu', th', ha', hV, fun F fa stack => ⟨fa, stack, rfl, rfl⟩⟩
  | succ m ih =>
    intro k c d bu th ha bu' th' ha' hk hd hc hV
    have hkj : ¬ nI j ≤ nI k := by rw [n_le (by omega) (by omega)]; omega
    obtain ⟨bu1, th1, ha1, bu1', th1', ha1', g1, g2⟩ := ahead_day hC hM (c := c) (by omega) hd hV
    obtain ⟨c3', d2, bu2, th2, ha2, bu2', th2', ha2', r1, r2⟩ := ih (k + 1) (c + 1) (d + 1) bu1 th1 ha1 bu1' th1' ha1' (by omega) (by omega) (by omega) g1
    refine ⟨c3', d2, bu2, th2, ha2, bu2', th2', ha2', r1, fun F fa stack => ?_⟩
    obtain ⟨fa1, st1, hx1, hm1⟩ := g2 fa stack
    obtain ⟨fa2, st2, hx, hm⟩ := r2 F fa1 st1
    refine ⟨fa2, st2, ?_, ?_⟩
    · rw [← hx, show F + (m + 1) = (F + m) + 1 from rfl]
      conv => lhs; unfold f_X7_on_127 f_X7_on_127_b
      rw [if_neg hkj, hx1, Option.bind_some, n_s]
    · rw [← hm, show F + (m + 1) = (F + m) + 1 from rfl]
      conv => lhs; unfold f_X8_on_33 f_X8_on_33_b
      rw [if_neg hkj, hm1, Option.bind_some, n_s]
