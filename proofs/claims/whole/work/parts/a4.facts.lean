theorem VR.die {bd n d : Nat} {pe da de bu pe' da' : Int32} {ki vs th ha ro ki' vs' de' bu' th' ro' ha' : Nat → Int32} (h : VR bd n d pe da de bu ki vs th ha ro pe' da' ki' vs' de' bu' th' ro' ha') {k : Nat} (hk : k < n) : VR bd n d pe da (de ||| ((1 : Int32) <<< (nI k &&& 31))) bu ki vs th ha ro pe' da' ki' vs' (upd de' k 1) bu' th' ro' ha' := by
  have hn := h.1.1
  obtain ⟨h0, h1, h2, h3, h4, h5, h6⟩ := h
  exact ⟨h0, h1, h2, h3, h4, h5.or hk hn, h6⟩
theorem suffer_loop {bd n d : Nat} {pe da de bu pe' da' : Int32} {ki vs th ro ki' vs' de' bu' th' ro' : Nat → Int32} {p g i : Nat} (hp : p < n) (hi : i < 10) (hg : g = 2 ∨ g = 3) {goes : Nat → Int32} (hgo : goes i = nI g) : ∀ (m x : Nat) (ha ha' : Nat → Int32), x + m = n → VR bd n d pe da de bu ki vs th ha ro pe' da' ki' vs' de' bu' th' ro' ha' → ∃ ha2 ha2', VR bd n d pe da de bu ki vs th ha2 ro pe' da' ki' vs' de' bu' th' ro' ha2' ∧ ∀ F, m < F → f_X6_suffer_20 (nI n) de (nI g) (nI p) F (nI x) ha = some (de, ha2) ∧ ∀ (k21 : Int32 → (Nat → Int32) → (Nat → Int32) → (Nat → Int32) → (Nat → Int32) → (Nat → Int32) → Int32 → (Nat → Int32) → Option (Int32 × TbM)) (im dd bb tt st : Nat → Int32) (dy : Int32), f_X8_ends_75 (nI n) goes k21 F (nI i) (nI p) (nI x) im dd bb tt ha' dy st = k21 (nI i + (1 : Int32)) im dd bb tt ha2' dy st := by
  intro m
  induction m with
  | zero =>
    intro x ha ha' hx hV
    have hn := hV.1.1
    refine ⟨ha, ha', hV, fun F hF => ⟨?_, fun k21 im dd bb tt st dy => ?_⟩⟩
    · obtain ⟨F, rfl⟩ : ∃ f, F = f + 1 := ⟨F - 1, by omega⟩
      unfold f_X6_suffer_20 f_X6_suffer_20_b
      rw [if_pos (by rw [n_le (by omega) (by omega)]; omega)]
    · obtain ⟨F, rfl⟩ : ∃ f, F = f + 1 := ⟨F - 1, by omega⟩
      unfold f_X8_ends_75 f_X8_ends_75_b
      rw [if_pos (by rw [n_le (by omega) (by omega)]; omega)]
  | succ m ih =>
    intro x ha ha' hx hV
    have hn := hV.1.1
    have hkx : ¬ nI n ≤ nI x := by rw [n_le (by omega) (by omega)]; omega
    rcases hg with rfl | rfl
    · obtain ⟨ha2, ha2', g1, g2⟩ := ih (x + 1) _ _ (by omega) (hV.hate (p := p) (q := x) (k := 0) hp (by omega) (by omega) (Or.inr rfl))
      refine ⟨ha2, ha2', g1, fun F hF => ⟨?_, fun k21 im dd bb tt st dy => ?_⟩⟩
      · obtain ⟨F, rfl⟩ : ∃ f, F = f + 1 := ⟨F - 1, by omega⟩
        unfold f_X6_suffer_20 f_X6_suffer_20_b
        rw [if_neg hkx, if_pos (by rfl), setHate_yes hp (by omega) hn, Option.bind_some, n_s]
        exact (g2 F (by omega)).1
      · obtain ⟨F, rfl⟩ : ∃ f, F = f + 1 := ⟨F - 1, by omega⟩
        unfold f_X8_ends_75 f_X8_ends_75_b
        rw [if_neg hkx, n_gd hi (by omega), n_cl (by omega), hgo, if_pos (by rfl), n_mulL, n_gd (by omega) (by omega), n_cl (by omega), n_s]
        exact (g2 F (by omega)).2 k21 im dd bb tt st dy
    · obtain ⟨ha2, ha2', g1, g2⟩ := ih (x + 1) _ _ (by omega) (hV.hate (p := x) (q := p) (k := 0) (by omega) hp (by omega) (Or.inr rfl))
      refine ⟨ha2, ha2', g1, fun F hF => ⟨?_, fun k21 im dd bb tt st dy => ?_⟩⟩
      · obtain ⟨F, rfl⟩ : ∃ f, F = f + 1 := ⟨F - 1, by omega⟩
        unfold f_X6_suffer_20 f_X6_suffer_20_b
        rw [if_neg hkx, if_neg (by decide), if_pos (by rfl), setHate_yes (by omega) hp hn, Option.bind_some, n_s]
        exact (g2 F (by omega)).1
      · obtain ⟨F, rfl⟩ : ∃ f, F = f + 1 := ⟨F - 1, by omega⟩
        unfold f_X8_ends_75 f_X8_ends_75_b
        rw [if_neg hkx, n_gd hi (by omega), n_cl (by omega), hgo, if_neg (by decide), n_mulL, n_gd (by omega) (by omega), n_cl (by omega), n_s]
        exact (g2 F (by omega)).2 k21 im dd bb tt st dy
theorem ends_loop {pa : Nat → Nat} {k : Nat} {W : (Nat → Int32) → Int32} {N : Int32} {σ : Nat → Int32} {φ : Nat → Nat → Int32} {μ : Nat → Int32} {α : Nat → Nat → Int32} {n : Nat} (hC : PC W N (σ (39 + 2 * k)) (σ (40 + 2 * k)) (φ (33 + 2 * k)) (φ (34 + 2 * k))) (hM : PM W N (μ 16) (α 17) (α 18) (α 19) (α 20) (α 21) (α 22)) {a : Nat} (ha10 : a ≤ 10) {pc : Nat → Int32} (hPl : ∀ i, i < a → pc (4 * i) = α 31 i ∧ (∃ g, g ≤ 3 ∧ α 31 i = nI g ∧ (g ≠ 0 → pc (4 * i + 1) = α 32 i)) ∧ (∃ p, α 32 i = nI p ∧ p < 6 ∧ (α 31 i ≠ 0 → p < n))) {ki vs ro im : Nat → Int32} (p1 s1 s2 s3 : Int32) (c1 c2 c3 : Nat → Int32) : ∀ (m i c d2 : Nat) (de bu : Int32) (th ha de' bu' th' ha' : Nat → Int32), i + m = a → d2 ≤ c → c + m ≤ 18000 → VR c n d2 (nI n) (nI d2) de bu ki vs th ha ro (nI n) (nI d2) (α 1) (α 2) de' bu' th' (α 6) ha' → ∃ (c3' d3 : Nat) (de2 bu2 : Int32) (th2 ha2 de2' bu2' th2' ha2' : Nat → Int32), VR c3' n d3 (nI n) (nI d3) de2 bu2 ki vs th2 ha2 ro (nI n) (nI d3) (α 1) (α 2) de2' bu2' th2' (α 6) ha2' ∧ ∀ F, 0 < F → ∀ fa stack : Nat → Int32, ∃ fa2 st2, f_X7_ends_24 (pa k) (nI a) pc (σ (39 + 2 * k)) (σ (40 + 2 * k)) (φ (33 + 2 * k)) (φ (34 + 2 * k)) p1 (F + m) (nI i) (nI n) (nI d2) de bu ki vs th ha ro s1 c1 s2 c2 s3 c3 fa = f_X7_ends_24 (pa k) (nI a) pc (σ (39 + 2 * k)) (σ (40 + 2 * k)) (φ (33 + 2 * k)) (φ (34 + 2 * k)) p1 F (nI a) (nI n) (nI d3) de2 bu2 ki vs th2 ha2 ro s1 c1 s2 c2 s3 c3 fa2 ∧ f_X8_ends_21 (nI n) (μ 16) (nI a) (α 1) (α 2) (α 6) (α 26) (α 27) (α 28) (α 29) (α 31) (α 32) (α 34) (α 35) (α 36) (α 17) (α 18) (α 20) (α 21) (α 22) (α 19) p1 (F + m) (nI i) im de' bu' th' ha' (nI d2) stack = f_X8_ends_21 (nI n) (μ 16) (nI a) (α 1) (α 2) (α 6) (α 26) (α 27) (α 28) (α 29) (α 31) (α 32) (α 34) (α 35) (α 36) (α 17) (α 18) (α 20) (α 21) (α 22) (α 19) p1 F (nI a) im de2' bu2' th2' ha2' (nI d3) st2 := by
  intro m
  induction m with
  | zero =>
    intro i c d2 de bu th ha de' bu' th' ha' hi hd2 hc hV2
    obtain rfl : i = a := by omega
    exact ⟨c, d2, de, bu, th, ha, de', bu', th', ha', hV2, fun F hF fa stack => ⟨fa, stack, rfl, rfl⟩⟩
  | succ m ih =>
    intro i c d2 de bu th ha de' bu' th' ha' hi hd2 hc hV2
    have hn := hV2.1.1
    have hka : ¬ nI a ≤ nI i := by rw [n_le (by omega) (by omega)]; omega
    obtain ⟨w0, ⟨g, hg, w1, w2⟩, ⟨p, w3, w4, w5⟩⟩ := hPl i (by omega)
    obtain ⟨k0, k1, -, -⟩ := cell_l (ce := pc) (show i < a by omega) ha10
    rw [w0, w1] at k0
    have h4 : g = 0 ∨ g = 1 ∨ (g = 2 ∨ g = 3) := by omega
    rcases h4 with rfl | rfl | h23
    · obtain ⟨bu1, th1, ha1, bu1', th1', ha1', g1, g2⟩ := ahead_day hC hM (c := c) (by omega) hd2 hV2
      obtain ⟨c3', d3, de2, bu2, th2, ha2, de2', bu2', th2', ha2', r1, r2⟩ := ih (i + 1) (c + 1) (d2 + 1) de bu1 th1 ha1 de' bu1' th1' ha1' (by omega) (by omega) (by omega) g1
      refine ⟨c3', d3, de2, bu2, th2, ha2, de2', bu2', th2', ha2', r1, fun F hF fa stack => ?_⟩
      obtain ⟨fa1, st1, hx1, hm1⟩ := g2 fa stack
      obtain ⟨fa2, st2, hx, hm⟩ := r2 F hF fa1 st1
      refine ⟨fa2, st2, ?_, ?_⟩
      · rw [← hx, show F + (m + 1) = (F + m) + 1 from rfl]
        conv => lhs; unfold f_X7_ends_24 f_X7_ends_24_b
        rw [if_neg hka, k0, Option.bind_some, if_pos (by rfl), hx1, Option.bind_some, n_s]
      · rw [← hm, show F + (m + 1) = (F + m) + 1 from rfl]
        conv => lhs; unfold f_X8_ends_21 f_X8_ends_21_b
        rw [if_neg hka]
        simp only [n_gd (show i < 10 by omega) (by omega : 10 < 2 ^ 31), n_cl (show i < 2 ^ 31 by omega), nm, w1]
        rw [if_pos (by rfl), hm1, Option.bind_some, n_s]
    · rw [w2 (by omega), w3] at k1
      have hpn : p < n := w5 (by rw [w1]; decide)
      obtain ⟨c3', d3, de2, bu2, th2, ha2, de2', bu2', th2', ha2', r1, r2⟩ := ih (i + 1) c d2 _ bu th ha _ bu' th' ha' (by omega) (by omega) (by omega) (hV2.die hpn)
      refine ⟨c3', d3, de2, bu2, th2, ha2, de2', bu2', th2', ha2', r1, fun F hF fa stack => ?_⟩
      obtain ⟨fa2, st2, hx, hm⟩ := r2 F hF fa stack
      refine ⟨fa2, st2, ?_, ?_⟩
      · rw [← hx, show F + (m + 1) = (F + m) + 1 from rfl]
        conv => lhs; unfold f_X7_ends_24 f_X7_ends_24_b f_X6_suffer
        rw [if_neg hka, k0, Option.bind_some, if_neg (by decide), k1, Option.bind_some, if_pos (by rfl), Option.bind_some, n_s]
      · rw [← hm, show F + (m + 1) = (F + m) + 1 from rfl]
        conv => lhs; unfold f_X8_ends_21 f_X8_ends_21_b
        rw [if_neg hka]
        simp only [n_gd (show i < 10 by omega) (by omega : 10 < 2 ^ 31), n_cl (show i < 2 ^ 31 by omega), nm, w1, w3, n_gd (show p < 6 by omega) (by omega : 6 < 2 ^ 31), n_cl (show p < 2 ^ 31 by omega)]
        rw [if_neg (by decide), if_pos (by rfl), n_s]
    · rw [w2 (by omega), w3] at k1
      have hpn : p < n := w5 (by rw [w1]; rcases h23 with rfl | rfl <;> decide)
      obtain ⟨ha1, ha1', g1, g2⟩ := suffer_loop (goes := α 31) hpn (show i < 10 by omega) h23 w1 n 0 ha ha' (by omega) hV2
      obtain ⟨c3', d3, de2, bu2, th2, ha2, de2', bu2', th2', ha2', r1, r2⟩ := ih (i + 1) c d2 de bu th ha1 de' bu' th' ha1' (by omega) (by omega) (by omega) g1
      refine ⟨c3', d3, de2, bu2, th2, ha2, de2', bu2', th2', ha2', r1, fun F hF fa stack => ?_⟩
      obtain ⟨fa2, st2, hx, hm⟩ := r2 F hF fa stack
      obtain ⟨v1, v2⟩ := g2 1000 (by omega)
      have n0 : ¬ nI g = (0 : Int32) := eq_nay (c := 0) (by show (g : Int) ≠ 0; omega) (by omega)
      have n1 : ¬ nI g = (1 : Int32) := eq_nay (c := 1) (by show (g : Int) ≠ 1; omega) (by omega)
      refine ⟨fa2, st2, ?_, ?_⟩
      · rw [← hx, show F + (m + 1) = (F + m) + 1 from rfl]
        conv => lhs; unfold f_X7_ends_24 f_X7_ends_24_b f_X6_suffer
        rw [if_neg hka, k0, Option.bind_some, if_neg n0, k1, Option.bind_some, if_neg n1, show f_X6_suffer_20 (nI n) de (nI g) (nI p) 1000 0 ha = _ from v1, Option.bind_some, n_s]
      · rw [← hm, show F + (m + 1) = (F + m) + 1 from rfl]
        conv => lhs; unfold f_X8_ends_21 f_X8_ends_21_b
        rw [if_neg hka]
        simp only [n_gd (show i < 10 by omega) (by omega : 10 < 2 ^ 31), n_cl (show i < 2 ^ 31 by omega), nm, w1, w3]
        rw [if_neg n0, if_neg n1]
        refine (v2 _ im de' bu' th' stack (nI d2)).trans ?_
        rw [n_s]
theorem F_ends (G : Gx) (l : Launch) (A : Lx) : Fact_ends G l A (Inv A.2.2.1) := by
  intro S T hI p1
  obtain ⟨σ, φ, τ, nh, kh, ah⟩ := S
  obtain ⟨μ, α, ι⟩ := T
  obtain ⟨n, d, cnt, w, nd, hV, hl, hT, hH, hK, hX, hP, hA, hTp⟩ := hI
  obtain ⟨k, W, N, hk7, hnh, hC, hM⟩ := held hH hP
  have key : ∃ q q', f_X7_ends (σ 10) (σ 11) (σ 12) (σ 13) ah (σ 2) (σ 3) (σ 4) (σ 5) (A.2.2.1 k) (φ 0) (φ 12) (φ 1) (φ 13) (φ 2) (φ 14) (φ 3) (φ 15) (φ 4) (φ 16) (σ 34) (σ 22) (φ 24) (φ 30) (σ 36) (σ 24) (φ 25) (φ 31) (σ 38) (σ 26) (φ 26) (φ 32) (φ 17) (σ (39 + 2 * k)) (σ (40 + 2 * k)) (φ (33 + 2 * k)) (φ (34 + 2 * k)) p1 = some q ∧ f_X8_ends (μ 0) (μ 8) (μ 16) (μ 25) (μ 30) (μ 33) (α 41) (α 1) (α 2) (α 3) (α 4) (α 5) (α 6) (α 7) (α 26) (α 27) (α 28) (α 29) (α 31) (α 32) (α 34) (α 35) (α 36) (α 17) (α 18) (α 20) (α 21) (α 24) (α 22) (α 19) p1 = some q' ∧ q'.1 = q.1 ∧ BK n d σ φ (μ 16) q'.2 := by
    obtain ⟨⟨hn, hd, e2, e3, m0, m8⟩, -⟩ := id hV
    obtain ⟨-, ⟨a, ha10, t1, t2, hPl⟩, -⟩ := id hT
    unfold f_X7_ends f_X8_ends
    rcases n_cases p1 2 (by omega) with ⟨t, ht, rfl⟩ | h
    · rw [if_neg (n_not_neg (by omega)), if_pos (le_yes (c := 1) (by show (t : Int) ≤ 1; omega) (by omega)), wi_yes (c := 1) (by show (t : Int) ≤ 1; omega) (by omega), Option.bind_some, if_neg i_10]
      obtain ⟨ki2, vs2, th2, ha2, ro2, ce2, pc2, bc2, hcp, c1, c2, c3, c4, c5, c6, c7, c8⟩ := copy_is (σ 2) (σ 3) (σ 4) (σ 5) (φ 0) (φ 12) (φ 1) (φ 13) (φ 2) (φ 14) (φ 3) (φ 15) (φ 4) (φ 16) (σ 22) (φ 24) (φ 30) (σ 24) (φ 25) (φ 31) (σ 26) (φ 26) (φ 32)
      obtain ⟨im, hkp, hKI⟩ := keep_is (μ 0) (μ 8) (μ 16) (μ 25) (μ 30) (μ 33) (α 41) (α 1) (α 2) (α 3) (α 4) (α 5) (α 6) (α 7) (α 26) (α 27) (α 28) (α 29) (α 31) (α 32) (α 34) (α 35) (α 36)
      rw [hcp, Option.bind_some, hkp, Option.bind_some]
      have hV2 := hV.copy c1 c2 c3 c4 c5 (fun _ _ => rfl) (fun _ _ => rfl) (fun _ _ => rfl) (fun _ _ => rfl) (fun _ _ => rfl) (fun _ _ => rfl) (fun _ _ => rfl)
      rw [e2, m0, e3, m8] at hV2
      dsimp only
      rw [e2, e3, m0, m8, t1, t2]
      obtain ⟨cc, d2, de3, bu3, th3, ha3, de3', bu3', th3', ha3', g1, g2⟩ := ends_loop (pa := A.2.2.1) (k := k) (im := im) hC hM ha10 hPl (nI t) (σ 22) (nI a) (σ 26) ce2 pc2 bc2 a 0 9999 d (σ 4) (σ 5) th2 ha2 (α 3) (α 4) (α 5) (α 7) (by omega) hd (by omega) hV2
      obtain ⟨fa3, st3, hxx, hmm⟩ := g2 (1000 - a) (by omega) (φ 17) (α 24)
      rw [show 1000 - a + a = 1000 by omega] at hxx hmm
      obtain ⟨q0, hag, hB⟩ := BK.again hV hT hKI (α 1) (α 2) de3' bu3' th3' (α 6) ha3' (α 26) (α 27) (α 28) (α 29) (α 31) (α 32) (α 34) (α 35) (α 36) st3
      obtain ⟨f, hf⟩ : ∃ f, 1000 - a = f + 1 := ⟨1000 - a - 1, by omega⟩
      rw [hf] at hxx hmm
      have haa : nI a ≤ nI a := by rw [n_le (by omega) (by omega)]; omega
      have hbb := (g1.2.2.2.2.2.2.dead hn).2
      obtain ⟨r, z1, z2⟩ := allHate_eq g1
      by_cases h0 : nI t = (0 : Int32)
      · refine ⟨(bu3, nI n, nI d2, de3, bu3, ki2, vs2, th3, ha3, ro2, σ 22, ce2, nI a, pc2, σ 26, bc2, A.2.2.1 k, fa3), (bu3, im, q0.1, q0.2.1, q0.2.2.1, q0.2.2.2.1, q0.2.2.2.2.1, q0.2.2.2.2.2.1, q0.2.2.2.2.2.2.1, q0.2.2.2.2.2.2.2.1, q0.2.2.2.2.2.2.2.2.1, q0.2.2.2.2.2.2.2.2.2.1, q0.2.2.2.2.2.2.2.2.2.2.1, q0.2.2.2.2.2.2.2.2.2.2.2.1, q0.2.2.2.2.2.2.2.2.2.2.2.2.1, q0.2.2.2.2.2.2.2.2.2.2.2.2.2.1, q0.2.2.2.2.2.2.2.2.2.2.2.2.2.2.1, q0.2.2.2.2.2.2.2.2.2.2.2.2.2.2.2.1, q0.2.2.2.2.2.2.2.2.2.2.2.2.2.2.2.2.1, q0.2.2.2.2.2.2.2.2.2.2.2.2.2.2.2.2.2.1, q0.2.2.2.2.2.2.2.2.2.2.2.2.2.2.2.2.2.2.1, q0.2.2.2.2.2.2.2.2.2.2.2.2.2.2.2.2.2.2.2.1, q0.2.2.2.2.2.2.2.2.2.2.2.2.2.2.2.2.2.2.2.2.1, q0.2.2.2.2.2.2.2.2.2.2.2.2.2.2.2.2.2.2.2.2.2, st3), hxx.trans ?_, hmm.trans ?_, rfl, hB⟩
        · unfold f_X7_ends_24 f_X7_ends_24_b
          rw [if_pos haa, if_pos h0]
        · unfold f_X8_ends_21 f_X8_ends_21_b
          rw [if_pos haa, if_pos h0, hbb, Option.bind_some, hag, Option.bind_some]
      · refine ⟨(r, nI n, nI d2, de3, bu3, ki2, vs2, th3, ha3, ro2, σ 22, ce2, nI a, pc2, σ 26, bc2, A.2.2.1 k, fa3), (r, im, q0.1, q0.2.1, q0.2.2.1, q0.2.2.2.1, q0.2.2.2.2.1, q0.2.2.2.2.2.1, q0.2.2.2.2.2.2.1, q0.2.2.2.2.2.2.2.1, q0.2.2.2.2.2.2.2.2.1, q0.2.2.2.2.2.2.2.2.2.1, q0.2.2.2.2.2.2.2.2.2.2.1, q0.2.2.2.2.2.2.2.2.2.2.2.1, q0.2.2.2.2.2.2.2.2.2.2.2.2.1, q0.2.2.2.2.2.2.2.2.2.2.2.2.2.1, q0.2.2.2.2.2.2.2.2.2.2.2.2.2.2.1, q0.2.2.2.2.2.2.2.2.2.2.2.2.2.2.2.1, q0.2.2.2.2.2.2.2.2.2.2.2.2.2.2.2.2.1, q0.2.2.2.2.2.2.2.2.2.2.2.2.2.2.2.2.2.1, q0.2.2.2.2.2.2.2.2.2.2.2.2.2.2.2.2.2.2.1, q0.2.2.2.2.2.2.2.2.2.2.2.2.2.2.2.2.2.2.2.1, q0.2.2.2.2.2.2.2.2.2.2.2.2.2.2.2.2.2.2.2.2.1, q0.2.2.2.2.2.2.2.2.2.2.2.2.2.2.2.2.2.2.2.2.2, st3), hxx.trans ?_, hmm.trans ?_, rfl, hB⟩
        · unfold f_X7_ends_24 f_X7_ends_24_b
          rw [if_pos haa, if_neg h0, z1, Option.bind_some]
        · unfold f_X8_ends_21 f_X8_ends_21_b
          rw [if_pos haa, if_neg h0, z2, Option.bind_some, hag, Option.bind_some]
    · rw [le_no (c := 1) (by show p1.toInt < 0 ∨ (1 : Int) < p1.toInt; omega), within_no (by show p1.toInt < 0 ∨ (1 : Int) < p1.toInt; omega), Option.bind_some, if_pos rfl]
      exact ⟨_, _, rfl, rfl, rfl, BK.same hV hT _ _⟩
  obtain ⟨q, q', hx, hm, e, hB⟩ := key
  subst hnh
  refine ⟨q.1, (upd (upd (upd (upd (upd (upd (upd σ 10 q.2.1) 11 q.2.2.1) 12 q.2.2.2.1) 13 q.2.2.2.2.1) 34 q.2.2.2.2.2.2.2.2.2.2.1) 36 q.2.2.2.2.2.2.2.2.2.2.2.2.1) 38 q.2.2.2.2.2.2.2.2.2.2.2.2.2.2.1, va_up (va_up (va_up (va_up (va_up (va_up (va_up (va_up (va_up φ 12 q.2.2.2.2.2.1) 13 q.2.2.2.2.2.2.1) 14 q.2.2.2.2.2.2.2.1) 15 q.2.2.2.2.2.2.2.2.1) 16 q.2.2.2.2.2.2.2.2.2.1) 30 q.2.2.2.2.2.2.2.2.2.2.2.1) 31 q.2.2.2.2.2.2.2.2.2.2.2.2.2.1) 32 q.2.2.2.2.2.2.2.2.2.2.2.2.2.2.2.1) 17 q.2.2.2.2.2.2.2.2.2.2.2.2.2.2.2.2.2, τ, A.2.2.1 k, kh, q.2.2.2.2.2.2.2.2.2.2.2.2.2.2.2.2.1), (upd (upd (upd (upd (upd (upd μ 0 q'.2.2.2.2.2.2.2.2.2.2.2.2.2.2.2.1) 8 q'.2.2.2.2.2.2.2.2.2.2.2.2.2.2.2.2.1) 25 q'.2.2.2.2.2.2.2.2.2.2.2.2.2.2.2.2.2.1) 30 q'.2.2.2.2.2.2.2.2.2.2.2.2.2.2.2.2.2.2.1) 33 q'.2.2.2.2.2.2.2.2.2.2.2.2.2.2.2.2.2.2.2.1) 16 q'.2.2.2.2.2.2.2.2.2.2.2.2.2.2.2.2.2.2.2.2.1, va_up (va_up (va_up (va_up (va_up (va_up (va_up (va_up (va_up (va_up (va_up (va_up (va_up (va_up (va_up (va_up (va_up (va_up α 41 q'.2.1) 1 q'.2.2.1) 2 q'.2.2.2.1) 3 q'.2.2.2.2.1) 4 q'.2.2.2.2.2.1) 5 q'.2.2.2.2.2.2.1) 6 q'.2.2.2.2.2.2.2.1) 7 q'.2.2.2.2.2.2.2.2.1) 26 q'.2.2.2.2.2.2.2.2.2.1) 27 q'.2.2.2.2.2.2.2.2.2.2.1) 28 q'.2.2.2.2.2.2.2.2.2.2.2.1) 29 q'.2.2.2.2.2.2.2.2.2.2.2.2.1) 31 q'.2.2.2.2.2.2.2.2.2.2.2.2.2.1) 32 q'.2.2.2.2.2.2.2.2.2.2.2.2.2.2.1) 34 q'.2.2.2.2.2.2.2.2.2.2.2.2.2.2.2.2.2.2.2.2.2.1) 35 q'.2.2.2.2.2.2.2.2.2.2.2.2.2.2.2.2.2.2.2.2.2.2.1) 36 q'.2.2.2.2.2.2.2.2.2.2.2.2.2.2.2.2.2.2.2.2.2.2.2.1) 24 q'.2.2.2.2.2.2.2.2.2.2.2.2.2.2.2.2.2.2.2.2.2.2.2.2, ι), LX_ends _ _ _ _ _ _ _ _ _ _ _ _ _ k hk7 hx, e ▸ L_M_ends _ _ _ _ _ _ _ _ _ hm, ?_⟩
  obtain ⟨hV2, hT2, hH2⟩ := hB
  refine ⟨n, d, cnt, w, nd, hV2, hl, hT2, ?_, hK, hX, hP.keep rfl (fun i h1 h2 => ?_) (fun i h1 h2 => ?_) rfl rfl (fun i h1 h2 => ?_), hA, hTp.keep (fun i h => ?_) rfl rfl rfl rfl⟩
  · show HR A.2.2.1 cnt (A.2.2.1 k) q'.2.2.2.2.2.2.2.2.2.2.2.2.2.2.2.2.2.2.2.2.1
    rw [hH2]
    exact hH
  · rw [upd_ne (by omega), upd_ne (by omega), upd_ne (by omega), upd_ne (by omega), upd_ne (by omega), upd_ne (by omega), upd_ne (by omega)]
  · rw [vup_ne (by omega), vup_ne (by omega), vup_ne (by omega), vup_ne (by omega), vup_ne (by omega), vup_ne (by omega), vup_ne (by omega), vup_ne (by omega), vup_ne (by omega)]
  · rw [vup_ne (by omega), vup_ne (by omega), vup_ne (by omega), vup_ne (by omega), vup_ne (by omega), vup_ne (by omega), vup_ne (by omega), vup_ne (by omega), vup_ne (by omega), vup_ne (by omega), vup_ne (by omega), vup_ne (by omega), vup_ne (by omega), vup_ne (by omega), vup_ne (by omega), vup_ne (by omega), vup_ne (by omega), vup_ne (by omega)]
  · rw [upd_ne (by omega), upd_ne (by omega), upd_ne (by omega), upd_ne (by omega), upd_ne (by omega), upd_ne (by omega), upd_ne (by omega)]
