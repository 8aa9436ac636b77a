/-- the reference's way out: it has found x, or it has gone its days -/
theorem lies_out {σ : Nat → Int32} {φ : Nat → Nat → Int32} {μ : Nat → Int32} {α : Nat → Nat → Int32} {n d p : Nat} (hV : VR 9999 n d (σ 2) (σ 3) (σ 4) (σ 5) (φ 0) (φ 1) (φ 2) (φ 3) (φ 4) (μ 0) (μ 8) (α 1) (α 2) (α 3) (α 4) (α 5) (α 6) (α 7)) (hT : TR n (σ 22) (φ 24) (σ 24) (φ 25) (σ 26) (φ 26) (μ 25) (α 26) (α 27) (α 28) (α 29) (μ 30) (α 31) (α 32) (μ 33) (α 34) (α 35) (α 36)) {im : Nat → Int32} (hKI : KI im (μ 0) (μ 8) (μ 16) (μ 25) (μ 30) (μ 33) (α 1) (α 2) (α 3) (α 4) (α 5) (α 6) (α 7) (α 26) (α 27) (α 28) (α 29) (α 31) (α 32) (α 34) (α 35) (α 36)) (x2 x3 da : Int32) (h : (31 : Int32) ≤ x3 ∨ ¬ x2 = -5) (bu th ha st : Nat → Int32) (F : Nat) : ∃ q', f_X8_lies_25 (nI n) (μ 16) (α 3) (α 1) (α 2) (α 6) (α 26) (α 27) (α 28) (α 29) (α 31) (α 32) (α 34) (α 35) (α 36) (α 17) (α 18) (α 20) (α 21) (α 22) (α 19) (nI p) (F + 1) x2 x3 im bu th ha da st = some q' ∧ q'.1 = x2 ∧ BK n d σ φ (μ 16) q'.2 := by
  obtain ⟨q0, hag, hB⟩ := BK.again hV hT hKI (α 1) (α 2) (α 3) bu th (α 6) ha (α 26) (α 27) (α 28) (α 29) (α 31) (α 32) (α 34) (α 35) (α 36) st
  refine ⟨(x2, im, q0.1, q0.2.1, q0.2.2.1, q0.2.2.2.1, q0.2.2.2.2.1, q0.2.2.2.2.2.1, q0.2.2.2.2.2.2.1, q0.2.2.2.2.2.2.2.1, q0.2.2.2.2.2.2.2.2.1, q0.2.2.2.2.2.2.2.2.2.1, q0.2.2.2.2.2.2.2.2.2.2.1, q0.2.2.2.2.2.2.2.2.2.2.2.1, q0.2.2.2.2.2.2.2.2.2.2.2.2.1, q0.2.2.2.2.2.2.2.2.2.2.2.2.2.1, q0.2.2.2.2.2.2.2.2.2.2.2.2.2.2.1, q0.2.2.2.2.2.2.2.2.2.2.2.2.2.2.2.1, q0.2.2.2.2.2.2.2.2.2.2.2.2.2.2.2.2.1, q0.2.2.2.2.2.2.2.2.2.2.2.2.2.2.2.2.2.1, q0.2.2.2.2.2.2.2.2.2.2.2.2.2.2.2.2.2.2.1, q0.2.2.2.2.2.2.2.2.2.2.2.2.2.2.2.2.2.2.2.1, q0.2.2.2.2.2.2.2.2.2.2.2.2.2.2.2.2.2.2.2.2.1, q0.2.2.2.2.2.2.2.2.2.2.2.2.2.2.2.2.2.2.2.2.2, st), ?_, rfl, hB⟩
  unfold f_X8_lies_25 f_X8_lies_25_b
  by_cases h3 : (31 : Int32) ≤ x3
  · rw [if_pos h3, hag, Option.bind_some]
  · rw [if_neg h3, if_neg (h.resolve_left h3), hag, Option.bind_some]
theorem lies_loop {pa : Nat → Nat} {k : Nat} {W : (Nat → Int32) → Int32} {N : Int32} {σ : Nat → Int32} {φ : Nat → Nat → Int32} {μ : Nat → Int32} {α : Nat → Nat → Int32} {n d : Nat} (hC : PC W N (σ (39 + 2 * k)) (σ (40 + 2 * k)) (φ (33 + 2 * k)) (φ (34 + 2 * k))) (hM : PM W N (μ 16) (α 17) (α 18) (α 19) (α 20) (α 21) (α 22))
    (hV : VR 9999 n d (σ 2) (σ 3) (σ 4) (σ 5) (φ 0) (φ 1) (φ 2) (φ 3) (φ 4) (μ 0) (μ 8) (α 1) (α 2) (α 3) (α 4) (α 5) (α 6) (α 7)) (hT : TR n (σ 22) (φ 24) (σ 24) (φ 25) (σ 26) (φ 26) (μ 25) (α 26) (α 27) (α 28) (α 29) (μ 30) (α 31) (α 32) (μ 33) (α 34) (α 35) (α 36)) {im : Nat → Int32} (hKI : KI im (μ 0) (μ 8) (μ 16) (μ 25) (μ 30) (μ 33) (α 1) (α 2) (α 3) (α 4) (α 5) (α 6) (α 7) (α 26) (α 27) (α 28) (α 29) (α 31) (α 32) (α 34) (α 35) (α 36)) {p : Nat} (hp : p < n) {ki vs ro : Nat → Int32} (c1 c2 c3 : Nat → Int32) : ∀ (m j c d2 : Nat) (bu : Int32) (th ha bu' th' ha' : Nat → Int32), j + m = 30 → d2 ≤ c → c + m ≤ 18000 → VR c n d2 (nI n) (nI d2) (σ 4) bu ki vs th ha ro (nI n) (nI d2) (α 1) (α 2) (α 3) bu' th' (α 6) ha' → ¬ bu' p = 1 → ∀ (F F' : Nat), m + 3 < F → m + 3 < F' → ∀ fa stack : Nat → Int32, ∃ q q', f_X7_lies_30 (pa k) (σ (39 + 2 * k)) (σ (40 + 2 * k)) (φ (33 + 2 * k)) (φ (34 + 2 * k)) (nI p) F (nI j) (nI n) (nI d2) (σ 4) bu ki vs th ha ro (σ 22) c1 (σ 24) c2 (σ 26) c3 fa = some q ∧ f_X8_lies_25 (nI n) (μ 16) (α 3) (α 1) (α 2) (α 6) (α 26) (α 27) (α 28) (α 29) (α 31) (α 32) (α 34) (α 35) (α 36) (α 17) (α 18) (α 20) (α 21) (α 22) (α 19) (nI p) F' (-5) (nI (j + 1)) im bu' th' ha' (nI d2) stack = some q' ∧ q'.1 = q.1 ∧ BK n d σ φ (μ 16) q'.2 := by
  intro m
  induction m with
  | zero =>
    intro j c d2 bu th ha bu' th' ha' hj hd2 hc hV2 hb F F' hF hF' fa stack
    obtain rfl : j = 30 := by omega
    obtain ⟨F, rfl⟩ : ∃ f, F = f + 2 := ⟨F - 2, by omega⟩
    obtain ⟨F', rfl⟩ : ∃ f, F' = f + 1 := ⟨F' - 1, by omega⟩
    obtain ⟨bu1, th1, ha1, bu1', th1', ha1', g1, g2⟩ := ahead_day hC hM (c := c) (by omega) hd2 hV2
    obtain ⟨fa1, st1, hx1, -⟩ := g2 fa stack
    obtain ⟨q', y1, y2, y3⟩ := lies_out (p := p) hV hT hKI (-5) (nI (30 + 1)) (nI d2) (Or.inl (by decide)) bu' th' ha' stack F'
    have hbit := hV2.2.2.2.2.2.2.at hp hV2.1.1
    have hX : f_X7_lies_30 (pa k) (σ (39 + 2 * k)) (σ (40 + 2 * k)) (φ (33 + 2 * k)) (φ (34 + 2 * k)) (nI p) (F + 2) (nI 30) (nI n) (nI d2) (σ 4) bu ki vs th ha ro (σ 22) c1 (σ 24) c2 (σ 26) c3 fa = some (-5, nI n, nI (d2 + 1), σ 4, bu1, ki, vs, th1, ha1, ro, σ 22, c1, σ 24, c2, σ 26, c3, pa k, fa1) := by
      unfold f_X7_lies_30 f_X7_lies_30_b
      rw [if_neg (by decide), hbit, Option.bind_some, if_neg hb, hx1, Option.bind_some]
      unfold f_X7_lies_30 f_X7_lies_30_b
      rw [if_pos (by decide)]
    exact ⟨_, q', hX, y1, y2, y3⟩
  | succ m ih =>
    intro j c d2 bu th ha bu' th' ha' hj hd2 hc hV2 hb F F' hF hF' fa stack
    have hn := hV2.1.1
    obtain ⟨F, rfl⟩ : ∃ f, F = f + 1 := ⟨F - 1, by omega⟩
    obtain ⟨F', rfl⟩ : ∃ f, F' = f + 1 := ⟨F' - 1, by omega⟩
    obtain ⟨bu1, th1, ha1, bu1', th1', ha1', g1, g2⟩ := ahead_day hC hM (c := c) (by omega) hd2 hV2
    obtain ⟨fa1, st1, hx1, hm1⟩ := g2 fa stack
    have hbit := hV2.2.2.2.2.2.2.at hp hV2.1.1
    have hbit1 := g1.2.2.2.2.2.2.at hp hV2.1.1
    have eX : f_X7_lies_30 (pa k) (σ (39 + 2 * k)) (σ (40 + 2 * k)) (φ (33 + 2 * k)) (φ (34 + 2 * k)) (nI p) (F + 1) (nI j) (nI n) (nI d2) (σ 4) bu ki vs th ha ro (σ 22) c1 (σ 24) c2 (σ 26) c3 fa = f_X7_lies_30 (pa k) (σ (39 + 2 * k)) (σ (40 + 2 * k)) (φ (33 + 2 * k)) (φ (34 + 2 * k)) (nI p) F (nI (j + 1)) (nI n) (nI (d2 + 1)) (σ 4) bu1 ki vs th1 ha1 ro (σ 22) c1 (σ 24) c2 (σ 26) c3 fa1 := by
      conv => lhs; unfold f_X7_lies_30 f_X7_lies_30_b
      rw [if_neg (lt_nay' (c := 30) (by show (j : Int) ≤ 30; omega) (by omega)), hbit, Option.bind_some, if_neg hb, hx1, Option.bind_some, n_s]
    have h31 : ¬ (31 : Int32) ≤ nI (j + 1) := by rw [n_leT, n_toInt (by omega)]; show ¬ (31 : Int) ≤ ((j + 1 : Nat) : Int); omega
    have h0 : ¬ nI (j + 1) ≤ (0 : Int32) := le_nay (c := 0) (by show (0 : Int) < ((j + 1 : Nat) : Int); omega) (by omega)
    by_cases hb1 : bu1' p = 1
    · obtain ⟨F2, rfl⟩ : ∃ f, F = f + 1 := ⟨F - 1, by omega⟩
      obtain ⟨F2', rfl⟩ : ∃ f, F' = f + 1 := ⟨F' - 1, by omega⟩
      obtain ⟨q', y1, y2, y3⟩ := lies_out (p := p) hV hT hKI (nI (j + 1)) (nI (j + 1) + (1 : Int32)) (nI (d2 + 1)) (Or.inr (eq_nay (c := -5) (by show ((j + 1 : Nat) : Int) ≠ -5; omega) (by omega))) bu1' th1' ha1' st1 F2'
      have hX : f_X7_lies_30 (pa k) (σ (39 + 2 * k)) (σ (40 + 2 * k)) (φ (33 + 2 * k)) (φ (34 + 2 * k)) (nI p) (F2 + 1) (nI (j + 1)) (nI n) (nI (d2 + 1)) (σ 4) bu1 ki vs th1 ha1 ro (σ 22) c1 (σ 24) c2 (σ 26) c3 fa1 = some (nI (j + 1), nI n, nI (d2 + 1), σ 4, bu1, ki, vs, th1, ha1, ro, σ 22, c1, σ 24, c2, σ 26, c3, pa k, fa1) := by
        unfold f_X7_lies_30 f_X7_lies_30_b
        rw [if_neg (lt_nay' (c := 30) (by show ((j + 1 : Nat) : Int) ≤ 30; omega) (by omega)), hbit1, Option.bind_some, if_pos hb1]
      refine ⟨_, q', eX.trans hX, ?_, y2, y3⟩
      rw [← y1]
      conv => lhs; unfold f_X8_lies_25 f_X8_lies_25_b
      rw [if_neg h31, if_pos rfl, if_neg h0, hm1, Option.bind_some, n_gd (show p < 6 by omega) (by omega), n_cl (by omega), if_pos hb1]
    · obtain ⟨q, q', y0, y1, y2, y3⟩ := ih (j + 1) (c + 1) (d2 + 1) bu1 th1 ha1 bu1' th1' ha1' (by omega) (by omega) (by omega) g1 hb1 F F' (by omega) (by omega) fa1 st1
      refine ⟨q, q', eX.trans y0, ?_, y2, y3⟩
      rw [← y1]
      conv => lhs; unfold f_X8_lies_25 f_X8_lies_25_b
      rw [if_neg h31, if_pos rfl, if_neg h0, hm1, Option.bind_some, n_gd (show p < 6 by omega) (by omega), n_cl (by omega), if_neg hb1, n_s]
theorem lies_eq {pa : Nat → Nat} {k ah : Nat} {W : (Nat → Int32) → Int32} {N : Int32} {σ : Nat → Int32} {φ : Nat → Nat → Int32} {μ : Nat → Int32} {α : Nat → Nat → Int32} {n d : Nat} (hC : PC W N (σ (39 + 2 * k)) (σ (40 + 2 * k)) (φ (33 + 2 * k)) (φ (34 + 2 * k))) (hM : PM W N (μ 16) (α 17) (α 18) (α 19) (α 20) (α 21) (α 22))
    (hV : VR 9999 n d (σ 2) (σ 3) (σ 4) (σ 5) (φ 0) (φ 1) (φ 2) (φ 3) (φ 4) (μ 0) (μ 8) (α 1) (α 2) (α 3) (α 4) (α 5) (α 6) (α 7)) (hT : TR n (σ 22) (φ 24) (σ 24) (φ 25) (σ 26) (φ 26) (μ 25) (α 26) (α 27) (α 28) (α 29) (μ 30) (α 31) (α 32) (μ 33) (α 34) (α 35) (α 36)) {p : Nat} (hp : p < n) : ∃ q q', f_X7_lies (σ 2) (σ 3) (σ 4) (σ 5) (pa k) (σ 10) (σ 11) (σ 12) (σ 13) ah (φ 0) (φ 12) (φ 1) (φ 13) (φ 2) (φ 14) (φ 3) (φ 15) (φ 4) (φ 16) (σ 34) (σ 22) (φ 24) (φ 30) (σ 36) (σ 24) (φ 25) (φ 31) (σ 38) (σ 26) (φ 26) (φ 32) (φ 17) (σ (39 + 2 * k)) (σ (40 + 2 * k)) (φ (33 + 2 * k)) (φ (34 + 2 * k)) (nI p) = some q ∧ f_X8_lies (μ 0) (μ 8) (μ 16) (μ 25) (μ 30) (μ 33) (α 3) (α 41) (α 1) (α 2) (α 4) (α 5) (α 6) (α 7) (α 26) (α 27) (α 28) (α 29) (α 31) (α 32) (α 34) (α 35) (α 36) (α 17) (α 18) (α 20) (α 21) (α 24) (α 22) (α 19) (nI p) = some q' ∧ q'.1 = q.1 ∧ BK n d σ φ (μ 16) q'.2 := by
  obtain ⟨⟨hn, hd, e2, e3, m0, m8⟩, -, -, -, -, hBd, hBb⟩ := id hV
  have hdb := hBd.at hp hn
  unfold f_X7_lies f_X8_lies
  rw [hdb, Option.bind_some, n_gd (show p < 6 by omega) (by omega), n_cl (show p < 2 ^ 31 by omega)]
  by_cases h0 : α 3 p = 0
  · rw [if_pos h0, if_pos h0]
    exact ⟨_, _, rfl, rfl, rfl, BK.same hV hT _ _⟩
  · rw [if_neg h0, if_neg h0]
    obtain ⟨ki2, vs2, th2, ha2, ro2, ce2, pc2, bc2, hcp, c1, c2, c3, c4, c5, c6, c7, c8⟩ := copy_is (σ 2) (σ 3) (σ 4) (σ 5) (φ 0) (φ 12) (φ 1) (φ 13) (φ 2) (φ 14) (φ 3) (φ 15) (φ 4) (φ 16) (σ 22) (φ 24) (φ 30) (σ 24) (φ 25) (φ 31) (σ 26) (φ 26) (φ 32)
    obtain ⟨im, hkp, hKI⟩ := keep_is (μ 0) (μ 8) (μ 16) (μ 25) (μ 30) (μ 33) (α 41) (α 1) (α 2) (α 3) (α 4) (α 5) (α 6) (α 7) (α 26) (α 27) (α 28) (α 29) (α 31) (α 32) (α 34) (α 35) (α 36)
    rw [hcp, Option.bind_some, hkp, Option.bind_some]
    have hV2 := hV.copy c1 c2 c3 c4 c5 (fun _ _ => rfl) (fun _ _ => rfl) (fun _ _ => rfl) (fun _ _ => rfl) (fun _ _ => rfl) (fun _ _ => rfl) (fun _ _ => rfl)
    rw [e2, m0, e3, m8] at hV2
    dsimp only
    rw [e2, e3, m0, m8]
    have hbit := hBb.at hp hn
    by_cases hb : α 4 p = 1
    · obtain ⟨q', y1, y2, y3⟩ := lies_out (p := p) hV hT hKI (nI 0) (nI 0 + (1 : Int32)) (nI d) (Or.inr (by decide)) (α 4) (α 5) (α 7) (α 24) 998
      have hX : f_X7_lies_30 (pa k) (σ (39 + 2 * k)) (σ (40 + 2 * k)) (φ (33 + 2 * k)) (φ (34 + 2 * k)) (nI p) 1000 0 (nI n) (nI d) (σ 4) (σ 5) ki2 vs2 th2 ha2 ro2 (σ 22) ce2 (σ 24) pc2 (σ 26) bc2 (φ 17) = some (nI 0, nI n, nI d, σ 4, σ 5, ki2, vs2, th2, ha2, ro2, σ 22, ce2, σ 24, pc2, σ 26, bc2, pa k, φ 17) := by
        unfold f_X7_lies_30 f_X7_lies_30_b
        rw [if_neg (by decide), hbit, Option.bind_some, if_pos hb]
        rfl
      refine ⟨_, q', hX, ?_, y2, y3⟩
      rw [← y1]
      conv => lhs; unfold f_X8_lies_25 f_X8_lies_25_b
      rw [if_neg (by decide), if_pos rfl, if_pos (by decide), n_gd (show p < 6 by omega) (by omega), n_cl (by omega), if_pos hb]
      rfl
    · obtain ⟨q, q', y0, y1, y2, y3⟩ := lies_loop (pa := pa) (k := k) (d := d) hC hM hV hT hKI hp ce2 pc2 bc2 30 0 9999 d (σ 5) th2 ha2 (α 4) (α 5) (α 7) (by omega) hd (by omega) hV2 hb 1000 999 (by omega) (by omega) (φ 17) (α 24)
      refine ⟨q, q', y0, ?_, y2, y3⟩
      rw [← y1]
      conv => lhs; unfold f_X8_lies_25 f_X8_lies_25_b
      rw [if_neg (by decide), if_pos rfl, if_pos (by decide), n_gd (show p < 6 by omega) (by omega), n_cl (by omega), if_neg hb]
      rfl
