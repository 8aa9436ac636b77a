theorem on_core {pa : Nat → Nat} {k ah : Nat} {W : (Nat → Int32) → Int32} {N : Int32} {σ : Nat → Int32} {φ : Nat → Nat → Int32} {μ : Nat → Int32} {α : Nat → Nat → Int32} {n d : Nat} (hC : PC W N (σ (39 + 2 * k)) (σ (40 + 2 * k)) (φ (33 + 2 * k)) (φ (34 + 2 * k))) (hM : PM W N (μ 16) (α 17) (α 18) (α 19) (α 20) (α 21) (α 22))
    (hV : VR 9999 n d (σ 2) (σ 3) (σ 4) (σ 5) (φ 0) (φ 1) (φ 2) (φ 3) (φ 4) (μ 0) (μ 8) (α 1) (α 2) (α 3) (α 4) (α 5) (α 6) (α 7)) (hT : TR n (σ 22) (φ 24) (σ 24) (φ 25) (σ 26) (φ 26) (μ 25) (α 26) (α 27) (α 28) (α 29) (μ 30) (α 31) (α 32) (μ 33) (α 34) (α 35) (α 36))
    {p1 p2 x3 x4 x5 x6 x7 : Int32} (hAsk : f_X8_isAsked (nI n) p2 = some 1) (hx : (x6 = 0 ∧ x7 = 0 ∧ p2 = 0) ∨ (∃ p, p < n ∧ x6 = 1 ∧ x3 = nI p ∧ p2 = nI (p + 10)) ∨ (∃ p q, p < n ∧ q < n ∧ x6 = 0 ∧ x7 = 1 ∧ x4 = nI p ∧ x5 = nI q ∧ p2 = nI (6 * p + q + 20))) :
    ∃ q q', f_X7_on_100 (σ 2) (σ 3) (σ 4) (σ 5) (pa k) (σ 10) (σ 11) (σ 12) (σ 13) ah (φ 0) (φ 12) (φ 1) (φ 13) (φ 2) (φ 14) (φ 3) (φ 15) (φ 4) (φ 16) (σ 34) (σ 22) (φ 24) (φ 30) (σ 36) (σ 24) (φ 25) (φ 31) (σ 38) (σ 26) (φ 26) (φ 32) (φ 17) (σ (39 + 2 * k)) (σ (40 + 2 * k)) (φ (33 + 2 * k)) (φ (34 + 2 * k)) p1 x3 x4 x5 x6 x7 = some q ∧ f_X8_on (μ 0) (μ 8) (μ 16) (μ 25) (μ 30) (μ 33) (α 41) (α 1) (α 2) (α 3) (α 4) (α 5) (α 6) (α 7) (α 26) (α 27) (α 28) (α 29) (α 31) (α 32) (α 34) (α 35) (α 36) (α 17) (α 18) (α 20) (α 21) (α 24) (α 22) (α 19) p1 p2 = some q' ∧ q'.1 = q.1 ∧ BK n d σ φ (μ 16) q'.2 := by
  obtain ⟨⟨hn, hd, e2, e3, m0, m8⟩, -⟩ := id hV
  unfold f_X7_on_100 f_X8_on
  rw [m0, hAsk, Option.bind_some, if_neg i_10]
  rcases n_cases p1 31 (by omega) with ⟨j, hj, rfl⟩ | h
  · rw [if_neg (n_not_neg (by omega)), if_pos (le_yes (c := 30) (by show (j : Int) ≤ 30; omega) (by omega)), wi_yes (c := 30) (by show (j : Int) ≤ 30; omega) (by omega), Option.bind_some, if_neg i_10]
    obtain ⟨ki2, vs2, th2, ha2, ro2, ce2, pc2, bc2, hcp, c1, c2, c3, c4, c5, c6, c7, c8⟩ := copy_is (σ 2) (σ 3) (σ 4) (σ 5) (φ 0) (φ 12) (φ 1) (φ 13) (φ 2) (φ 14) (φ 3) (φ 15) (φ 4) (φ 16) (σ 22) (φ 24) (φ 30) (σ 24) (φ 25) (φ 31) (σ 26) (φ 26) (φ 32)
    obtain ⟨im, hkp, hKI⟩ := keep_is (μ 0) (μ 8) (μ 16) (μ 25) (μ 30) (μ 33) (α 41) (α 1) (α 2) (α 3) (α 4) (α 5) (α 6) (α 7) (α 26) (α 27) (α 28) (α 29) (α 31) (α 32) (α 34) (α 35) (α 36)
    rw [hcp, Option.bind_some, ← m0, hkp, Option.bind_some]
    have hV2 := hV.copy c1 c2 c3 c4 c5 (fun _ _ => rfl) (fun _ _ => rfl) (fun _ _ => rfl) (fun _ _ => rfl) (fun _ _ => rfl) (fun _ _ => rfl) (fun _ _ => rfl)
    rw [e2, m0, e3, m8] at hV2
    obtain ⟨cc, d2, bu3, th3, ha3, bu3', th3', ha3', g1, g2⟩ := on_loop hC hM (j := j) (by omega) (pa k) x3 x4 x5 x6 x7 (σ 22) (σ 24) (σ 26) p2 ce2 pc2 bc2 im (α 26) (α 27) (α 28) (α 29) (α 31) (α 32) (α 34) (α 35) (α 36) j 0 9999 d (σ 5) th2 ha2 (α 4) (α 5) (α 7) (by omega) hd (by omega) hV2
    obtain ⟨fa3, st3, hxx, hmm⟩ := g2 (1000 - j) (φ 17) (α 24)
    rw [show 1000 - j + j = 1000 by omega] at hxx hmm
    rw [m0, m8, e2, e3]
    obtain ⟨q0, hag, hB⟩ := BK.again hV hT hKI (α 1) (α 2) (α 3) bu3' th3' (α 6) ha3' (α 26) (α 27) (α 28) (α 29) (α 31) (α 32) (α 34) (α 35) (α 36) st3
    obtain ⟨f, hf⟩ : ∃ f, 1000 - j = f + 1 := ⟨1000 - j - 1, by omega⟩
    rw [hf] at hxx hmm
    have hjj : nI j ≤ nI j := by rw [n_le (by omega) (by omega)]; omega
    obtain ⟨-, y1, -, -, ⟨y2, -⟩, -, y3⟩ := id g1
    have hbb := (y3.dead hn).2
    rcases hx with ⟨h6, h7, h2⟩ | ⟨p, hp, h6, h3, h2⟩ | ⟨p, q, hp, hq, h6, h7, h4, h5, h2⟩
    · refine ⟨(bu3, nI n, nI d2, σ 4, bu3, ki2, vs2, th3, ha3, ro2, σ 22, ce2, σ 24, pc2, σ 26, bc2, pa k, fa3), (bu3, im, q0.1, q0.2.1, q0.2.2.1, q0.2.2.2.1, q0.2.2.2.2.1, q0.2.2.2.2.2.1, q0.2.2.2.2.2.2.1, q0.2.2.2.2.2.2.2.1, q0.2.2.2.2.2.2.2.2.1, q0.2.2.2.2.2.2.2.2.2.1, q0.2.2.2.2.2.2.2.2.2.2.1, q0.2.2.2.2.2.2.2.2.2.2.2.1, q0.2.2.2.2.2.2.2.2.2.2.2.2.1, q0.2.2.2.2.2.2.2.2.2.2.2.2.2.1, q0.2.2.2.2.2.2.2.2.2.2.2.2.2.2.1, q0.2.2.2.2.2.2.2.2.2.2.2.2.2.2.2.1, q0.2.2.2.2.2.2.2.2.2.2.2.2.2.2.2.2.1, q0.2.2.2.2.2.2.2.2.2.2.2.2.2.2.2.2.2.1, q0.2.2.2.2.2.2.2.2.2.2.2.2.2.2.2.2.2.2.1, q0.2.2.2.2.2.2.2.2.2.2.2.2.2.2.2.2.2.2.2.1, q0.2.2.2.2.2.2.2.2.2.2.2.2.2.2.2.2.2.2.2.2.1, q0.2.2.2.2.2.2.2.2.2.2.2.2.2.2.2.2.2.2.2.2.2, st3), hxx.trans ?_, hmm.trans ?_, rfl, hB⟩
      · unfold f_X7_on_127 f_X7_on_127_b
        rw [if_pos hjj, if_pos h6, if_pos h7]
      · unfold f_X8_on_33 f_X8_on_33_b
        rw [if_pos hjj, if_pos h2, hbb, Option.bind_some, hag, Option.bind_some]
    · have ex : nI (p + 10) - (10 : Int32) = nI p := by
        rw [show (10 : Int32) = nI 10 from rfl, pk_sub (by omega), show p + 10 - 10 = p by omega]
      refine ⟨(th3 p, nI n, nI d2, σ 4, bu3, ki2, vs2, th3, ha3, ro2, σ 22, ce2, σ 24, pc2, σ 26, bc2, pa k, fa3), (th3' p, im, q0.1, q0.2.1, q0.2.2.1, q0.2.2.2.1, q0.2.2.2.2.1, q0.2.2.2.2.2.1, q0.2.2.2.2.2.2.1, q0.2.2.2.2.2.2.2.1, q0.2.2.2.2.2.2.2.2.1, q0.2.2.2.2.2.2.2.2.2.1, q0.2.2.2.2.2.2.2.2.2.2.1, q0.2.2.2.2.2.2.2.2.2.2.2.1, q0.2.2.2.2.2.2.2.2.2.2.2.2.1, q0.2.2.2.2.2.2.2.2.2.2.2.2.2.1, q0.2.2.2.2.2.2.2.2.2.2.2.2.2.2.1, q0.2.2.2.2.2.2.2.2.2.2.2.2.2.2.2.1, q0.2.2.2.2.2.2.2.2.2.2.2.2.2.2.2.2.1, q0.2.2.2.2.2.2.2.2.2.2.2.2.2.2.2.2.2.1, q0.2.2.2.2.2.2.2.2.2.2.2.2.2.2.2.2.2.2.1, q0.2.2.2.2.2.2.2.2.2.2.2.2.2.2.2.2.2.2.2.1, q0.2.2.2.2.2.2.2.2.2.2.2.2.2.2.2.2.2.2.2.2.1, q0.2.2.2.2.2.2.2.2.2.2.2.2.2.2.2.2.2.2.2.2.2, st3), hxx.trans ?_, hmm.trans ?_, (y1 p hp).2.2.1.symm, hB⟩
      · unfold f_X7_on_127 f_X7_on_127_b
        rw [if_pos hjj, h6, if_neg i_10, h3, n_gd (show p < 6 by omega) (by omega), n_cl (by omega)]
      · unfold f_X8_on_33 f_X8_on_33_b
        rw [if_pos hjj, h2, if_neg (eq_nay (c := 0) (by show ((p + 10 : Nat) : Int) ≠ 0; omega) (by omega)), if_neg (by rw [n_leT, n_toInt (by omega)]; show ¬ (20 : Int) ≤ ((p + 10 : Nat) : Int); omega), ex, n_gd (show p < 6 by omega) (by omega), n_cl (by omega)]
        dsimp only [nm]
        rw [hag, Option.bind_some]
    · have ex : nI (6 * p + q + 20) - (20 : Int32) = nI (6 * p + q) := by
        rw [show (20 : Int32) = nI 20 from rfl, pk_sub (by omega), show 6 * p + q + 20 - 20 = 6 * p + q by omega]
      have ed : nI (6 * p + q) / (6 : Int32) = nI p := by
        rw [show (6 : Int32) = nI 6 from rfl, pk_div (by omega) (by omega) (by omega), show (6 * p + q) / 6 = p by omega]
      have er : nI (6 * p + q) - nI (6 * p + q) / (6 : Int32) * (6 : Int32) = nI q := by
        rw [show (6 : Int32) = nI 6 from rfl, pk_rem (by omega) (by omega) (by omega), show (6 * p + q) % 6 = q by omega]
      obtain ⟨z1, -, z2⟩ := y2 p q hp hq
      have hh : f_X8_heldHate ha3' (nI (6 * p + q)) = some (ha3 (6 * p + q)) := by
        unfold f_X8_heldHate
        rw [er, ed]
        by_cases hpq : p = q
        · rw [if_pos (by rw [hpq]), z1, z2 hpq]
        · rw [if_neg (by rw [n_eq (by omega) (by omega)]; exact hpq), n_gd (show 6 * p + q < 36 by omega) (by omega), n_cl (by omega), z1]
      refine ⟨(ha3 (6 * p + q), nI n, nI d2, σ 4, bu3, ki2, vs2, th3, ha3, ro2, σ 22, ce2, σ 24, pc2, σ 26, bc2, pa k, fa3), (ha3 (6 * p + q), im, q0.1, q0.2.1, q0.2.2.1, q0.2.2.2.1, q0.2.2.2.2.1, q0.2.2.2.2.2.1, q0.2.2.2.2.2.2.1, q0.2.2.2.2.2.2.2.1, q0.2.2.2.2.2.2.2.2.1, q0.2.2.2.2.2.2.2.2.2.1, q0.2.2.2.2.2.2.2.2.2.2.1, q0.2.2.2.2.2.2.2.2.2.2.2.1, q0.2.2.2.2.2.2.2.2.2.2.2.2.1, q0.2.2.2.2.2.2.2.2.2.2.2.2.2.1, q0.2.2.2.2.2.2.2.2.2.2.2.2.2.2.1, q0.2.2.2.2.2.2.2.2.2.2.2.2.2.2.2.1, q0.2.2.2.2.2.2.2.2.2.2.2.2.2.2.2.2.1, q0.2.2.2.2.2.2.2.2.2.2.2.2.2.2.2.2.2.1, q0.2.2.2.2.2.2.2.2.2.2.2.2.2.2.2.2.2.2.1, q0.2.2.2.2.2.2.2.2.2.2.2.2.2.2.2.2.2.2.2.1, q0.2.2.2.2.2.2.2.2.2.2.2.2.2.2.2.2.2.2.2.2.1, q0.2.2.2.2.2.2.2.2.2.2.2.2.2.2.2.2.2.2.2.2.2, st3), hxx.trans ?_, hmm.trans ?_, rfl, hB⟩
      · unfold f_X7_on_127 f_X7_on_127_b
        rw [if_pos hjj, if_pos h6, h7, if_neg i_10, h4, h5, hateOf_yes hp hq hn, Option.bind_some]
      · unfold f_X8_on_33 f_X8_on_33_b
        rw [if_pos hjj, h2, if_neg (eq_nay (c := 0) (by show ((6 * p + q + 20 : Nat) : Int) ≠ 0; omega) (by omega)), if_pos (by rw [n_leT, n_toInt (by omega)]; show (20 : Int) ≤ ((6 * p + q + 20 : Nat) : Int); omega), ex, hh, Option.bind_some, hag, Option.bind_some]
  · rw [le_no (c := 30) (by show p1.toInt < 0 ∨ (30 : Int) < p1.toInt; omega), within_no (by show p1.toInt < 0 ∨ (30 : Int) < p1.toInt; omega), Option.bind_some, if_pos rfl, ← m0]
    exact ⟨_, _, rfl, rfl, rfl, BK.same hV hT _ _⟩
