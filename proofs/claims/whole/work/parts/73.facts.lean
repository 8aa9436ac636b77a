theorem VR.row {bd n d : Nat} {pe da de bu pe' da' : Int32} {ki vs th ha ro ki' vs' de' bu' th' ro' ha' : Nat → Int32} (h : VR bd n d pe da de bu ki vs th ha ro pe' da' ki' vs' de' bu' th' ro' ha') {p k r : Nat} (hp : p < n) (hk : k < 4) (hr : r ≤ 9) : VR bd n d pe da de bu ki vs th ha (upd ro (4 * p + k) (nI r)) pe' da' ki' vs' de' bu' th' (upd ro' (4 * p + k) (nI r)) ha' := by
  obtain ⟨h0, h1, h2, ⟨h3, h4⟩, h6⟩ := h
  refine ⟨h0, h1, h2, ⟨fun a b ha2 hb2 => ?_, fun a b ha2 hb2 hc2 => ?_⟩, h6⟩
  · by_cases e : 4 * a + b = 4 * p + k
    · rw [e, upd_at, upd_at]
      exact ⟨rfl, r, hr, rfl⟩
    · rw [upd_ne e, upd_ne e]
      exact h3 a b ha2 hb2
  · rw [upd_ne (by omega)]
    exact h4 a b ha2 hb2 hc2
theorem F_row (G : Gx) (l : Launch) (A : Lx) : Fact_row G l A (Inv A.2.2.1) := by
  intro S T hI p1 p2 p3
  obtain ⟨σ, φ, τ, nh, kh, ah⟩ := S
  obtain ⟨μ, α, ι⟩ := T
  obtain ⟨n, d, cnt, w, nd, hV, hl, hT, hH, hK, hX, hP, hA, hTp⟩ := hI
  have key : ∃ q q', f_X7_row (σ 2) (φ 0) (φ 4) p1 p2 p3 = some q ∧ f_X8_row (μ 0) (α 1) (α 6) p1 p2 p3 = some q' ∧ q'.1 = q.1 ∧ VR 9999 n d (σ 2) (σ 3) (σ 4) (σ 5) (φ 0) (φ 1) (φ 2) (φ 3) q.2 (μ 0) (μ 8) (α 1) (α 2) (α 3) (α 4) (α 5) q'.2 (α 7) := by
    have hV2 := hV
    obtain ⟨⟨hn, hd, e2, e3, m0, m8⟩, h1, h2, ⟨h3, h4⟩, h5⟩ := hV
    unfold f_X7_row f_X8_row
    rw [e2, m0] at hV2 ⊢
    rcases n_cases p1 n (by omega) with ⟨p, hp, rfl⟩ | hp
    · rw [has_yes hp hn, Option.bind_some, if_neg i_10, isOne_yes hp hn, Option.bind_some, if_neg i_10]
      rcases n_cases p2 4 (by omega) with ⟨k, hk, rfl⟩ | hk
      · rw [if_neg (n_not_neg (by omega)), if_pos (lt_yes (c := 4) (by show (k : Int) < 4; omega) (by omega)), wi_yes (c := 3) (by show (k : Int) ≤ 3; omega) (by omega), Option.bind_some, if_neg i_10]
        rcases n_cases p3 10 (by omega) with ⟨r, hr, rfl⟩ | hr
        · rw [if_neg (n_not_neg (by omega)), if_pos (le_yes (c := 9) (by show (r : Int) ≤ 9; omega) (by omega)), wi_yes (c := 9) (by show (r : Int) ≤ 9; omega) (by omega), Option.bind_some, if_neg i_10]
          simp only [n_gd (show p < 6 by omega) (by omega : 6 < 2 ^ 31), n_cl (show p < 2 ^ 31 by omega), nm, n_4R, n_4L, n_gd (show 4 * p + k < 24 by omega) (by omega : 24 < 2 ^ 31), n_cl (show 4 * p + k < 2 ^ 31 by omega), (h1 p hp).1]
          split
          · exact ⟨_, _, rfl, rfl, (h3 p k hp hk).1.symm, hV2.row hp hk (by omega)⟩
          · exact ⟨_, _, rfl, rfl, rfl, hV2⟩
        · rw [le_no (c := 9) (by show p3.toInt < 0 ∨ (9 : Int) < p3.toInt; omega), within_no (by show p3.toInt < 0 ∨ (9 : Int) < p3.toInt; omega), Option.bind_some, if_pos rfl]
          exact ⟨_, _, rfl, rfl, rfl, hV2⟩
      · rw [lt_no (c := 4) (by show p2.toInt < 0 ∨ (4 : Int) ≤ p2.toInt; omega), within_no (by show p2.toInt < 0 ∨ (3 : Int) < p2.toInt; omega), Option.bind_some, if_pos rfl]
        exact ⟨_, _, rfl, rfl, rfl, hV2⟩
    · rw [has_no hp hn, Option.bind_some, if_pos rfl, isOne_no hp hn, Option.bind_some, if_pos rfl]
      exact ⟨_, _, rfl, rfl, rfl, hV2⟩
  obtain ⟨q, q', hx, hm, e, hN⟩ := key
  refine ⟨q.1, (σ, va_up φ 4 q.2, τ, nh, kh, ah), (μ, va_up α 6 q'.2, ι), L_X_row _ _ _ _ _ _ _ _ _ _ _ _ _ _ _ _ hx, e ▸ L_M_row _ _ _ _ _ _ _ _ _ _ _ hm, ?_⟩
  exact ⟨n, d, cnt, w, nd, hN, hl, hT, hH, hK, hX, hP.keep rfl (fun _ _ _ => rfl) (fun i h1 h2 => if_neg (by omega)) rfl rfl (fun i h1 h2 => if_neg (by omega)), hA, hTp.keep (fun _ _ => rfl) rfl rfl rfl rfl⟩
-- the next of the people
theorem one_107 {n : Nat} (hn : n < 6) : ∀ (m k F : Nat) (a b c d e ro ha : Nat → Int32), k + m = 6 → m < F → ∃ ha', f_X8_one_107 (nI n) F (nI n) (nI k) a b c d e ro ha = some (nI n, a, b, c, d, e, ro, nI n + (1 : Int32), ha') ∧ (∀ q, q < k → (ha (6 * n + q) = 0 ∧ ha (6 * q + n) = 0) → (ha' (6 * n + q) = 0 ∧ ha' (6 * q + n) = 0)) ∧ (∀ q, k ≤ q → q < 6 → (ha' (6 * n + q) = 0 ∧ ha' (6 * q + n) = 0)) ∧ (∀ p q, p < 6 → q < 6 → p ≠ n → q ≠ n → ha' (6 * p + q) = ha (6 * p + q)) := by
  intro m
  induction m with
  | zero =>
    intro k F a b c d e ro ha hk hF
    obtain ⟨F, rfl⟩ : ∃ f, F = f + 1 := ⟨F - 1, by omega⟩
    refine ⟨ha, ?_, fun q _ h => h, fun q h1 h2 => by omega, fun p q _ _ _ _ => rfl⟩
    show f_X8_one_107_b (nI n) (f_X8_one_107 (nI n) F) (nI n) (nI k) a b c d e ro ha = _
    unfold f_X8_one_107_b
    rw [if_pos]
    rw [show (6 : Int32) = nI 6 from rfl, n_le (by omega) (by omega)]
    omega
  | succ m ih =>
    intro k F a b c d e ro ha hk hF
    obtain ⟨F, rfl⟩ : ∃ f, F = f + 1 := ⟨F - 1, by omega⟩
    obtain ⟨ha', h1, h2, h3, h4⟩ := ih (k + 1) F a b c d e ro (upd (upd ha (6 * n + k) 0) (6 * k + n) 0) (by omega) (by omega)
    refine ⟨ha', ?_, fun q hq h => ?_, fun q h5 h6 => ?_, fun p q hp hq hpn hqn => ?_⟩
    · show f_X8_one_107_b (nI n) (f_X8_one_107 (nI n) F) (nI n) (nI k) a b c d e ro ha = _
      unfold f_X8_one_107_b
      rw [if_neg (by rw [show (6 : Int32) = nI 6 from rfl, n_le (by omega) (by omega)]; omega), n_mulL, n_mulL, n_gd (by omega) (by omega), n_gd (by omega) (by omega), n_cl (by omega), n_cl (by omega), n_s]
      exact h1
    · refine h2 q (by omega) ⟨?_, ?_⟩
      · by_cases e1 : 6 * n + q = 6 * k + n
        · rw [e1, upd_at]
        · rw [upd_ne e1, upd_ne (by omega)]; exact h.1
      · by_cases e1 : 6 * q + n = 6 * k + n
        · rw [e1, upd_at]
        · rw [upd_ne e1]
          by_cases e2 : 6 * q + n = 6 * n + k
          · rw [e2, upd_at]
          · rw [upd_ne e2]; exact h.2
    · by_cases e : q = k
      · subst e
        refine h2 q (by omega) ⟨?_, upd_at⟩
        by_cases e1 : 6 * n + q = 6 * q + n
        · rw [e1, upd_at]
        · rw [upd_ne e1, upd_at]
      · exact h3 q (by omega) h6
    · rw [h4 p q hp hq hpn hqn, upd_ne (by omega), upd_ne (by omega)]
theorem one_80 {n : Nat} (hn : n < 6) (hb : Nat → Int32) : ∀ (m k F : Nat) (a b c d e ro : Nat → Int32), k + m = 4 → m < F → ∃ ro', f_X8_one_80 (nI n) hb F (nI n) (nI k) a b c d e ro = f_X8_one_107 (nI n) 1000 (nI n) (nI 0) a b c d e ro' hb ∧ (∀ q, q < k → ro' (4 * n + q) = ro (4 * n + q)) ∧ (∀ q, k ≤ q → q < 4 → ro' (4 * n + q) = 0) ∧ (∀ p q, q < 4 → p ≠ n → ro' (4 * p + q) = ro (4 * p + q)) := by
  intro m
  induction m with
  | zero =>
    intro k F a b c d e ro hk hF
    obtain ⟨F, rfl⟩ : ∃ f, F = f + 1 := ⟨F - 1, by omega⟩
    refine ⟨ro, ?_, fun q _ => rfl, fun q h1 h2 => by omega, fun p q _ _ => rfl⟩
    show f_X8_one_80_b (nI n) hb (f_X8_one_80 (nI n) hb F) (nI n) (nI k) a b c d e ro = _
    unfold f_X8_one_80_b
    rw [if_pos]
    · rfl
    · rw [show (4 : Int32) = nI 4 from rfl, n_le (by omega) (by omega)]
      omega
  | succ m ih =>
    intro k F a b c d e ro hk hF
    obtain ⟨F, rfl⟩ : ∃ f, F = f + 1 := ⟨F - 1, by omega⟩
    obtain ⟨ro', h1, h2, h3, h4⟩ := ih (k + 1) F a b c d e (upd ro (4 * n + k) 0) (by omega) (by omega)
    refine ⟨ro', ?_, fun q hq => ?_, fun q h5 h6 => ?_, fun p q hq hpn => ?_⟩
    · show f_X8_one_80_b (nI n) hb (f_X8_one_80 (nI n) hb F) (nI n) (nI k) a b c d e ro = _
      unfold f_X8_one_80_b
      rw [if_neg (by rw [show (4 : Int32) = nI 4 from rfl, n_le (by omega) (by omega)]; omega), n_4L, n_gd (by omega) (by omega), n_cl (by omega), n_s]
      exact h1
    · rw [h2 q (by omega), upd_ne (by omega)]
    · by_cases e : q = k
      · subst e
        rw [h2 q (by omega), upd_at]
      · exact h3 q (by omega) h6
    · rw [h4 p q hq hpn, upd_ne (by omega)]
theorem TR.more {n m : Nat} {sz : Int32} {ce : Nat → Int32} {pz : Int32} {pc : Nat → Int32} {bz : Int32} {bc : Nat → Int32} {seen : Int32} {by' of' in' so' : Nat → Int32} {inPlan : Int32} {goes whose : Nat → Int32} {inBook : Int32} {bby bof bh : Nat → Int32} (h : TR n sz ce pz pc bz bc seen by' of' in' so' inPlan goes whose inBook bby bof bh) (hm : n ≤ m) : TR m sz ce pz pc bz bc seen by' of' in' so' inPlan goes whose inBook bby bof bh := by
  obtain ⟨⟨a, a1, a2, a3, a4⟩, ⟨b, b1, b2, b3, b4⟩, ⟨c, c1, c2, c3, c4⟩⟩ := h
  refine ⟨⟨a, a1, a2, a3, fun i hi => ?_⟩, ⟨b, b1, b2, b3, fun i hi => ?_⟩, ⟨c, c1, c2, c3, fun i hi => ?_⟩⟩
  · obtain ⟨x1, x2, x3, x4, ⟨p, q, y1, y2, y3⟩, x6⟩ := a4 i hi
    exact ⟨x1, x2, x3, x4, ⟨p, q, by omega, by omega, y3⟩, x6⟩
  · obtain ⟨x1, x2, p, y1, y2, y3⟩ := b4 i hi
    exact ⟨x1, x2, p, y1, y2, fun z => Nat.lt_of_lt_of_le (y3 z) hm⟩
  · obtain ⟨x1, x2, x3, p, q, y1, y2, y3⟩ := c4 i hi
    exact ⟨x1, x2, x3, p, q, by omega, by omega, y3⟩
theorem BR.more {n : Nat} {de : Int32} {de' : Nat → Int32} (h : BR n de de') : BR (n + 1) de (upd de' n 0) := by
  obtain ⟨D, hD, e, h⟩ := h
  refine ⟨D, Nat.lt_trans hD (Nat.pow_lt_pow_right (by omega) (by omega)), e, fun p hp => ?_⟩
  by_cases hpn : p = n
  · subst hpn
    rw [upd_at, Nat.testBit_lt_two_pow hD]
    rfl
  · rw [upd_ne hpn]
    exact h p (by omega)
theorem F_one (G : Gx) (l : Launch) (A : Lx) : Fact_one G l A (Inv A.2.2.1) := by
  intro S T hI p1 p2
  obtain ⟨σ, φ, τ, nh, kh, ah⟩ := S
  obtain ⟨μ, α, ι⟩ := T
  obtain ⟨n, d, cnt, w, nd, hV, hl, hT, hH, hK, hX, hP, hA, hTp⟩ := hI
  have key : ∃ q q', f_X7_one (σ 2) (φ 0) (φ 1) p1 p2 = some q ∧ f_X8_one (μ 0) (α 1) (α 2) (α 3) (α 4) (α 5) (α 6) (α 7) p1 p2 = some q' ∧ q'.1 = q.1 ∧ ∃ n', n ≤ n' ∧ VR 9999 n' d q.2.2.2 (σ 3) (σ 4) (σ 5) q.2.1 q.2.2.1 (φ 2) (φ 3) (φ 4) q'.2.2.2.2.2.2.2.1 (μ 8) q'.2.1 q'.2.2.1 q'.2.2.2.1 q'.2.2.2.2.1 q'.2.2.2.2.2.1 q'.2.2.2.2.2.2.1 q'.2.2.2.2.2.2.2.2 := by
    have hV2 := hV
    obtain ⟨⟨hn, hd, e2, e3, m0, m8⟩, h1, h2, ⟨h3, h4⟩, ⟨h5, h6⟩, h7, h8⟩ := hV
    unfold f_X7_one f_X8_one
    rw [e2, m0] at hV2 ⊢
    rcases n_cases p1 7 (by omega) with ⟨k, hk, rfl⟩ | hk
    · rw [if_neg (n_not_neg (by omega)), if_pos (lt_yes (c := 7) (by show (k : Int) < 7; omega) (by omega)), wi_yes (c := 6) (by show (k : Int) ≤ 6; omega) (by omega), Option.bind_some, if_neg i_10]
      rcases n_cases p2 10 (by omega) with ⟨v, hv, rfl⟩ | hv
      · rw [if_neg (n_not_neg (by omega)), if_pos (le_yes (c := 9) (by show (v : Int) ≤ 9; omega) (by omega)), wi_yes (c := 9) (by show (v : Int) ≤ 9; omega) (by omega), Option.bind_some, if_neg i_10]
        unfold f_X6_come
        by_cases h : n = 6
        · subst h
          rw [if_neg (lt_nay (c := 6) (by show (6 : Int) ≤ (6 : Nat); omega) (by omega)), if_pos (show nI 6 = (6 : Int32) from rfl)]
          exact ⟨_, _, rfl, rfl, rfl, 6, Nat.le_refl _, hV2⟩
        · rw [if_pos (lt_yes (c := 6) (by show (n : Int) < 6; omega) (by omega)), if_neg (eq_nay (c := 6) (by show (n : Int) ≠ 6; omega) (by omega))]
          simp only [n_gd (show n < 6 by omega) (by omega : 6 < 2 ^ 31), n_cl (show n < 2 ^ 31 by omega), n_s1, Option.bind_some]
          obtain ⟨ro', g1, g2, g3, g4⟩ := one_80 (n := n) (by omega) (α 7) 4 0 1000 (upd (α 1) n (nI k)) (upd (α 2) n (nI v)) (upd (α 3) n 0) (upd (α 4) n 0) (upd (α 5) n 0) (α 6) (by omega) (by omega)
          obtain ⟨ha', g5, g6, g7, g8⟩ := one_107 (n := n) (by omega) 6 0 1000 (upd (α 1) n (nI k)) (upd (α 2) n (nI v)) (upd (α 3) n 0) (upd (α 4) n 0) (upd (α 5) n 0) ro' (α 7) (by omega) (by omega)
          refine ⟨_, _, rfl, g1.trans g5, rfl, n + 1, by omega, ⟨by omega, hd, n_s, e3, n_s, m8⟩, fun p hp => ?_, fun p hp hp2 => h2 p (by omega) hp2, ⟨fun p r hp hr => ?_, fun p r hp hp2 hr => h4 p r (by omega) hp2 hr⟩, ⟨fun p q hp hq => ?_, fun p q hp hq hpq => h6 p q hp hq (by omega)⟩, h7.more, h8.more⟩
          · by_cases e : p = n
            · subst e
              refine ⟨upd_at.trans upd_at.symm, upd_at.trans upd_at.symm, ?_, ⟨k, by omega, upd_at⟩, ⟨v, by omega, upd_at⟩, ⟨0, by omega, upd_at⟩⟩
              exact (h2 p (by omega) (by omega)).trans upd_at.symm
            · obtain ⟨x1, x2, x3, x4, x5, x6⟩ := h1 p (by omega)
              show upd (φ 0) n (nI k) p = upd (α 1) n (nI k) p ∧ upd (φ 1) n (nI v) p = upd (α 2) n (nI v) p ∧ φ 2 p = upd (α 5) n 0 p ∧ (∃ k2, k2 ≤ 6 ∧ upd (α 1) n (nI k) p = nI k2) ∧ (∃ v2, v2 ≤ 9 ∧ upd (α 2) n (nI v) p = nI v2) ∧ ∃ t, t ≤ 9999 ∧ upd (α 5) n 0 p = nI t
              rw [upd_ne e, upd_ne e, upd_ne e, upd_ne e, upd_ne e]
              exact ⟨x1, x2, x3, x4, x5, x6⟩
          · show φ 4 (4 * p + r) = ro' (4 * p + r) ∧ ∃ r2, r2 ≤ 9 ∧ ro' (4 * p + r) = nI r2
            by_cases e : p = n
            · subst e
              rw [g3 r (by omega) hr]
              exact ⟨h4 p r (by omega) (by omega) hr, 0, by omega, rfl⟩
            · rw [g4 p r hr e]
              exact h3 p r (by omega) hr
          · show φ 3 (6 * p + q) = ha' (6 * p + q) ∧ (∃ h, h ≤ 99 ∧ ha' (6 * p + q) = nI h) ∧ (p = q → ha' (6 * p + q) = 0)
            by_cases e : p = n
            · subst e
              rw [(g7 q (by omega) (by omega)).1]
              exact ⟨h6 p q (by omega) (by omega) (by omega), ⟨0, by omega, rfl⟩, fun _ => rfl⟩
            · by_cases e2 : q = n
              · subst e2
                rw [(g7 p (by omega) (by omega)).2]
                exact ⟨h6 p q (by omega) (by omega) (by omega), ⟨0, by omega, rfl⟩, fun _ => rfl⟩
              · rw [g8 p q (by omega) (by omega) e e2]
                exact h5 p q (by omega) (by omega)
      · rw [le_no (c := 9) (by show p2.toInt < 0 ∨ (9 : Int) < p2.toInt; omega), within_no (by show p2.toInt < 0 ∨ (9 : Int) < p2.toInt; omega), Option.bind_some, if_pos rfl]
        exact ⟨_, _, rfl, rfl, rfl, n, Nat.le_refl _, hV2⟩
    · rw [lt_no (c := 7) (by show p1.toInt < 0 ∨ (7 : Int) ≤ p1.toInt; omega), within_no (by show p1.toInt < 0 ∨ (6 : Int) < p1.toInt; omega), Option.bind_some, if_pos rfl]
      exact ⟨_, _, rfl, rfl, rfl, n, Nat.le_refl _, hV2⟩
  obtain ⟨q, q', hx, hm, e, n', hn', hN⟩ := key
  refine ⟨q.1, (upd σ 2 q.2.2.2, va_up (va_up φ 0 q.2.1) 1 q.2.2.1, τ, nh, kh, ah), (upd μ 0 q'.2.2.2.2.2.2.2.1, va_up (va_up (va_up (va_up (va_up (va_up (va_up α 1 q'.2.1) 2 q'.2.2.1) 3 q'.2.2.2.1) 4 q'.2.2.2.2.1) 5 q'.2.2.2.2.2.1) 6 q'.2.2.2.2.2.2.1) 7 q'.2.2.2.2.2.2.2.2, ι), L_X_one _ _ _ _ _ _ _ _ _ _ _ _ _ _ _ hx, e ▸ L_M_one _ _ _ _ _ _ _ _ _ _ hm, ?_⟩
  refine ⟨n', d, cnt, w, nd, hN, hl, hT.more hn', hH, hK, hX, hP.keep rfl (fun i h1 h2 => if_neg (by omega)) (fun i h1 h2 => (if_neg (by omega)).trans (if_neg (by omega))) rfl rfl (fun i h1 h2 => ?_), hA, hTp.keep (fun i h => if_neg (by omega)) rfl rfl rfl rfl⟩
  rw [vup_ne (by omega), vup_ne (by omega), vup_ne (by omega), vup_ne (by omega), vup_ne (by omega), vup_ne (by omega), vup_ne (by omega)]
