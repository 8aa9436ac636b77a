theorem n_x4 {p : Nat} : nI p * (4 : Int32) = nI (4 * p) := by rw [show (4 : Int32) = nI 4 from rfl, pk_mul, Nat.mul_comm]
theorem n_s2 {a : Nat} : nI a + (2 : Int32) = nI (a + 2) := by rw [show (2 : Int32) = nI 2 from rfl, nI_add]
theorem n_s3 {a : Nat} : nI a + (3 : Int32) = nI (a + 3) := by rw [show (3 : Int32) = nI 3 from rfl, nI_add]
/-- one more record of four cells -/
def rec4 (ce : Nat → Int32) (a : Nat) (w x y z : Int32) : Nat → Int32 := upd (upd (upd (upd ce (4 * a) w) (4 * a + 1) x) (4 * a + 2) y) (4 * a + 3) z
theorem add_yes {a m : Nat} {ce : Nat → Int32} {w x y z : Int32} (h : a < m) (hm : m ≤ 10) : f_X3_add (nI m) (nI a) ce w x y z = some (nI (a + 1), rec4 ce a w x y z, nI (a + 1)) := by
  unfold f_X3_add
  rw [if_pos (by rw [n_lt (by omega) (by omega)]; exact h)]
  simp only [nm, n_x4, n_s, n_s2, n_s3, n_gd (show 4 * a < 40 by omega) (by omega : 40 < 2 ^ 31), n_gd (show 4 * a + 1 < 40 by omega) (by omega : 40 < 2 ^ 31), n_gd (show 4 * a + 2 < 40 by omega) (by omega : 40 < 2 ^ 31), n_gd (show 4 * a + 3 < 40 by omega) (by omega : 40 < 2 ^ 31), n_cl (show 4 * a < 2 ^ 31 by omega), n_cl (show 4 * a + 1 < 2 ^ 31 by omega), n_cl (show 4 * a + 2 < 2 ^ 31 by omega), n_cl (show 4 * a + 3 < 2 ^ 31 by omega)]
  rfl
theorem add_no {m : Nat} {ce : Nat → Int32} {w x y z : Int32} (hm : m ≤ 10) : f_X3_add (nI m) (nI m) ce w x y z = some (-4, ce, nI m) := by
  unfold f_X3_add
  rw [if_neg (by rw [n_lt (by omega) (by omega)]; omega)]
theorem rec4_0 {ce : Nat → Int32} {a : Nat} {w x y z : Int32} : rec4 ce a w x y z (4 * a) = w := by
  unfold rec4
  rw [upd_ne (by omega), upd_ne (by omega), upd_ne (by omega), upd_at]
theorem rec4_1 {ce : Nat → Int32} {a : Nat} {w x y z : Int32} : rec4 ce a w x y z (4 * a + 1) = x := by
  unfold rec4
  rw [upd_ne (by omega), upd_ne (by omega), upd_at]
theorem rec4_2 {ce : Nat → Int32} {a : Nat} {w x y z : Int32} : rec4 ce a w x y z (4 * a + 2) = y := by
  unfold rec4
  rw [upd_ne (by omega), upd_at]
theorem rec4_3 {ce : Nat → Int32} {a : Nat} {w x y z : Int32} : rec4 ce a w x y z (4 * a + 3) = z := upd_at
theorem rec4_o {ce : Nat → Int32} {a i : Nat} {w x y z : Int32} (h : i < 4 * a) : rec4 ce a w x y z i = ce i := by
  unfold rec4
  rw [upd_ne (by omega), upd_ne (by omega), upd_ne (by omega), upd_ne (by omega)]
theorem cell_yes {a i k : Nat} {ce : Nat → Int32} (h : i < a) (hk : k < 4) (ha : a ≤ 10) : f_X3_cell (nI a) ce (nI i) (nI k) = some (ce (4 * i + k)) := by
  unfold f_X3_cell
  rw [if_neg (n_not_neg (by omega)), if_neg (by rw [n_le (by omega) (by omega)]; omega), if_neg (n_not_neg (by omega)), if_pos (lt_yes (c := 4) (by show (k : Int) < 4; omega) (by omega)), n_4R, n_gd (by omega) (by omega), n_cl (by omega)]
theorem lt_nay' {j : Nat} {c : Int32} (h : (j : Int) ≤ c.toInt) (hj : j < 2 ^ 31) : ¬ c < nI j := by rw [n_ltT, n_toInt hj]; omega
theorem m1_no {x : Int32} (h : x = -1) : x.toInt < 0 := by subst h; decide
theorem nI_m1 {j : Nat} (h : j < 2 ^ 31) : ¬ nI j = (-1 : Int32) := eq_nay (c := -1) (by show (j : Int) ≠ -1; omega) h
theorem F_see (G : Gx) (l : Launch) (A : Lx) : Fact_see G l A (Inv A.2.2.1) := by
  intro S T hI p1 p2 p3 p4
  obtain ⟨σ, φ, τ, nh, kh, ah⟩ := S
  obtain ⟨μ, α, ι⟩ := T
  obtain ⟨n, d, cnt, w, nd, hV, hl, hT, hH, hK, hX, hP, hA, hTp⟩ := hI
  have key : ∃ q q', f_X7_see (σ 2) (σ 21) (σ 22) (φ 24) p1 p2 p3 p4 = some q ∧ f_X8_see (μ 0) (μ 25) (α 26) (α 27) (α 28) (α 29) p1 p2 p3 p4 = some q' ∧ q'.1 = q.1 ∧ TR n q.2.2 q.2.1 (σ 24) (φ 25) (σ 26) (φ 26) q'.2.2.2.2.1 q'.2.1 q'.2.2.1 q'.2.2.2.1 q'.2.2.2.2.2 (μ 30) (α 31) (α 32) (μ 33) (α 34) (α 35) (α 36) := by
    have hT2 := hT
    obtain ⟨⟨hn, hd, e2, e3, m0, m8⟩, -⟩ := hV
    obtain ⟨⟨a, ha, s22, m25, hb⟩, hPl, hBk⟩ := hT
    unfold f_X7_see f_X8_see
    rw [e2, m0, hl.1]
    by_cases hm1 : p1 = -1
    · rw [if_pos hm1, if_pos hm1]
      exact ⟨_, _, rfl, rfl, rfl, ⟨0, by omega, rfl, rfl, fun i hi => absurd hi (Nat.not_lt_zero _)⟩, hPl, hBk⟩
    · rw [if_neg hm1, if_neg hm1]
      rcases n_cases p1 n (by omega) with ⟨p, hp, rfl⟩ | hp
      · rw [has_yes hp hn, Option.bind_some, if_neg i_10]
        rcases n_cases p2 n (by omega) with ⟨q, hq, rfl⟩ | hq
        · rw [has_yes hq hn, Option.bind_some, if_neg i_10, are_yes hp hq hn, Option.bind_some, if_neg i_10]
          by_cases hpq : p = q
          · rw [if_pos (by rw [hpq]), if_pos (by rw [hpq])]
            exact ⟨_, _, rfl, rfl, rfl, hT2⟩
          · have hne : ¬ nI p = nI q := by rw [n_eq (by omega) (by omega)]; exact hpq
            rw [if_neg hne, if_neg hne]
            rcases n_cases p3 21 (by omega) with ⟨t, ht, rfl⟩ | ht
            · rw [if_neg (n_not_neg (by omega)), if_pos (le_yes (c := 20) (by show (t : Int) ≤ 20; omega) (by omega)), wi_yes (c := 20) (by show (t : Int) ≤ 20; omega) (by omega), Option.bind_some, if_neg i_10]
              rw [s22, m25] at hT2 ⊢
              rw [show (5 : Int32) = nI 5 from rfl]
              by_cases h5 : a = 5
              · subst h5
                rw [add_no (by omega), add_no (by omega), if_pos rfl]
                split
                · exact ⟨_, _, rfl, rfl, rfl, hT2⟩
                · exact ⟨_, _, rfl, rfl, rfl, hT2⟩
              · rw [add_yes (by omega) (by omega), add_yes (by omega) (by omega), if_neg (show ¬ nI a = nI 5 by rw [n_eq (by omega) (by omega)]; exact h5)]
                simp only [n_gd (show a < 5 by omega) (by omega : 5 < 2 ^ 31), n_cl (show a < 2 ^ 31 by omega), n_s]
                have step : ∀ s : Int32, (s = 0 ∨ s = 1) → TR n (nI (a + 1)) (rec4 (φ 24) a (nI p) (nI q) (nI t) s) (σ 24) (φ 25) (σ 26) (φ 26) (nI (a + 1)) (upd (α 26) a (nI p)) (upd (α 27) a (nI q)) (upd (α 28) a (nI t)) (upd (α 29) a s) (μ 30) (α 31) (α 32) (μ 33) (α 34) (α 35) (α 36) := by
                  intro s hs
                  refine ⟨⟨a + 1, by omega, rfl, rfl, fun i hi => ?_⟩, hPl, hBk⟩
                  by_cases e : i = a
                  · subst e
                    rw [rec4_0, rec4_1, rec4_2, rec4_3, upd_at, upd_at, upd_at, upd_at]
                    exact ⟨rfl, rfl, rfl, rfl, ⟨p, q, hp, hq, hpq, rfl, rfl⟩, ⟨t, by omega, rfl⟩, hs⟩
                  · rw [rec4_o (by omega), rec4_o (by omega), rec4_o (by omega), rec4_o (by omega), upd_ne e, upd_ne e, upd_ne e, upd_ne e]
                    exact hb i (by omega)
                split
                · exact ⟨_, _, rfl, rfl, rfl, step 0 (Or.inl rfl)⟩
                · exact ⟨_, _, rfl, rfl, rfl, step 1 (Or.inr rfl)⟩
            · rw [le_no (c := 20) (by show p3.toInt < 0 ∨ (20 : Int) < p3.toInt; omega), within_no (by show p3.toInt < 0 ∨ (20 : Int) < p3.toInt; omega), Option.bind_some, if_pos rfl]
              exact ⟨_, _, rfl, rfl, rfl, hT2⟩
        · rw [has_no hq hn, Option.bind_some, if_pos rfl, are_no2 hp hq hn, Option.bind_some, if_pos rfl]
          exact ⟨_, _, rfl, rfl, rfl, hT2⟩
      · rw [has_no hp hn, Option.bind_some, if_pos rfl, are_no1 hp hn, Option.bind_some, if_pos rfl]
        exact ⟨_, _, rfl, rfl, rfl, hT2⟩
  obtain ⟨q, q', hx, hm, e, hN⟩ := key
  refine ⟨q.1, (upd σ 22 q.2.2, va_up φ 24 q.2.1, τ, nh, kh, ah), (upd μ 25 q'.2.2.2.2.1, va_up (va_up (va_up (va_up α 26 q'.2.1) 27 q'.2.2.1) 28 q'.2.2.2.1) 29 q'.2.2.2.2.2, ι), L_X_see _ _ _ _ _ _ _ _ _ _ _ _ _ _ _ _ _ hx, e ▸ L_M_see _ _ _ _ _ _ _ _ _ _ _ _ hm, ?_⟩
  refine ⟨n, d, cnt, w, nd, hV, hl, hN, hH, hK, hX, hP.keep rfl (fun i h1 h2 => if_neg (by omega)) (fun i h1 h2 => if_neg (by omega)) rfl rfl (fun i h1 h2 => ?_), hA, hTp.keep (fun i h => if_neg (by omega)) rfl rfl rfl rfl⟩
  rw [vup_ne (by omega), vup_ne (by omega), vup_ne (by omega), vup_ne (by omega)]
theorem F_book (G : Gx) (l : Launch) (A : Lx) : Fact_book G l A (Inv A.2.2.1) := by
  intro S T hI p1 p2 p3
  obtain ⟨σ, φ, τ, nh, kh, ah⟩ := S
  obtain ⟨μ, α, ι⟩ := T
  obtain ⟨n, d, cnt, w, nd, hV, hl, hT, hH, hK, hX, hP, hA, hTp⟩ := hI
  have key : ∃ q q', f_X7_book (σ 2) (σ 25) (σ 26) (φ 26) p1 p2 p3 = some q ∧ f_X8_book (μ 0) (μ 33) (α 34) (α 35) (α 36) p1 p2 p3 = some q' ∧ q'.1 = q.1 ∧ TR n (σ 22) (φ 24) (σ 24) (φ 25) q.2.2 q.2.1 (μ 25) (α 26) (α 27) (α 28) (α 29) (μ 30) (α 31) (α 32) q'.2.2.2.1 q'.2.1 q'.2.2.1 q'.2.2.2.2 := by
    have hT2 := hT
    obtain ⟨⟨hn, hd, e2, e3, m0, m8⟩, -⟩ := hV
    obtain ⟨hSn, hPl, ⟨a, ha, s26, m33, hb⟩⟩ := hT
    unfold f_X7_book f_X8_book
    rw [e2, m0, hl.2.2]
    by_cases hm1 : p1 = -1
    · rw [if_pos hm1, if_pos hm1]
      exact ⟨_, _, rfl, rfl, rfl, hSn, hPl, ⟨0, by omega, rfl, rfl, fun i hi => absurd hi (Nat.not_lt_zero _)⟩⟩
    · rw [if_neg hm1, if_neg hm1]
      rcases n_cases p1 n (by omega) with ⟨p, hp, rfl⟩ | hp
      · rw [has_yes hp hn, Option.bind_some, if_neg i_10]
        rcases n_cases p2 n (by omega) with ⟨q, hq, rfl⟩ | hq
        · rw [has_yes hq hn, Option.bind_some, if_neg i_10, are_yes hp hq hn, Option.bind_some, if_neg i_10]
          by_cases hpq : p = q
          · rw [if_pos (by rw [hpq]), if_pos (by rw [hpq])]
            exact ⟨_, _, rfl, rfl, rfl, hT2⟩
          · have hne : ¬ nI p = nI q := by rw [n_eq (by omega) (by omega)]; exact hpq
            rw [if_neg hne, if_neg hne]
            rcases n_cases p3 100 (by omega) with ⟨t, ht, rfl⟩ | ht
            · rw [if_neg (n_not_neg (by omega)), if_pos (le_yes (c := 99) (by show (t : Int) ≤ 99; omega) (by omega)), wi_yes (c := 99) (by show (t : Int) ≤ 99; omega) (by omega), Option.bind_some, if_neg i_10]
              rw [s26, m33] at hT2 ⊢
              rw [show (8 : Int32) = nI 8 from rfl]
              by_cases h5 : a = 8
              · subst h5
                rw [add_no (by omega), if_pos rfl]
                exact ⟨_, _, rfl, rfl, rfl, hT2⟩
              · rw [add_yes (by omega) (by omega), if_neg (by rw [n_eq (by omega) (by omega)]; exact h5)]
                simp only [n_gd (show a < 8 by omega) (by omega : 8 < 2 ^ 31), n_cl (show a < 2 ^ 31 by omega), n_s]
                refine ⟨_, _, rfl, rfl, rfl, hSn, hPl, ⟨a + 1, by omega, rfl, rfl, fun i hi => ?_⟩⟩
                show rec4 (φ 26) a (nI p) (nI q) (nI t) 0 (4 * i) = upd (α 34) a (nI p) i ∧ rec4 (φ 26) a (nI p) (nI q) (nI t) 0 (4 * i + 1) = upd (α 35) a (nI q) i ∧ rec4 (φ 26) a (nI p) (nI q) (nI t) 0 (4 * i + 2) = upd (α 36) a (nI t) i ∧ ∃ x y, x < n ∧ y < n ∧ x ≠ y ∧ upd (α 34) a (nI p) i = nI x ∧ upd (α 35) a (nI q) i = nI y
                by_cases e : i = a
                · subst e
                  rw [rec4_0, rec4_1, rec4_2, upd_at, upd_at, upd_at]
                  exact ⟨rfl, rfl, rfl, p, q, hp, hq, hpq, rfl, rfl⟩
                · rw [rec4_o (by omega), rec4_o (by omega), rec4_o (by omega), upd_ne e, upd_ne e, upd_ne e]
                  exact hb i (by omega)
            · rw [le_no (c := 99) (by show p3.toInt < 0 ∨ (99 : Int) < p3.toInt; omega), within_no (by show p3.toInt < 0 ∨ (99 : Int) < p3.toInt; omega), Option.bind_some, if_pos rfl]
              exact ⟨_, _, rfl, rfl, rfl, hT2⟩
        · rw [has_no hq hn, Option.bind_some, if_pos rfl, are_no2 hp hq hn, Option.bind_some, if_pos rfl]
          exact ⟨_, _, rfl, rfl, rfl, hT2⟩
      · rw [has_no hp hn, Option.bind_some, if_pos rfl, are_no1 hp hn, Option.bind_some, if_pos rfl]
        exact ⟨_, _, rfl, rfl, rfl, hT2⟩
  obtain ⟨q, q', hx, hm, e, hN⟩ := key
  refine ⟨q.1, (upd σ 26 q.2.2, va_up φ 26 q.2.1, τ, nh, kh, ah), (upd μ 33 q'.2.2.2.1, va_up (va_up (va_up α 34 q'.2.1) 35 q'.2.2.1) 36 q'.2.2.2.2, ι), L_X_book _ _ _ _ _ _ _ _ _ _ _ _ _ _ _ _ hx, e ▸ L_M_book _ _ _ _ _ _ _ _ _ _ _ hm, ?_⟩
  refine ⟨n, d, cnt, w, nd, hV, hl, hN, hH, hK, hX, hP.keep rfl (fun i h1 h2 => if_neg (by omega)) (fun i h1 h2 => if_neg (by omega)) rfl rfl (fun i h1 h2 => ?_), hA, hTp.keep (fun i h => if_neg (by omega)) rfl rfl rfl rfl⟩
  rw [vup_ne (by omega), vup_ne (by omega), vup_ne (by omega)]
theorem F_plan (G : Gx) (l : Launch) (A : Lx) : Fact_plan G l A (Inv A.2.2.1) := by
  intro S T hI p1 p2
  obtain ⟨σ, φ, τ, nh, kh, ah⟩ := S
  obtain ⟨μ, α, ι⟩ := T
  obtain ⟨n, d, cnt, w, nd, hV, hl, hT, hH, hK, hX, hP, hA, hTp⟩ := hI
  have key : ∃ q q', f_X7_plan (σ 2) (σ 23) (σ 24) (φ 25) p1 p2 = some q ∧ f_X8_plan (μ 0) (μ 30) (α 31) (α 32) p1 p2 = some q' ∧ q'.1 = q.1 ∧ TR n (σ 22) (φ 24) q.2.1 q.2.2 (σ 26) (φ 26) (μ 25) (α 26) (α 27) (α 28) (α 29) q'.2.1 q'.2.2.1 q'.2.2.2 (μ 33) (α 34) (α 35) (α 36) := by
    have hT2 := hT
    obtain ⟨⟨hn, hd, e2, e3, m0, m8⟩, -⟩ := hV
    obtain ⟨hSn, ⟨a, ha, s24, m30, hb⟩, hBk⟩ := hT
    unfold f_X7_plan f_X8_plan
    rw [e2, m0, hl.2.1]
    by_cases hm1 : p1 = -1
    · rw [if_pos hm1, if_pos hm1]
      exact ⟨_, _, rfl, rfl, rfl, hSn, ⟨0, by omega, rfl, rfl, fun i hi => absurd hi (Nat.not_lt_zero _)⟩, hBk⟩
    · rw [if_neg hm1, if_neg hm1]
      rcases n_cases p1 4 (by omega) with ⟨g, hg, rfl⟩ | hg
      · have step : ∀ (x : Int32), (g = 0 ∨ ∃ p, p < n ∧ x = nI p) → ∃ q q', f_X7_plan_42 (10 : Int32) (σ 24) (φ 25) (nI g) x = some q ∧ f_X8_plan_35 (μ 30) (α 31) (α 32) (nI g) x = some q' ∧ q'.1 = q.1 ∧ TR n (σ 22) (φ 24) q.2.1 q.2.2 (σ 26) (φ 26) (μ 25) (α 26) (α 27) (α 28) (α 29) q'.2.1 q'.2.2.1 q'.2.2.2 (μ 33) (α 34) (α 35) (α 36) := by
          intro x hx
          rw [s24, m30] at hT2 ⊢
          unfold f_X7_plan_42 f_X8_plan_35
          rw [show (10 : Int32) = nI 10 from rfl]
          by_cases h5 : a = 10
          · subst h5
            rw [add_no (by omega), if_pos rfl]
            exact ⟨_, _, rfl, rfl, rfl, hT2⟩
          · rw [add_yes (by omega) (by omega), if_neg (by rw [n_eq (by omega) (by omega)]; exact h5)]
            simp only [n_gd (show a < 10 by omega) (by omega : 10 < 2 ^ 31), n_cl (show a < 2 ^ 31 by omega), n_s]
            by_cases h0 : g = 0
            · subst h0
              rw [if_pos (show nI 0 = (0 : Int32) from rfl)]
              refine ⟨_, _, rfl, rfl, rfl, hSn, ⟨a + 1, by omega, rfl, rfl, fun i hi => ?_⟩, hBk⟩
              show rec4 (φ 25) a (nI 0) x 0 0 (4 * i) = upd (α 31) a (nI 0) i ∧ (∃ g, g ≤ 3 ∧ upd (α 31) a (nI 0) i = nI g ∧ (g ≠ 0 → rec4 (φ 25) a (nI 0) x 0 0 (4 * i + 1) = upd (α 32) a 0 i)) ∧ ∃ p, upd (α 32) a 0 i = nI p ∧ p < 6 ∧ (upd (α 31) a (nI 0) i ≠ 0 → p < n)
              by_cases e : i = a
              · subst e
                rw [rec4_0, upd_at, upd_at]
                exact ⟨rfl, ⟨0, by omega, rfl, fun h => absurd rfl h⟩, 0, rfl, by omega, fun h => absurd rfl h⟩
              · rw [rec4_o (by omega), rec4_o (by omega), upd_ne e, upd_ne e]
                exact hb i (by omega)
            · obtain ⟨p, hp, rfl⟩ := hx.resolve_left h0
              rw [if_neg (eq_nay (c := 0) (by show (g : Int) ≠ 0; omega) (by omega))]
              refine ⟨_, _, rfl, rfl, rfl, hSn, ⟨a + 1, by omega, rfl, rfl, fun i hi => ?_⟩, hBk⟩
              show rec4 (φ 25) a (nI g) (nI p) 0 0 (4 * i) = upd (α 31) a (nI g) i ∧ (∃ g2, g2 ≤ 3 ∧ upd (α 31) a (nI g) i = nI g2 ∧ (g2 ≠ 0 → rec4 (φ 25) a (nI g) (nI p) 0 0 (4 * i + 1) = upd (α 32) a (nI p) i)) ∧ ∃ p2, upd (α 32) a (nI p) i = nI p2 ∧ p2 < 6 ∧ (upd (α 31) a (nI g) i ≠ 0 → p2 < n)
              by_cases e : i = a
              · subst e
                rw [rec4_0, rec4_1, upd_at, upd_at]
                exact ⟨rfl, ⟨g, by omega, rfl, fun _ => rfl⟩, p, rfl, by omega, fun _ => hp⟩
              · rw [rec4_o (by omega), rec4_o (by omega), upd_ne e, upd_ne e]
                exact hb i (by omega)
        rw [if_neg (n_not_neg (by omega)), if_neg (lt_nay' (c := 3) (by show (g : Int) ≤ 3; omega) (by omega)), wi_yes (c := 3) (by show (g : Int) ≤ 3; omega) (by omega), Option.bind_some, if_neg i_10]
        by_cases h0 : g = 0
        · subst h0
          rw [if_pos (show nI 0 = (0 : Int32) from rfl), if_pos (le_yes (c := 0) (by show (0 : Int) ≤ 0; omega) (by omega))]
          exact step p2 (Or.inl rfl)
        · rw [if_neg (eq_nay (c := 0) (by show (g : Int) ≠ 0; omega) (by omega)), if_neg (le_nay (c := 0) (by show (0 : Int) < g; omega) (by omega))]
          rcases n_cases p2 n (by omega) with ⟨p, hp, rfl⟩ | hp
          · rw [has_yes hp hn, Option.bind_some, if_neg i_10, isOne_yes hp hn, Option.bind_some, if_neg i_10]
            exact step _ (Or.inr ⟨p, hp, rfl⟩)
          · rw [has_no hp hn, Option.bind_some, if_pos rfl, isOne_no hp hn, Option.bind_some, if_pos rfl]
            exact ⟨_, _, rfl, rfl, rfl, hT2⟩
      · rw [gt_no (c := 3) (by show p1.toInt < 0 ∨ (3 : Int) < p1.toInt; omega), within_no (by show p1.toInt < 0 ∨ (3 : Int) < p1.toInt; omega), Option.bind_some, if_pos rfl]
        exact ⟨_, _, rfl, rfl, rfl, hT2⟩
  obtain ⟨q, q', hx, hm, e, hN⟩ := key
  refine ⟨q.1, (upd σ 24 q.2.1, va_up φ 25 q.2.2, τ, nh, kh, ah), (upd μ 30 q'.2.1, va_up (va_up α 31 q'.2.2.1) 32 q'.2.2.2, ι), L_X_plan _ _ _ _ _ _ _ _ _ _ _ _ _ _ _ hx, e ▸ L_M_plan _ _ _ _ _ _ _ _ _ _ hm, ?_⟩
  refine ⟨n, d, cnt, w, nd, hV, hl, hN, hH, hK, hX, hP.keep rfl (fun i h1 h2 => if_neg (by omega)) (fun i h1 h2 => if_neg (by omega)) rfl rfl (fun i h1 h2 => ?_), hA, hTp.keep (fun i h => if_neg (by omega)) rfl rfl rfl rfl⟩
  rw [vup_ne (by omega), vup_ne (by omega)]
-- the book, looked at
theorem look2 {n a : Nat} {ce bby bof bh ha ha' : Nat → Int32} (hn : n ≤ 6) (ha8 : a ≤ 8) (h4 : ∀ p q, p < n → q < n → ha (6 * p + q) = ha' (6 * p + q)) (hb : ∀ i, i < a → ce (4 * i) = bby i ∧ ce (4 * i + 1) = bof i ∧ ce (4 * i + 2) = bh i ∧ (∃ p q, p < n ∧ q < n ∧ p ≠ q ∧ bby i = nI p ∧ bof i = nI q)) : ∀ (m k F : Nat), k + m = a → m < F → ∃ r, f_X7_looked_2 (nI n) (nI a) ce ha F (nI k) = some r ∧ f_X8_looked_2 (nI a) bby bof ha' bh F (nI k) = some r := by
  intro m
  induction m with
  | zero =>
    intro k F hk hF
    obtain ⟨F, rfl⟩ : ∃ f, F = f + 1 := ⟨F - 1, by omega⟩
    refine ⟨-5, ?_, ?_⟩
    · show f_X7_looked_2_b _ _ _ _ _ (nI k) = _
      unfold f_X7_looked_2_b
      rw [if_pos (by rw [n_le (by omega) (by omega)]; omega)]
    · show f_X8_looked_2_b _ _ _ _ _ _ (nI k) = _
      unfold f_X8_looked_2_b
      rw [if_pos (by rw [n_le (by omega) (by omega)]; omega)]
  | succ m ih =>
    intro k F hk hF
    obtain ⟨F, rfl⟩ : ∃ f, F = f + 1 := ⟨F - 1, by omega⟩
    obtain ⟨r, hr1, hr2⟩ := ih (k + 1) F (by omega) (by omega)
    obtain ⟨c0, c1, c2, p, q, hp, hq, hpq, ep, eq⟩ := hb k (by omega)
    have e1 : f_X7_looked_2 (nI n) (nI a) ce ha (F + 1) (nI k) = if ha' (6 * p + q) = bh k then some r else some (nI k) := by
      show f_X7_looked_2_b _ _ _ _ _ (nI k) = _
      unfold f_X7_looked_2_b
      rw [if_neg (by rw [n_le (by omega) (by omega)]; omega), show (0 : Int32) = nI 0 from rfl, show (2 : Int32) = nI 2 from rfl, n_s, cell_yes (by omega) (by omega) (by omega), Option.bind_some, show (1 : Int32) = nI 1 from rfl, cell_yes (by omega) (by omega) (by omega), Option.bind_some, cell_yes (by omega) (by omega) (by omega), Nat.add_zero, c0, c1, c2, ep, eq, hateOf_yes hp hq hn, Option.bind_some, Option.bind_some, h4 p q hp hq, hr1]
    have e2 : f_X8_looked_2 (nI a) bby bof ha' bh (F + 1) (nI k) = if ha' (6 * p + q) = bh k then some r else some (nI k) := by
      show f_X8_looked_2_b _ _ _ _ _ _ (nI k) = _
      unfold f_X8_looked_2_b
      rw [if_neg (by rw [n_le (by omega) (by omega)]; omega)]
      simp only [n_gd (show k < 8 by omega) (by omega : 8 < 2 ^ 31), n_cl (show k < 2 ^ 31 by omega), ep, eq, n_mulL, n_gd (show 6 * p + q < 36 by omega) (by omega : 36 < 2 ^ 31), n_cl (show 6 * p + q < 2 ^ 31 by omega), n_s, hr2]
    rw [e1, e2]
    split
    · exact ⟨_, rfl, rfl⟩
    · exact ⟨_, rfl, rfl⟩
theorem F_looked (G : Gx) (l : Launch) (A : Lx) : Fact_looked G l A (Inv A.2.2.1) := by
  intro S T hI
  obtain ⟨σ, φ, τ, nh, kh, ah⟩ := S
  obtain ⟨μ, α, ι⟩ := T
  have hI2 := hI
  obtain ⟨n, d, cnt, w, nd, hV, hl, hT, hH, hK, hX, hP, hA, hTp⟩ := hI
  have key : ∃ r, f_X7_looked (σ 2) (σ 26) (φ 26) (φ 3) = some r ∧ f_X8_looked (μ 33) (α 34) (α 35) (α 7) (α 36) = some r := by
    obtain ⟨⟨hn, hd, e2, e3, m0, m8⟩, h1, h2, h3, ⟨h4, h5⟩, h6⟩ := hV
    obtain ⟨hSn, hPl, ⟨a, ha, s26, m33, hb⟩⟩ := hT
    unfold f_X7_looked f_X8_looked
    rw [e2, s26, m33]
    exact look2 hn ha (fun p q hp hq => (h4 p q hp hq).1) hb a 0 1000 (by omega) (by omega)
  obtain ⟨r, hx, hm⟩ := key
  exact ⟨r, (σ, φ, τ, nh, kh, ah), (μ, α, ι), L_X_looked _ _ _ _ _ _ _ _ _ _ _ _ _ hx, L_M_looked _ _ _ _ _ _ _ _ hm, hI2⟩
-- what kind is above
theorem tak_kin {ki : Nat → Int32} (p k g : Nat) (hp : p < 6) (x4 : ki p = nI k) : ∀ (F : Nat) (x : Int32), f_X8_taken_31 ki (nI p) (nI g) F x = f_X8_taken_31 (fun _ => nI k) (nI 0) (nI g) F x := by
  intro F
  induction F with
  | zero => intro x; rfl
  | succ F ih =>
    intro x
    show f_X8_taken_31_b _ _ _ _ x = f_X8_taken_31_b _ _ _ _ x
    unfold f_X8_taken_31_b
    rw [n_gd hp (by omega), n_gd (show 0 < 6 by omega) (by omega), n_cl (by omega), x4]
    simp only [ih]
theorem tak_all : ∀ (k g : Fin 7), f_X7_taken_43 (nI g.1) 1000 (nI k.1) (nI k.1) 0 = f_X8_taken_31 (fun _ => nI k.1) (nI 0) (nI g.1) 1000 (nI k.1) ∧ (f_X7_taken_43 (nI g.1) 1000 (nI k.1) (nI k.1) 0).isSome := by decide +kernel
theorem F_taken (G : Gx) (l : Launch) (A : Lx) : Fact_taken G l A (Inv A.2.2.1) := by
  intro S T hI p1 p2
  obtain ⟨σ, φ, τ, nh, kh, ah⟩ := S
  obtain ⟨μ, α, ι⟩ := T
  have hI2 := hI
  obtain ⟨n, d, cnt, w, nd, hV, hl, hT, hH, hK, hX, hP, hA, hTp⟩ := hI
  have key : ∃ r, f_X7_taken (σ 2) (φ 0) p1 p2 = some r ∧ f_X8_taken (μ 0) (α 1) p1 p2 = some r := by
    obtain ⟨⟨hn, hd, e2, e3, m0, m8⟩, h1, h2, h3, ⟨h4, h5⟩, h6⟩ := hV
    unfold f_X7_taken f_X8_taken
    rw [e2, m0]
    rcases n_cases p2 7 (by omega) with ⟨g, hg, rfl⟩ | hg
    · rw [if_neg (n_not_neg (by omega)), if_pos (lt_yes (c := 7) (by show (g : Int) < 7; omega) (by omega)), wi_yes (c := 6) (by show (g : Int) ≤ 6; omega) (by omega), Option.bind_some, if_neg i_10]
      rcases n_cases p1 n (by omega) with ⟨p, hp, rfl⟩ | hp
      · rw [has_yes hp hn, Option.bind_some, if_neg i_10, isOne_yes hp hn, Option.bind_some, if_neg i_10]
        obtain ⟨x1, -, -, ⟨k, hk, x4⟩, -⟩ := h1 p hp
        simp only [n_gd (show p < 6 by omega) (by omega : 6 < 2 ^ 31), n_cl (show p < 2 ^ 31 by omega), nm, x1]
        rw [x4, tak_kin p k g (by omega) x4 1000, ← (tak_all ⟨k, by omega⟩ ⟨g, hg⟩).1]
        exact ⟨_, (Option.some_get (tak_all ⟨k, by omega⟩ ⟨g, hg⟩).2).symm, (Option.some_get (tak_all ⟨k, by omega⟩ ⟨g, hg⟩).2).symm⟩
      · rw [has_no hp hn, Option.bind_some, if_pos rfl, isOne_no hp hn, Option.bind_some, if_pos rfl]
        exact ⟨_, rfl, rfl⟩
    · rw [lt_no (c := 7) (by show p2.toInt < 0 ∨ (7 : Int) ≤ p2.toInt; omega), within_no (by show p2.toInt < 0 ∨ (6 : Int) < p2.toInt; omega), Option.bind_some, if_pos rfl]
      exact ⟨_, rfl, rfl⟩
  obtain ⟨r, hx, hm⟩ := key
  exact ⟨r, (σ, φ, τ, nh, kh, ah), (μ, α, ι), L_X_taken _ _ _ _ _ _ _ _ _ _ _ _ _ _ _ hx, L_M_taken _ _ _ _ _ _ _ _ _ _ hm, hI2⟩
