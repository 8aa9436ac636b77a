theorem x_same {α : Type} {E : Option α} (h : ∃ r, E = some r) : ∃ r, E = some r ∧ E = some r := h.elim fun r h => ⟨r, h, h⟩
theorem F_count (G : Gx) (l : Launch) (A : Lx) : Fact_count G l A (Inv A.2.2.1) := by
  intro S T hI p1
  obtain ⟨σ, φ, τ, nh, kh, ah⟩ := S
  obtain ⟨μ, α, ι⟩ := T
  have hI2 := hI
  obtain ⟨n, d, cnt, w, nd, hV, hl, hT, hH, hK, ⟨t, ht, e14, e9, -⟩, ⟨⟨hc, e1, e15, -⟩, -⟩, hA, hTp⟩ := hI
  obtain ⟨⟨hn, hd, e2, e3, m0, m8⟩, -⟩ := hV
  obtain ⟨⟨a, -, s22, m25, -⟩, ⟨b, -, s24, m30, -⟩, ⟨c, -, s26, m33, -⟩⟩ := hT
  have key : ∃ r, f_X7_count (σ 1) (σ 2) (σ 22) (σ 24) (σ 26) (σ 14) (σ 17) p1 = some r ∧ f_X8_count (μ 0) (μ 9) (μ 15) (μ 25) (μ 30) (μ 33) (μ 37) p1 = some r := by
    rw [e1, e2, s22, s24, s26, e14, hA.1, m0, e9, e15, m25, m30, m33]
    unfold f_X7_count f_X8_count
    refine x_same ?_
    repeat' split
    all_goals exact ⟨_, rfl⟩
  obtain ⟨r, hx, hm⟩ := key
  exact ⟨r, (σ, φ, τ, nh, kh, ah), (μ, α, ι), L_X_count _ _ _ _ _ _ _ _ _ _ _ _ _ _ hx, L_M_count _ _ _ _ _ _ _ _ _ hm, hI2⟩
-- ways to say 'nothing but this changed'
theorem F_trace (G : Gx) (l : Launch) (A : Lx) : Fact_trace G l A (Inv A.2.2.1) := by
  intro S T hI p1
  obtain ⟨σ, φ, τ, nh, kh, ah⟩ := S
  obtain ⟨μ, α, ι⟩ := T
  have hI2 := hI
  obtain ⟨n, d, cnt, w, nd, hV, hl, hT, hH, hK, hX, hP, ⟨e17, ⟨r, hr, e37⟩, hb⟩, hTp⟩ := hI
  have key : ∃ r, f_X7_trace (σ 17) (φ 23) p1 = some r ∧ f_X8_trace (μ 37) (α 38) p1 = some r := by
    rw [e17, e37]
    have hmin : f_J9_min_7cf53 (20 : Int32) (nI r) = some (nI (min 20 r)) := by
      unfold f_J9_min_7cf53
      by_cases h : r < 20
      · rw [if_pos (by rw [show (20 : Int32) = nI 20 from rfl, n_lt (by omega) (by omega)]; exact h), Nat.min_eq_right (by omega)]
      · rw [if_neg (by rw [show (20 : Int32) = nI 20 from rfl, n_lt (by omega) (by omega)]; exact h), Nat.min_eq_left (by omega)]
        rfl
    unfold f_X8_trace
    rw [hmin, Option.bind_some]
    rcases n_cases p1 (min 20 r) (by omega) with ⟨j, hj, rfl⟩ | h
    · rw [within_yes (by rw [n_toInt (by omega)]; show (0 : Int) ≤ j; omega) (by rw [n_toInt (by omega), n_m1 (by omega)]; omega), Option.bind_some, if_neg i_10, n_gd (by omega) (by omega)]
      unfold f_X7_trace
      rw [if_neg (by rw [n_ltT, n_toInt (by omega)]; show ¬ (j : Int) < 0; omega), if_neg (by rw [n_le (by omega) (by omega)]; omega), if_pos (by rw [show (20 : Int32) = nI 20 from rfl, n_lt (by omega) (by omega)]; omega), n_gd (by omega) (by omega), n_cl (by omega), hb j (by omega)]
      exact ⟨_, rfl, rfl⟩
    · rw [within_no (by rw [n_m1 (by omega)]; show p1.toInt < 0 ∨ _; omega), Option.bind_some, if_pos rfl]
      refine ⟨-1, ?_, rfl⟩
      unfold f_X7_trace
      split
      · rfl
      · rename_i h0
        split
        · rfl
        · rename_i h1
          rw [if_neg]
          rw [n_ltT] at h0 ⊢
          rw [n_leT, n_toInt (by omega)] at h1
          have e0 : (0 : Int32).toInt = 0 := rfl
          have e2 : (20 : Int32).toInt = 20 := rfl
          omega
  obtain ⟨r, hx, hm⟩ := key
  exact ⟨r, (σ, φ, τ, nh, kh, ah), (μ, α, ι), L_X_trace _ _ _ _ _ _ _ _ _ _ _ _ _ _ hx, L_M_trace _ _ _ _ _ _ _ _ _ hm, hI2⟩
theorem s_toInt0 : (0 : Int32).toInt = 0 := rfl
theorem n_not_neg {j : Nat} (h : j < 2 ^ 31) : ¬ (nI j < 0) := by rw [n_ltT, n_toInt h]; show ¬ (j : Int) < 0; omega
theorem n_mulR {p q : Nat} (h : p < 1000) (hq : q < 1000) : nI p * (6 : Int32) + nI q = nI (6 * p + q) := by rw [show (6 : Int32) = nI 6 from rfl, pk_mul, nI_add, Nat.mul_comm]
theorem n_mulL {p q : Nat} : (6 : Int32) * nI p + nI q = nI (6 * p + q) := by rw [show (6 : Int32) = nI 6 from rfl, pk_mul, nI_add]
theorem hateOf_yes {n p q : Nat} {ha : Nat → Int32} (hp : p < n) (hq : q < n) (hn : n ≤ 6) : f_X6_hateOf (nI n) ha (nI p) (nI q) = some (ha (6 * p + q)) := by
  unfold f_X6_hateOf
  rw [has_yes hp hn, Option.bind_some, if_neg i_10, has_yes hq hn, Option.bind_some, if_neg i_10, n_mulR (by omega) (by omega), n_gd (by omega) (by omega), n_cl (by omega)]
theorem setHate_yes {n p q : Nat} {ha : Nat → Int32} {v : Int32} (hp : p < n) (hq : q < n) (hn : n ≤ 6) : f_X6_setHate (nI n) ha (nI p) (nI q) v = some (upd ha (6 * p + q) v) := by
  unfold f_X6_setHate
  rw [has_yes hp hn, Option.bind_some, if_neg i_10, has_yes hq hn, Option.bind_some, if_neg i_10, n_mulR (by omega) (by omega), n_gd (by omega) (by omega), n_cl (by omega)]
theorem idx_inj {p q a b : Nat} (hq : q < 6) (hb : b < 6) (h : 6 * p + q = 6 * a + b) : p = a ∧ q = b := by omega
theorem VR.hate {bd n d : Nat} {pe da de bu pe' da' : Int32} {ki vs th ha ro ki' vs' de' bu' th' ro' ha' : Nat → Int32} (h : VR bd n d pe da de bu ki vs th ha ro pe' da' ki' vs' de' bu' th' ro' ha') {p q k : Nat} (hp : p < n) (hq : q < n) (hk : k ≤ 99) (hpq : p ≠ q ∨ k = 0) : VR bd n d pe da de bu ki vs th (upd ha (6 * p + q) (nI k)) ro pe' da' ki' vs' de' bu' th' ro' (upd ha' (6 * p + q) (nI k)) := by
  obtain ⟨h0, h1, h2, h3, ⟨h4, h5⟩, h6⟩ := h
  refine ⟨h0, h1, h2, h3, ⟨fun a b ha2 hb2 => ?_, fun a b ha2 hb2 hab => ?_⟩, h6⟩
  · by_cases e : 6 * a + b = 6 * p + q
    · rw [e, upd_at, upd_at]
      obtain ⟨e1, e2⟩ := idx_inj (by omega) (by omega) e
      exact ⟨rfl, ⟨k, hk, rfl⟩, fun z => by rcases hpq with h | h <;> first | omega | (subst h; rfl)⟩
    · rw [upd_ne e, upd_ne e]
      exact h4 a b ha2 hb2
  · rw [upd_ne (by intro e; obtain ⟨e1, e2⟩ := idx_inj hb2 (by omega) e; exact hab ⟨by omega, by omega⟩)]
    exact h5 a b ha2 hb2 hab
theorem F_hate (G : Gx) (l : Launch) (A : Lx) : Fact_hate G l A (Inv A.2.2.1) := by
  intro S T hI p1 p2 p3
  obtain ⟨σ, φ, τ, nh, kh, ah⟩ := S
  obtain ⟨μ, α, ι⟩ := T
  have hI2 := hI
  obtain ⟨n, d, cnt, w, nd, hV, hl, hT, hH, hK, hX, hP, hA, hTp⟩ := hI
  have hV2 := hV
  obtain ⟨⟨hn, hd, e2, e3, m0, m8⟩, h1, h2, h3, ⟨h4, h5⟩, h6⟩ := hV
  have key : (∃ r, f_X7_hate (σ 2) (φ 3) p1 p2 p3 = some (r, φ 3) ∧ f_X8_hate (μ 0) (α 7) p1 p2 p3 = some (r, α 7)) ∨ (∃ p q k, p < n ∧ q < n ∧ p ≠ q ∧ k ≤ 99 ∧ f_X7_hate (σ 2) (φ 3) p1 p2 p3 = some (α 7 (6 * p + q), upd (φ 3) (6 * p + q) (nI k)) ∧ f_X8_hate (μ 0) (α 7) p1 p2 p3 = some (α 7 (6 * p + q), upd (α 7) (6 * p + q) (nI k))) := by
    rw [e2, m0]
    unfold f_X7_hate f_X8_hate
    rcases n_cases p1 n (by omega) with ⟨p, hp, rfl⟩ | hp
    · rw [has_yes hp hn, Option.bind_some, if_neg i_10]
      rcases n_cases p2 n (by omega) with ⟨q, hq, rfl⟩ | hq
      · rw [has_yes hq hn, Option.bind_some, if_neg i_10, are_yes hp hq hn, Option.bind_some, if_neg i_10]
        by_cases hpq : p = q
        · rw [if_pos (by rw [hpq]), if_pos (by rw [hpq])]
          exact Or.inl ⟨_, rfl, rfl⟩
        · have hne : ¬ nI p = nI q := by rw [n_eq (by omega) (by omega)]; exact hpq
          rw [if_neg hne, if_neg hne]
          rcases n_cases p3 100 (by omega) with ⟨k, hk, rfl⟩ | hk
          · rw [if_neg (n_not_neg (by omega)), if_pos (by rw [show (99 : Int32) = nI 99 from rfl, n_le (by omega) (by omega)]; omega), hateOf_yes hp hq hn, Option.bind_some, setHate_yes hp hq hn, Option.bind_some, within_yes (by rw [n_toInt (by omega)]; show (0 : Int) ≤ k; omega) (by rw [n_toInt (by omega)]; show (k : Int) ≤ 99; omega), Option.bind_some, if_neg i_10, n_mulL, n_gd (by omega) (by omega), n_cl (by omega)]
            dsimp only [nm]
            rw [n_gd (by omega) (by omega), (h4 p q hp hq).1]
            exact Or.inr ⟨p, q, k, hp, hq, hpq, by omega, rfl, rfl⟩
          · rw [within_no (by show p3.toInt < 0 ∨ (99 : Int) < p3.toInt; omega), Option.bind_some, if_pos rfl]
            refine Or.inl ⟨-2, ?_, rfl⟩
            split
            · rfl
            · rename_i h0
              rw [if_neg]
              rw [n_ltT] at h0
              rw [n_leT]
              have e0 : (0 : Int32).toInt = 0 := rfl
              have e9 : (99 : Int32).toInt = 99 := rfl
              omega
      · rw [has_no hq hn, Option.bind_some, if_pos rfl, are_no2 hp hq hn, Option.bind_some, if_pos rfl]
        exact Or.inl ⟨_, rfl, rfl⟩
    · rw [has_no hp hn, Option.bind_some, if_pos rfl, are_no1 hp hn, Option.bind_some, if_pos rfl]
      exact Or.inl ⟨_, rfl, rfl⟩
  rcases key with ⟨r, hx, hm⟩ | ⟨p, q, k, hp, hq, hpq, hk, hx, hm⟩
  · refine ⟨r, (σ, va_up φ 3 (φ 3), τ, nh, kh, ah), (μ, va_up α 7 (α 7), ι), L_X_hate _ _ _ _ _ _ _ _ _ _ _ _ _ _ _ _ hx, L_M_hate _ _ _ _ _ _ _ _ _ _ _ hm, ?_⟩
    rw [va_up_same, va_up_same]
    exact hI2
  · refine ⟨α 7 (6 * p + q), (σ, va_up φ 3 _, τ, nh, kh, ah), (μ, va_up α 7 _, ι), L_X_hate _ _ _ _ _ _ _ _ _ _ _ _ _ _ _ _ hx, L_M_hate _ _ _ _ _ _ _ _ _ _ _ hm, ?_⟩
    exact ⟨n, d, cnt, w, nd, hV2.hate hp hq hk (Or.inl hpq), hl, hT, hH, hK, hX, hP.keep rfl (fun _ _ _ => rfl) (fun i h1 h2 => if_neg (by omega)) rfl rfl (fun i h1 h2 => if_neg (by omega)), hA, hTp.keep (fun _ _ => rfl) rfl rfl rfl rfl⟩
