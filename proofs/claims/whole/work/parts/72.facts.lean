-- small tools
theorem i_t0 : (0 : Int32).toInt = 0 := rfl
theorem lt_no {α : Type} {x c : Int32} {A B : α} (h : x.toInt < 0 ∨ c.toInt ≤ x.toInt) : (if x < 0 then A else if x < c then B else A) = A := by
  by_cases h0 : x < 0
  · exact if_pos h0
  · rw [if_neg h0, if_neg]
    rw [n_ltT] at h0 ⊢
    have := i_t0
    omega
theorem le_no {α : Type} {x c : Int32} {A B : α} (h : x.toInt < 0 ∨ c.toInt < x.toInt) : (if x < 0 then A else if x ≤ c then B else A) = A := by
  by_cases h0 : x < 0
  · exact if_pos h0
  · rw [if_neg h0, if_neg]
    rw [n_ltT] at h0
    rw [n_leT]
    have := i_t0
    omega
theorem gt_no {α : Type} {x c : Int32} {A B : α} (h : x.toInt < 0 ∨ c.toInt < x.toInt) : (if x < 0 then A else if c < x then A else B) = A := by
  by_cases h0 : x < 0
  · exact if_pos h0
  · rw [if_neg h0, if_pos]
    rw [n_ltT] at h0 ⊢
    have := i_t0
    omega
theorem le_yes {j : Nat} {c : Int32} (h : (j : Int) ≤ c.toInt) (hj : j < 2 ^ 31) : nI j ≤ c := by rw [n_leT, n_toInt hj]; exact h
theorem lt_yes {j : Nat} {c : Int32} (h : (j : Int) < c.toInt) (hj : j < 2 ^ 31) : nI j < c := by rw [n_ltT, n_toInt hj]; exact h
theorem le_nay {j : Nat} {c : Int32} (h : c.toInt < (j : Int)) (hj : j < 2 ^ 31) : ¬ nI j ≤ c := by rw [n_leT, n_toInt hj]; omega
theorem lt_nay {j : Nat} {c : Int32} (h : c.toInt ≤ (j : Int)) (hj : j < 2 ^ 31) : ¬ nI j < c := by rw [n_ltT, n_toInt hj]; omega
theorem eq_nay {j : Nat} {c : Int32} (h : (j : Int) ≠ c.toInt) (hj : j < 2 ^ 31) : ¬ nI j = c := fun e => h (by rw [← e, n_toInt hj])
theorem wi_yes {j : Nat} {c : Int32} (h : (j : Int) ≤ c.toInt) (hj : j < 2 ^ 31) : f_X8_within (nI j) (0 : Int32) c = some 1 := within_yes (by rw [n_toInt hj]; show (0 : Int) ≤ j; omega) (by rw [n_toInt hj]; exact h)
theorem n_s {a : Nat} : nI a + (1 : Int32) = nI (a + 1) := by rw [show (1 : Int32) = nI 1 from rfl, nI_add]
theorem n_s1 {a : Nat} : nI a + (1 : Int32) - (1 : Int32) = nI a := Int32.add_sub_cancel _ _
theorem n_4R {p q : Nat} : nI p * (4 : Int32) + nI q = nI (4 * p + q) := by rw [show (4 : Int32) = nI 4 from rfl, pk_mul, nI_add, Nat.mul_comm]
theorem n_4L {p q : Nat} : (4 : Int32) * nI p + nI q = nI (4 * p + q) := by rw [show (4 : Int32) = nI 4 from rfl, pk_mul, nI_add]
theorem c_char : ∀ j : Fin 128, vp_nar .char (((nI j.1).toUInt32 % 65536).toInt32) = nI j.1 := by decide +kernel
theorem F_feed (G : Gx) (l : Launch) (A : Lx) : Fact_feed G l A (Inv A.2.2.1) := by
  intro S T hI p1
  obtain ⟨σ, φ, τ, nh, kh, ah⟩ := S
  obtain ⟨μ, α, ι⟩ := T
  obtain ⟨n, d, cnt, w, nd, hV, hl, hT, hH, hK, hX, hP, hA, hTp⟩ := hI
  have key : ∃ q q', f_X7_feed (σ 14) (φ 18) p1 = some q ∧ f_X8_feed (μ 9) (α 10) p1 = some q' ∧ q'.1 = q.1 ∧ ITxt q.2.2 q.2.1 q'.2.1 q'.2.2 := by
    have hX2 := hX
    obtain ⟨t, ht, e14, e9, hb⟩ := hX
    unfold f_X7_feed f_X8_feed
    rcases n_cases p1 128 (by omega) with ⟨j, hj, rfl⟩ | h
    · rw [if_neg (n_not_neg (by omega)), if_pos (le_yes (c := 127) (by show (j : Int) ≤ 127; omega) (by omega)), wi_yes (c := 127) (by show (j : Int) ≤ 127; omega) (by omega), Option.bind_some, if_neg i_10, e14, e9]
      unfold f_X5_add
      by_cases h : t = 100
      · subst h
        rw [if_neg (lt_nay (c := 100) (by show (100 : Int) ≤ (100 : Nat); omega) (by omega)), if_pos (show nI 100 = (100 : Int32) from rfl)]
        exact ⟨_, _, rfl, rfl, rfl, 100, by omega, rfl, rfl, hb⟩
      · rw [if_pos (lt_yes (c := 100) (by show (t : Int) < 100; omega) (by omega)), if_neg (eq_nay (c := 100) (by show (t : Int) ≠ 100; omega) (by omega)), n_gd (by omega) (by omega), n_gd (by omega) (by omega), c_char ⟨j, hj⟩, n_cl (by omega), n_s]
        refine ⟨_, _, rfl, rfl, rfl, t + 1, by omega, rfl, rfl, fun i hi => ?_⟩
        by_cases e : i = t
        · subst e
          exact ⟨upd_at.trans upd_at.symm, j, by omega, upd_at⟩
        · show upd (φ 18) t (nI j) i = upd (α 10) t (nI j) i ∧ ∃ c, c ≤ 127 ∧ upd (α 10) t (nI j) i = nI c
          rw [upd_ne e, upd_ne e]
          exact hb i (by omega)
    · rw [le_no (c := 127) (by show p1.toInt < 0 ∨ (127 : Int) < p1.toInt; omega), within_no (by show p1.toInt < 0 ∨ (127 : Int) < p1.toInt; omega), Option.bind_some, if_pos rfl]
      exact ⟨_, _, rfl, rfl, rfl, hX2⟩
  obtain ⟨q, q', hx, hm, e, hN⟩ := key
  refine ⟨q.1, (upd σ 14 q.2.2, va_up φ 18 q.2.1, τ, nh, kh, ah), (upd μ 9 q'.2.1, va_up α 10 q'.2.2, ι), L_X_feed _ _ _ _ _ _ _ _ _ _ _ _ _ _ hx, e ▸ L_M_feed _ _ _ _ _ _ _ _ _ hm, ?_⟩
  exact ⟨n, d, cnt, w, nd, hV, hl, hT, hH, hK, hN, hP.keep rfl (fun i h1 h2 => if_neg (by omega)) (fun i h1 h2 => if_neg (by omega)) rfl rfl (fun i h1 h2 => if_neg (by omega)), hA, hTp.keep (fun i h => if_neg (by omega)) rfl rfl rfl rfl⟩
-- bits
theorem b_or : ∀ (D : Fin 64) (p : Fin 6), (nI D.1 ||| ((1 : Int32) <<< (nI p.1 &&& 31))) = nI (D.1 ||| 2 ^ p.1) := by decide +kernel
theorem b_cl : ∀ (D : Fin 64) (p : Fin 6), (nI D.1 &&& (((1 : Int32) <<< (nI p.1 &&& 31)) ^^^ (-1 : Int32))) = nI (D.1 &&& (63 ^^^ 2 ^ p.1)) := by decide +kernel
theorem b_at : ∀ (D : Fin 64) (p : Fin 6), ((nI D.1 >>> (nI p.1 &&& 31)) &&& (1 : Int32)) = if D.1.testBit p.1 then 1 else 0 := by decide +kernel
theorem b_orT : ∀ (D : Fin 64) (p q : Fin 6), (D.1 ||| 2 ^ p.1).testBit q.1 = if q = p then true else D.1.testBit q.1 := by decide +kernel
theorem b_clT : ∀ (D : Fin 64) (p q : Fin 6), (D.1 &&& (63 ^^^ 2 ^ p.1)).testBit q.1 = if q = p then false else D.1.testBit q.1 := by decide +kernel
theorem pow6 {n : Nat} (hn : n ≤ 6) : 2 ^ n ≤ 64 := Nat.pow_le_pow_right (by omega) hn
theorem BR.or {n p : Nat} {de : Int32} {de' : Nat → Int32} (h : BR n de de') (hp : p < n) (hn : n ≤ 6) : BR n (de ||| ((1 : Int32) <<< (nI p &&& 31))) (upd de' p 1) := by
  obtain ⟨D, hD, rfl, h⟩ := h
  have := pow6 hn
  refine ⟨D ||| 2 ^ p, Nat.or_lt_two_pow hD (Nat.pow_lt_pow_right (by omega) hp), b_or ⟨D, by omega⟩ ⟨p, by omega⟩, fun q hq => ?_⟩
  have e := b_orT ⟨D, by omega⟩ ⟨p, by omega⟩ ⟨q, by omega⟩
  simp only [Fin.mk.injEq] at e
  rw [e]
  by_cases hqp : q = p
  · rw [if_pos hqp, hqp, upd_at]; rfl
  · rw [if_neg hqp, upd_ne hqp]; exact h q hq
theorem BR.cl {n p : Nat} {de : Int32} {de' : Nat → Int32} (h : BR n de de') (hp : p < n) (hn : n ≤ 6) : BR n (de &&& (((1 : Int32) <<< (nI p &&& 31)) ^^^ (-1 : Int32))) (upd de' p 0) := by
  obtain ⟨D, hD, rfl, h⟩ := h
  have := pow6 hn
  refine ⟨D &&& (63 ^^^ 2 ^ p), Nat.lt_of_le_of_lt Nat.and_le_left hD, b_cl ⟨D, by omega⟩ ⟨p, by omega⟩, fun q hq => ?_⟩
  have e := b_clT ⟨D, by omega⟩ ⟨p, by omega⟩ ⟨q, by omega⟩
  simp only [Fin.mk.injEq] at e
  rw [e]
  by_cases hqp : q = p
  · rw [if_pos hqp, hqp, upd_at]; rfl
  · rw [if_neg hqp, upd_ne hqp]; exact h q hq
theorem BR.at {n p : Nat} {de : Int32} {de' : Nat → Int32} (h : BR n de de') (hp : p < n) (hn : n ≤ 6) : f_X7_bit de (nI p) = some (de' p) := by
  obtain ⟨D, hD, rfl, h⟩ := h
  have := pow6 hn
  rw [h p hp, ← b_at ⟨D, by omega⟩ ⟨p, by omega⟩]
  rfl
theorem F_die (G : Gx) (l : Launch) (A : Lx) : Fact_die G l A (Inv A.2.2.1) := by
  intro S T hI p1 p2
  obtain ⟨σ, φ, τ, nh, kh, ah⟩ := S
  obtain ⟨μ, α, ι⟩ := T
  obtain ⟨n, d, cnt, w, nd, hV, hl, hT, hH, hK, hX, hP, hA, hTp⟩ := hI
  obtain ⟨⟨hn, hd, e2, e3, m0, m8⟩, h1, h2, h3, h4, h5, h6⟩ := hV
  have key : ∃ q q', f_X7_die (σ 2) (σ 4) (σ 5) p1 p2 = some q ∧ f_X8_die (μ 0) (α 3) (α 4) p1 p2 = some q' ∧ q'.1 = q.1 ∧ BR n q.2.1 q'.2.1 ∧ BR n q.2.2 q'.2.2 := by
    unfold f_X7_die f_X8_die
    rw [e2, m0]
    rcases n_cases p1 n (by omega) with ⟨p, hp, rfl⟩ | hp
    · rw [has_yes hp hn, Option.bind_some, if_neg i_10, isOne_yes hp hn, Option.bind_some, if_neg i_10, h5.at hp hn, Option.bind_some]
      simp only [n_gd (show p < 6 by omega) (by omega : 6 < 2 ^ 31), n_cl (show p < 2 ^ 31 by omega), nm]
      by_cases h : p2 = 0
      · rw [if_pos h, if_pos h, if_pos h]
        exact ⟨_, _, rfl, rfl, rfl, h5.cl hp hn, h6.cl hp hn⟩
      · rw [if_neg h, if_neg h, if_neg h]
        exact ⟨_, _, rfl, rfl, rfl, h5.or hp hn, h6⟩
    · rw [has_no hp hn, Option.bind_some, if_pos rfl, isOne_no hp hn, Option.bind_some, if_pos rfl]
      exact ⟨_, _, rfl, rfl, rfl, h5, h6⟩
  obtain ⟨q, q', hx, hm, e, hN5, hN6⟩ := key
  refine ⟨q.1, (upd (upd σ 4 q.2.1) 5 q.2.2, φ, τ, nh, kh, ah), (μ, va_up (va_up α 3 q'.2.1) 4 q'.2.2, ι), L_X_die _ _ _ _ _ _ _ _ _ _ _ _ _ _ _ hx, e ▸ L_M_die _ _ _ _ _ _ _ _ _ _ hm, ?_⟩
  exact ⟨n, d, cnt, w, nd, ⟨⟨hn, hd, e2, e3, m0, m8⟩, h1, h2, h3, h4, hN5, hN6⟩, hl, hT, hH, hK, hX, hP.keep rfl (fun i h1 h2 => (if_neg (by omega)).trans (if_neg (by omega))) (fun i h1 h2 => rfl) rfl rfl (fun i h1 h2 => (if_neg (by omega)).trans (if_neg (by omega))), hA, hTp.keep (fun i h => (if_neg (by omega)).trans (if_neg (by omega))) rfl rfl rfl rfl⟩
