theorem ab_1 : f_X8_above (nI 1) = some 0 := by decide +kernel
theorem ab_2 : f_X8_above (nI 2) = some 0 := by decide +kernel
theorem ab_3 : f_X8_above (nI 3) = some 0 := by decide +kernel
theorem ab_4 : f_X8_above (nI 4) = some 1 := by decide +kernel
theorem ab_5 : f_X8_above (nI 5) = some 2 := by decide +kernel
theorem ab_6 : f_X8_above (nI 6) = some 3 := by decide +kernel
theorem ab_0 : f_X8_above (nI 0) = some 0 := by decide +kernel
theorem run8_d {p : Nat} (hp : p < 6) {vv : Nat → Int32} : ∀ (k : Nat), k < 7 → ∀ (dep c : Nat) (b : Nat → Int32) (x : Int32), c < 900 → f_X8_digs (dep + 4) (nI c) b vv (nI p) (nI k) x = some (dg (nI p) (vv p) k x, nI (c + (dl k).length), nts c b (dl k)) := by
  have h0 : ∀ (dep c : Nat) (b : Nat → Int32) (x : Int32), c < 950 → f_X8_digs (dep + 1) (nI c) b vv (nI p) (nI 0) x = some (x + nI p, nI (c + 1), nt c b 10) := by
    intro dep c b x hc
    unfold f_X8_digs f_X8_digs_b
    rw [if_pos (by rfl), ran_is (by omega), Option.bind_some]
  have h1 : ∀ (dep c : Nat) (b : Nat → Int32) (x : Int32), c < 950 → f_X8_digs (dep + 2) (nI c) b vv (nI p) (nI 1) x = some (x + nI p, nI (c + 1), nt c b 10) := by
    intro dep c b x hc
    unfold f_X8_digs f_X8_digs_b
    rw [if_neg (by decide), if_pos (by rfl), ab_1, Option.bind_some, show f_X8_digs (dep + 1) (nI c) b vv (nI p) 0 x = _ from h0 dep c b x hc, Option.bind_some]
  have h3 : ∀ (dep c : Nat) (b : Nat → Int32) (x : Int32), c < 950 → f_X8_digs (dep + 2) (nI c) b vv (nI p) (nI 3) x = some (x + nI p, nI (c + 1), nt c b 10) := by
    intro dep c b x hc
    unfold f_X8_digs f_X8_digs_b
    rw [if_neg (by decide), if_neg (by decide), if_neg (by decide), if_pos (by rfl), ab_3, Option.bind_some, show f_X8_digs (dep + 1) (nI c) b vv (nI p) 0 x = _ from h0 dep c b x hc, Option.bind_some]
  have h2 : ∀ (dep c : Nat) (b : Nat → Int32) (x : Int32), c < 940 → f_X8_digs (dep + 2) (nI c) b vv (nI p) (nI 2) x = some (x * (3 : Int32) + nI p, nI (c + 2), nts c b [30, 10]) := by
    intro dep c b x hc
    unfold f_X8_digs f_X8_digs_b
    rw [if_neg (by decide), if_neg (by decide), if_pos (by rfl), ran_is (by omega), Option.bind_some, show f_X8_digs (dep + 1) (nI (c + 1)) (nt c b 30) vv (nI p) 0 (x * (3 : Int32)) = _ from h0 dep (c + 1) _ _ (by omega), Option.bind_some]
    rfl
  intro k hk dep c b x hc
  have h7 : k = 0 ∨ k = 1 ∨ k = 2 ∨ k = 3 ∨ k = 4 ∨ k = 5 ∨ k = 6 := by omega
  rcases h7 with rfl | rfl | rfl | rfl | rfl | rfl | rfl
  · exact h0 (dep + 3) c b x (by omega)
  · exact h1 (dep + 2) c b x (by omega)
  · exact h2 (dep + 2) c b x (by omega)
  · exact h3 (dep + 2) c b x (by omega)
  · unfold f_X8_digs f_X8_digs_b
    rw [if_neg (by decide), if_neg (by decide), if_neg (by decide), if_neg (by decide), if_pos (by rfl), ran_is (by omega), Option.bind_some, show f_X8_digs (dep + 3) (nI (c + 1)) (nt c b 50) vv (nI p) 1 x = _ from h1 (dep + 1) (c + 1) _ _ (by omega), Option.bind_some]
    rfl
  · unfold f_X8_digs f_X8_digs_b
    rw [if_neg (by decide), if_neg (by decide), if_neg (by decide), if_neg (by decide), if_neg (by decide), if_pos (by rfl), ab_5, Option.bind_some, show f_X8_digs (dep + 3) (nI c) b vv (nI p) 2 x = _ from h2 (dep + 1) c b x (by omega), Option.bind_some]
    rfl
  · unfold f_X8_digs f_X8_digs_b
    rw [if_neg (by decide), if_neg (by decide), if_neg (by decide), if_neg (by decide), if_neg (by decide), if_neg (by decide), if_pos (by rfl), ran_is (by omega), Option.bind_some, show f_X8_digs (dep + 3) (nI (c + 1)) (nt c b 71) vv (nI p) 3 x = _ from h3 (dep + 1) (c + 1) _ _ (by omega), Option.bind_some, n_gd hp (by omega), n_cl (by omega)]
    rfl
theorem run8_c {p K : Nat} (hp : p < 6) (hK : K < 7) {ki vv : Nat → Int32} (hki : ki p = nI K) : ∀ (k : Nat), k < 7 → ∀ (dep c : Nat) (b : Nat → Int32) (x : Int32), c < 800 → f_X8_casts (dep + 4) (nI c) b ki vv (nI p) (nI k) x = some (cs (nI p) (vv p) K k x, nI (c + (cl K k).length), nts c b (cl K k)) := by
  have hdl : ∀ k, (dl k).length ≤ 2 := by intro k; unfold dl; split <;> decide
  have hcb : (cbl K).length ≤ 3 := by have := hdl K; show (dl K).length + 1 ≤ 3; omega
  have h0 : ∀ (dep c : Nat) (b : Nat → Int32) (x : Int32), c < 850 → f_X8_casts (dep + 1) (nI c) b ki vv (nI p) (nI 0) x = some (cb (nI p) (vv p) K x, nI (c + (cbl K).length), nts c b (cbl K)) := by
    intro dep c b x hc
    unfold f_X8_casts f_X8_casts_b
    rw [if_pos (by rfl), ran_is (by omega), Option.bind_some, n_gd hp (by omega), n_cl (by omega), hki, run8_d hp K hK 56 (c + 1) _ x (by omega), Option.bind_some, n_gd hp (by omega)]
    show some (dg (nI p) (vv p) K x - vv p, nI (c + 1 + (dl K).length), nts (c + 1) (nt c b 11) (dl K)) = some (dg (nI p) (vv p) K x - vv p, nI (c + ((dl K).length + 1)), nts (c + 1) (nt c b 11) (dl K))
    rw [show c + 1 + (dl K).length = c + ((dl K).length + 1) by omega]
  have h2 : ∀ (dep c : Nat) (b : Nat → Int32) (x : Int32), c < 850 → f_X8_casts (dep + 2) (nI c) b ki vv (nI p) (nI 2) x = some (cb (nI p) (vv p) K x, nI (c + (cbl K).length), nts c b (cbl K)) := by
    intro dep c b x hc
    unfold f_X8_casts f_X8_casts_b
    rw [if_neg (by decide), if_neg (by decide), if_pos (by rfl), ab_2, Option.bind_some, show f_X8_casts (dep + 1) (nI c) b ki vv (nI p) 0 x = _ from h0 dep c b x hc, Option.bind_some]
  have h3 : ∀ (dep c : Nat) (b : Nat → Int32) (x : Int32), c < 850 → f_X8_casts (dep + 2) (nI c) b ki vv (nI p) (nI 3) x = some (cb (nI p) (vv p) K x, nI (c + (cbl K).length), nts c b (cbl K)) := by
    intro dep c b x hc
    unfold f_X8_casts f_X8_casts_b
    rw [if_neg (by decide), if_neg (by decide), if_neg (by decide), if_pos (by rfl), ab_3, Option.bind_some, show f_X8_casts (dep + 1) (nI c) b ki vv (nI p) 0 x = _ from h0 dep c b x hc, Option.bind_some]
  have h1 : ∀ (dep c : Nat) (b : Nat → Int32) (x : Int32), c < 840 → f_X8_casts (dep + 2) (nI c) b ki vv (nI p) (nI 1) x = some (cb (nI p) (vv p) K x ^^^ (6 : Int32), nI (c + (20 :: cbl K).length), nts c b (20 :: cbl K)) := by
    intro dep c b x hc
    unfold f_X8_casts f_X8_casts_b
    rw [if_neg (by decide), if_pos (by rfl), ran_is (by omega), Option.bind_some, show f_X8_casts (dep + 1) (nI (c + 1)) (nt c b 20) ki vv (nI p) 0 x = _ from h0 dep (c + 1) _ x (by omega), Option.bind_some]
    show some (cb (nI p) (vv p) K x ^^^ (6 : Int32), nI (c + 1 + (cbl K).length), nts (c + 1) (nt c b 20) (cbl K)) = some (cb (nI p) (vv p) K x ^^^ (6 : Int32), nI (c + ((cbl K).length + 1)), nts (c + 1) (nt c b 20) (cbl K))
    rw [show c + 1 + (cbl K).length = c + ((cbl K).length + 1) by omega]
  intro k hk dep c b x hc
  have h7 : k = 0 ∨ k = 1 ∨ k = 2 ∨ k = 3 ∨ k = 4 ∨ k = 5 ∨ k = 6 := by omega
  rcases h7 with rfl | rfl | rfl | rfl | rfl | rfl | rfl
  · exact h0 (dep + 3) c b x (by omega)
  · exact h1 (dep + 2) c b x (by omega)
  · exact h2 (dep + 2) c b x (by omega)
  · exact h3 (dep + 2) c b x (by omega)
  · unfold f_X8_casts f_X8_casts_b
    rw [if_neg (by decide), if_neg (by decide), if_neg (by decide), if_neg (by decide), if_pos (by rfl), ran_is (by omega), Option.bind_some, show f_X8_casts (dep + 3) (nI (c + 1)) (nt c b 51) ki vv (nI p) 1 (x + (1 : Int32)) = _ from h1 (dep + 1) (c + 1) _ _ (by omega), Option.bind_some]
    show some (cb (nI p) (vv p) K (x + (1 : Int32)) ^^^ (6 : Int32), nI (c + 1 + (20 :: cbl K).length), nts (c + 1) (nt c b 51) (20 :: cbl K)) = some (cb (nI p) (vv p) K (x + (1 : Int32)) ^^^ (6 : Int32), nI (c + ((20 :: cbl K).length + 1)), nts (c + 1) (nt c b 51) (20 :: cbl K))
    rw [show c + 1 + (20 :: cbl K).length = c + ((20 :: cbl K).length + 1) by omega]
  · unfold f_X8_casts f_X8_casts_b
    rw [if_neg (by decide), if_neg (by decide), if_neg (by decide), if_neg (by decide), if_neg (by decide), if_pos (by rfl), ab_5, Option.bind_some, show f_X8_casts (dep + 3) (nI c) b ki vv (nI p) 2 x = _ from h2 (dep + 1) c b x (by omega), Option.bind_some]
    rfl
  · unfold f_X8_casts f_X8_casts_b
    rw [if_neg (by decide), if_neg (by decide), if_neg (by decide), if_neg (by decide), if_neg (by decide), if_neg (by decide), if_pos (by rfl), ran_is (by omega), Option.bind_some, show f_X8_casts (dep + 3) (nI (c + 1)) (nt c b 70) ki vv (nI p) 3 x = _ from h3 (dep + 1) (c + 1) _ x (by omega), Option.bind_some]
    dsimp only
    rw [show f_X8_digs 60 (nI (c + 1 + (cbl K).length)) (nts (c + 1) (nt c b 70) (cbl K)) vv (nI p) 3 (2 : Int32) = _ from run8_d hp 3 (by omega) 56 (c + 1 + (cbl K).length) _ 2 (by omega), Option.bind_some]
    show some (cb (nI p) (vv p) K x + dg (nI p) (vv p) 3 2, nI (c + 1 + (cbl K).length + (dl 3).length), nts (c + 1 + (cbl K).length) (nts (c + 1) (nt c b 70) (cbl K)) (dl 3)) = some (cb (nI p) (vv p) K x + dg (nI p) (vv p) 3 2, nI (c + ((cbl K ++ dl 3).length + 1)), nts (c + 1) (nt c b 70) (cbl K ++ dl 3))
    rw [nts_app, List.length_append, show c + 1 + (cbl K).length + (dl 3).length = c + ((cbl K).length + (dl 3).length + 1) by omega]
theorem run8_t {p K : Nat} (hp : p < 6) (hK : K < 7) {ki vv : Nat → Int32} (hki : ki p = nI K) : ∀ (k : Nat), k < 7 → ∀ (dep c : Nat) (b : Nat → Int32) (x : Int32), c < 700 → f_X8_tells (dep + 4) (nI c) b ki vv (nI p) (nI k) x = some (tl (nI p) (vv p) K k x, nI (c + (tll K k).length), nts c b (tll K k)) := by
  have hcl := cl_len K K
  have htb : (tbl K).length ≤ 6 := by show (cl K K).length + 1 ≤ 6; omega
  have h0 : ∀ (dep c : Nat) (b : Nat → Int32) (x : Int32), c < 750 → f_X8_tells (dep + 1) (nI c) b ki vv (nI p) (nI 0) x = some (tb (nI p) (vv p) K x, nI (c + (tbl K).length), nts c b (tbl K)) := by
    intro dep c b x hc
    unfold f_X8_tells f_X8_tells_b
    rw [if_pos (by rfl), ran_is (by omega), Option.bind_some, n_gd hp (by omega), n_cl (by omega), hki, run8_c (vv := vv) hp hK hki K hK 56 (c + 1) _ x (by omega), Option.bind_some]
    show some (cs (nI p) (vv p) K K x * (2 : Int32), nI (c + 1 + (cl K K).length), nts (c + 1) (nt c b 12) (cl K K)) = some (cs (nI p) (vv p) K K x * (2 : Int32), nI (c + ((cl K K).length + 1)), nts (c + 1) (nt c b 12) (cl K K))
    rw [show c + 1 + (cl K K).length = c + ((cl K K).length + 1) by omega]
  have h1 : ∀ (dep c : Nat) (b : Nat → Int32) (x : Int32), c < 750 → f_X8_tells (dep + 2) (nI c) b ki vv (nI p) (nI 1) x = some (tb (nI p) (vv p) K x, nI (c + (tbl K).length), nts c b (tbl K)) := by
    intro dep c b x hc
    unfold f_X8_tells f_X8_tells_b
    rw [if_neg (by decide), if_neg (by decide), if_neg (by decide), ab_1, Option.bind_some, show f_X8_tells (dep + 1) (nI c) b ki vv (nI p) 0 x = _ from h0 dep c b x hc, Option.bind_some]
  have h2 : ∀ (dep c : Nat) (b : Nat → Int32) (x : Int32), c < 750 → f_X8_tells (dep + 2) (nI c) b ki vv (nI p) (nI 2) x = some (tb (nI p) (vv p) K x, nI (c + (tbl K).length), nts c b (tbl K)) := by
    intro dep c b x hc
    unfold f_X8_tells f_X8_tells_b
    rw [if_neg (by decide), if_neg (by decide), if_neg (by decide), ab_2, Option.bind_some, show f_X8_tells (dep + 1) (nI c) b ki vv (nI p) 0 x = _ from h0 dep c b x hc, Option.bind_some]
  have h3 : ∀ (dep c : Nat) (b : Nat → Int32) (x : Int32), c < 700 → f_X8_tells (dep + 2) (nI c) b ki vv (nI p) (nI 3) x = some (tb (nI p) (vv p) K x + cs (nI p) (vv p) K K (1 : Int32), nI (c + (40 :: (tbl K ++ cl K K)).length), nts c b (40 :: (tbl K ++ cl K K))) := by
    intro dep c b x hc
    unfold f_X8_tells f_X8_tells_b
    rw [if_neg (by decide), if_pos (by rfl), ran_is (by omega), Option.bind_some, show f_X8_tells (dep + 1) (nI (c + 1)) (nt c b 40) ki vv (nI p) 0 x = _ from h0 dep (c + 1) _ x (by omega), Option.bind_some, n_gd hp (by omega), n_cl (by omega), hki]
    dsimp only
    rw [run8_c (vv := vv) hp hK hki K hK 56 (c + 1 + (tbl K).length) _ 1 (by omega), Option.bind_some]
    show some (tb (nI p) (vv p) K x + cs (nI p) (vv p) K K 1, nI (c + 1 + (tbl K).length + (cl K K).length), nts (c + 1 + (tbl K).length) (nts (c + 1) (nt c b 40) (tbl K)) (cl K K)) = some (tb (nI p) (vv p) K x + cs (nI p) (vv p) K K 1, nI (c + ((tbl K ++ cl K K).length + 1)), nts (c + 1) (nt c b 40) (tbl K ++ cl K K))
    rw [nts_app, List.length_append, show c + 1 + (tbl K).length + (cl K K).length = c + ((tbl K).length + (cl K K).length + 1) by omega]
  intro k hk dep c b x hc
  have h7 : k = 0 ∨ k = 1 ∨ k = 2 ∨ k = 3 ∨ k = 4 ∨ k = 5 ∨ k = 6 := by omega
  rcases h7 with rfl | rfl | rfl | rfl | rfl | rfl | rfl
  · exact h0 (dep + 3) c b x (by omega)
  · exact h1 (dep + 2) c b x (by omega)
  · exact h2 (dep + 2) c b x (by omega)
  · exact h3 (dep + 2) c b x (by omega)
  · unfold f_X8_tells f_X8_tells_b
    rw [if_neg (by decide), if_neg (by decide), if_neg (by decide), ab_4, Option.bind_some, show f_X8_tells (dep + 3) (nI c) b ki vv (nI p) 1 x = _ from h1 (dep + 1) c b x (by omega), Option.bind_some]
    rfl
  · unfold f_X8_tells f_X8_tells_b
    rw [if_neg (by decide), if_neg (by decide), if_pos (by rfl), ran_is (by omega), Option.bind_some, show f_X8_tells (dep + 3) (nI (c + 1)) (nt c b 60) ki vv (nI p) 2 (x - nI p) = _ from h2 (dep + 1) (c + 1) _ (x - nI p) (by omega), Option.bind_some]
    show some (tb (nI p) (vv p) K (x - nI p), nI (c + 1 + (tbl K).length), nts (c + 1) (nt c b 60) (tbl K)) = some (tb (nI p) (vv p) K (x - nI p), nI (c + ((tbl K).length + 1)), nts (c + 1) (nt c b 60) (tbl K))
    rw [show c + 1 + (tbl K).length = c + ((tbl K).length + 1) by omega]
  · unfold f_X8_tells f_X8_tells_b
    rw [if_neg (by decide), if_neg (by decide), if_neg (by decide), ab_6, Option.bind_some, show f_X8_tells (dep + 3) (nI c) b ki vv (nI p) 3 x = _ from h3 (dep + 1) c b x (by omega), Option.bind_some]
    rfl
theorem tll_len (K k : Nat) : (tll K k).length ≤ 20 := by
  have hcl := cl_len K K
  have htb : (tbl K).length ≤ 6 := by show (cl K K).length + 1 ≤ 6; omega
  unfold tll
  split <;> first | omega | (simp only [List.length_cons, List.length_append]; omega)
theorem F_act (G : Gx) (l : Launch) (A : Lx) : Fact_act G l A (Inv A.2.2.1) := by
  intro S T hI p1 p2 p3
  obtain ⟨σ, φ, τ, nh, kh, ah⟩ := S
  obtain ⟨μ, α, ι⟩ := T
  obtain ⟨n, d, cnt, w, nd, hV, hl, hT, hH, hK, hX, hP, hA, hTp⟩ := hI
  obtain ⟨hA1, hA2, hA3⟩ := hA
  have key : ∃ q q', f_X7_act (σ 18) (σ 19) (σ 20) (σ 2) (φ 0) (φ 1) (φ 23) p1 p2 p3 = some q ∧ f_X8_act (μ 0) (α 1) (α 38) (α 2) p1 p2 p3 = some q' ∧ q'.1 = q.1 ∧ IAct q.2.1 q.2.2.2.2.2 q'.2.1 q'.2.2 := by
    obtain ⟨⟨hn, hd, e2, e3, m0, m8⟩, h1, -⟩ := id hV
    unfold f_X7_act f_X8_act
    rw [e2, m0]
    rcases n_cases p1 n (by omega) with ⟨p, hp, rfl⟩ | hp
    · rw [has_yes hp hn, Option.bind_some, if_neg i_10, isOne_yes hp hn, Option.bind_some, if_neg i_10]
      rcases n_cases p2 3 (by omega) with ⟨a, ha, rfl⟩ | h
      · obtain ⟨x1, x2, -, ⟨K, hK6, x4⟩, -⟩ := h1 p hp
        rw [if_neg (n_not_neg (by omega)), if_pos (lt_yes (c := 3) (by show (a : Int) < 3; omega) (by omega)), wi_yes (c := 2) (by show (a : Int) ≤ 2; omega) (by omega), Option.bind_some, if_neg i_10]
        simp only [n_gd (show p < 6 by omega) (by omega : 6 < 2 ^ 31), n_cl (show p < 2 ^ 31 by omega), nm, x1, x2, x4]
        have h3 : a = 0 ∨ a = 1 ∨ a = 2 := by omega
        rcases h3 with rfl | rfl | rfl
        · rw [show f_X0_run 40 0 (nI p) (nI K) (α 2 p) (φ 23) (nI 0) (nI K) p3 0 = _ from run7_d (nI p) (α 2 p) K K (by omega) 37 0 0 (φ 23) p3 (by omega) (by omega), if_pos (by rfl), show f_X8_digs 60 0 (α 38) (α 2) (nI p) (nI K) p3 = _ from run8_d (show p < 6 by omega) K (by omega) 56 0 (α 38) p3 (by omega)]
          refine ⟨_, _, rfl, rfl, rfl, rfl, ⟨_, ?_, rfl⟩, nts_same _ _ _ _ hA3⟩
          have hdl : ∀ k, (dl k).length ≤ 2 := by intro k; unfold dl; split <;> decide
          have := hdl K
          omega
        · rw [show f_X0_run 40 0 (nI p) (nI K) (α 2 p) (φ 23) (nI 1) (nI K) p3 0 = _ from run7_c (nI p) (α 2 p) (show K < 7 by omega) K (by omega) 32 0 0 (φ 23) p3 (by omega) (by omega), if_neg (by decide), if_pos (by rfl), show f_X8_casts 60 0 (α 38) (α 1) (α 2) (nI p) (nI K) p3 = _ from run8_c (show p < 6 by omega) (show K < 7 by omega) x4 K (by omega) 56 0 (α 38) p3 (by omega)]
          refine ⟨_, _, rfl, rfl, rfl, rfl, ⟨_, ?_, rfl⟩, nts_same _ _ _ _ hA3⟩
          have := cl_len K K
          omega
        · rw [show f_X0_run 40 0 (nI p) (nI K) (α 2 p) (φ 23) (nI 2) (nI K) p3 0 = _ from run7_t (nI p) (α 2 p) (show K < 7 by omega) K (by omega) 28 0 0 (φ 23) p3 (by omega) (by omega), if_neg (by decide), if_neg (by decide), show f_X8_tells 60 0 (α 38) (α 1) (α 2) (nI p) (nI K) p3 = _ from run8_t (show p < 6 by omega) (show K < 7 by omega) x4 K (by omega) 56 0 (α 38) p3 (by omega)]
          refine ⟨_, _, rfl, rfl, rfl, rfl, ⟨_, ?_, rfl⟩, nts_same _ _ _ _ hA3⟩
          have := tll_len K K
          omega
      · rw [lt_no (c := 3) (by show p2.toInt < 0 ∨ (3 : Int) ≤ p2.toInt; omega), within_no (by show p2.toInt < 0 ∨ (2 : Int) < p2.toInt; omega), Option.bind_some, if_pos rfl]
        exact ⟨_, _, rfl, rfl, rfl, rfl, ⟨0, by omega, rfl⟩, hA3⟩
    · rw [has_no hp hn, Option.bind_some, if_pos rfl, isOne_no hp hn, Option.bind_some, if_pos rfl]
      exact ⟨_, _, rfl, rfl, rfl, rfl, ⟨0, by omega, rfl⟩, hA3⟩
  obtain ⟨q, q', hx, hm, e, hN⟩ := key
  refine ⟨q.1, (upd (upd (upd (upd σ 17 q.2.1) 18 q.2.2.1) 19 q.2.2.2.1) 20 q.2.2.2.2.1, va_up φ 23 q.2.2.2.2.2, τ, nh, kh, ah), (upd μ 37 q'.2.1, va_up α 38 q'.2.2, ι), L_X_act _ _ _ _ _ _ _ _ _ _ _ _ _ _ _ _ hx, e ▸ L_M_act _ _ _ _ _ _ _ _ _ _ _ hm, ?_⟩
  refine ⟨n, d, cnt, w, nd, hV, hl, hT, hH, hK, hX, hP.keep rfl (fun i h1 h2 => ?_) (fun i h1 h2 => ?_) rfl rfl (fun i h1 h2 => ?_), hN, hTp.keep (fun i h => ?_) rfl rfl rfl rfl⟩
  · rw [upd_ne (by omega), upd_ne (by omega), upd_ne (by omega), upd_ne (by omega)]
  · rw [vup_ne (by omega)]
  · rw [vup_ne (by omega)]
  · rw [upd_ne (by omega), upd_ne (by omega), upd_ne (by omega), upd_ne (by omega)]
