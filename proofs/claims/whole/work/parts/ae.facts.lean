theorem F_handful (G : Gx) (l : Launch) (A : Lx) : Fact_handful G l A (Inv A.2.2.1) := by
  intro S T hI p1
  obtain ⟨σ, φ, τ, nh, kh, ah⟩ := S
  obtain ⟨μ, α, ι⟩ := T
  obtain ⟨n, d, cnt, w, nd, hV, hl, hT, hH, hK, hX, hP, hA, hTp⟩ := hI
  obtain ⟨k, W, N, hk7, hnh, hC, hM⟩ := held hH hP
  have key : ∃ q q', f_X7_handful (σ 2) (σ 3) (σ 4) (σ 5) (φ 19) (φ 3) (φ 1) (φ 0) (φ 5) (σ (39 + 2 * k)) (σ (40 + 2 * k)) (φ (33 + 2 * k)) (φ (34 + 2 * k)) (φ 4) (φ 20) p1 = some q ∧ f_X8_handful (μ 0) (μ 8) (μ 16) (μ 44) (α 3) (α 4) (α 7) (α 17) (α 18) (α 20) (α 21) (α 24) (α 22) (α 1) (α 2) (α 19) (α 6) (α 42) (α 43) p1 = some q' ∧ q'.1 = q.1 := by
    obtain ⟨E, eC, eM, eP⟩ := ens hC hM hV
    obtain ⟨⟨hn, hd, e2, e3, m0, m8⟩, -, -, -, -, ⟨D, hD, hD1, hD2⟩, ⟨B, hB, hB1, hB2⟩⟩ := id hV
    have p6 := pow6 hn
    rw [hD1] at eC
    have hA2 : D &&& (63 ^^^ B) < 2 ^ n := Nat.lt_of_le_of_lt Nat.and_le_left hD
    have hAn : nI D &&& (nI B ^^^ (-1 : Int32)) = nI (D &&& (63 ^^^ B)) := b_not ⟨D, by omega⟩ ⟨B, by omega⟩
    have hwho : ∀ p, p < n → (if (D &&& (63 ^^^ B)).testBit p then E p d else 0) = if α 3 p = 1 ∧ α 4 p = 0 then E p d else 0 := by
      intro p hp
      rw [b_notT (by omega), hD2 p hp, hB2 p hp]
      cases D.testBit p <;> cases B.testBit p <;> simp
    have hfar : ∀ p, n ≤ p → (if (D &&& (63 ^^^ B)).testBit p then E p d else 0) = 0 := by
      intro p hp
      rw [if_neg (fun h => by have := bit_lt hA2 h; omega)]
    have hw : ∀ p, p < 6 → (if (D &&& (63 ^^^ B)).testBit p then E p d else 0) < 64 := by
      intro p hp
      split
      · rename_i h
        have := (eP p d (bit_lt hA2 h) (by omega)).1
        omega
      · omega
    obtain ⟨en2, fa2, h1, h2⟩ := find_is eC hn (d := d) (by omega) hA2 (φ 19) (φ 5)
    have h3 := most7 hw h2 6 0 0 10 (by omega) (by omega) (by omega)
    have h4 := find_34 hw h2 fa2 (nI (Mx (fun p => if (D &&& (63 ^^^ B)).testBit p then E p d else 0) 6 0 0)) 6 0 0 (φ 20) (by omega) (by omega) 1000 (by omega)
    have h7 : f_X1_findThrowers (nI n) (nI d) (nI D) (nI B) (φ 19) (φ 3) (φ 1) (φ 0) (φ 5) (σ (39 + 2 * k)) (σ (40 + 2 * k)) (φ (33 + 2 * k)) (φ (34 + 2 * k)) (φ 4) (φ 20) = some (nI (Mx (fun p => if (D &&& (63 ^^^ B)).testBit p then E p d else 0) 6 0 0), en2, fa2, row6 (fun p => if (D &&& (63 ^^^ B)).testBit p then E p d else 0) 6 0 0 (φ 20)) := by
      unfold f_X1_findThrowers
      rw [hAn, h1, Option.bind_some, show f_X1_mostFrom 10 en2 0 0 = _ from h3, Option.bind_some]
      exact h4
    obtain ⟨⟨s8, m8', b8, t8⟩, h8, a2, x2, -, x4⟩ := throw8 eM eP hn (d := d) (by omega) (who := fun p => if (D &&& (63 ^^^ B)).testBit p then E p d else 0) hwho hfar n 0 0 0 10 (by omega) (by omega) (by omega) (by omega) 0 (α 43) (α 42) (α 24) (by omega)
    have x4 := x4.resolve_right (fun h => by omega)
    obtain ⟨-, x5, x6⟩ := x4
    have x2 : m8' = nI a2 + (-1 : Int32) := x2
    rw [x5, Nat.zero_add, n_d] at x2
    have x6 : ∀ p, p < n → b8 p = row6 (fun p => if (D &&& (63 ^^^ B)).testBit p then E p d else 0) 6 0 0 (α 42) p := x6
    have h9 : f_X8_throwers 10 (nI n) (nI d) (μ 16) (-1) (α 3) (α 4) (α 7) (α 17) (α 18) (α 20) (α 21) (α 24) (α 22) (α 1) (α 2) (α 19) (α 6) (α 42) (α 43) 0 0 0 = some (s8, m8', b8, t8) := h8
    unfold f_X7_handful f_X8_handful f_X7_handful_22 f_X8_handful_17
    dsimp only [nm]
    rw [e2, e3, m0, m8, hD1, hB1, h7, h9]
    by_cases h0 : p1 = 0
    · rw [if_pos h0, if_pos h0, Option.bind_some, Option.bind_some, if_pos h0, if_pos h0]
      exact ⟨_, _, rfl, rfl, x2⟩
    · rw [if_neg h0, if_neg h0]
      rcases n_cases (p1 - (10 : Int32)) n (by omega) with ⟨p, hp, hpe⟩ | h
      · rw [hpe, has_yes hp hn, Option.bind_some, if_neg i_10, isOne_yes hp hn, Option.bind_some, Option.bind_some, if_neg i_10, Option.bind_some, if_neg h0, if_neg h0, n_gd (show p < 6 by omega) (by omega), n_gd (show p < 6 by omega) (by omega), n_cl (by omega)]
        refine ⟨_, _, rfl, rfl, ?_⟩
        show b8 p = row6 _ 6 0 0 (φ 20) p
        rw [x6 p hp]
        exact row6_same _ 6 0 0 _ _ (fun i hi => by omega) p (by omega)
      · rw [has_no h hn, Option.bind_some, if_pos rfl, isOne_no h hn, Option.bind_some, if_pos rfl]
        exact ⟨_, _, rfl, rfl, rfl⟩
  obtain ⟨q, q', hx, hm, e⟩ := key
  subst hnh
  refine ⟨q.1, (σ, va_up (va_up (va_up φ 19 q.2.1) 5 q.2.2.1) 20 q.2.2.2, τ, A.2.2.1 k, kh, ah), (upd μ 44 q'.2.1, va_up (va_up (va_up α 24 q'.2.2.1) 43 q'.2.2.2.1) 42 q'.2.2.2.2, ι), LX_handful _ _ _ _ _ _ _ _ _ _ _ _ _ k hk7 hx, e ▸ L_M_handful _ _ _ _ _ _ _ _ _ hm, ?_⟩
  refine ⟨n, d, cnt, w, nd, hV, hl, hT, hH, hK, hX, hP.keep rfl (fun _ _ _ => rfl) (fun i h1 h2 => ?_) ?_ ?_ (fun i h1 h2 => ?_), hA, hTp.keep (fun _ _ => rfl) rfl rfl rfl rfl⟩
  · rw [vup_ne (by omega), vup_ne (by omega), vup_ne (by omega)]
  · rfl
  · rfl
  · rw [vup_ne (by omega), vup_ne (by omega), vup_ne (by omega)]
