theorem sub_far {x : Int32} {c n : Nat} (hc : c ≤ 30) (hn : n ≤ 6) (h : x.toInt < 0 ∨ ((c + n : Nat) : Int) ≤ x.toInt) : (x - nI c).toInt < 0 ∨ (n : Int) ≤ (x - nI c).toInt := by
  have h1 := Int32.le_toInt x
  have h2 := Int32.toInt_lt x
  rw [Int32.toInt_sub, n_toInt (by omega)]
  rcases h with h | h
  · by_cases e : -(2 ^ 31 : Int) ≤ x.toInt - c
    · rw [Int.bmod_eq_of_le (by omega) (by omega)]
      omega
    · have e2 : (x.toInt - (c : Int)).bmod (2 ^ 32) = x.toInt - c + 2 ^ 32 := by
        rw [← Int.add_bmod_right, Int.bmod_eq_of_le (by omega) (by omega)]
        rfl
      omega
  · rw [Int.bmod_eq_of_le (by omega) (by omega)]
    omega
theorem F_on (G : Gx) (l : Launch) (A : Lx) : Fact_on G l A (Inv A.2.2.1) := by
  intro S T hI p1 p2
  obtain ⟨σ, φ, τ, nh, kh, ah⟩ := S
  obtain ⟨μ, α, ι⟩ := T
  obtain ⟨n, d, cnt, w, nd, hV, hl, hT, hH, hK, hX, hP, hA, hTp⟩ := hI
  obtain ⟨k, W, N, hk7, hnh, hC, hM⟩ := held hH hP
  have key : ∃ q q', f_X7_on (σ 2) (σ 3) (σ 4) (σ 5) (A.2.2.1 k) (σ 10) (σ 11) (σ 12) (σ 13) ah (φ 0) (φ 12) (φ 1) (φ 13) (φ 2) (φ 14) (φ 3) (φ 15) (φ 4) (φ 16) (σ 34) (σ 22) (φ 24) (φ 30) (σ 36) (σ 24) (φ 25) (φ 31) (σ 38) (σ 26) (φ 26) (φ 32) (φ 17) (σ (39 + 2 * k)) (σ (40 + 2 * k)) (φ (33 + 2 * k)) (φ (34 + 2 * k)) p1 p2 = some q ∧ f_X8_on (μ 0) (μ 8) (μ 16) (μ 25) (μ 30) (μ 33) (α 41) (α 1) (α 2) (α 3) (α 4) (α 5) (α 6) (α 7) (α 26) (α 27) (α 28) (α 29) (α 31) (α 32) (α 34) (α 35) (α 36) (α 17) (α 18) (α 20) (α 21) (α 24) (α 22) (α 19) p1 p2 = some q' ∧ q'.1 = q.1 ∧ BK n d σ φ (μ 16) q'.2 := by
    obtain ⟨⟨hn, hd, e2, e3, m0, m8⟩, -⟩ := id hV
    -- what nobody asks for
    have none : ∀ a x4 x5 k0 x3, k0 = 0 → f_X8_isAsked (nI n) p2 = some 0 → (¬ p2 = 0) → (p2 < 20 ∨ f_X6_has (nI n) x4 = some 0 ∨ (f_X6_has (nI n) x4 = some 1 ∧ f_X6_has (nI n) x5 = some 0)) → a = f_X7_on_45 (σ 2) (σ 3) (σ 4) (σ 5) (A.2.2.1 k) (σ 10) (σ 11) (σ 12) (σ 13) ah (φ 0) (φ 12) (φ 1) (φ 13) (φ 2) (φ 14) (φ 3) (φ 15) (φ 4) (φ 16) (σ 34) (σ 22) (φ 24) (φ 30) (σ 36) (σ 24) (φ 25) (φ 31) (σ 38) (σ 26) (φ 26) (φ 32) (φ 17) (σ (39 + 2 * k)) (σ (40 + 2 * k)) (φ (33 + 2 * k)) (φ (34 + 2 * k)) p1 p2 k0 x3 x4 x5 → ∃ q q', a = some q ∧ f_X8_on (μ 0) (μ 8) (μ 16) (μ 25) (μ 30) (μ 33) (α 41) (α 1) (α 2) (α 3) (α 4) (α 5) (α 6) (α 7) (α 26) (α 27) (α 28) (α 29) (α 31) (α 32) (α 34) (α 35) (α 36) (α 17) (α 18) (α 20) (α 21) (α 24) (α 22) (α 19) p1 p2 = some q' ∧ q'.1 = q.1 ∧ BK n d σ φ (μ 16) q'.2 := by
      intro a x4 x5 k0 x3 hk0 hAsk hp2 hq ha
      have hm : f_X8_on (μ 0) (μ 8) (μ 16) (μ 25) (μ 30) (μ 33) (α 41) (α 1) (α 2) (α 3) (α 4) (α 5) (α 6) (α 7) (α 26) (α 27) (α 28) (α 29) (α 31) (α 32) (α 34) (α 35) (α 36) (α 17) (α 18) (α 20) (α 21) (α 24) (α 22) (α 19) p1 p2 = some (-1, α 41, α 1, α 2, α 3, α 4, α 5, α 6, α 7, α 26, α 27, α 28, α 29, α 31, α 32, μ 0, μ 8, μ 25, μ 30, μ 33, μ 16, α 34, α 35, α 36, α 24) := by
        unfold f_X8_on
        rw [m0, hAsk, Option.bind_some, if_pos rfl]
      rw [ha]
      unfold f_X7_on_45
      rw [e2]
      by_cases h20 : p2 < 20
      · rw [if_pos h20, if_neg hp2, if_pos hk0, if_pos rfl]
        exact ⟨_, _, rfl, hm, rfl, BK.same hV hT _ _⟩
      · rw [if_neg h20]
        rcases hq with h | h | ⟨h1, h2⟩
        · exact absurd h h20
        · rw [h, Option.bind_some, if_pos rfl, if_neg hp2, if_pos hk0, if_pos rfl]
          exact ⟨_, _, rfl, hm, rfl, BK.same hV hT _ _⟩
        · rw [h1, Option.bind_some, if_neg i_10, h2, Option.bind_some, if_pos rfl, if_neg hp2, if_pos hk0, if_pos rfl]
          exact ⟨_, _, rfl, hm, rfl, BK.same hV hT _ _⟩
    unfold f_X7_on
    dsimp only [nm]
    rw [e2]
    rcases n_cases p2 56 (by omega) with ⟨j, hj, rfl⟩ | h
    · by_cases h20 : 20 ≤ j
      · have c20 : (20 : Int32) ≤ nI j := by rw [n_leT, n_toInt (by omega)]; show (20 : Int) ≤ j; omega
        have ex : nI j - (20 : Int32) = nI (j - 20) := by
          rw [show (20 : Int32) = nI 20 from rfl, pk_sub (by omega)]
        have ed : nI (j - 20) / (6 : Int32) = nI ((j - 20) / 6) := by
          rw [show (6 : Int32) = nI 6 from rfl, pk_div (by omega) (by omega) (by omega)]
        have er : nI (j - 20) - nI (j - 20) / (6 : Int32) * (6 : Int32) = nI ((j - 20) % 6) := by
          rw [show (6 : Int32) = nI 6 from rfl, pk_rem (by omega) (by omega) (by omega)]
        have hno : ¬ nI j = (0 : Int32) := eq_nay (c := 0) (by show (j : Int) ≠ 0; omega) (by omega)
        have h10 : f_X8_isOne (nI n) (nI j - (10 : Int32)) = some 0 := by
          rw [show nI j - (10 : Int32) = nI (j - 10) by rw [show (10 : Int32) = nI 10 from rfl, pk_sub (by omega)]]
          exact isOne_no (Or.inr (by rw [n_toInt (by omega)]; omega)) hn
        have hw : f_X8_within (nI j) 20 55 = some 1 := within_yes (by rw [n_toInt (by omega)]; show (20 : Int) ≤ j; omega) (by rw [n_toInt (by omega)]; show (j : Int) ≤ 55; omega)
        rw [if_pos c20, ex, er, ed]
        by_cases hp : (j - 20) / 6 < n
        · by_cases hq : (j - 20) % 6 < n
          · have hA : f_X8_isAsked (nI n) (nI j) = some 1 := by
              unfold f_X8_isAsked f_X8_isAsked_23
              rw [if_neg hno, h10, Option.bind_some, if_pos rfl, hw, Option.bind_some, if_neg i_10, ex, er, ed, are_yes hp hq hn, Option.bind_some, if_neg i_10]
            unfold f_X7_on_45
            rw [if_neg (by rw [n_ltT, n_toInt (by omega)]; show ¬ (j : Int) < 20; omega), has_yes hp hn, Option.bind_some, if_neg i_10, has_yes hq hn, Option.bind_some, if_neg i_10, if_neg hno]
            have := on_core (pa := A.2.2.1) (k := k) (ah := ah) hC hM hV hT (p1 := p1) (x3 := nI j - (10 : Int32)) (x4 := nI ((j - 20) / 6)) (x5 := nI ((j - 20) % 6)) (x6 := 0) (x7 := 1) hA (Or.inr (Or.inr ⟨(j - 20) / 6, (j - 20) % 6, hp, hq, rfl, rfl, rfl, rfl, by congr 1; omega⟩))
            rw [e2] at this
            rw [if_pos rfl, if_neg i_10]
            exact this
          · refine none _ (nI ((j - 20) / 6)) (nI ((j - 20) % 6)) 0 (nI j - (10 : Int32)) rfl ?_ hno (Or.inr (Or.inr ⟨has_yes hp hn, has_no (Or.inr (by rw [n_toInt (by omega)]; omega)) hn⟩)) (by rw [e2])
            unfold f_X8_isAsked f_X8_isAsked_23
            rw [if_neg hno, h10, Option.bind_some, if_pos rfl, hw, Option.bind_some, if_neg i_10, ex, er, ed, are_no2 hp (Or.inr (by rw [n_toInt (by omega)]; omega)) hn, Option.bind_some, if_pos rfl]
        · refine none _ (nI ((j - 20) / 6)) (nI ((j - 20) % 6)) 0 (nI j - (10 : Int32)) rfl ?_ hno (Or.inr (Or.inl (has_no (Or.inr (by rw [n_toInt (by omega)]; omega)) hn))) (by rw [e2])
          unfold f_X8_isAsked f_X8_isAsked_23
          rw [if_neg hno, h10, Option.bind_some, if_pos rfl, hw, Option.bind_some, if_neg i_10, ex, er, ed, are_no1 (Or.inr (by rw [n_toInt (by omega)]; omega)) hn, Option.bind_some, if_pos rfl]
      · have c20 : ¬ (20 : Int32) ≤ nI j := by rw [n_leT, n_toInt (by omega)]; show ¬ (20 : Int) ≤ j; omega
        have l20 : nI j < (20 : Int32) := by rw [n_ltT, n_toInt (by omega)]; show (j : Int) < 20; omega
        have hw : f_X8_within (nI j) 20 55 = some 0 := within_no (Or.inl (by rw [n_toInt (by omega)]; show (j : Int) < 20; omega))
        rw [if_neg c20]
        by_cases h10 : 10 ≤ j
        · have ex : nI j - (10 : Int32) = nI (j - 10) := by
            rw [show (10 : Int32) = nI 10 from rfl, pk_sub (by omega)]
          have hno : ¬ nI j = (0 : Int32) := eq_nay (c := 0) (by show (j : Int) ≠ 0; omega) (by omega)
          rw [ex]
          by_cases hp : j - 10 < n
          · have hA : f_X8_isAsked (nI n) (nI j) = some 1 := by
              unfold f_X8_isAsked
              rw [if_neg hno, ex, isOne_yes hp hn, Option.bind_some, if_neg i_10, if_neg (by rw [n_leT, n_toInt (by omega)]; show ¬ (16 : Int) ≤ j; omega)]
            rw [has_yes hp hn, Option.bind_some, if_neg i_10]
            unfold f_X7_on_45
            rw [if_pos l20, if_neg hno, if_neg i_10]
            have := on_core (pa := A.2.2.1) (k := k) (ah := ah) hC hM hV hT (p1 := p1) (x3 := nI (j - 10)) (x4 := (nI j - (20 : Int32)) / (6 : Int32)) (x5 := nI j - (20 : Int32) - (nI j - (20 : Int32)) / (6 : Int32) * (6 : Int32)) (x6 := 1) (x7 := 0) hA (Or.inr (Or.inl ⟨j - 10, hp, rfl, rfl, by congr 1; omega⟩))
            rw [e2] at this
            exact this
          · rw [has_no (x := nI (j - 10)) (Or.inr (by rw [n_toInt (by omega)]; omega)) hn, Option.bind_some, if_pos rfl]
            refine none _ ((nI j - (20 : Int32)) / (6 : Int32)) (nI j - (20 : Int32) - (nI j - (20 : Int32)) / (6 : Int32) * (6 : Int32)) 0 (nI (j - 10)) rfl ?_ hno (Or.inl l20) (by rw [e2])
            unfold f_X8_isAsked f_X8_isAsked_23
            rw [if_neg hno, ex, isOne_no (x := nI (j - 10)) (Or.inr (by rw [n_toInt (by omega)]; omega)) hn, Option.bind_some, if_pos rfl, hw, Option.bind_some, if_pos rfl]
        · have hs : (nI j - (10 : Int32)).toInt < 0 := by
            rw [Int32.toInt_sub, n_toInt (by omega), show (10 : Int32).toInt = 10 from rfl, Int.bmod_eq_of_le (by omega) (by omega)]
            omega
          rw [has_no (Or.inl hs) hn, Option.bind_some, if_pos rfl]
          by_cases h0 : j = 0
          · subst h0
            have hA : f_X8_isAsked (nI n) (nI 0) = some 1 := by
              unfold f_X8_isAsked
              rw [if_pos (by rfl)]
            unfold f_X7_on_45
            rw [if_pos l20, if_pos (show nI 0 = (0 : Int32) from rfl)]
            have := on_core (pa := A.2.2.1) (k := k) (ah := ah) hC hM hV hT (p1 := p1) (x3 := nI 0 - (10 : Int32)) (x4 := (nI 0 - (20 : Int32)) / (6 : Int32)) (x5 := nI 0 - (20 : Int32) - (nI 0 - (20 : Int32)) / (6 : Int32) * (6 : Int32)) (x6 := 0) (x7 := 0) hA (Or.inl ⟨rfl, rfl, rfl⟩)
            rw [e2] at this
            exact this
          · have hno : ¬ nI j = (0 : Int32) := eq_nay (c := 0) (by show (j : Int) ≠ 0; omega) (by omega)
            refine none _ ((nI j - (20 : Int32)) / (6 : Int32)) (nI j - (20 : Int32) - (nI j - (20 : Int32)) / (6 : Int32) * (6 : Int32)) 0 (nI j - (10 : Int32)) rfl ?_ hno (Or.inl l20) (by rw [e2])
            unfold f_X8_isAsked f_X8_isAsked_23
            rw [if_neg hno, isOne_no (Or.inl hs) hn, Option.bind_some, if_pos rfl, hw, Option.bind_some, if_pos rfl]
    · have hno : ¬ p2 = (0 : Int32) := fun e => by
        rw [e] at h
        have : (0 : Int32).toInt = 0 := rfl
        omega
      have hs := sub_far (x := p2) (c := 10) (n := n) (by omega) hn (by omega)
      have hA : f_X8_isAsked (nI n) p2 = some 0 := by
        unfold f_X8_isAsked f_X8_isAsked_23
        rw [if_neg hno, isOne_no (x := p2 - (10 : Int32)) hs hn, Option.bind_some, if_pos rfl, within_no (by show p2.toInt < 20 ∨ (55 : Int) < p2.toInt; omega), Option.bind_some, if_pos rfl]
      by_cases c20 : (20 : Int32) ≤ p2
      · rw [if_pos c20]
        refine none _ ((p2 - (20 : Int32)) / (6 : Int32)) (p2 - (20 : Int32) - (p2 - (20 : Int32)) / (6 : Int32) * (6 : Int32)) 0 (p2 - (10 : Int32)) rfl hA hno (Or.inr (Or.inl ?_)) (by rw [e2])
        have hp : 56 ≤ p2.toInt := by
          rw [n_leT] at c20
          have : (20 : Int32).toInt = 20 := rfl
          omega
        have h2 := Int32.toInt_lt p2
        apply has_no _ hn
        right
        have e1 : (p2 - (20 : Int32)).toInt = p2.toInt - 20 := by
          rw [Int32.toInt_sub, show (20 : Int32).toInt = 20 from rfl, Int.bmod_eq_of_le (by omega) (by omega)]
        have e4 : p2 - (20 : Int32) = nI (p2.toInt - 20).toNat := by
          apply Int32.toInt_inj.mp
          rw [e1, n_toInt (by omega)]
          omega
        rw [e4, show (6 : Int32) = nI 6 from rfl, pk_div (by omega) (by omega) (by omega), n_toInt (by omega)]
        omega
      · rw [if_neg c20, has_no (x := p2 - (10 : Int32)) hs hn, Option.bind_some, if_pos rfl]
        refine none _ ((p2 - (20 : Int32)) / (6 : Int32)) (p2 - (20 : Int32) - (p2 - (20 : Int32)) / (6 : Int32) * (6 : Int32)) 0 (p2 - (10 : Int32)) rfl hA hno (Or.inl ?_) (by rw [e2])
        rw [n_leT] at c20
        rw [n_ltT]
        omega
  obtain ⟨q, q', hx, hm, e, hB⟩ := key
  subst hnh
  refine ⟨q.1, (upd (upd (upd (upd (upd (upd (upd σ 10 q.2.1) 11 q.2.2.1) 12 q.2.2.2.1) 13 q.2.2.2.2.1) 34 q.2.2.2.2.2.2.2.2.2.2.1) 36 q.2.2.2.2.2.2.2.2.2.2.2.2.1) 38 q.2.2.2.2.2.2.2.2.2.2.2.2.2.2.1, va_up (va_up (va_up (va_up (va_up (va_up (va_up (va_up (va_up φ 12 q.2.2.2.2.2.1) 13 q.2.2.2.2.2.2.1) 14 q.2.2.2.2.2.2.2.1) 15 q.2.2.2.2.2.2.2.2.1) 16 q.2.2.2.2.2.2.2.2.2.1) 30 q.2.2.2.2.2.2.2.2.2.2.2.1) 31 q.2.2.2.2.2.2.2.2.2.2.2.2.2.1) 32 q.2.2.2.2.2.2.2.2.2.2.2.2.2.2.2.1) 17 q.2.2.2.2.2.2.2.2.2.2.2.2.2.2.2.2.2, τ, A.2.2.1 k, kh, q.2.2.2.2.2.2.2.2.2.2.2.2.2.2.2.2.1), (upd (upd (upd (upd (upd (upd μ 0 q'.2.2.2.2.2.2.2.2.2.2.2.2.2.2.2.1) 8 q'.2.2.2.2.2.2.2.2.2.2.2.2.2.2.2.2.1) 25 q'.2.2.2.2.2.2.2.2.2.2.2.2.2.2.2.2.2.1) 30 q'.2.2.2.2.2.2.2.2.2.2.2.2.2.2.2.2.2.2.1) 33 q'.2.2.2.2.2.2.2.2.2.2.2.2.2.2.2.2.2.2.2.1) 16 q'.2.2.2.2.2.2.2.2.2.2.2.2.2.2.2.2.2.2.2.2.1, va_up (va_up (va_up (va_up (va_up (va_up (va_up (va_up (va_up (va_up (va_up (va_up (va_up (va_up (va_up (va_up (va_up (va_up α 41 q'.2.1) 1 q'.2.2.1) 2 q'.2.2.2.1) 3 q'.2.2.2.2.1) 4 q'.2.2.2.2.2.1) 5 q'.2.2.2.2.2.2.1) 6 q'.2.2.2.2.2.2.2.1) 7 q'.2.2.2.2.2.2.2.2.1) 26 q'.2.2.2.2.2.2.2.2.2.1) 27 q'.2.2.2.2.2.2.2.2.2.2.1) 28 q'.2.2.2.2.2.2.2.2.2.2.2.1) 29 q'.2.2.2.2.2.2.2.2.2.2.2.2.1) 31 q'.2.2.2.2.2.2.2.2.2.2.2.2.2.1) 32 q'.2.2.2.2.2.2.2.2.2.2.2.2.2.2.1) 34 q'.2.2.2.2.2.2.2.2.2.2.2.2.2.2.2.2.2.2.2.2.2.1) 35 q'.2.2.2.2.2.2.2.2.2.2.2.2.2.2.2.2.2.2.2.2.2.2.1) 36 q'.2.2.2.2.2.2.2.2.2.2.2.2.2.2.2.2.2.2.2.2.2.2.2.1) 24 q'.2.2.2.2.2.2.2.2.2.2.2.2.2.2.2.2.2.2.2.2.2.2.2.2, ι), LX_on _ _ _ _ _ _ _ _ _ _ _ _ _ _ k hk7 hx, e ▸ L_M_on _ _ _ _ _ _ _ _ _ _ hm, ?_⟩
  obtain ⟨hV2, hT2, hH2⟩ := hB
  refine ⟨n, d, cnt, w, nd, hV2, hl, hT2, ?_, hK, hX, hP.keep rfl (fun i h1 h2 => ?_) (fun i h1 h2 => ?_) rfl rfl (fun i h1 h2 => ?_), hA, hTp.keep (fun i h => ?_) rfl rfl rfl rfl⟩
  · show HR A.2.2.1 cnt (A.2.2.1 k) q'.2.2.2.2.2.2.2.2.2.2.2.2.2.2.2.2.2.2.2.2.1
    rw [hH2]
    exact hH
  · simp only [upd_ne (show i ≠ 10 by omega), upd_ne (show i ≠ 11 by omega), upd_ne (show i ≠ 12 by omega), upd_ne (show i ≠ 13 by omega), upd_ne (show i ≠ 34 by omega), upd_ne (show i ≠ 36 by omega), upd_ne (show i ≠ 38 by omega)]
  · rw [vup_ne (by omega), vup_ne (by omega), vup_ne (by omega), vup_ne (by omega), vup_ne (by omega), vup_ne (by omega), vup_ne (by omega), vup_ne (by omega), vup_ne (by omega)]
  · rw [vup_ne (by omega), vup_ne (by omega), vup_ne (by omega), vup_ne (by omega), vup_ne (by omega), vup_ne (by omega), vup_ne (by omega), vup_ne (by omega), vup_ne (by omega), vup_ne (by omega), vup_ne (by omega), vup_ne (by omega), vup_ne (by omega), vup_ne (by omega), vup_ne (by omega), vup_ne (by omega), vup_ne (by omega), vup_ne (by omega)]
  · rw [upd_ne (by omega), upd_ne (by omega), upd_ne (by omega), upd_ne (by omega), upd_ne (by omega), upd_ne (by omega), upd_ne (by omega)]
