theorem le_none {b : Nat → Bool} : ∀ j, (if cn b j = 0 then (-5 : Int32) else le b j) = le b j := by
  have hz : ∀ j, cn b j = 0 → le b j = -5 := by
    intro j
    induction j with
    | zero => intro _; rfl
    | succ j ih =>
      intro hj
      have hj2 : cn b j + (if b j then 1 else 0) = 0 := hj
      show (if b j then (if cn b j = 0 then nI j else le b j) else le b j) = _
      cases e : b j with
      | false => exact ih (by omega)
      | true => rw [e] at hj2; exact absurd hj2 (by simp)
  intro j
  split
  · rename_i h0
    exact (hz j h0).symm
  · rfl
theorem can7_loop {pe da sz : Int32} {ce ha ki : Nat → Int32} {len need : Int32} {steps numbers ro : Nat → Int32} {p1 p2 : Int32} {b : Nat → Bool} (hb : ∀ h, h ≤ 9 → ∀ fa, ∃ fa2, f_X6_fitsV pe da sz ce ha ki fa len need steps numbers ro p1 (nI h) = some ((if b h then 1 else 0), fa2)) : ∀ (m k : Nat), k + m = 10 → ∀ F, m < F → ∀ fa, ∃ fa2, f_X7_can_31 pe da sz ce ha ki len need steps numbers ro p1 p2 F (nI (cn b k)) (le b k) (nI k) fa = some ((if p2 = 0 then nI (cn b 10) else le b 10), fa2) := by
  intro m
  induction m with
  | zero =>
    intro k hk F hF fa
    obtain ⟨F, rfl⟩ : ∃ f, F = f + 1 := ⟨F - 1, by omega⟩
    obtain rfl : k = 10 := by omega
    refine ⟨fa, ?_⟩
    unfold f_X7_can_31 f_X7_can_31_b
    rw [if_pos (by decide)]
    split <;> rfl
  | succ m ih =>
    intro k hk F hF fa
    obtain ⟨F, rfl⟩ : ∃ f, F = f + 1 := ⟨F - 1, by omega⟩
    obtain ⟨fa1, h1⟩ := hb k (by omega) fa
    obtain ⟨fa2, h2⟩ := ih (k + 1) (by omega) F (by omega) fa1
    have hc := cn_le b k
    refine ⟨fa2, ?_⟩
    unfold f_X7_can_31 f_X7_can_31_b
    rw [if_neg (lt_nay' (c := 9) (by show (k : Int) ≤ 9; omega) (by omega)), h1, Option.bind_some, ← h2]
    cases e : b k with
    | false =>
      have e1 : cn b (k + 1) = cn b k := by
        show cn b k + (if b k then 1 else 0) = _
        rw [e]; rfl
      have e2 : le b (k + 1) = le b k := by
        show (if b k then (if cn b k = 0 then nI k else le b k) else le b k) = _
        rw [e]; rfl
      rw [if_pos (by rfl), n_s, e1, e2]
    | true =>
      have e1 : cn b (k + 1) = cn b k + 1 := by
        show cn b k + (if b k then 1 else 0) = _
        rw [e]; rfl
      have e2 : le b (k + 1) = (if cn b k = 0 then nI k else le b k) := by
        show (if b k then (if cn b k = 0 then nI k else le b k) else le b k) = _
        rw [e]; rfl
      rw [if_neg (by exact i_10), n_s, n_s, e1, e2]
      by_cases h0 : cn b k = 0
      · rw [if_pos (show nI (cn b k) = (0 : Int32) by rw [h0]; rfl), if_pos h0]
      · rw [if_neg (eq_nay (c := 0) (by show ((cn b k : Nat) : Int) ≠ 0; omega) (by omega)), if_neg h0]
theorem can8_loop {da holds sn : Int32} {by' of' in' clauses word begins length code ki' vs' number ro' so' ha' : Nat → Int32} {p2 : Int32} {i : Nat} (hi : i < 6) {b : Nat → Bool} (hb : ∀ h, h ≤ 9 → ∀ stack, ∃ st2, f_X8_isSeen da holds sn by' of' in' ha' clauses word begins length stack code ki' (upd vs' i (nI h)) number ro' so' (nI i) (-1) = some ((if b h then 1 else 0), st2)) : ∀ (k c : Nat) (x : Int32) (w : Nat → Int32), k ≤ 10 → (∀ j, j ≠ i → w j = vs' j) → ∀ F, k < F → ∀ stack, ∃ st2, f_X8_can_37 da holds sn by' of' in' ha' clauses word begins length code ki' number ro' so' (nI i) p2 F (vs' i) (nI c) x (nI k + (-1 : Int32)) w stack = some ((if p2 = 0 then nI (c + cn b k) else (if cn b k = 0 then x else le b k)), vs', st2) := by
  have hu : ∀ (w : Nat → Int32), (∀ j, j ≠ i → w j = vs' j) → ∀ y, upd w i y = upd vs' i y := by
    intro w hw y
    funext j
    by_cases e : j = i
    · subst e; rw [upd_at, upd_at]
    · rw [upd_ne e, upd_ne e, hw j e]
  intro k
  induction k with
  | zero =>
    intro c x w hk hw F hF stack
    obtain ⟨F, rfl⟩ : ∃ f, F = f + 1 := ⟨F - 1, by omega⟩
    refine ⟨stack, ?_⟩
    unfold f_X8_can_37 f_X8_can_37_b
    rw [if_pos ((n_dneg (by omega)).mpr rfl), n_gd hi (by omega), n_cl (by omega), hu w hw, upd_same]
    split <;> rfl
  | succ k ih =>
    intro c x w hk hw F hF stack
    obtain ⟨F, rfl⟩ : ∃ f, F = f + 1 := ⟨F - 1, by omega⟩
    obtain ⟨st1, h1⟩ := hb k (by omega) stack
    have hw2 : ∀ j, j ≠ i → upd vs' i (nI k) j = vs' j := fun j hj => upd_ne hj
    unfold f_X8_can_37 f_X8_can_37_b
    rw [if_neg (fun h => by have := (n_dneg (by omega)).mp h; omega), n_gd hi (by omega), n_cl (by omega), n_d, hu w hw, h1, Option.bind_some]
    cases e : b k with
    | false =>
      obtain ⟨st2, h2⟩ := ih c x _ (by omega) hw2 F (by omega) st1
      have e1 : cn b (k + 1) = cn b k := by
        show cn b k + (if b k then 1 else 0) = _
        rw [e]; rfl
      have e2 : le b (k + 1) = le b k := by
        show (if b k then (if cn b k = 0 then nI k else le b k) else le b k) = _
        rw [e]; rfl
      refine ⟨st2, ?_⟩
      rw [if_pos (by rfl), h2, e1, e2]
    | true =>
      obtain ⟨st2, h2⟩ := ih (c + 1) (nI k) _ (by omega) hw2 F (by omega) st1
      have e1 : cn b (k + 1) = cn b k + 1 := by
        show cn b k + (if b k then 1 else 0) = _
        rw [e]; rfl
      have e2 : le b (k + 1) = (if cn b k = 0 then nI k else le b k) := by
        show (if b k then (if cn b k = 0 then nI k else le b k) else le b k) = _
        rw [e]; rfl
      refine ⟨st2, ?_⟩
      rw [if_neg (by exact i_10), n_s, h2, e1, e2, if_neg (show ¬ cn b k + 1 = 0 by omega), show c + 1 + cn b k = c + (cn b k + 1) by omega]
theorem F_can (G : Gx) (l : Launch) (A : Lx) : Fact_can G l A (Inv A.2.2.1) := by
  intro S T hI p1 p2
  obtain ⟨σ, φ, τ, nh, kh, ah⟩ := S
  obtain ⟨μ, α, ι⟩ := T
  obtain ⟨n, d, cnt, w, nd, hV, hl, hT, hH, hK, hX, hP, hA, hTp⟩ := hI
  obtain ⟨k, W, N, hk7, hnh, hC, hM⟩ := held hH hP
  have key : ∃ r fa2 st2, f_X7_can (σ 2) (σ 3) (σ 22) (φ 24) (φ 3) (φ 0) (φ 5) (σ (39 + 2 * k)) (σ (40 + 2 * k)) (φ (33 + 2 * k)) (φ (34 + 2 * k)) (φ 4) p1 p2 = some (r, fa2) ∧ f_X8_can (μ 0) (μ 8) (μ 16) (μ 25) (α 2) (α 26) (α 27) (α 28) (α 7) (α 17) (α 18) (α 20) (α 21) (α 24) (α 22) (α 1) (α 19) (α 6) (α 29) p1 p2 = some (r, α 2, st2) := by
    obtain ⟨⟨hn, hd, e2, e3, m0, m8⟩, -⟩ := id hV
    obtain ⟨⟨a, ha5, t1, t2, hS⟩, -⟩ := id hT
    unfold f_X7_can f_X8_can
    rw [e2, m0, e3, m8, t1, t2]
    rcases n_cases p1 n (by omega) with ⟨p, hp, rfl⟩ | hp
    · rw [has_yes hp hn, Option.bind_some, if_neg i_10, isOne_yes hp hn, Option.bind_some, if_neg i_10]
      rcases n_cases p2 2 (by omega) with ⟨t, ht, rfl⟩ | h
      · rw [if_neg (n_not_neg (by omega)), if_pos (le_yes (c := 1) (by show (t : Int) ≤ 1; omega) (by omega)), wi_yes (c := 1) (by show (t : Int) ≤ 1; omega) (by omega), Option.bind_some, if_neg i_10, n_gd (show p < 6 by omega) (by omega), n_cl (show p < 2 ^ 31 by omega)]
        dsimp only [nm]
        have hall : ∀ h : Nat, ∃ b : Bool, h ≤ 9 → ∀ fa stack, ∃ fa2 st2, f_X6_fitsV (nI n) (nI d) (nI a) (φ 24) (φ 3) (φ 0) fa (σ (39 + 2 * k)) (σ (40 + 2 * k)) (φ (33 + 2 * k)) (φ (34 + 2 * k)) (φ 4) (nI p) (nI h) = some ((if b then 1 else 0), fa2) ∧ f_X8_isSeen (nI d) (μ 16) (nI a) (α 26) (α 27) (α 28) (α 7) (α 17) (α 18) (α 20) (α 21) stack (α 22) (α 1) (upd (α 2) p (nI h)) (α 19) (α 6) (α 29) (nI p) (-1) = some ((if b then 1 else 0), st2) := by
          intro h
          by_cases hh : h ≤ 9
          · obtain ⟨b, hb⟩ := fitsV_loop hC hM (hV.v (q := p) hh) ha5 hS hp hd a 0 (by omega)
            refine ⟨b, fun _ fa stack => ?_⟩
            obtain ⟨fa2, st2, hx, hm⟩ := hb 1000 (by omega) fa stack
            rw [upd_at] at hx
            exact ⟨fa2, st2, hx, hm⟩
          · exact ⟨true, fun h2 => absurd h2 hh⟩
        obtain ⟨b, hb⟩ := Classical.axiomOfChoice hall
        obtain ⟨fa2, hx⟩ := can7_loop (p2 := nI t) (b := b) (fun h hh fa => by
          obtain ⟨fa2, st2, x, -⟩ := hb h hh fa fa
          exact ⟨fa2, x⟩) 10 0 (by omega) 1000 (by omega) (φ 5)
        obtain ⟨st2, hm⟩ := can8_loop (p2 := nI t) (i := p) (by omega) (b := b) (fun h hh stack => by
          obtain ⟨fa2, st2, -, x⟩ := hb h hh stack stack
          exact ⟨st2, x⟩) 10 0 (-5) (α 2) (by omega) (fun _ _ => rfl) 1000 (by omega) (α 24)
        rw [le_none, Nat.zero_add] at hm
        exact ⟨_, fa2, st2, hx, hm⟩
      · rw [le_no (c := 1) (by show p2.toInt < 0 ∨ (1 : Int) < p2.toInt; omega), within_no (by show p2.toInt < 0 ∨ (1 : Int) < p2.toInt; omega), Option.bind_some, if_pos rfl]
        exact ⟨_, _, _, rfl, rfl⟩
    · rw [has_no hp hn, Option.bind_some, if_pos rfl, isOne_no hp hn, Option.bind_some, if_pos rfl]
      exact ⟨_, _, _, rfl, rfl⟩
  obtain ⟨r, fa2, st2, hx, hm⟩ := key
  subst hnh
  refine ⟨r, (σ, va_up φ 5 fa2, τ, A.2.2.1 k, kh, ah), (μ, va_up (va_up α 2 (α 2)) 24 st2, ι), LX_can _ _ _ _ _ _ _ _ _ _ _ _ _ _ k hk7 hx, L_M_can _ _ _ _ _ _ _ _ _ _ hm, ?_⟩
  rw [va_up_same]
  exact ⟨n, d, cnt, w, nd, hV, hl, hT, hH, hK, hX, hP.keep rfl (fun _ _ _ => rfl) (fun i h1 h2 => if_neg (by omega)) rfl rfl (fun i h1 h2 => if_neg (by omega)), hA, hTp.keep (fun _ _ => rfl) rfl rfl rfl rfl⟩
