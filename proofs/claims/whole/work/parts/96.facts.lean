/-- how many of the first k, and the least of them -/
def cn (b : Nat → Bool) : Nat → Nat
  | 0 => 0
  | k + 1 => cn b k + (if b k then 1 else 0)
def le (b : Nat → Bool) : Nat → Int32
  | 0 => -5
  | k + 1 => if b k then (if cn b k = 0 then nI k else le b k) else le b k
theorem cn_le (b : Nat → Bool) : ∀ k, cn b k ≤ k := by
  intro k
  induction k with
  | zero => exact Nat.le_refl 0
  | succ k ih =>
    show cn b k + (if b k then 1 else 0) ≤ k + 1
    split <;> omega
theorem n_d {k : Nat} : nI (k + 1) + (-1 : Int32) = nI k := by
  rw [← n_s, Int32.add_assoc, show (1 : Int32) + (-1 : Int32) = 0 from rfl, Int32.add_zero]
theorem n_dneg {k : Nat} (hk : k < 1000) : nI k + (-1 : Int32) < 0 ↔ k = 0 := by
  cases k with
  | zero => exact ⟨fun _ => rfl, fun _ => by decide⟩
  | succ k =>
    rw [n_d]
    exact ⟨fun h => absurd h (n_not_neg (by omega)), fun h => by omega⟩
theorem hates7_loop {pe da sz : Int32} {ce vs ki : Nat → Int32} {len need : Int32} {steps numbers ro : Nat → Int32} {p1 p2 p3 : Int32} {b : Nat → Bool} (hb : ∀ h, h ≤ 99 → ∀ fa, ∃ fa2, f_X6_fitsHate pe da sz ce vs ki fa len need steps numbers ro p1 p2 (nI h) = some ((if b h then 1 else 0), fa2)) : ∀ (m k : Nat), k + m = 100 → ∀ F, m < F → ∀ fa, ∃ fa2, f_X7_hates_51 pe da sz ce vs ki len need steps numbers ro p1 p2 p3 F (nI (cn b k)) (le b k) (nI k) fa = some ((if p3 = 0 then nI (cn b 100) else le b 100), fa2) := by
  intro m
  induction m with
  | zero =>
    intro k hk F hF fa
    obtain ⟨F, rfl⟩ : ∃ f, F = f + 1 := ⟨F - 1, by omega⟩
    obtain rfl : k = 100 := by omega
    refine ⟨fa, ?_⟩
    unfold f_X7_hates_51 f_X7_hates_51_b
    rw [if_pos (by decide)]
    split <;> rfl
  | succ m ih =>
    intro k hk F hF fa
    obtain ⟨F, rfl⟩ : ∃ f, F = f + 1 := ⟨F - 1, by omega⟩
    obtain ⟨fa1, h1⟩ := hb k (by omega) fa
    obtain ⟨fa2, h2⟩ := ih (k + 1) (by omega) F (by omega) fa1
    have hc := cn_le b k
    refine ⟨fa2, ?_⟩
    unfold f_X7_hates_51 f_X7_hates_51_b
    rw [if_neg (lt_nay' (c := 99) (by show (k : Int) ≤ 99; omega) (by omega)), h1, Option.bind_some, ← h2]
    cases e : b k with
    | false =>
      have e1 : cn b (k + 1) = cn b k := by
        show cn b k + (if b k then 1 else 0) = _
        rw [e]; rfl
      have e2 : le b (k + 1) = le b k := by
        show (if b k then (if cn b k = 0 then nI k else le b k) else le b k) = _
        rw [e]; rfl
      rw [if_pos (by rfl), n_s, e1, e2]
    | true =>
      have e1 : cn b (k + 1) = cn b k + 1 := by
        show cn b k + (if b k then 1 else 0) = _
        rw [e]; rfl
      have e2 : le b (k + 1) = (if cn b k = 0 then nI k else le b k) := by
        show (if b k then (if cn b k = 0 then nI k else le b k) else le b k) = _
        rw [e]; rfl
      rw [if_neg (by exact i_10), n_s, n_s, e1, e2]
      by_cases h0 : cn b k = 0
      · rw [if_pos (show nI (cn b k) = (0 : Int32) by rw [h0]; rfl), if_pos h0]
      · rw [if_neg (eq_nay (c := 0) (by show ((cn b k : Nat) : Int) ≠ 0; omega) (by omega)), if_neg h0]
theorem hates8_loop {da holds sn : Int32} {by' of' in' clauses word begins length code ki' vs' number ro' so' ha' : Nat → Int32} {p1 p2 p3 : Int32} {i : Nat} (hi : i < 36) {b : Nat → Bool} (hb : ∀ h, h ≤ 99 → ∀ stack, ∃ st2, f_X8_isSeen da holds sn by' of' in' (upd ha' i (nI h)) clauses word begins length stack code ki' vs' number ro' so' p1 p2 = some ((if b h then 1 else 0), st2)) : ∀ (k c : Nat) (x : Int32) (w : Nat → Int32), k ≤ 100 → (∀ j, j ≠ i → w j = ha' j) → ∀ F, k < F → ∀ stack, ∃ st2, f_X8_hates_56 da holds sn by' of' in' clauses word begins length code ki' vs' number ro' so' p1 p2 p3 F (nI i) (ha' i) (nI c) x (nI k + (-1 : Int32)) w stack = some ((if p3 = 0 then nI (c + cn b k) else (if cn b k = 0 then x else le b k)), ha', st2) := by
  have hu : ∀ (w : Nat → Int32), (∀ j, j ≠ i → w j = ha' j) → ∀ y, upd w i y = upd ha' i y := by
    intro w hw y
    funext j
    by_cases e : j = i
    · subst e; rw [upd_at, upd_at]
    · rw [upd_ne e, upd_ne e, hw j e]
  intro k
  induction k with
  | zero =>
    intro c x w hk hw F hF stack
    obtain ⟨F, rfl⟩ : ∃ f, F = f + 1 := ⟨F - 1, by omega⟩
    refine ⟨stack, ?_⟩
    unfold f_X8_hates_56 f_X8_hates_56_b
    rw [if_pos ((n_dneg (by omega)).mpr rfl), n_gd hi (by omega), n_cl (by omega), hu w hw, upd_same]
    split <;> rfl
  | succ k ih =>
    intro c x w hk hw F hF stack
    obtain ⟨F, rfl⟩ : ∃ f, F = f + 1 := ⟨F - 1, by omega⟩
    obtain ⟨st1, h1⟩ := hb k (by omega) stack
    have hw2 : ∀ j, j ≠ i → upd ha' i (nI k) j = ha' j := fun j hj => upd_ne hj
    unfold f_X8_hates_56 f_X8_hates_56_b
    rw [if_neg (fun h => by have := (n_dneg (by omega)).mp h; omega), n_gd hi (by omega), n_cl (by omega), n_d, hu w hw, h1, Option.bind_some]
    cases e : b k with
    | false =>
      obtain ⟨st2, h2⟩ := ih c x _ (by omega) hw2 F (by omega) st1
      have e1 : cn b (k + 1) = cn b k := by
        show cn b k + (if b k then 1 else 0) = _
        rw [e]; rfl
      have e2 : le b (k + 1) = le b k := by
        show (if b k then (if cn b k = 0 then nI k else le b k) else le b k) = _
        rw [e]; rfl
      refine ⟨st2, ?_⟩
      rw [if_pos (by rfl), h2, e1, e2]
    | true =>
      obtain ⟨st2, h2⟩ := ih (c + 1) (nI k) _ (by omega) hw2 F (by omega) st1
      have e1 : cn b (k + 1) = cn b k + 1 := by
        show cn b k + (if b k then 1 else 0) = _
        rw [e]; rfl
      have e2 : le b (k + 1) = (if cn b k = 0 then nI k else le b k) := by
        show (if b k then (if cn b k = 0 then nI k else le b k) else le b k) = _
        rw [e]; rfl
      refine ⟨st2, ?_⟩
      rw [if_neg (by exact i_10), n_s, h2, e1, e2, if_neg (show ¬ cn b k + 1 = 0 by omega), show c + 1 + cn b k = c + (cn b k + 1) by omega]
theorem F_hates (G : Gx) (l : Launch) (A : Lx) : Fact_hates G l A (Inv A.2.2.1) := by
  intro S T hI p1 p2 p3
  obtain ⟨σ, φ, τ, nh, kh, ah⟩ := S
  obtain ⟨μ, α, ι⟩ := T
  obtain ⟨n, d, cnt, w, nd, hV, hl, hT, hH, hK, hX, hP, hA, hTp⟩ := hI
  obtain ⟨k, W, N, hk7, hnh, hC, hM⟩ := held hH hP
  have key : ∃ r fa2 st2, f_X7_hates (σ 2) (σ 3) (σ 22) (φ 24) (φ 1) (φ 0) (φ 5) (σ (39 + 2 * k)) (σ (40 + 2 * k)) (φ (33 + 2 * k)) (φ (34 + 2 * k)) (φ 4) p1 p2 p3 = some (r, fa2) ∧ f_X8_hates (μ 0) (μ 8) (μ 16) (μ 25) (α 7) (α 26) (α 27) (α 28) (α 17) (α 18) (α 20) (α 21) (α 24) (α 22) (α 1) (α 2) (α 19) (α 6) (α 29) p1 p2 p3 = some (r, α 7, st2) := by
    obtain ⟨⟨hn, hd, e2, e3, m0, m8⟩, -⟩ := id hV
    obtain ⟨⟨a, ha5, t1, t2, hS⟩, -⟩ := id hT
    unfold f_X7_hates f_X8_hates
    rw [e2, m0, e3, m8, t1, t2]
    rcases n_cases p1 n (by omega) with ⟨p, hp, rfl⟩ | hp
    · rw [has_yes hp hn, Option.bind_some, if_neg i_10]
      rcases n_cases p2 n (by omega) with ⟨q, hq, rfl⟩ | hq
      · rw [has_yes hq hn, Option.bind_some, if_neg i_10, are_yes hp hq hn, Option.bind_some, if_neg i_10]
        rcases n_cases p3 2 (by omega) with ⟨t, ht, rfl⟩ | h
        · rw [if_neg (n_not_neg (by omega)), if_pos (le_yes (c := 1) (by show (t : Int) ≤ 1; omega) (by omega)), wi_yes (c := 1) (by show (t : Int) ≤ 1; omega) (by omega), Option.bind_some, if_neg i_10]
          by_cases hpq : p = q
          · rw [if_pos (by rw [hpq]), if_pos (by rw [hpq])]
            exact ⟨_, _, _, rfl, rfl⟩
          · have hne : ¬ nI p = nI q := by rw [n_eq (by omega) (by omega)]; exact hpq
            rw [if_neg hne, if_neg hne]
            dsimp only [nm]
            rw [n_mulL, n_gd (show 6 * p + q < 36 by omega) (by omega), n_cl (show 6 * p + q < 2 ^ 31 by omega)]
            have hall : ∀ h : Nat, ∃ b : Bool, h ≤ 99 → ∀ fa stack, ∃ fa2 st2, f_X6_fitsHate (nI n) (nI d) (nI a) (φ 24) (φ 1) (φ 0) fa (σ (39 + 2 * k)) (σ (40 + 2 * k)) (φ (33 + 2 * k)) (φ (34 + 2 * k)) (φ 4) (nI p) (nI q) (nI h) = some ((if b then 1 else 0), fa2) ∧ f_X8_isSeen (nI d) (μ 16) (nI a) (α 26) (α 27) (α 28) (upd (α 7) (6 * p + q) (nI h)) (α 17) (α 18) (α 20) (α 21) stack (α 22) (α 1) (α 2) (α 19) (α 6) (α 29) (nI p) (nI q) = some ((if b then 1 else 0), st2) := by
              intro h
              by_cases hh : h ≤ 99
              · obtain ⟨b, hb⟩ := fits_loop hC hM (hV.hate hp hq hh (Or.inl hpq)) ha5 hS hp hq hd a 0 (by omega)
                refine ⟨b, fun _ fa stack => ?_⟩
                obtain ⟨fa2, st2, hx, hm⟩ := hb 1000 (by omega) fa stack
                rw [upd_at] at hx
                refine ⟨fa2, st2, ?_, hm⟩
                unfold f_X6_fitsHate
                rw [has_yes hp hn, Option.bind_some, if_neg i_10]
                exact hx
              · exact ⟨true, fun h2 => absurd h2 hh⟩
            obtain ⟨b, hb⟩ := Classical.axiomOfChoice hall
            obtain ⟨fa2, hx⟩ := hates7_loop (p3 := nI t) (b := b) (fun h hh fa => by
              obtain ⟨fa2, st2, x, -⟩ := hb h hh fa fa
              exact ⟨fa2, x⟩) 100 0 (by omega) 1000 (by omega) (φ 5)
            obtain ⟨st2, hm⟩ := hates8_loop (p3 := nI t) (i := 6 * p + q) (by omega) (b := b) (fun h hh stack => by
              obtain ⟨fa2, st2, -, x⟩ := hb h hh stack stack
              exact ⟨st2, x⟩) 100 0 (-5) (α 7) (by omega) (fun _ _ => rfl) 1000 (by omega) (α 24)
            rw [show (if cn b 100 = 0 then (-5 : Int32) else le b 100) = le b 100 by
              split
              · rename_i h0
                have hz : ∀ j, cn b j = 0 → le b j = -5 := by
                  intro j
                  induction j with
                  | zero => intro _; rfl
                  | succ j ih =>
                    intro hj
                    have hj2 : cn b j + (if b j then 1 else 0) = 0 := hj
                    show (if b j then (if cn b j = 0 then nI j else le b j) else le b j) = _
                    cases e : b j with
                    | false => exact ih (by omega)
                    | true => rw [e] at hj2; exact absurd hj2 (by simp)
                exact (hz 100 h0).symm
              · rfl, Nat.zero_add] at hm
            exact ⟨_, fa2, st2, hx, hm⟩
        · rw [le_no (c := 1) (by show p3.toInt < 0 ∨ (1 : Int) < p3.toInt; omega), within_no (by show p3.toInt < 0 ∨ (1 : Int) < p3.toInt; omega), Option.bind_some, if_pos rfl]
          exact ⟨_, _, _, rfl, rfl⟩
      · rw [has_no hq hn, Option.bind_some, if_pos rfl, are_no2 hp hq hn, Option.bind_some, if_pos rfl]
        exact ⟨_, _, _, rfl, rfl⟩
    · rw [has_no hp hn, Option.bind_some, if_pos rfl, are_no1 hp hn, Option.bind_some, if_pos rfl]
      exact ⟨_, _, _, rfl, rfl⟩
  obtain ⟨r, fa2, st2, hx, hm⟩ := key
  subst hnh
  refine ⟨r, (σ, va_up φ 5 fa2, τ, A.2.2.1 k, kh, ah), (μ, va_up (va_up α 7 (α 7)) 24 st2, ι), LX_hates _ _ _ _ _ _ _ _ _ _ _ _ _ _ _ k hk7 hx, L_M_hates _ _ _ _ _ _ _ _ _ _ _ hm, ?_⟩
  rw [va_up_same]
  exact ⟨n, d, cnt, w, nd, hV, hl, hT, hH, hK, hX, hP.keep rfl (fun _ _ _ => rfl) (fun i h1 h2 => if_neg (by omega)) rfl rfl (fun i h1 h2 => if_neg (by omega)), hA, hTp.keep (fun _ _ => rfl) rfl rfl rfl rfl⟩
