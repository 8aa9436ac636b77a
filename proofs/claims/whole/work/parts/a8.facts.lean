theorem ebd_10 {E : Nat → Nat → Nat} {n d : Nat} {de : Int32} {ha vs ki : Nat → Int32} {len need : Int32} {steps numbers ro : Nat → Int32} (hE : EC E n de ha vs ki len need steps numbers ro) (hn : n ≤ 6) (hd : d ≤ 9999) {k : Nat} (hk : k < 6) : ∀ (m x : Nat) (eb : Nat → Int32), x + m = 6 → ∃ eb2, (∀ i, i < 6 * k + x → eb2 i = eb i) ∧ (∀ p, x ≤ p → p < 6 → eb2 (6 * k + p) = nI (if p < n then E p (d + k) else 0)) ∧ ∀ F, m < F → ∀ fa, ∃ fa2, ∀ k2, f_X1_findEnemiesByDay_10 (nI n) (nI d) de ha vs ki len need steps numbers ro k2 F (nI k) (nI x) eb fa = k2 (nI (k + 1)) eb2 fa2 := by
  intro m
  induction m with
  | zero =>
    intro x eb hx
    refine ⟨eb, fun _ _ => rfl, fun p h1 h2 => by omega, fun F hF fa => ⟨fa, fun k2 => ?_⟩⟩
    obtain ⟨F, rfl⟩ : ∃ f, F = f + 1 := ⟨F - 1, by omega⟩
    obtain rfl : x = 6 := by omega
    unfold f_X1_findEnemiesByDay_10 f_X1_findEnemiesByDay_10_b
    rw [if_pos (by decide), n_s]
  | succ m ih =>
    intro x eb hx
    have hk6 : ¬ (6 : Int32) ≤ nI x := by rw [n_leT, n_toInt (by omega)]; show ¬ (6 : Int) ≤ x; omega
    obtain ⟨eb2, g1, g2, g3⟩ := ih (x + 1) (upd eb (6 * k + x) (nI (if x < n then E x (d + k) else 0))) (by omega)
    refine ⟨eb2, fun i hi => ?_, fun p h1 h2 => ?_, fun F hF fa => ?_⟩
    · rw [g1 i (by omega), upd_ne (by omega)]
    · by_cases e : p = x
      · subst e
        rw [g1 _ (by omega), upd_at]
      · exact g2 p (by omega) h2
    · obtain ⟨F, rfl⟩ : ∃ f, F = f + 1 := ⟨F - 1, by omega⟩
      by_cases hxn : x < n
      · rw [if_pos hxn] at g3
        obtain ⟨fa1, h1⟩ := hE x (d + k) hxn (by omega) fa
        obtain ⟨fa2, h2⟩ := g3 F (by omega) fa1
        refine ⟨fa2, fun k2 => ?_⟩
        conv => lhs; unfold f_X1_findEnemiesByDay_10 f_X1_findEnemiesByDay_10_b
        rw [if_neg hk6]
        dsimp only [nm]
        rw [has_yes hxn hn, Option.bind_some, if_neg i_10, nI_add, h1, Option.bind_some, n_mulR (by omega) (by omega), n_gd (by omega) (by omega), n_cl (by omega), n_s]
        exact h2 k2
      · rw [if_neg hxn] at g3
        obtain ⟨fa2, h2⟩ := g3 F (by omega) fa
        refine ⟨fa2, fun k2 => ?_⟩
        conv => lhs; unfold f_X1_findEnemiesByDay_10 f_X1_findEnemiesByDay_10_b
        rw [if_neg hk6]
        dsimp only [nm]
        rw [has_no (x := nI x) (Or.inr (by rw [n_toInt (by omega)]; omega)) hn, Option.bind_some, if_pos rfl, n_mulR (by omega) (by omega), n_gd (by omega) (by omega), n_cl (by omega), n_s]
        exact h2 k2
theorem ebd_2 {E : Nat → Nat → Nat} {n d : Nat} {de : Int32} {ha vs ki : Nat → Int32} {len need : Int32} {steps numbers ro : Nat → Int32} (hE : EC E n de ha vs ki len need steps numbers ro) (hn : n ≤ 6) (hd : d ≤ 9999) : ∀ (m k : Nat) (eb : Nat → Int32), k + m = 6 → ∃ eb2, (∀ i, i < 6 * k → eb2 i = eb i) ∧ (∀ j p, k ≤ j → j < 6 → p < 6 → eb2 (6 * j + p) = nI (if p < n then E p (d + j) else 0)) ∧ ∀ F, m < F → ∀ fa, ∃ fa2, f_X1_findEnemiesByDay_2 (nI n) (nI d) de ha vs ki len need steps numbers ro F (nI k) eb fa = some (eb2, fa2) := by
  intro m
  induction m with
  | zero =>
    intro k eb hk
    refine ⟨eb, fun _ _ => rfl, fun j p h1 h2 => by omega, fun F hF fa => ⟨fa, ?_⟩⟩
    obtain ⟨F, rfl⟩ : ∃ f, F = f + 1 := ⟨F - 1, by omega⟩
    obtain rfl : k = 6 := by omega
    unfold f_X1_findEnemiesByDay_2 f_X1_findEnemiesByDay_2_b
    rw [if_pos (by decide)]
  | succ m ih =>
    intro k eb hk
    have hk6 : ¬ (6 : Int32) ≤ nI k := by rw [n_leT, n_toInt (by omega)]; show ¬ (6 : Int) ≤ k; omega
    obtain ⟨eb1, f1, f2, f3⟩ := ebd_10 hE hn hd (show k < 6 by omega) 6 0 eb (by omega)
    obtain ⟨eb2, g1, g2, g3⟩ := ih (k + 1) eb1 (by omega)
    refine ⟨eb2, fun i hi => ?_, fun j p h1 h2 h3 => ?_, fun F hF fa => ?_⟩
    · rw [g1 i (by omega), f1 i (by omega)]
    · by_cases e : j = k
      · subst e
        rw [g1 _ (by omega)]
        exact f2 p (by omega) h3
      · exact g2 j p (by omega) h2 h3
    · obtain ⟨F, rfl⟩ : ∃ f, F = f + 1 := ⟨F - 1, by omega⟩
      obtain ⟨fa1, h1⟩ := f3 1000 (by omega) fa
      obtain ⟨fa2, h2⟩ := g3 F (by omega) fa1
      refine ⟨fa2, ?_⟩
      unfold f_X1_findEnemiesByDay_2 f_X1_findEnemiesByDay_2_b
      rw [if_neg hk6]
      exact (h1 _).trans h2
/-- one number of a row becomes another -/
def upn (f : Nat → Nat) (i v : Nat) : Nat → Nat := fun j => if j = i then v else f j
/-- what one set gives on to those with one more -/
def stf (ok : Nat → Nat → Nat → Bool) (s : Nat) : Nat → Nat → (Nat → Nat) → (Nat → Nat)
  | 0, _, f => f
  | m + 1, x, f => stf ok s m (x + 1) (if ok (bc s) s x then upn f (s ||| 2 ^ x) (f (s ||| 2 ^ x) + f s) else f)
def fin6 (ok : Nat → Nat → Nat → Bool) : Nat → Nat → (Nat → Nat) → (Nat → Nat)
  | 0, _, f => f
  | m + 1, s, f => fin6 ok m (s + 1) (if bc s < 6 then stf ok s 6 0 f else f)
theorem ways_51 {E : Nat → Nat → Nat} {n d D : Nat} {de' : Nat → Int32} (hP : EP E n de') (hn : n ≤ 6) (hd : d ≤ 9999) {eb : Nat → Int32} (heb : ∀ j p, j < 6 → p < 6 → eb (6 * j + p) = nI (if p < n then E p (d + j) else 0)) {s : Nat} (hs : s < 64) (hbs : bc s < 6) : ∀ (m x : Nat) (f : Nat → Nat) (w : Nat → Int32), x + m = 6 → (∀ t, t < 64 → w t = nI (f t)) → ∃ w2, (∀ t, t < 64 → w2 t = nI (stf (okd E D n d) s m x f t)) ∧ ∀ k36 F, m < F → f_X1_findWays_51 eb k36 F (nI (alv n D)) (nI s) (nI (bc s)) (nI x) w = k36 (nI (alv n D)) (nI (s + 1)) w2 := by
  have p6 := pow6 hn
  have hU6 : alv n D < 64 := Nat.lt_of_lt_of_le alv_lt p6
  intro m
  induction m with
  | zero =>
    intro x f w hx hw
    refine ⟨w, hw, fun k36 F hF => ?_⟩
    obtain ⟨F, rfl⟩ : ∃ f, F = f + 1 := ⟨F - 1, by omega⟩
    obtain rfl : x = 6 := by omega
    unfold f_X1_findWays_51 f_X1_findWays_51_b
    rw [if_pos (by decide), n_s]
  | succ m ih =>
    intro x f w hx hw
    have hx6 : ¬ (6 : Int32) ≤ nI x := by rw [n_leT, n_toInt (by omega)]; show ¬ (6 : Int) ≤ x; omega
    have hb6 : ¬ (6 : Int32) ≤ nI (bc s) := by rw [n_leT, n_toInt (by omega)]; show ¬ (6 : Int) ≤ (bc s : Nat); omega
    have hbit : f_X7_bit (nI (alv n D) &&& (nI s ^^^ (-1 : Int32))) (nI x) = some (if (alv n D).testBit x && !s.testBit x then 1 else 0) := by
      rw [b_not ⟨_, hU6⟩ ⟨s, hs⟩]
      have h := b_at ⟨alv n D &&& (63 ^^^ s), Nat.lt_of_le_of_lt Nat.and_le_left (by omega)⟩ ⟨x, by omega⟩
      rw [b_notT (by omega)] at h
      exact congrArg some h
    have hE2 : (if x < n then E x (d + bc s) else 0) < 64 := by
      split
      · rename_i hxn
        have := (hP x (d + bc s) hxn (by omega)).1
        omega
      · omega
    have hnt : nI (if x < n then E x (d + bc s) else 0) &&& (nI s ^^^ (-1 : Int32)) = nI ((if x < n then E x (d + bc s) else 0) &&& (63 ^^^ s)) := b_not ⟨_, hE2⟩ ⟨s, hs⟩
    have hlt : (if x < n then E x (d + bc s) else 0) &&& (63 ^^^ s) < 64 := Nat.lt_of_le_of_lt Nat.and_le_left (by omega)
    have hor : nI s ||| ((1 : Int32) <<< (nI x &&& 31)) = nI (s ||| 2 ^ x) := b_or ⟨s, hs⟩ ⟨x, by omega⟩
    have est : stf (okd E D n d) s (m + 1) x f = stf (okd E D n d) s m (x + 1) (if okd E D n d (bc s) s x then upn f (s ||| 2 ^ x) (f (s ||| 2 ^ x) + f s) else f) := rfl
    have un : ∀ k36 F, f_X1_findWays_51 eb k36 (F + 1) (nI (alv n D)) (nI s) (nI (bc s)) (nI x) w = (if (if (alv n D).testBit x && !s.testBit x then (1 : Int32) else 0) = 1 then (if nI ((if x < n then E x (d + bc s) else 0) &&& (63 ^^^ s)) = 0 then f_X1_findWays_51 eb k36 F (nI (alv n D)) (nI s) (nI (bc s)) (nI (x + 1)) w else gd (nI (s ||| 2 ^ x)) 64 (f_X1_findWays_51 eb k36 F (nI (alv n D)) (nI s) (nI (bc s)) (nI (x + 1)) (upd w (nI (s ||| 2 ^ x)).toNatClampNeg (w (nI (s ||| 2 ^ x)).toNatClampNeg + w s)))) else f_X1_findWays_51 eb k36 F (nI (alv n D)) (nI s) (nI (bc s)) (nI (x + 1)) w) := by
      intro k36 F
      conv => lhs; unfold f_X1_findWays_51 f_X1_findWays_51_b
      rw [if_neg hx6, if_neg hb6, n_mulR (by omega) (by omega), n_gd (by omega) (by omega), n_cl (by omega), heb (bc s) x hbs (by omega)]
      dsimp only [nm]
      rw [hnt, hbit, Option.bind_some, n_s, hor, n_gd hs (by omega), n_cl (show s < 2 ^ 31 by omega)]
      by_cases g : s ||| 2 ^ x < 64
      · rw [n_gd g (by omega), n_gd g (by omega)]
      · have : s ||| 2 ^ x < 64 := Nat.or_lt_two_pow (n := 6) hs (Nat.pow_lt_pow_right (by omega) (by omega))
        exact absurd this g
    by_cases hok : okd E D n d (bc s) s x = true
    · rw [est, hok, if_pos rfl]
      unfold okd at hok
      simp only [Bool.and_eq_true, decide_eq_true_iff, Bool.not_eq_true'] at hok
      obtain ⟨hxn, hDx, hsx, hEx⟩ := hok
      obtain ⟨u1, u2, u3⟩ := s_more ⟨s, hs⟩ ⟨x, by omega⟩ hsx
      simp only at u1 u2 u3
      obtain ⟨w2, g1, g2⟩ := ih (x + 1) (upn f (s ||| 2 ^ x) (f (s ||| 2 ^ x) + f s)) (upd w (s ||| 2 ^ x) (w (s ||| 2 ^ x) + w s)) (by omega) (fun t ht => by
        unfold upn
        by_cases e : t = s ||| 2 ^ x
        · rw [e, upd_at, if_pos rfl, hw _ u2, hw s hs, nI_add]
        · rw [upd_ne e, if_neg e, hw t ht])
      refine ⟨w2, g1, fun k36 F hF => ?_⟩
      obtain ⟨F, rfl⟩ : ∃ f, F = f + 1 := ⟨F - 1, by omega⟩
      rw [un, alv_at hxn hn, hDx, hsx, if_pos (by rfl), if_pos hxn, if_neg (show ¬ nI (E x (d + bc s) &&& (63 ^^^ s)) = (0 : Int32) by rw [if_pos hxn] at hlt; rw [n_eq0 (by omega)]; exact hEx), n_gd u2 (by omega), n_cl (by omega)]
      exact g2 k36 F (by omega)
    · have hokf : okd E D n d (bc s) s x = false := Bool.eq_false_iff.mpr hok
      rw [est, hokf, if_neg Bool.false_ne_true]
      obtain ⟨w2, g1, g2⟩ := ih (x + 1) f w (by omega) hw
      refine ⟨w2, g1, fun k36 F hF => ?_⟩
      obtain ⟨F, rfl⟩ : ∃ f, F = f + 1 := ⟨F - 1, by omega⟩
      rw [un, ← g2 k36 F (by omega)]
      by_cases hc : ((alv n D).testBit x && !s.testBit x) = true
      · rw [if_pos (show (if ((alv n D).testBit x && !s.testBit x) = true then (1 : Int32) else 0) = 1 by rw [if_pos hc])]
        rw [Bool.and_eq_true, Bool.not_eq_true'] at hc
        have hxn := bit_lt alv_lt hc.1
        rw [alv_at hxn hn, Bool.not_eq_true'] at hc
        have h0 : E x (d + bc s) &&& (63 ^^^ s) = 0 := by
          apply Decidable.byContradiction
          intro h
          apply hok
          unfold okd
          rw [decide_eq_true hxn, hc.1, hc.2, decide_eq_true h]
          rfl
        rw [if_pos hxn, h0, if_pos (show nI 0 = (0 : Int32) from rfl)]
      · rw [if_neg (show ¬ (if ((alv n D).testBit x && !s.testBit x) = true then (1 : Int32) else 0) = 1 by rw [if_neg hc]; decide)]
theorem ways_36 {E : Nat → Nat → Nat} {n d D : Nat} {de' : Nat → Int32} (hP : EP E n de') (hn : n ≤ 6) (hd : d ≤ 9999) {eb : Nat → Int32} (heb : ∀ j p, j < 6 → p < 6 → eb (6 * j + p) = nI (if p < n then E p (d + j) else 0)) : ∀ (m s : Nat) (f : Nat → Nat) (w : Nat → Int32), s + m = 64 → (∀ t, t < 64 → w t = nI (f t)) → ∃ w2, (∀ t, t < 64 → w2 t = nI (fin6 (okd E D n d) m s f t)) ∧ ∀ F, m < F → f_X1_findWays_36 eb F (nI (alv n D)) (nI s) w = some w2 := by
  intro m
  induction m with
  | zero =>
    intro s f w hs hw
    refine ⟨w, hw, fun F hF => ?_⟩
    obtain ⟨F, rfl⟩ : ∃ f, F = f + 1 := ⟨F - 1, by omega⟩
    obtain rfl : s = 64 := by omega
    unfold f_X1_findWays_36 f_X1_findWays_36_b
    rw [if_pos (by decide)]
  | succ m ih =>
    intro s f w hs hw
    have hk6 : ¬ (64 : Int32) ≤ nI s := by rw [n_leT, n_toInt (by omega)]; show ¬ (64 : Int) ≤ s; omega
    have hbl := bc_le ⟨s, by omega⟩
    simp only at hbl
    have hbi : f_J6_bitCount_0f7a4 (nI s) = some (nI (bc s)) := bc_is ⟨s, by omega⟩
    by_cases hb : bc s < 6
    · obtain ⟨w1, f1, f2⟩ := ways_51 (D := D) hP hn hd heb (show s < 64 by omega) hb 6 0 f w (by omega) hw
      obtain ⟨w2, g1, g2⟩ := ih (s + 1) (stf (okd E D n d) s 6 0 f) w1 (by omega) f1
      refine ⟨w2, ?_, fun F hF => ?_⟩
      · show ∀ t, t < 64 → w2 t = nI (fin6 (okd E D n d) m (s + 1) (if bc s < 6 then stf (okd E D n d) s 6 0 f else f) t)
        rw [if_pos hb]
        exact g1
      · obtain ⟨F, rfl⟩ : ∃ f, F = f + 1 := ⟨F - 1, by omega⟩
        unfold f_X1_findWays_36 f_X1_findWays_36_b
        rw [if_neg hk6, hbi, Option.bind_some]
        exact (f2 _ 1000 (by omega)).trans (g2 F (by omega))
    · obtain ⟨w2, g1, g2⟩ := ih (s + 1) f w (by omega) hw
      refine ⟨w2, ?_, fun F hF => ?_⟩
      · show ∀ t, t < 64 → w2 t = nI (fin6 (okd E D n d) m (s + 1) (if bc s < 6 then stf (okd E D n d) s 6 0 f else f) t)
        rw [if_neg hb]
        exact g1
      · obtain ⟨F, rfl⟩ : ∃ f, F = f + 1 := ⟨F - 1, by omega⟩
        unfold f_X1_findWays_36 f_X1_findWays_36_b
        rw [if_neg hk6, hbi, Option.bind_some]
        conv => lhs; unfold f_X1_findWays_51 f_X1_findWays_51_b
        rw [if_neg (by decide), if_pos (by rw [n_leT, n_toInt (by omega)]; show (6 : Int) ≤ (bc s : Nat); omega), n_s]
        exact g2 F (by omega)
theorem ways_7 {eb : Nat → Int32} {U : Int32} : ∀ (m s : Nat) (w : Nat → Int32), s + m = 64 → ∃ w2, (∀ t, t < s → w2 t = w t) ∧ (∀ t, s ≤ t → t < 64 → w2 t = nI (if t = 0 then 1 else 0)) ∧ ∀ F, m < F → f_X1_findWays_7 eb F U (nI s) w = f_X1_findWays_36 eb 1000 U (nI 0) w2 := by
  intro m
  induction m with
  | zero =>
    intro s w hs
    refine ⟨w, fun _ _ => rfl, fun t h1 h2 => by omega, fun F hF => ?_⟩
    obtain ⟨F, rfl⟩ : ∃ f, F = f + 1 := ⟨F - 1, by omega⟩
    obtain rfl : s = 64 := by omega
    unfold f_X1_findWays_7 f_X1_findWays_7_b
    rw [if_pos (by decide)]
    rfl
  | succ m ih =>
    intro s w hs
    have hk6 : ¬ (64 : Int32) ≤ nI s := by rw [n_leT, n_toInt (by omega)]; show ¬ (64 : Int) ≤ s; omega
    obtain ⟨w2, g1, g2, g3⟩ := ih (s + 1) (upd w s (nI (if s = 0 then 1 else 0))) (by omega)
    refine ⟨w2, fun t ht => ?_, fun t h1 h2 => ?_, fun F hF => ?_⟩
    · rw [g1 t (by omega), upd_ne (by omega)]
    · by_cases e : t = s
      · subst e
        rw [g1 t (by omega), upd_at]
      · exact g2 t (by omega) h2
    · obtain ⟨F, rfl⟩ : ∃ f, F = f + 1 := ⟨F - 1, by omega⟩
      conv => lhs; unfold f_X1_findWays_7 f_X1_findWays_7_b
      rw [if_neg hk6, n_gd (by omega) (by omega), n_gd (by omega) (by omega), n_cl (by omega), n_s]
      have nx := g3 F (by omega)
      by_cases h0 : s = 0
      · rw [if_pos h0] at nx
        rw [if_pos (show nI s = (0 : Int32) by rw [h0]; rfl)]
        exact nx
      · rw [if_neg h0] at nx
        rw [if_neg (show ¬ nI s = (0 : Int32) by rw [n_eq0 (by omega)]; exact h0)]
        exact nx
