/-- what a set weighs, when the first s are done -/
def wt (ok : Nat → Nat → Nat → Bool) (n N s t : Nat) : Nat := if t < s then (if bc t = N then 1 else 0) else (if bc t ≤ N then Gn ok n (N - bc t) (bc t) t else 0)
theorem stf_sum {E : Nat → Nat → Nat} {n d D s : Nat} (hn : n ≤ 6) (hs : s < 64) (g : Nat → Nat) : ∀ (m x : Nat) (f : Nat → Nat), x + m = 6 → su (fun t => stf (okd E D n d) s m x f t * g t) 64 = su (fun t => f t * g t) 64 + f s * su2 (fun p => if okd E D n d (bc s) s p then g (s ||| 2 ^ p) else 0) m x := by
  intro m
  induction m with
  | zero => intro x f hx; rfl
  | succ m ih =>
    intro x f hx
    have e2 : su2 (fun p => if okd E D n d (bc s) s p then g (s ||| 2 ^ p) else 0) (m + 1) x = (if okd E D n d (bc s) s x then g (s ||| 2 ^ x) else 0) + su2 (fun p => if okd E D n d (bc s) s p then g (s ||| 2 ^ p) else 0) m (x + 1) := rfl
    have est : stf (okd E D n d) s (m + 1) x f = stf (okd E D n d) s m (x + 1) (if okd E D n d (bc s) s x then upn f (s ||| 2 ^ x) (f (s ||| 2 ^ x) + f s) else f) := rfl
    rw [est, e2, ih (x + 1) _ (by omega)]
    cases hok : okd E D n d (bc s) s x with
    | false =>
      rw [if_neg Bool.false_ne_true, if_neg Bool.false_ne_true, Nat.zero_add]
    | true =>
      rw [if_pos rfl, if_pos rfl]
      unfold okd at hok
      simp only [Bool.and_eq_true, decide_eq_true_iff, Bool.not_eq_true'] at hok
      obtain ⟨hxn, hDx, hsx, hEx⟩ := hok
      obtain ⟨u1, u2, u3⟩ := s_more ⟨s, hs⟩ ⟨x, by omega⟩ hsx
      simp only at u1 u2 u3
      have h1 := su_one (f := fun t => upn f (s ||| 2 ^ x) (f (s ||| 2 ^ x) + f s) t * g t) (g := fun t => f t * g t) (u := s ||| 2 ^ x) (fun t ht => by
        show upn f (s ||| 2 ^ x) (f (s ||| 2 ^ x) + f s) t * g t = f t * g t
        unfold upn
        rw [if_neg ht]) 64 u2
      have h2 : upn f (s ||| 2 ^ x) (f (s ||| 2 ^ x) + f s) (s ||| 2 ^ x) = f (s ||| 2 ^ x) + f s := if_pos rfl
      have h3 : upn f (s ||| 2 ^ x) (f (s ||| 2 ^ x) + f s) s = f s := if_neg (by omega)
      simp only [h2, Nat.add_mul] at h1
      rw [h3, Nat.mul_add]
      omega
theorem wt_step {E : Nat → Nat → Nat} {n d D N s : Nat} (hn : n ≤ 6) (hs : s < 64) : wt (okd E D n d) n N s s = wt (okd E D n d) n N (s + 1) s + su2 (fun p => if okd E D n d (bc s) s p then wt (okd E D n d) n N (s + 1) (s ||| 2 ^ p) else 0) 6 0 := by
  have hz := su2_su (fun p => if okd E D n d (bc s) s p then wt (okd E D n d) n N (s + 1) (s ||| 2 ^ p) else 0) 6 0
  rw [show su (fun p => if okd E D n d (bc s) s p then wt (okd E D n d) n N (s + 1) (s ||| 2 ^ p) else 0) 0 = 0 from rfl, Nat.zero_add, Nat.zero_add] at hz
  rw [hz]
  have hbig : ∀ p, n ≤ p → okd E D n d (bc s) s p = false := fun p hp => by
    unfold okd
    rw [decide_eq_false (by omega), Bool.false_and]
  have hcut : ∀ (h : Nat → Nat), su (fun p => if okd E D n d (bc s) s p then h p else 0) 6 = su (fun p => if okd E D n d (bc s) s p then h p else 0) n := by
    intro h
    have : ∀ m, su (fun p => if okd E D n d (bc s) s p then h p else 0) (n + m) = su (fun p => if okd E D n d (bc s) s p then h p else 0) n := by
      intro m
      induction m with
      | zero => rfl
      | succ m ih =>
        show su (fun p => if okd E D n d (bc s) s p then h p else 0) (n + m) + (if okd E D n d (bc s) s (n + m) then h (n + m) else 0) = _
        rw [ih, hbig (n + m) (by omega), if_neg Bool.false_ne_true, Nat.add_zero]
    have := this (6 - n)
    rwa [show n + (6 - n) = 6 by omega] at this
  have hu : ∀ p, p < n → okd E D n d (bc s) s p = true → wt (okd E D n d) n N (s + 1) (s ||| 2 ^ p) = if bc s + 1 ≤ N then Gn (okd E D n d) n (N - (bc s + 1)) (bc s + 1) (s ||| 2 ^ p) else 0 := by
    intro p hp hok
    unfold okd at hok
    simp only [Bool.and_eq_true, decide_eq_true_iff, Bool.not_eq_true'] at hok
    obtain ⟨hxn, hDx, hsx, hEx⟩ := hok
    obtain ⟨u1, u2, u3⟩ := s_more ⟨s, hs⟩ ⟨p, by omega⟩ hsx
    simp only at u1 u2 u3
    unfold wt
    rw [if_neg (by omega), u3]
  rw [hcut]
  have hs1 : wt (okd E D n d) n N s s = if bc s ≤ N then Gn (okd E D n d) n (N - bc s) (bc s) s else 0 := if_neg (by omega)
  have hs2 : wt (okd E D n d) n N (s + 1) s = if bc s = N then 1 else 0 := if_pos (by omega)
  rw [hs1, hs2]
  have h3 : bc s < N ∨ bc s = N ∨ N < bc s := by omega
  rcases h3 with h | h | h
  · rw [if_pos (by omega), if_neg (by omega), Nat.zero_add]
    obtain ⟨j, hj⟩ : ∃ j, N - bc s = j + 1 := ⟨N - bc s - 1, by omega⟩
    rw [hj]
    show su (fun p => if okd E D n d (bc s) s p then Gn (okd E D n d) n j (bc s + 1) (s ||| 2 ^ p) else 0) n = _
    apply su_congr
    intro p hp
    show (if okd E D n d (bc s) s p then Gn (okd E D n d) n j (bc s + 1) (s ||| 2 ^ p) else 0) = (if okd E D n d (bc s) s p then wt (okd E D n d) n N (s + 1) (s ||| 2 ^ p) else 0)
    by_cases hok : okd E D n d (bc s) s p = true
    · rw [if_pos hok, if_pos hok, hu p hp hok, if_pos (by omega), show N - (bc s + 1) = j by omega]
    · rw [if_neg hok, if_neg hok]
  · rw [if_pos (by omega), if_pos h, show N - bc s = 0 by omega]
    rw [su_zero n (fun p hp => by
      show (if okd E D n d (bc s) s p then wt (okd E D n d) n N (s + 1) (s ||| 2 ^ p) else 0) = 0
      by_cases hok : okd E D n d (bc s) s p = true
      · rw [if_pos hok, hu p hp hok, if_neg (by omega)]
      · rw [if_neg hok])]
    rfl
  · rw [if_neg (by omega), if_neg (by omega)]
    rw [su_zero n (fun p hp => by
      show (if okd E D n d (bc s) s p then wt (okd E D n d) n N (s + 1) (s ||| 2 ^ p) else 0) = 0
      by_cases hok : okd E D n d (bc s) s p = true
      · rw [if_pos hok, hu p hp hok, if_neg (by omega)]
      · rw [if_neg hok])]
theorem ok_full {E : Nat → Nat → Nat} {n d D s : Nat} (hn : n ≤ 6) (hs : s < 64) (hb : ¬ bc s < 6) (p : Nat) : okd E D n d (bc s) s p = false := by
  have h63 : s = 63 := by
    have : ∀ s : Fin 64, ¬ bc s.1 < 6 → s.1 = 63 := by decide +kernel
    exact this ⟨s, hs⟩ hb
  by_cases hp : p < n
  · unfold okd
    rw [h63, t_63 ⟨p, by omega⟩]
    simp
  · unfold okd
    rw [decide_eq_false hp, Bool.false_and]
theorem su_at {f g : Nat → Nat} {u : Nat} (h : ∀ t, t ≠ u → f t = g t) {a : Nat} (ha : f u = g u + a) (hu : u < 64) : su f 64 = su g 64 + a := by
  have := su_one h 64 hu
  omega
theorem fin_sum {E : Nat → Nat → Nat} {n d D N : Nat} (hn : n ≤ 6) : ∀ (m s : Nat) (f : Nat → Nat), s + m = 64 → su (fun t => fin6 (okd E D n d) m s f t * wt (okd E D n d) n N 64 t) 64 = su (fun t => f t * wt (okd E D n d) n N s t) 64 := by
  intro m
  induction m with
  | zero =>
    intro s f hs
    obtain rfl : s = 64 := by omega
    rfl
  | succ m ih =>
    intro s f hs
    have hw := wt_step (E := E) (n := n) (d := d) (D := D) (N := N) hn (show s < 64 by omega)
    show su (fun t => fin6 (okd E D n d) m (s + 1) (if bc s < 6 then stf (okd E D n d) s 6 0 f else f) t * wt (okd E D n d) n N 64 t) 64 = _
    rw [ih (s + 1) _ (by omega)]
    have hoff : ∀ t, t ≠ s → wt (okd E D n d) n N s t = wt (okd E D n d) n N (s + 1) t := by
      intro t ht
      unfold wt
      by_cases h : t < s
      · rw [if_pos h, if_pos (show t < s + 1 by omega)]
      · rw [if_neg h, if_neg (show ¬ t < s + 1 by omega)]
    have h1 : su (fun t => f t * wt (okd E D n d) n N s t) 64 = su (fun t => f t * wt (okd E D n d) n N (s + 1) t) 64 + f s * su2 (fun p => if okd E D n d (bc s) s p then wt (okd E D n d) n N (s + 1) (s ||| 2 ^ p) else 0) 6 0 := by
      apply su_at (u := s)
      · intro t ht
        show f t * _ = f t * _
        rw [hoff t ht]
      · show f s * wt (okd E D n d) n N s s = _
        rw [hw, Nat.mul_add]
      · omega
    rw [h1]
    by_cases hb : bc s < 6
    · rw [if_pos hb]
      exact stf_sum hn (by omega) _ 6 0 f (by omega)
    · rw [if_neg hb]
      have hz : su2 (fun p => if okd E D n d (bc s) s p then wt (okd E D n d) n N (s + 1) (s ||| 2 ^ p) else 0) 6 0 = 0 := by
        have := su2_su (fun p => if okd E D n d (bc s) s p then wt (okd E D n d) n N (s + 1) (s ||| 2 ^ p) else 0) 6 0
        rw [su_zero (0 + 6) (fun p _ => by
          show (if okd E D n d (bc s) s p then _ else 0) = 0
          rw [ok_full hn (by omega) hb p]
          rfl)] at this
        omega
      rw [hz, Nat.mul_zero]
      rfl
/-- the ways that the class counts, when it is done -/
def wys (E : Nat → Nat → Nat) (D n d : Nat) : Nat → Nat := fin6 (okd E D n d) 64 0 (fun t => if t = 0 then 1 else 0)
theorem wys_sum {E : Nat → Nat → Nat} {n d D N : Nat} (hn : n ≤ 6) : su (fun t => if bc t = N then wys E D n d t else 0) 64 = Gn (okd E D n d) n N 0 0 := by
  have h := fin_sum (E := E) (d := d) (D := D) (N := N) hn 64 0 (fun t => if t = 0 then 1 else 0) (by omega)
  have e1 : su (fun t => if bc t = N then wys E D n d t else 0) 64 = su (fun t => fin6 (okd E D n d) 64 0 (fun t => if t = 0 then 1 else 0) t * wt (okd E D n d) n N 64 t) 64 := by
    apply su_congr
    intro t ht
    show (if bc t = N then wys E D n d t else 0) = wys E D n d t * wt (okd E D n d) n N 64 t
    unfold wt
    rw [if_pos ht]
    by_cases e : bc t = N
    · rw [if_pos e, if_pos e, Nat.mul_one]
    · rw [if_neg e, if_neg e, Nat.mul_zero]
  rw [e1, h]
  have e2 := su_at (f := fun t => (if t = 0 then 1 else 0) * wt (okd E D n d) n N 0 t) (g := fun _ => 0) (u := 0) (a := wt (okd E D n d) n N 0 0) (fun t ht => by
    show (if t = 0 then 1 else 0) * _ = 0
    rw [if_neg ht, Nat.zero_mul]) (by
    show (if 0 = 0 then 1 else 0) * wt (okd E D n d) n N 0 0 = 0 + wt (okd E D n d) n N 0 0
    rw [if_pos rfl, Nat.one_mul, Nat.zero_add]) (by omega)
  rw [e2, su_zero 64 (fun _ _ => rfl), Nat.zero_add]
  unfold wt
  rw [if_neg (by omega), show bc 0 = 0 by decide, if_pos (by omega), Nat.sub_zero]
/-- the ways of the class -/
theorem ways_eq {E : Nat → Nat → Nat} {n d D : Nat} {ha vs ki : Nat → Int32} {len need : Int32} {steps numbers ro : Nat → Int32} {de' : Nat → Int32} (hC : EC E n (nI D) ha vs ki len need steps numbers ro) (hP : EP E n de') (hn : n ≤ 6) (hd : d ≤ 9999) (hD : D < 2 ^ n) (eb fa w : Nat → Int32) : ∃ eb2 fa2 w2, f_X1_findEnemiesByDay (nI n) (nI d) (nI D) eb ha vs ki fa len need steps numbers ro = some (eb2, fa2) ∧ f_X1_findWays (nI n) (nI D) w eb2 = some w2 ∧ ∀ t, t < 64 → w2 t = nI (wys E D n d t) := by
  obtain ⟨eb2, -, g2, g3⟩ := ebd_2 hC hn hd 6 0 eb (by omega)
  obtain ⟨fa2, h1⟩ := g3 1000 (by omega) fa
  obtain ⟨w1, -, f2, f3⟩ := ways_7 (eb := eb2) (U := nI (alv n D)) 64 0 w (by omega)
  obtain ⟨w2, k1, k2⟩ := ways_36 (D := D) hP hn hd (fun j p hj hp => g2 j p (by omega) hj hp) 64 0 (fun t => if t = 0 then 1 else 0) w1 (by omega) (fun t ht => f2 t (by omega) ht)
  refine ⟨eb2, fa2, w2, h1, ?_, k1⟩
  unfold f_X1_findWays
  rw [alive_is hn hD, Option.bind_some]
  exact (f3 1000 (by omega)).trans (k2 1000 (by omega))
theorem rows_15 {N : Nat} (hN : N ≤ 6) {w : Nat → Int32} {f : Nat → Nat} (hw : ∀ t, t < 64 → w t = nI (f t)) (eb fa : Nat → Int32) : ∀ (m s F : Nat), s + m = 64 → m < F → f_X1_rowsOf_15 (nI N) F (nI (su (fun t => if bc t = N then f t else 0) s)) (nI s) eb fa w = some (nI (su (fun t => if bc t = N then f t else 0) 64), eb, fa, w) := by
  intro m
  induction m with
  | zero =>
    intro s F hs hF
    obtain ⟨F, rfl⟩ : ∃ f, F = f + 1 := ⟨F - 1, by omega⟩
    obtain rfl : s = 64 := by omega
    unfold f_X1_rowsOf_15 f_X1_rowsOf_15_b
    rw [if_pos (by decide)]
  | succ m ih =>
    intro s F hs hF
    obtain ⟨F, rfl⟩ : ∃ f, F = f + 1 := ⟨F - 1, by omega⟩
    have hk6 : ¬ (64 : Int32) ≤ nI s := by rw [n_leT, n_toInt (by omega)]; show ¬ (64 : Int) ≤ s; omega
    have hbl := bc_le ⟨s, by omega⟩
    simp only at hbl
    have hbi : f_J6_bitCount_0f7a4 (nI s) = some (nI (bc s)) := bc_is ⟨s, by omega⟩
    have nx := ih (s + 1) F (by omega) (by omega)
    have e1 : su (fun t => if bc t = N then f t else 0) (s + 1) = su (fun t => if bc t = N then f t else 0) s + (if bc s = N then f s else 0) := rfl
    rw [e1] at nx
    unfold f_X1_rowsOf_15 f_X1_rowsOf_15_b
    rw [if_neg hk6, hbi, Option.bind_some, n_gd (by omega) (by omega), n_cl (by omega), hw s (by omega)]
    dsimp only [nm]
    rw [nI_add, n_s]
    by_cases e : bc s = N
    · rw [if_pos e] at nx
      rw [if_pos (by rw [e])]
      exact nx
    · rw [if_neg e] at nx
      rw [if_neg (by rw [n_eq (by omega) (by omega)]; exact e)]
      exact nx
theorem max_is {x c : Nat} (hx : x < 2 ^ 31) (hc : c < 2 ^ 31) : f_J9_max_7cf53 (nI x) (nI c) = some (nI (max x c)) := by
  unfold f_J9_max_7cf53
  by_cases h : x < c
  · first
    | rw [if_pos (by rw [n_lt (by omega) (by omega)]; exact h), Nat.max_eq_right (by omega)]
    | rw [if_neg (by rw [n_le (by omega) (by omega)]; omega), Nat.max_eq_right (by omega)]
  · first
    | rw [if_neg (by rw [n_lt (by omega) (by omega)]; exact h), Nat.max_eq_left (by omega)]
    | rw [if_pos (by rw [n_le (by omega) (by omega)]; omega), Nat.max_eq_left (by omega)]
/-- the longest of the first s -/
def mx (f : Nat → Nat) : Nat → Nat
  | 0 => 0
  | s + 1 => if f s = 0 then mx f s else max (mx f s) (bc s)
theorem mx_le (f : Nat → Nat) : ∀ s, s ≤ 64 → mx f s ≤ 6 := by
  intro s
  induction s with
  | zero => intro _; exact Nat.zero_le _
  | succ s ih =>
    intro hs
    have hb := bc_le ⟨s, by omega⟩
    simp only at hb
    have := ih (by omega)
    show (if f s = 0 then mx f s else max (mx f s) (bc s)) ≤ 6
    split <;> omega
theorem mx_ge (f : Nat → Nat) : ∀ s t, t < s → 0 < f t → bc t ≤ mx f s := by
  intro s
  induction s with
  | zero => intro t h; omega
  | succ s ih =>
    intro t ht hf
    show bc t ≤ (if f s = 0 then mx f s else max (mx f s) (bc s))
    by_cases e : t = s
    · subst e
      rw [if_neg (by omega)]
      omega
    · have := ih t (by omega) hf
      split <;> omega
theorem mx_is (f : Nat → Nat) : ∀ s, mx f s = 0 ∨ ∃ t, t < s ∧ 0 < f t ∧ bc t = mx f s := by
  intro s
  induction s with
  | zero => exact Or.inl rfl
  | succ s ih =>
    have e : mx f (s + 1) = if f s = 0 then mx f s else max (mx f s) (bc s) := rfl
    by_cases h : f s = 0
    · rw [if_pos h] at e
      rw [e]
      rcases ih with h1 | ⟨t, h1, h2, h3⟩
      · exact Or.inl h1
      · exact Or.inr ⟨t, by omega, h2, h3⟩
    · rw [if_neg h] at e
      rw [e]
      by_cases h2 : mx f s ≤ bc s
      · rw [Nat.max_eq_right h2]
        exact Or.inr ⟨s, by omega, by omega, rfl⟩
      · rw [Nat.max_eq_left (by omega)]
        rcases ih with h1 | ⟨t, h3, h4, h5⟩
        · exact Or.inl h1
        · exact Or.inr ⟨t, by omega, h4, h5⟩
theorem long_14 {w : Nat → Int32} {f : Nat → Nat} (hw : ∀ t, t < 64 → w t = nI (f t)) (hf : ∀ t, t < 64 → f t < 2 ^ 31) (eb fa : Nat → Int32) : ∀ (m s F : Nat), s + m = 64 → m < F → f_X1_longest_14 F (nI (mx f s)) (nI s) eb fa w = some (nI (mx f 64), eb, fa, w) := by
  intro m
  induction m with
  | zero =>
    intro s F hs hF
    obtain ⟨F, rfl⟩ : ∃ f, F = f + 1 := ⟨F - 1, by omega⟩
    obtain rfl : s = 64 := by omega
    unfold f_X1_longest_14 f_X1_longest_14_b
    rw [if_pos (by decide)]
  | succ m ih =>
    intro s F hs hF
    obtain ⟨F, rfl⟩ : ∃ f, F = f + 1 := ⟨F - 1, by omega⟩
    have hk6 : ¬ (64 : Int32) ≤ nI s := by rw [n_leT, n_toInt (by omega)]; show ¬ (64 : Int) ≤ s; omega
    have hbl := bc_le ⟨s, by omega⟩
    simp only at hbl
    have hbi : f_J6_bitCount_0f7a4 (nI s) = some (nI (bc s)) := bc_is ⟨s, by omega⟩
    have hm6 := mx_le f s (by omega)
    have hfs := hf s (by omega)
    have nx := ih (s + 1) F (by omega) (by omega)
    have e1 : mx f (s + 1) = if f s = 0 then mx f s else max (mx f s) (bc s) := rfl
    rw [e1] at nx
    unfold f_X1_longest_14 f_X1_longest_14_b
    rw [if_neg hk6, n_gd (by omega) (by omega), n_cl (by omega), hw s (by omega), hbi, Option.bind_some, max_is (by omega) (by omega), Option.bind_some, n_s]
    by_cases e : f s = 0
    · rw [if_pos e] at nx
      rw [if_pos (show nI (f s) ≤ (0 : Int32) by rw [e]; decide)]
      exact nx
    · rw [if_neg e] at nx
      rw [if_neg (le_nay (c := 0) (by show (0 : Int) < (f s : Nat); omega) (by omega))]
      exact nx
theorem pow66 {j : Nat} (h : j ≤ 6) : 6 ^ j ≤ 46656 := Nat.pow_le_pow_right (by omega) h
theorem orders_eq {E : Nat → Nat → Nat} {n d D : Nat} {ha vs ki : Nat → Int32} {len need : Int32} {steps numbers ro : Nat → Int32} {holds : Int32} {de' ha' clauses word begins length code ki' vs' number ro' : Nat → Int32} (hC : EC E n (nI D) ha vs ki len need steps numbers ro) (hM : EM E n holds de' ha' clauses word begins length code ki' vs' number ro') (hP : EP E n de') (hn : n ≤ 6) (hd : d ≤ 9999) (hD : D < 2 ^ n) (hB : ∀ p, p < n → de' p = if D.testBit p then 1 else 0) {N : Nat} (hN : N ≤ 6) (eb fa w st : Nat → Int32) : ∃ r eb2 fa2 w2 st2, f_X1_rowsOf (nI n) (nI d) (nI D) eb ha vs ki fa len need steps numbers ro w (nI N) = some (r, eb2, fa2, w2) ∧ f_X8_rowsOf 10 (nI n) (nI d) holds de' ha' clauses word begins length st code ki' vs' number ro' (nI N) 0 0 = some (r, st2) := by
  obtain ⟨eb2, fa2, w2, h1, h2, h3⟩ := ways_eq (d := d) hC hP hn hd hD eb fa w
  obtain ⟨st2, h4⟩ := rows8 hM hP hn hd hB hN N 0 0 10 (by omega) (Nat.two_pow_pos n) (by omega) st
  have h5 := rows_15 hN h3 eb2 fa2 64 0 1000 (by omega) (by omega)
  rw [wys_sum hn] at h5
  refine ⟨_, eb2, fa2, w2, st2, ?_, h4⟩
  unfold f_X1_rowsOf
  rw [h1, Option.bind_some, h2, Option.bind_some]
  exact h5
theorem long_8 {E : Nat → Nat → Nat} {n d D : Nat} {holds : Int32} {de' ha' clauses word begins length code ki' vs' number ro' : Nat → Int32} (hM : EM E n holds de' ha' clauses word begins length code ki' vs' number ro') (hP : EP E n de') (hn : n ≤ 6) (hd : d ≤ 9999) (hB : ∀ p, p < n → de' p = if D.testBit p then 1 else 0) : ∀ (m k : Nat), k + m = 6 → (∀ j, j ≤ k → 0 < Gn (okd E D n d) n j 0 0) → ∃ r, r ≤ 6 ∧ (∀ j, j ≤ r → 0 < Gn (okd E D n d) n j 0 0) ∧ (r = 6 ∨ Gn (okd E D n d) n (r + 1) 0 0 = 0) ∧ ∀ F, m < F → ∀ st, ∃ st2, f_X8_longest_2 (nI n) (nI d) holds de' ha' clauses word begins length code ki' vs' number ro' F (nI k) st = some (nI r, st2) := by
  intro m
  induction m with
  | zero =>
    intro k hk h
    obtain rfl : k = 6 := by omega
    refine ⟨6, by omega, h, Or.inl rfl, fun F hF st => ⟨st, ?_⟩⟩
    obtain ⟨F, rfl⟩ : ∃ f, F = f + 1 := ⟨F - 1, by omega⟩
    unfold f_X8_longest_2 f_X8_longest_2_b
    rw [if_pos (by decide)]
  | succ m ih =>
    intro k hk h
    have hk6 : ¬ (6 : Int32) ≤ nI k := by rw [n_leT, n_toInt (by omega)]; show ¬ (6 : Int) ≤ k; omega
    have hbd := Gn_bd (ok := okd E D n d) hn (k + 1) 0 0
    have hp6 := pow66 (show k + 1 ≤ 6 by omega)
    by_cases h0 : Gn (okd E D n d) n (k + 1) 0 0 = 0
    · refine ⟨k, by omega, h, Or.inr h0, fun F hF st => ?_⟩
      obtain ⟨F, rfl⟩ : ∃ f, F = f + 1 := ⟨F - 1, by omega⟩
      obtain ⟨st1, h4⟩ := rows8 hM hP hn hd hB (show k + 1 ≤ 6 by omega) (k + 1) 0 0 10 (by omega) (Nat.two_pow_pos n) (by omega) st
      refine ⟨st1, ?_⟩
      unfold f_X8_longest_2 f_X8_longest_2_b
      rw [if_neg hk6, n_s, show f_X8_rowsOf 10 (nI n) (nI d) holds de' ha' clauses word begins length st code ki' vs' number ro' (nI (k + 1)) 0 0 = _ from h4, Option.bind_some, h0, if_pos (show nI 0 ≤ (0 : Int32) by decide)]
    · obtain ⟨r, r1, r2, r3, r4⟩ := ih (k + 1) (by omega) (fun j hj => by
        by_cases e : j = k + 1
        · rw [e]; omega
        · exact h j (by omega))
      refine ⟨r, r1, r2, r3, fun F hF st => ?_⟩
      obtain ⟨F, rfl⟩ : ∃ f, F = f + 1 := ⟨F - 1, by omega⟩
      obtain ⟨st1, h4⟩ := rows8 hM hP hn hd hB (show k + 1 ≤ 6 by omega) (k + 1) 0 0 10 (by omega) (Nat.two_pow_pos n) (by omega) st
      obtain ⟨st2, h5⟩ := r4 F (by omega) st1
      refine ⟨st2, ?_⟩
      unfold f_X8_longest_2 f_X8_longest_2_b
      rw [if_neg hk6, n_s, show f_X8_rowsOf 10 (nI n) (nI d) holds de' ha' clauses word begins length st code ki' vs' number ro' (nI (k + 1)) 0 0 = _ from h4, Option.bind_some, if_neg (le_nay (c := 0) (by show (0 : Int) < (Gn (okd E D n d) n (k + 1) 0 0 : Nat); omega) (by omega))]
      exact h5
theorem longest_eq {E : Nat → Nat → Nat} {n d D : Nat} {ha vs ki : Nat → Int32} {len need : Int32} {steps numbers ro : Nat → Int32} {holds : Int32} {de' ha' clauses word begins length code ki' vs' number ro' : Nat → Int32} (hC : EC E n (nI D) ha vs ki len need steps numbers ro) (hM : EM E n holds de' ha' clauses word begins length code ki' vs' number ro') (hP : EP E n de') (hn : n ≤ 6) (hd : d ≤ 9999) (hD : D < 2 ^ n) (hB : ∀ p, p < n → de' p = if D.testBit p then 1 else 0) (eb fa w st : Nat → Int32) : ∃ r eb2 fa2 w2 st2, f_X1_longest (nI n) (nI d) (nI D) eb ha vs ki fa len need steps numbers ro w = some (r, eb2, fa2, w2) ∧ f_X8_longest (nI n) (nI d) holds de' ha' clauses word begins length st code ki' vs' number ro' = some (r, st2) := by
  obtain ⟨eb2, fa2, w2, h1, h2, h3⟩ := ways_eq (d := d) hC hP hn hd hD eb fa w
  obtain ⟨r, r1, r2, r3, r4⟩ := long_8 (D := D) hM hP hn hd hB 6 0 (by omega) (fun j hj => by
    obtain rfl : j = 0 := by omega
    exact Nat.one_pos)
  obtain ⟨st2, h4⟩ := r4 1000 (by omega) st
  have hle : ∀ t, t < 64 → wys E D n d t ≤ Gn (okd E D n d) n (bc t) 0 0 := by
    intro t ht
    rw [← wys_sum (N := bc t) hn]
    have := su_ge (f := fun u => if bc u = bc t then wys E D n d u else 0) (t := t) 64 ht
    simp only [if_true] at this
    exact this
  have hbd : ∀ t, t < 64 → wys E D n d t < 2 ^ 31 := by
    intro t ht
    have a := hle t ht
    have b := Gn_bd (ok := okd E D n d) hn (bc t) 0 0
    have hb := bc_le ⟨t, ht⟩
    have c := pow66 hb
    simp only at c
    omega
  have h5 := long_14 h3 hbd eb2 fa2 64 0 1000 (by omega) (by omega)
  have hmr : mx (wys E D n d) 64 = r := by
    have a : r ≤ mx (wys E D n d) 64 := by
      have hr := r2 r (Nat.le_refl r)
      rw [← wys_sum (N := r) hn] at hr
      obtain ⟨t, t1, t2⟩ := su_pos 64 hr
      by_cases e : bc t = r
      · simp only [e, if_true] at t2
        rw [← e]
        exact mx_ge _ 64 t t1 t2
      · simp only [if_neg e] at t2
        omega
    have b : mx (wys E D n d) 64 ≤ r := by
      apply Decidable.byContradiction
      intro hlt
      have hm6 := mx_le (wys E D n d) 64 (by omega)
      rcases mx_is (wys E D n d) 64 with h | ⟨t, t1, t2, t3⟩
      · omega
      · have hpos : 0 < Gn (okd E D n d) n (bc t) 0 0 := Nat.lt_of_lt_of_le t2 (hle t t1)
        rw [t3] at hpos
        have down : ∀ j i, 0 < Gn (okd E D n d) n (i + j) 0 0 → 0 < Gn (okd E D n d) n i 0 0 := by
          intro j
          induction j with
          | zero => intro i h; exact h
          | succ j ih => intro i h; exact ih i (Gn_down _ _ _ h)
        have := down (mx (wys E D n d) 64 - (r + 1)) (r + 1) (by rwa [show r + 1 + (mx (wys E D n d) 64 - (r + 1)) = mx (wys E D n d) 64 by omega])
        rcases r3 with h | h
        · omega
        · omega
    omega
  rw [hmr] at h5
  refine ⟨nI r, eb2, fa2, w2, st2, ?_, h4⟩
  unfold f_X1_longest
  rw [h1, Option.bind_some, h2, Option.bind_some]
  exact h5
