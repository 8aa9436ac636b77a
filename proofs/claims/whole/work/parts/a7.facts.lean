/-- sums of numbers -/
def su (f : Nat → Nat) : Nat → Nat
  | 0 => 0
  | k + 1 => su f k + f k
def su2 (f : Nat → Nat) : Nat → Nat → Nat
  | 0, _ => 0
  | m + 1, x => f x + su2 f m (x + 1)
theorem su2_su (f : Nat → Nat) : ∀ m x, su f x + su2 f m x = su f (x + m) := by
  intro m
  induction m with
  | zero => intro x; rfl
  | succ m ih =>
    intro x
    have h := ih (x + 1)
    have e : su f (x + 1) = su f x + f x := rfl
    show su f x + (f x + su2 f m (x + 1)) = _
    rw [show x + (m + 1) = x + 1 + m by omega, ← h, e]
    omega
theorem su_congr {f g : Nat → Nat} : ∀ K, (∀ t, t < K → f t = g t) → su f K = su g K := by
  intro K
  induction K with
  | zero => intro _; rfl
  | succ K ih =>
    intro h
    show su f K + f K = su g K + g K
    rw [ih (fun t ht => h t (by omega)), h K (by omega)]
theorem su_one {f g : Nat → Nat} {u : Nat} (h : ∀ t, t ≠ u → f t = g t) : ∀ K, u < K → su f K + g u = su g K + f u := by
  intro K
  induction K with
  | zero => intro h; omega
  | succ K ih =>
    intro hu
    show su f K + f K + g u = su g K + g K + f u
    by_cases e : u = K
    · subst e
      rw [su_congr (f := f) (g := g) u (fun t ht => h t (by omega))]
      omega
    · have := ih (by omega)
      rw [h K (fun e2 => e e2.symm)]
      omega
theorem su_zero {f : Nat → Nat} : ∀ K, (∀ t, t < K → f t = 0) → su f K = 0 := by
  intro K
  induction K with
  | zero => intro _; rfl
  | succ K ih =>
    intro h
    show su f K + f K = 0
    rw [ih (fun t ht => h t (by omega)), h K (by omega)]
theorem su_pos {f : Nat → Nat} : ∀ K, 0 < su f K → ∃ t, t < K ∧ 0 < f t := by
  intro K
  induction K with
  | zero => intro h; exact absurd h (by show ¬ 0 < 0; omega)
  | succ K ih =>
    intro h
    have h2 : 0 < su f K + f K := h
    by_cases e : 0 < f K
    · exact ⟨K, by omega, e⟩
    · obtain ⟨t, h3, h4⟩ := ih (by omega)
      exact ⟨t, by omega, h4⟩
theorem su_ge {f : Nat → Nat} {t : Nat} : ∀ K, t < K → f t ≤ su f K := by
  intro K
  induction K with
  | zero => intro h; omega
  | succ K ih =>
    intro h
    show f t ≤ su f K + f K
    by_cases e : t = K
    · subst e; omega
    · have := ih (by omega); omega
theorem su_bd {f : Nat → Nat} {c : Nat} (h : ∀ t, f t ≤ c) : ∀ K, su f K ≤ K * c := by
  intro K
  induction K with
  | zero => exact Nat.zero_le _
  | succ K ih =>
    show su f K + f K ≤ _
    rw [Nat.succ_mul]
    exact Nat.add_le_add ih (h K)
/-- how many rows of j more there are behind k who are s -/
def Gn (ok : Nat → Nat → Nat → Bool) (n : Nat) : Nat → Nat → Nat → Nat
  | 0, _, _ => 1
  | j + 1, k, s => su (fun p => if ok k s p then Gn ok n j (k + 1) (s ||| 2 ^ p) else 0) n
theorem Gn_down {ok : Nat → Nat → Nat → Bool} {n : Nat} : ∀ j k s, 0 < Gn ok n (j + 1) k s → 0 < Gn ok n j k s := by
  intro j
  induction j with
  | zero => intro k s _; exact Nat.one_pos
  | succ j ih =>
    intro k s h
    obtain ⟨p, hp, h2⟩ := su_pos (f := fun p => if ok k s p then Gn ok n (j + 1) (k + 1) (s ||| 2 ^ p) else 0) n h
    have h3 : 0 < (if ok k s p then Gn ok n j (k + 1) (s ||| 2 ^ p) else 0) := by
      cases e : ok k s p with
      | false => simp only [e] at h2; exact absurd h2 (by simp)
      | true =>
        simp only [e, if_true] at h2
        rw [if_pos rfl]
        exact ih (k + 1) _ h2
    exact Nat.lt_of_lt_of_le h3 (su_ge (f := fun p => if ok k s p then Gn ok n j (k + 1) (s ||| 2 ^ p) else 0) n hp)
theorem Gn_bd {ok : Nat → Nat → Nat → Bool} {n : Nat} (hn : n ≤ 6) : ∀ j k s, Gn ok n j k s ≤ 6 ^ j := by
  intro j
  induction j with
  | zero => intro k s; exact Nat.le_refl 1
  | succ j ih =>
    intro k s
    refine Nat.le_trans (su_bd (c := 6 ^ j) (fun p => ?_) n) ?_
    · show (if ok k s p then Gn ok n j (k + 1) (s ||| 2 ^ p) else 0) ≤ 6 ^ j
      split
      · exact ih _ _
      · exact Nat.zero_le _
    · rw [Nat.pow_succ, Nat.mul_comm]
      exact Nat.mul_le_mul_left _ hn
/-- one who can die next -/
def okd (E : Nat → Nat → Nat) (D n d : Nat) (k s p : Nat) : Bool := decide (p < n) && (!D.testBit p && (!s.testBit p && decide (E p (d + k) &&& (63 ^^^ s) ≠ 0)))
theorem s_more : ∀ (s : Fin 64) (p : Fin 6), s.1.testBit p.1 = false → s.1 < s.1 ||| 2 ^ p.1 ∧ s.1 ||| 2 ^ p.1 < 64 ∧ bc (s.1 ||| 2 ^ p.1) = bc s.1 + 1 := by decide +kernel
theorem rows8 {E : Nat → Nat → Nat} {n d D : Nat} {holds : Int32} {de' ha' clauses word begins length code ki' vs' number ro' : Nat → Int32} (hM : EM E n holds de' ha' clauses word begins length code ki' vs' number ro') (hP : EP E n de') (hn : n ≤ 6) (hd : d ≤ 9999) (hB : ∀ p, p < n → de' p = if D.testBit p then 1 else 0) {N : Nat} (hN : N ≤ 6) : ∀ (j k s dep : Nat), k + j = N → s < 2 ^ n → j < dep → ∀ st, ∃ st2, f_X8_rowsOf dep (nI n) (nI d) holds de' ha' clauses word begins length st code ki' vs' number ro' (nI N) (nI k) (nI s) = some (nI (Gn (okd E D n d) n j k s), st2) := by
  have p6 := pow6 hn
  intro j
  induction j with
  | zero =>
    intro k s dep hk hs hdep st
    obtain ⟨dep, rfl⟩ : ∃ f, dep = f + 1 := ⟨dep - 1, by omega⟩
    obtain rfl : k = N := by omega
    refine ⟨st, ?_⟩
    unfold f_X8_rowsOf f_X8_rowsOf_b
    rw [if_pos rfl]
    rfl
  | succ j ihj =>
    intro k s dep hk hs hdep st
    obtain ⟨dep, rfl⟩ : ∃ f, dep = f + 1 := ⟨dep - 1, by omega⟩
    have loop : ∀ (m x : Nat), x + m = n → ∀ F, m < F → ∀ st, ∃ st2, f_X8_rowsOf_13 (f_X8_rowsOf dep) (nI n) (nI d) holds de' ha' clauses word begins length code ki' vs' number ro' (nI N) (nI k) (nI s) F (nI (su (fun p => if okd E D n d k s p then Gn (okd E D n d) n j (k + 1) (s ||| 2 ^ p) else 0) x)) (nI x) st = some (nI (su (fun p => if okd E D n d k s p then Gn (okd E D n d) n j (k + 1) (s ||| 2 ^ p) else 0) n), st2) := by
      intro m
      induction m with
      | zero =>
        intro x hx F hF st
        obtain ⟨F, rfl⟩ : ∃ f, F = f + 1 := ⟨F - 1, by omega⟩
        obtain rfl : x = n := by omega
        refine ⟨st, ?_⟩
        unfold f_X8_rowsOf_13 f_X8_rowsOf_13_b
        rw [if_pos (by rw [n_le (by omega) (by omega)]; omega)]
      | succ m ih =>
        intro x hx F hF st
        obtain ⟨F, rfl⟩ : ∃ f, F = f + 1 := ⟨F - 1, by omega⟩
        have hk6 : ¬ nI n ≤ nI x := by rw [n_le (by omega) (by omega)]; omega
        have e1 : su (fun p => if okd E D n d k s p then Gn (okd E D n d) n j (k + 1) (s ||| 2 ^ p) else 0) (x + 1) = su (fun p => if okd E D n d k s p then Gn (okd E D n d) n j (k + 1) (s ||| 2 ^ p) else 0) x + (if okd E D n d k s x then Gn (okd E D n d) n j (k + 1) (s ||| 2 ^ x) else 0) := rfl
        have hbt : ((nI s >>> (nI x &&& 31)) &&& (1 : Int32)) = if s.testBit x then 1 else 0 := b_at ⟨s, by omega⟩ ⟨x, by omega⟩
        have hor : nI s ||| ((1 : Int32) <<< (nI x &&& 31)) = nI (s ||| 2 ^ x) := b_or ⟨s, by omega⟩ ⟨x, by omega⟩
        have hE2 := (hP x (d + k) (by omega) (by omega)).1
        have hnt : nI (E x (d + k)) &&& (nI s ^^^ (-1 : Int32)) = nI (E x (d + k) &&& (63 ^^^ s)) := b_not ⟨_, by omega⟩ ⟨s, by omega⟩
        have hlt : E x (d + k) &&& (63 ^^^ s) < 64 := Nat.lt_of_le_of_lt Nat.and_le_left (by omega)
        have hokx : okd E D n d k s x = (!D.testBit x && (!s.testBit x && decide (E x (d + k) &&& (63 ^^^ s) ≠ 0))) := by
          unfold okd
          rw [decide_eq_true (by omega : x < n), Bool.true_and]
        conv => enter [1, st2]; lhs; unfold f_X8_rowsOf_13 f_X8_rowsOf_13_b
        rw [if_neg hk6, n_gd (by omega) (by omega), n_cl (by omega), hB x (by omega), hbt, nI_add]
        rw [hokx] at e1
        cases hDx : D.testBit x with
        | true =>
          rw [hDx] at e1
          rw [if_pos rfl, if_neg i_10, n_s]
          obtain ⟨st2, nx⟩ := ih (x + 1) (by omega) F (by omega) st
          rw [e1] at nx
          exact ⟨st2, nx⟩
        | false =>
          rw [hDx] at e1
          rw [if_neg Bool.false_ne_true, if_pos rfl]
          cases hsx : s.testBit x with
          | true =>
            rw [hsx] at e1
            rw [if_pos rfl, if_neg i_10, n_s]
            obtain ⟨st2, nx⟩ := ih (x + 1) (by omega) F (by omega) st
            rw [e1] at nx
            exact ⟨st2, nx⟩
          | false =>
            rw [hsx] at e1
            rw [if_neg Bool.false_ne_true, if_pos rfl]
            obtain ⟨st1, h1⟩ := hM x (d + k) (by omega) (by omega) st
            rw [h1, Option.bind_some]
            dsimp only
            rw [hnt]
            by_cases h0 : E x (d + k) &&& (63 ^^^ s) = 0
            · obtain ⟨st2, nx⟩ := ih (x + 1) (by omega) F (by omega) st1
              rw [e1, h0] at nx
              rw [if_pos (show nI (E x (d + k) &&& (63 ^^^ s)) = (0 : Int32) by rw [h0]; rfl), n_s]
              exact ⟨st2, nx⟩
            · obtain ⟨st3, h3⟩ := ihj (k + 1) (s ||| 2 ^ x) dep (by omega) (Nat.or_lt_two_pow hs (Nat.pow_lt_pow_right (by omega) (by omega))) (by omega) st1
              obtain ⟨st2, nx⟩ := ih (x + 1) (by omega) F (by omega) st3
              rw [e1, decide_eq_true h0] at nx
              rw [if_neg (show ¬ nI (E x (d + k) &&& (63 ^^^ s)) = (0 : Int32) by rw [n_eq0 (by omega)]; exact h0), hor, n_s, h3, Option.bind_some]
              dsimp only [nm]
              rw [nI_add, n_s]
              exact ⟨st2, nx⟩
    obtain ⟨st2, h⟩ := loop n 0 (by omega) 1000 (by omega) st
    refine ⟨st2, ?_⟩
    unfold f_X8_rowsOf f_X8_rowsOf_b
    rw [if_neg (by rw [n_eq (by omega) (by omega)]; omega)]
    exact h
