/-- who may still throw for q -/
def cw (who : Nat → Nat) (q u t : Nat) : Bool := (who q &&& (63 ^^^ u)).testBit t
def mr (c : Nat → Bool) (v : Nat → Nat) (b : Nat) : Nat → Nat → Nat
  | 0, _ => b
  | m + 1, t => if c t then max (v t) (mr c v b m (t + 1)) else mr c v b m (t + 1)
def fsf (c : Nat → Bool) (v : Nat → Nat) (x : Nat) : Nat → Nat → Option Nat
  | 0, _ => none
  | m + 1, t => if c t && decide (v t = x) then some t else fsf c v x m (t + 1)
/-- how many of q and on can have one -/
def Mx (who : Nat → Nat) : Nat → Nat → Nat → Nat
  | 0, _, _ => 0
  | j + 1, q, u => mr (cw who q u) (fun t => Mx who j (q + 1) (u ||| 2 ^ t) + 1) (Mx who j (q + 1) u) 6 0
/-- the first row of those with the most -/
def row6 (who : Nat → Nat) : Nat → Nat → Nat → (Nat → Int32) → (Nat → Int32)
  | 0, _, _, b => b
  | j + 1, q, u, b => (fsf (cw who q u) (fun t => Mx who j (q + 1) (u ||| 2 ^ t) + 1) (Mx who (j + 1) q u) 6 0).elim (row6 who j (q + 1) u (upd b q (-5))) (fun t => row6 who j (q + 1) (u ||| 2 ^ t) (upd b q (nI t)))
theorem mr_le {c : Nat → Bool} {v : Nat → Nat} {b k : Nat} (hb : b ≤ k) (hv : ∀ t, v t ≤ k) : ∀ m t, mr c v b m t ≤ k := by
  intro m
  induction m with
  | zero => intro t; exact hb
  | succ m ih =>
    intro t
    have h1 := ih (t + 1)
    have h2 := hv t
    show (if c t then max (v t) (mr c v b m (t + 1)) else mr c v b m (t + 1)) ≤ k
    split <;> omega
theorem mr_ge {c : Nat → Bool} {v : Nat → Nat} {b : Nat} : ∀ m t, b ≤ mr c v b m t := by
  intro m
  induction m with
  | zero => intro t; exact Nat.le_refl b
  | succ m ih =>
    intro t
    have h1 := ih (t + 1)
    show b ≤ (if c t then max (v t) (mr c v b m (t + 1)) else mr c v b m (t + 1))
    split <;> omega
theorem Mx_le (who : Nat → Nat) : ∀ j q u, Mx who j q u ≤ j := by
  intro j
  induction j with
  | zero => intro q u; exact Nat.le_refl 0
  | succ j ih =>
    intro q u
    exact mr_le (Nat.le_succ_of_le (ih _ _)) (fun t => Nat.succ_le_succ (ih _ _)) 6 0
theorem fsf_out {c : Nat → Bool} {v : Nat → Nat} {x : Nat} : ∀ m t, (∀ i, t ≤ i → c i = false) → fsf c v x m t = none := by
  intro m
  induction m with
  | zero => intro t _; rfl
  | succ m ih =>
    intro t h
    show (if c t && decide (v t = x) then some t else fsf c v x m (t + 1)) = none
    rw [h t (Nat.le_refl t), Bool.false_and, if_neg Bool.false_ne_true]
    exact ih (t + 1) (fun i hi => h i (by omega))
theorem mr_out {c : Nat → Bool} {v : Nat → Nat} {b : Nat} : ∀ m t, (∀ i, t ≤ i → c i = false) → mr c v b m t = b := by
  intro m
  induction m with
  | zero => intro t _; rfl
  | succ m ih =>
    intro t h
    show (if c t then max (v t) (mr c v b m (t + 1)) else mr c v b m (t + 1)) = b
    rw [h t (Nat.le_refl t), if_neg Bool.false_ne_true]
    exact ih (t + 1) (fun i hi => h i (by omega))
theorem fsf_some {c : Nat → Bool} {v : Nat → Nat} {x : Nat} : ∀ m t i, fsf c v x m t = some i → i < t + m ∧ c i = true ∧ v i = x := by
  intro m
  induction m with
  | zero => intro t i h; exact absurd h (by intro h; cases h)
  | succ m ih =>
    intro t i h
    have h2 : (if c t && decide (v t = x) then some t else fsf c v x m (t + 1)) = some i := h
    by_cases e : (c t && decide (v t = x)) = true
    · rw [if_pos e] at h2
      obtain rfl : t = i := Option.some.inj h2
      rw [Bool.and_eq_true, decide_eq_true_iff] at e
      exact ⟨by omega, e.1, e.2⟩
    · rw [if_neg e] at h2
      obtain ⟨a, b⟩ := ih (t + 1) i h2
      exact ⟨by omega, b⟩
theorem fsf_none {c : Nat → Bool} {v : Nat → Nat} {b : Nat} : ∀ m t x, mr c v b m t = x → fsf c v x m t = none → x = b := by
  intro m
  induction m with
  | zero => intro t x h _; exact h.symm
  | succ m ih =>
    intro t x h h2
    have e1 : (if c t then max (v t) (mr c v b m (t + 1)) else mr c v b m (t + 1)) = x := h
    have e2 : (if c t && decide (v t = x) then some t else fsf c v x m (t + 1)) = none := h2
    by_cases e : (c t && decide (v t = x)) = true
    · rw [if_pos e] at e2
      cases e2
    · rw [if_neg e] at e2
      by_cases hc : c t = true
      · rw [if_pos hc] at e1
        rw [hc, Bool.true_and, decide_eq_true_iff] at e
        exact ih (t + 1) x (by omega) e2
      · rw [if_neg hc] at e1
        exact ih (t + 1) x e1 e2
theorem row6_keep (who : Nat → Nat) : ∀ j q u b p, p < q → row6 who j q u b p = b p := by
  intro j
  induction j with
  | zero => intro q u b p _; rfl
  | succ j ih =>
    intro q u b p hp
    show ((fsf (cw who q u) (fun t => Mx who j (q + 1) (u ||| 2 ^ t) + 1) (Mx who (j + 1) q u) 6 0).elim (row6 who j (q + 1) u (upd b q (-5))) (fun t => row6 who j (q + 1) (u ||| 2 ^ t) (upd b q (nI t)))) p = b p
    cases fsf (cw who q u) (fun t => Mx who j (q + 1) (u ||| 2 ^ t) + 1) (Mx who (j + 1) q u) 6 0 with
    | none =>
      show row6 who j (q + 1) u (upd b q (-5)) p = b p
      rw [ih _ _ _ _ (by omega), upd_ne (by omega)]
    | some t =>
      show row6 who j (q + 1) (u ||| 2 ^ t) (upd b q (nI t)) p = b p
      rw [ih _ _ _ _ (by omega), upd_ne (by omega)]
theorem row6_same (who : Nat → Nat) : ∀ j q u b b', (∀ p, p < q → b p = b' p) → ∀ p, p < q + j → row6 who j q u b p = row6 who j q u b' p := by
  intro j
  induction j with
  | zero => intro q u b b' h p hp; exact h p hp
  | succ j ih =>
    intro q u b b' h p hp
    show ((fsf (cw who q u) (fun t => Mx who j (q + 1) (u ||| 2 ^ t) + 1) (Mx who (j + 1) q u) 6 0).elim (row6 who j (q + 1) u (upd b q (-5))) (fun t => row6 who j (q + 1) (u ||| 2 ^ t) (upd b q (nI t)))) p = ((fsf (cw who q u) (fun t => Mx who j (q + 1) (u ||| 2 ^ t) + 1) (Mx who (j + 1) q u) 6 0).elim (row6 who j (q + 1) u (upd b' q (-5))) (fun t => row6 who j (q + 1) (u ||| 2 ^ t) (upd b' q (nI t)))) p
    have hu : ∀ x, ∀ i, i < q + 1 → upd b q x i = upd b' q x i := by
      intro x i hi
      by_cases e : i = q
      · subst e; rw [upd_at, upd_at]
      · rw [upd_ne e, upd_ne e, h i (by omega)]
    cases fsf (cw who q u) (fun t => Mx who j (q + 1) (u ||| 2 ^ t) + 1) (Mx who (j + 1) q u) 6 0 with
    | none => exact ih _ _ _ _ (hu _) p (by omega)
    | some t => exact ih _ _ _ _ (hu _) p (by omega)
theorem or6 {u t : Nat} (hu : u < 64) (ht : t < 6) : u ||| 2 ^ t < 64 := Nat.or_lt_two_pow (n := 6) hu (Nat.pow_lt_pow_right (by omega) (by omega))
theorem cw_bit {who : Nat → Nat} {q u t : Nat} (hw : who q < 64) (hu : u < 64) (ht : t < 6) : f_X7_bit (nI (who q) &&& (nI u ^^^ (-1 : Int32))) (nI t) = some (if cw who q u t then 1 else 0) := by
  rw [b_not ⟨_, hw⟩ ⟨u, hu⟩]
  exact bit_is (Nat.lt_of_le_of_lt Nat.and_le_left hw) ht
theorem most7 {who : Nat → Nat} (hw : ∀ p, p < 6 → who p < 64) {en : Nat → Int32} (hen : ∀ p, p < 6 → en p = nI (who p)) : ∀ (j q u dep : Nat), q + j = 6 → u < 64 → j < dep → f_X1_mostFrom dep en (nI q) (nI u) = some (nI (Mx who j q u)) := by
  intro j
  induction j with
  | zero =>
    intro q u dep hq hu hdep
    obtain ⟨dep, rfl⟩ : ∃ f, dep = f + 1 := ⟨dep - 1, by omega⟩
    obtain rfl : q = 6 := by omega
    unfold f_X1_mostFrom f_X1_mostFrom_b
    rw [if_neg (by decide), if_pos (by decide)]
    rfl
  | succ j ihj =>
    intro q u dep hq hu hdep
    obtain ⟨dep, rfl⟩ : ∃ f, dep = f + 1 := ⟨dep - 1, by omega⟩
    have hq6 : ¬ (6 : Int32) ≤ nI q := by rw [n_leT, n_toInt (by omega)]; show ¬ (6 : Int) ≤ q; omega
    have loop : ∀ (m t acc F : Nat), t + m = 6 → Mx who j (q + 1) u ≤ acc → acc ≤ 7 → m < F → f_X1_mostFrom_30 (f_X1_mostFrom dep) en (nI q) (nI u) F (nI acc) (nI t) = some (nI (max acc (mr (cw who q u) (fun t => Mx who j (q + 1) (u ||| 2 ^ t) + 1) (Mx who j (q + 1) u) m t))) := by
      intro m
      induction m with
      | zero =>
        intro t acc F ht ha ha7 hF
        obtain ⟨F, rfl⟩ : ∃ f, F = f + 1 := ⟨F - 1, by omega⟩
        obtain rfl : t = 6 := by omega
        unfold f_X1_mostFrom_30 f_X1_mostFrom_30_b
        rw [if_pos (by decide)]
        show some (nI acc) = some (nI (max acc (Mx who j (q + 1) u)))
        rw [Nat.max_eq_left ha]
      | succ m ih =>
        intro t acc F ht ha ha7 hF
        obtain ⟨F, rfl⟩ : ∃ f, F = f + 1 := ⟨F - 1, by omega⟩
        have ht6 : ¬ (6 : Int32) ≤ nI t := by rw [n_leT, n_toInt (by omega)]; show ¬ (6 : Int) ≤ t; omega
        have hor : nI u ||| ((1 : Int32) <<< (nI t &&& 31)) = nI (u ||| 2 ^ t) := b_or ⟨u, hu⟩ ⟨t, by omega⟩
        have hM := Mx_le who j (q + 1) (u ||| 2 ^ t)
        have e1 : mr (cw who q u) (fun t => Mx who j (q + 1) (u ||| 2 ^ t) + 1) (Mx who j (q + 1) u) (m + 1) t = if cw who q u t then max (Mx who j (q + 1) (u ||| 2 ^ t) + 1) (mr (cw who q u) (fun t => Mx who j (q + 1) (u ||| 2 ^ t) + 1) (Mx who j (q + 1) u) m (t + 1)) else mr (cw who q u) (fun t => Mx who j (q + 1) (u ||| 2 ^ t) + 1) (Mx who j (q + 1) u) m (t + 1) := rfl
        unfold f_X1_mostFrom_30 f_X1_mostFrom_30_b
        rw [if_neg ht6, n_gd (by omega) (by omega), n_cl (by omega), hen q (by omega), cw_bit (hw q (by omega)) hu (by omega), Option.bind_some, e1]
        cases hc : cw who q u t with
        | false =>
          rw [if_neg (by exact n_01), n_s, if_neg Bool.false_ne_true]
          exact ih (t + 1) acc F (by omega) ha ha7 (by omega)
        | true =>
          rw [if_pos (by rfl), hor, n_s, ihj (q + 1) (u ||| 2 ^ t) dep (by omega) (or6 hu (by omega)) (by omega), Option.bind_some, n_s, max_is (by omega) (by omega), Option.bind_some, n_s, ih (t + 1) _ F (by omega) (by omega) (by omega) (by omega), if_pos rfl, Nat.max_assoc]
    have hb := Mx_le who j (q + 1) u
    unfold f_X1_mostFrom f_X1_mostFrom_b
    rw [if_neg (n_not_neg (by omega)), if_neg hq6, if_pos (by rw [n_ltT, n_toInt (by omega)]; show (q : Int) < 6; omega), n_s, ihj (q + 1) u dep (by omega) hu (by omega), Option.bind_some]
    refine (loop 6 0 _ 1000 (by omega) (Nat.le_refl _) (by omega) (by omega)).trans ?_
    rw [Nat.max_eq_right (mr_ge 6 0)]
    rfl
theorem upd_upd (f : Nat → Int32) (i : Nat) (x y : Int32) : upd (upd f i x) i y = upd f i y := by
  funext j
  by_cases e : j = i
  · subst e; rw [upd_at, upd_at]
  · rw [upd_ne e, upd_ne e, upd_ne e]
theorem find_53 {who : Nat → Nat} (hw : ∀ p, p < 6 → who p < 64) {en : Nat → Int32} (hen : ∀ p, p < 6 → en p = nI (who p)) (fa : Nat → Int32) {j q u L : Nat} (hq : q + (j + 1) = 6) (hu : u < 64) (hL : L ≤ 7) (x2 : Int32) : ∀ (m t : Nat) (th : Nat → Int32), t + m = 6 → th q = -5 → ∀ k34 F, m + 1 < F → f_X1_findThrowers_53 k34 F x2 (nI L) (nI u) (nI q) (nI t) en fa th = (fsf (cw who q u) (fun t => Mx who j (q + 1) (u ||| 2 ^ t) + 1) L m t).elim (k34 x2 (nI L) (nI u) (nI (q + 1)) en fa th) (fun i => k34 x2 (nI L + (-1 : Int32)) (nI (u ||| 2 ^ i)) (nI (q + 1)) en fa (upd th q (nI i))) := by
  intro m
  induction m with
  | zero =>
    intro t th ht hth k34 F hF
    obtain ⟨F, rfl⟩ : ∃ f, F = f + 1 := ⟨F - 1, by omega⟩
    obtain rfl : t = 6 := by omega
    unfold f_X1_findThrowers_53 f_X1_findThrowers_53_b
    rw [if_pos (by decide), n_s]
    rfl
  | succ m ih =>
    intro t th ht hth k34 F hF
    obtain ⟨F, rfl⟩ : ∃ f, F = f + 1 := ⟨F - 1, by omega⟩
    have ht6 : ¬ (6 : Int32) ≤ nI t := by rw [n_leT, n_toInt (by omega)]; show ¬ (6 : Int) ≤ t; omega
    have hor : nI u ||| ((1 : Int32) <<< (nI t &&& 31)) = nI (u ||| 2 ^ t) := b_or ⟨u, hu⟩ ⟨t, by omega⟩
    have hM := Mx_le who j (q + 1) (u ||| 2 ^ t)
    have e1 : fsf (cw who q u) (fun t => Mx who j (q + 1) (u ||| 2 ^ t) + 1) L (m + 1) t = if cw who q u t && decide (Mx who j (q + 1) (u ||| 2 ^ t) + 1 = L) then some t else fsf (cw who q u) (fun t => Mx who j (q + 1) (u ||| 2 ^ t) + 1) L m (t + 1) := rfl
    have nx := ih (t + 1) th (by omega) hth k34 F (by omega)
    conv => lhs; unfold f_X1_findThrowers_53 f_X1_findThrowers_53_b f_X1_findThrowers_98
    rw [if_neg ht6, n_gd (show q < 6 by omega) (by omega), n_cl (show q < 2 ^ 31 by omega), if_pos hth, n_gd (show q < 6 by omega) (by omega), hen q (by omega), cw_bit (hw q (by omega)) hu (by omega), Option.bind_some, e1, n_s]
    cases hc : cw who q u t with
    | false =>
      rw [if_neg (by exact n_01), if_pos rfl, Bool.false_and, if_neg Bool.false_ne_true]
      exact nx
    | true =>
      rw [if_pos (by rfl), if_neg i_10, hor, n_s, most7 hw hen j (q + 1) (u ||| 2 ^ t) 10 (by omega) (or6 hu (by omega)) (by omega), Option.bind_some, n_s, Bool.true_and]
      by_cases hv : Mx who j (q + 1) (u ||| 2 ^ t) + 1 = L
      · rw [if_pos (by rw [hv]), decide_eq_true hv, if_pos rfl]
        dsimp only [nm]
        rw [n_gd (show q < 6 by omega) (by omega)]
        obtain ⟨F, rfl⟩ : ∃ f, F = f + 1 := ⟨F - 1, by omega⟩
        unfold f_X1_findThrowers_53 f_X1_findThrowers_53_b
        show _ = k34 x2 (nI L + (-1 : Int32)) (nI (u ||| 2 ^ t)) (nI (q + 1)) en fa (upd th q (nI t))
        by_cases h6 : (6 : Int32) ≤ nI (t + 1)
        · rw [if_pos h6, n_s]
        · rw [if_neg h6, n_gd (show q < 6 by omega) (by omega), n_cl (show q < 2 ^ 31 by omega), upd_at, if_neg (eq_nay (c := -5) (by show (t : Int) ≠ -5; omega) (by omega)), n_s]
      · rw [if_neg (by rw [n_eq (by omega) (by omega)]; exact hv), decide_eq_false hv, if_neg Bool.false_ne_true]
        exact nx
theorem find_34 {who : Nat → Nat} (hw : ∀ p, p < 6 → who p < 64) {en : Nat → Int32} (hen : ∀ p, p < 6 → en p = nI (who p)) (fa : Nat → Int32) (x2 : Int32) : ∀ (j q u : Nat) (th : Nat → Int32), q + j = 6 → u < 64 → ∀ F, j < F → f_X1_findThrowers_34 F x2 (nI (Mx who j q u)) (nI u) (nI q) en fa th = some (x2, en, fa, row6 who j q u th) := by
  intro j
  induction j with
  | zero =>
    intro q u th hq hu F hF
    obtain ⟨F, rfl⟩ : ∃ f, F = f + 1 := ⟨F - 1, by omega⟩
    obtain rfl : q = 6 := by omega
    unfold f_X1_findThrowers_34 f_X1_findThrowers_34_b
    rw [if_pos (by decide)]
    rfl
  | succ j ih =>
    intro q u th hq hu F hF
    obtain ⟨F, rfl⟩ : ∃ f, F = f + 1 := ⟨F - 1, by omega⟩
    have hq6 : ¬ (6 : Int32) ≤ nI q := by rw [n_leT, n_toInt (by omega)]; show ¬ (6 : Int) ≤ q; omega
    have hM := Mx_le who (j + 1) q u
    have e1 : row6 who (j + 1) q u th = (fsf (cw who q u) (fun t => Mx who j (q + 1) (u ||| 2 ^ t) + 1) (Mx who (j + 1) q u) 6 0).elim (row6 who j (q + 1) u (upd th q (-5))) (fun t => row6 who j (q + 1) (u ||| 2 ^ t) (upd th q (nI t))) := rfl
    unfold f_X1_findThrowers_34 f_X1_findThrowers_34_b
    rw [if_neg hq6, n_gd (show q < 6 by omega) (by omega), n_cl (by omega)]
    refine (find_53 (L := Mx who (j + 1) q u) hw hen fa hq hu (by omega) x2 6 0 (upd th q (-5)) (by omega) upd_at _ 1000 (by omega)).trans ?_
    rw [e1]
    cases hf : fsf (cw who q u) (fun t => Mx who j (q + 1) (u ||| 2 ^ t) + 1) (Mx who (j + 1) q u) 6 0 with
    | none =>
      have h := fsf_none (b := Mx who j (q + 1) u) 6 0 _ rfl hf
      show f_X1_findThrowers_34 F x2 (nI (Mx who (j + 1) q u)) (nI u) (nI (q + 1)) en fa (upd th q (-5)) = some (x2, en, fa, row6 who j (q + 1) u (upd th q (-5)))
      rw [show Mx who (j + 1) q u = Mx who j (q + 1) u from h]
      exact ih (q + 1) u _ (by omega) hu F (by omega)
    | some t =>
      obtain ⟨a, b, c⟩ := fsf_some 6 0 t hf
      show f_X1_findThrowers_34 F x2 (nI (Mx who (j + 1) q u) + (-1 : Int32)) (nI (u ||| 2 ^ t)) (nI (q + 1)) en fa (upd (upd th q (-5)) q (nI t)) = some (x2, en, fa, row6 who j (q + 1) (u ||| 2 ^ t) (upd th q (nI t)))
      rw [show Mx who (j + 1) q u = Mx who j (q + 1) (u ||| 2 ^ t) + 1 from c.symm, n_d, upd_upd]
      exact ih (q + 1) (u ||| 2 ^ t) _ (by omega) (or6 hu (by omega)) F (by omega)
