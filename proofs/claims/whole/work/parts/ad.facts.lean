theorem lt_am {a c : Nat} (ha : a ≤ 1000) (hc : c ≤ 1000) : (nI a + (-1 : Int32) < nI c) = (a ≤ c) := by
  cases a with
  | zero =>
    apply propext
    rw [n_ltT, n_toInt (by omega)]
    have : (nI 0 + (-1 : Int32)).toInt = -1 := by decide
    omega
  | succ a => rw [n_d, n_lt (by omega) (by omega)]; rfl
theorem best_25 {rec_X8_throwers : Int32 → Int32 → Int32 → Int32 → (Nat → Int32) → (Nat → Int32) → (Nat → Int32) → (Nat → Int32) → (Nat → Int32) → (Nat → Int32) → (Nat → Int32) → (Nat → Int32) → (Nat → Int32) → (Nat → Int32) → (Nat → Int32) → (Nat → Int32) → (Nat → Int32) → (Nat → Int32) → (Nat → Int32) → Int32 → Int32 → Int32 → Option ((Nat → Int32) × Int32 × (Nat → Int32) × (Nat → Int32))} (st tr : Nat → Int32) (mo : Int32) : ∀ (m k : Nat) (be : Nat → Int32), k + m = 6 → ∃ be2, (∀ p, p < k → be2 p = be p) ∧ (∀ p, k ≤ p → p < 6 → be2 p = tr p) ∧ ∀ F, m < F → f_X8_throwers_25 rec_X8_throwers st tr F (nI k) mo be = some (st, mo, be2, tr) := by
  intro m
  induction m with
  | zero =>
    intro k be hk
    refine ⟨be, fun _ _ => rfl, fun p h1 h2 => by omega, fun F hF => ?_⟩
    obtain ⟨F, rfl⟩ : ∃ f, F = f + 1 := ⟨F - 1, by omega⟩
    obtain rfl : k = 6 := by omega
    unfold f_X8_throwers_25 f_X8_throwers_25_b
    rw [if_pos (by decide)]
  | succ m ih =>
    intro k be hk
    have hk6 : ¬ (6 : Int32) ≤ nI k := by rw [n_leT, n_toInt (by omega)]; show ¬ (6 : Int) ≤ k; omega
    obtain ⟨be2, g1, g2, g3⟩ := ih (k + 1) (upd be k (tr k)) (by omega)
    refine ⟨be2, fun p hp => ?_, fun p h1 h2 => ?_, fun F hF => ?_⟩
    · rw [g1 p (by omega), upd_ne (by omega)]
    · by_cases e : p = k
      · subst e
        rw [g1 p (by omega), upd_at]
      · exact g2 p (by omega) h2
    · obtain ⟨F, rfl⟩ : ∃ f, F = f + 1 := ⟨F - 1, by omega⟩
      unfold f_X8_throwers_25 f_X8_throwers_25_b
      rw [if_neg hk6, n_gd (by omega) (by omega), n_gd (by omega) (by omega), n_cl (by omega), n_s]
      exact g3 F (by omega)
/-- what a call of throwers comes to: it had a - 1 with best, it finds V -/
def TRn (n q : Nat) (a V : Nat) (R tr be : Nat → Int32) (o : (Nat → Int32) × Int32 × (Nat → Int32) × (Nat → Int32)) : Prop := ∃ a2 : Nat, o.2.1 = nI a2 + (-1 : Int32) ∧ (∀ p, p < q → o.2.2.2 p = tr p) ∧ ((a ≤ V ∧ a2 = V + 1 ∧ ∀ p, p < n → o.2.2.1 p = R p) ∨ (V < a ∧ a2 = a ∧ ∀ p, p < n → o.2.2.1 p = be p))
theorem throw8 {E : Nat → Nat → Nat} {n d : Nat} {holds : Int32} {de' bu' ha' clauses word begins length code ki' vs' number ro' : Nat → Int32} (hM : EM E n holds de' ha' clauses word begins length code ki' vs' number ro') (hP : EP E n de') (hn : n ≤ 6) (hd : d ≤ 20000) {who : Nat → Nat} (hwho : ∀ p, p < n → who p = if de' p = 1 ∧ bu' p = 0 then E p d else 0) (hfar : ∀ p, n ≤ p → who p = 0) : ∀ (m q u c dep : Nat), q + m = n → m < dep → u < 64 → c + m ≤ 100 → ∀ (a : Nat) (be tr st : Nat → Int32), a ≤ 200 → ∃ o, f_X8_throwers dep (nI n) (nI d) holds (nI a + (-1 : Int32)) de' bu' ha' clauses word begins length st code ki' vs' number ro' tr be (nI q) (nI u) (nI c) = some o ∧ TRn n q a (c + Mx who (6 - q) q u) (row6 who (6 - q) q u tr) tr be o := by
  have p6 := pow6 hn
  have hw64 : ∀ p, who p < 64 := by
    intro p
    by_cases hp : p < n
    · rw [hwho p hp]
      split
      · have := (hP p d hp hd).1; omega
      · omega
    · rw [hfar p (by omega)]; omega
  have hwn : ∀ p, who p < 2 ^ n := by
    intro p
    by_cases hp : p < n
    · rw [hwho p hp]
      split
      · exact (hP p d hp hd).1
      · exact Nat.two_pow_pos n
    · rw [hfar p (by omega)]; exact Nat.two_pow_pos n
  have hcout : ∀ q u i, n ≤ i → cw who q u i = false := by
    intro q u i hi
    unfold cw
    exact Nat.testBit_lt_two_pow (Nat.lt_of_lt_of_le (Nat.lt_of_le_of_lt Nat.and_le_left (hwn q)) (Nat.pow_le_pow_right (by omega) hi))
  have hMfar : ∀ j q u, n ≤ q → Mx who j q u = 0 := by
    intro j
    induction j with
    | zero => intro q u _; rfl
    | succ j ih =>
      intro q u hq
      show mr (cw who q u) _ (Mx who j (q + 1) u) 6 0 = 0
      rw [mr_out 6 0 (fun i _ => by
        unfold cw
        rw [hfar q hq, Nat.zero_and, Nat.zero_testBit])]
      exact ih (q + 1) u (by omega)
  intro m
  induction m with
  | zero =>
    intro q u c dep hq hdep hu hc a be tr st ha
    obtain ⟨dep, rfl⟩ : ∃ f, dep = f + 1 := ⟨dep - 1, by omega⟩
    obtain rfl : q = n := by omega
    rw [hMfar _ _ _ (Nat.le_refl q)]
    by_cases hac : a ≤ c
    · obtain ⟨be2, g1, g2, g3⟩ := best_25 (rec_X8_throwers := f_X8_throwers dep) st tr (nI c) 6 0 be (by omega)
      refine ⟨(st, nI c, be2, tr), ?_, c + 1, n_d.symm, fun _ _ => rfl, Or.inl ⟨by omega, rfl, fun p hp => ?_⟩⟩
      · unfold f_X8_throwers f_X8_throwers_b
        rw [if_pos rfl, if_pos (show nI a + (-1 : Int32) < nI c by rw [lt_am (by omega) (by omega)]; exact hac)]
        exact g3 1000 (by omega)
      · show be2 p = _
        rw [g2 p (by omega) (by omega), row6_keep _ _ _ _ _ _ hp]
    · refine ⟨(st, nI a + (-1 : Int32), be, tr), ?_, a, rfl, fun _ _ => rfl, Or.inr ⟨by omega, rfl, fun p hp => rfl⟩⟩
      unfold f_X8_throwers f_X8_throwers_b
      rw [if_pos rfl, if_neg (show ¬ nI a + (-1 : Int32) < nI c by rw [lt_am (by omega) (by omega)]; exact hac)]
  | succ m ihm =>
    intro q u c dep hq hdep hu hc a be tr st ha
    obtain ⟨dep, rfl⟩ : ∃ f, dep = f + 1 := ⟨dep - 1, by omega⟩
    obtain ⟨j, hj⟩ : ∃ j, 6 - q = j + 1 := ⟨6 - q - 1, by omega⟩
    have hj1 : 6 - (q + 1) = j := by omega
    have hlt : who q &&& (63 ^^^ u) < 64 := Nat.lt_of_le_of_lt Nat.and_le_left (hw64 q)
    have loop : ∀ (k t : Nat), t + k = n → ∀ F, k < F → ∀ (a : Nat) (be tr2 st : Nat → Int32), a ≤ 200 → (∀ p, p < q → tr2 p = tr p) → ∃ o, f_X8_throwers_94 (f_X8_throwers dep) (nI n) (nI d) holds de' bu' ha' clauses word begins length code ki' vs' number ro' (nI q) (nI u) (nI c) F (nI (who q &&& (63 ^^^ u))) (nI t) st (nI a + (-1 : Int32)) be tr2 = some o ∧ TRn n q a (c + (mr (cw who q u) (fun t => Mx who j (q + 1) (u ||| 2 ^ t) + 1) (Mx who j (q + 1) u) (k + (6 - n)) t)) ((fsf (cw who q u) (fun t => Mx who j (q + 1) (u ||| 2 ^ t) + 1) (mr (cw who q u) (fun t => Mx who j (q + 1) (u ||| 2 ^ t) + 1) (Mx who j (q + 1) u) (k + (6 - n)) t) (k + (6 - n)) t).elim (row6 who j (q + 1) u (upd tr q (-5))) (fun t => row6 who j (q + 1) (u ||| 2 ^ t) (upd tr q (nI t)))) tr be o := by
      intro k
      induction k with
      | zero =>
        intro t ht F hF a be tr2 st ha htr
        obtain ⟨F, rfl⟩ : ∃ f, F = f + 1 := ⟨F - 1, by omega⟩
        rw [mr_out _ _ (fun i hi => hcout q u i (by omega)), fsf_out _ _ (fun i hi => hcout q u i (by omega))]
        obtain ⟨o, h1, a2, h2, h3, h4⟩ := ihm (q + 1) u c dep (by omega) (by omega) hu (by omega) a be (upd tr2 q (-5)) st ha
        rw [hj1] at h4
        refine ⟨o, ?_, a2, h2, fun p hp => ?_, ?_⟩
        · unfold f_X8_throwers_94 f_X8_throwers_94_b
          rw [if_pos (by rw [n_le (by omega) (by omega)]; omega), n_gd (show q < 6 by omega) (by omega), n_cl (by omega), n_s, h1, Option.bind_some]
        · rw [h3 p (by omega), upd_ne (by omega), htr p hp]
        · rcases h4 with ⟨b1, b2, b3⟩ | ⟨b1, b2, b3⟩
          · refine Or.inl ⟨b1, b2, fun p hp => ?_⟩
            rw [b3 p hp]
            show row6 who j (q + 1) u (upd tr2 q (-5)) p = row6 who j (q + 1) u (upd tr q (-5)) p
            apply row6_same who j (q + 1) u _ _ (fun i hi => ?_) p (by omega)
            by_cases e : i = q
            · subst e; rw [upd_at, upd_at]
            · rw [upd_ne e, upd_ne e, htr i (by omega)]
          · exact Or.inr ⟨b1, b2, b3⟩
      | succ k ih =>
        intro t ht F hF a be tr2 st ha htr
        obtain ⟨F, rfl⟩ : ∃ f, F = f + 1 := ⟨F - 1, by omega⟩
        have hkt : ¬ nI n ≤ nI t := by rw [n_le (by omega) (by omega)]; omega
        have hbit : ((nI (who q &&& (63 ^^^ u)) >>> (nI t &&& 31)) &&& (1 : Int32)) = if cw who q u t then 1 else 0 := b_at ⟨_, hlt⟩ ⟨t, by omega⟩
        have hor : nI u ||| ((1 : Int32) <<< (nI t &&& 31)) = nI (u ||| 2 ^ t) := b_or ⟨u, hu⟩ ⟨t, by omega⟩
        rw [show k + 1 + (6 - n) = (k + (6 - n)) + 1 by omega]
        have e1 : (mr (cw who q u) (fun t => Mx who j (q + 1) (u ||| 2 ^ t) + 1) (Mx who j (q + 1) u) ((k + (6 - n)) + 1) t) = if cw who q u t then max (Mx who j (q + 1) (u ||| 2 ^ t) + 1) (mr (cw who q u) (fun t => Mx who j (q + 1) (u ||| 2 ^ t) + 1) (Mx who j (q + 1) u) (k + (6 - n)) (t + 1)) else (mr (cw who q u) (fun t => Mx who j (q + 1) (u ||| 2 ^ t) + 1) (Mx who j (q + 1) u) (k + (6 - n)) (t + 1)) := rfl
        have e2 : ∀ x, (fsf (cw who q u) (fun t => Mx who j (q + 1) (u ||| 2 ^ t) + 1) x ((k + (6 - n)) + 1) t) = if cw who q u t && decide (Mx who j (q + 1) (u ||| 2 ^ t) + 1 = x) then some t else (fsf (cw who q u) (fun t => Mx who j (q + 1) (u ||| 2 ^ t) + 1) x (k + (6 - n)) (t + 1)) := fun _ => rfl
        cases hcw : cw who q u t with
        | false =>
          obtain ⟨o, h1, h2⟩ := ih (t + 1) (by omega) F (by omega) a be tr2 st ha htr
          rw [hcw, if_neg Bool.false_ne_true] at e1
          rw [e1, e2, hcw, Bool.false_and, if_neg Bool.false_ne_true]
          refine ⟨o, ?_, h2⟩
          unfold f_X8_throwers_94 f_X8_throwers_94_b
          rw [if_neg hkt, hbit, hcw, if_pos (by rfl), n_s]
          exact h1
        | true =>
          rw [hcw, if_pos rfl] at e1
          obtain ⟨o1, x1, a1, x2, x3, x4⟩ := ihm (q + 1) (u ||| 2 ^ t) (c + 1) dep (by omega) (by omega) (or6 hu (by omega)) (by omega) a be (upd tr2 q (nI t)) st ha
          rw [hj1] at x4
          have hMl := Mx_le who j (q + 1) (u ||| 2 ^ t)
          have ha1 : a1 ≤ 200 := by rcases x4 with ⟨_, y, _⟩ | ⟨_, y, _⟩ <;> omega
          obtain ⟨s1, m1, be1, tr1⟩ := o1
          have htr1 : ∀ p, p < q → tr1 p = tr p := fun p hp => by
            have := x3 p (by omega)
            rw [upd_ne (by omega), htr p hp] at this
            exact this
          obtain ⟨o, h1, a2, h2, h3, h4⟩ := ih (t + 1) (by omega) F (by omega) a1 be1 tr1 s1 ha1 htr1
          have hx2 : m1 = nI a1 + (-1 : Int32) := x2
          have hrow : ∀ p, p < n → row6 who j (q + 1) (u ||| 2 ^ t) (upd tr2 q (nI t)) p = row6 who j (q + 1) (u ||| 2 ^ t) (upd tr q (nI t)) p := fun p hp => by
            apply row6_same who j (q + 1) _ _ _ (fun i hi => ?_) p (by omega)
            by_cases e : i = q
            · subst e; rw [upd_at, upd_at]
            · rw [upd_ne e, upd_ne e, htr i (by omega)]
          refine ⟨o, ?_, a2, h2, h3, ?_⟩
          · unfold f_X8_throwers_94 f_X8_throwers_94_b
            rw [if_neg hkt, hbit, hcw, if_neg (by exact i_10), n_gd (show q < 6 by omega) (by omega), n_cl (by omega), hor, n_s, n_s, x1, Option.bind_some, n_s]
            dsimp only
            rw [hx2]
            exact h1
          · rw [e1]
            generalize hR : (mr (cw who q u) (fun t => Mx who j (q + 1) (u ||| 2 ^ t) + 1) (Mx who j (q + 1) u) (k + (6 - n)) (t + 1)) = R at h4 e1 ⊢
            generalize hV : Mx who j (q + 1) (u ||| 2 ^ t) = V at x4 e1 ⊢
            rcases x4 with ⟨b1, b2, b3⟩ | ⟨b1, b2, b3⟩
            · rcases h4 with ⟨d1, d2, d3⟩ | ⟨d1, d2, d3⟩
              · -- a later one is better
                have hmx : max (V + 1) R = R := Nat.max_eq_right (by omega)
                rw [hmx, e2, hcw, Bool.true_and, hV, decide_eq_false (by omega), if_neg Bool.false_ne_true]
                exact Or.inl ⟨by omega, d2, d3⟩
              · have hmx : max (V + 1) R = V + 1 := Nat.max_eq_left (by omega)
                rw [hmx, e2, hcw, Bool.true_and, hV, decide_eq_true rfl, if_pos rfl]
                refine Or.inl ⟨by omega, by omega, fun p hp => ?_⟩
                rw [d3 p hp]
                exact (b3 p hp).trans (hrow p hp)
            · rcases h4 with ⟨d1, d2, d3⟩ | ⟨d1, d2, d3⟩
              · have hmx : max (V + 1) R = R := Nat.max_eq_right (by omega)
                rw [hmx, e2, hcw, Bool.true_and, hV, decide_eq_false (by omega), if_neg Bool.false_ne_true]
                exact Or.inl ⟨by omega, d2, d3⟩
              · refine Or.inr ⟨?_, by omega, fun p hp => ?_⟩
                · have : max (V + 1) R = V + 1 ∨ max (V + 1) R = R := by omega
                  rcases this with h | h <;> rw [h] <;> omega
                · rw [d3 p hp]
                  exact b3 p hp
    have fin : ∀ st2, ∃ o, f_X8_throwers_94 (f_X8_throwers dep) (nI n) (nI d) holds de' bu' ha' clauses word begins length code ki' vs' number ro' (nI q) (nI u) (nI c) 1000 (nI (who q &&& (63 ^^^ u))) 0 st2 (nI a + (-1 : Int32)) be tr = some o ∧ TRn n q a (c + Mx who (6 - q) q u) (row6 who (6 - q) q u tr) tr be o := by
      intro st2
      obtain ⟨o, h1, h2⟩ := loop n 0 (by omega) 1000 (by omega) a be tr st2 ha (fun _ _ => rfl)
      rw [show n + (6 - n) = 6 by omega] at h2
      rw [hj]
      exact ⟨o, h1, h2⟩
    have hqn : ¬ nI q = nI n := by rw [n_eq (by omega) (by omega)]; omega
    have hwq := hwho q (by omega)
    by_cases h1 : de' q = 1
    · by_cases h2 : bu' q = 0
      · rw [if_pos ⟨h1, h2⟩] at hwq
        obtain ⟨st2, h3⟩ := hM q d (by omega) hd st
        obtain ⟨o, h4, h5⟩ := fin st2
        refine ⟨o, ?_, h5⟩
        unfold f_X8_throwers f_X8_throwers_b
        rw [if_neg hqn, n_gd (show q < 6 by omega) (by omega), n_cl (by omega), if_pos h1, n_gd (show q < 6 by omega) (by omega), if_pos h2, h3, Option.bind_some]
        dsimp only [nm]
        rw [← hwq, show nI (who q) &&& (nI u ^^^ (-1 : Int32)) = nI (who q &&& (63 ^^^ u)) from b_not ⟨_, hw64 q⟩ ⟨u, hu⟩]
        exact h4
      · rw [if_neg (fun h => h2 h.2)] at hwq
        obtain ⟨o, h4, h5⟩ := fin st
        rw [hwq, Nat.zero_and] at h4
        refine ⟨o, ?_, h5⟩
        unfold f_X8_throwers f_X8_throwers_b
        rw [if_neg hqn, n_gd (show q < 6 by omega) (by omega), n_cl (by omega), if_pos h1, n_gd (show q < 6 by omega) (by omega), if_neg h2]
        exact h4
    · rw [if_neg (fun h => h1 h.1)] at hwq
      obtain ⟨o, h4, h5⟩ := fin st
      rw [hwq, Nat.zero_and] at h4
      refine ⟨o, ?_, h5⟩
      unfold f_X8_throwers f_X8_throwers_b
      rw [if_neg hqn, n_gd (show q < 6 by omega) (by omega), n_cl (by omega), if_neg h1]
      exact h4
