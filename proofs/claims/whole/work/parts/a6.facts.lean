/-- how many of six bits -/
def bc (s : Nat) : Nat := (if s.testBit 0 then 1 else 0) + (if s.testBit 1 then 1 else 0) + (if s.testBit 2 then 1 else 0) + (if s.testBit 3 then 1 else 0) + (if s.testBit 4 then 1 else 0) + (if s.testBit 5 then 1 else 0)
theorem bc_is : ∀ s : Fin 64, f_J6_bitCount_0f7a4 (nI s.1) = some (nI (bc s.1)) := by decide +kernel
theorem bc_le : ∀ s : Fin 64, bc s.1 ≤ 6 := by decide +kernel
/-- whether all from k on are so -/
def alf (pr : Nat → Bool) : Nat → Nat → Bool
  | 0, _ => true
  | m + 1, k => pr k && alf pr m (k + 1)
theorem alf_more {pr : Nat → Bool} {n : Nat} (h : ∀ p, n ≤ p → pr p = true) : ∀ (b a k : Nat), k + a = n → alf pr (a + b) k = alf pr a k := by
  intro b a
  induction a with
  | zero =>
    intro k hk
    have : ∀ (b k : Nat), n ≤ k → alf pr b k = true := by
      intro b
      induction b with
      | zero => intro k _; rfl
      | succ b ih =>
        intro k hk
        show (pr k && alf pr b (k + 1)) = true
        rw [h k hk, ih (k + 1) (by omega)]
        rfl
    rw [Nat.zero_add, this b k (by omega)]
    rfl
  | succ a ih =>
    intro k hk
    rw [show a + 1 + b = (a + b) + 1 by omega]
    show (pr k && alf pr (a + b) (k + 1)) = (pr k && alf pr a (k + 1))
    rw [ih (k + 1) (by omega)]
theorem enough7 {U s : Nat} {en : Nat → Int32} {pr : Nat → Bool} (hU : U < 64) (h : ∀ p, p < 6 → (pr p = false ↔ (U.testBit p = true ∧ (en p &&& nI s) = 0))) : ∀ (m k F : Nat), k + m = 6 → m < F → f_X1_isEnough_2 en (nI s) (nI U) F (nI k) = some (if alf pr m k then 1 else 0) := by
  intro m
  induction m with
  | zero =>
    intro k F hk hF
    obtain ⟨F, rfl⟩ : ∃ f, F = f + 1 := ⟨F - 1, by omega⟩
    obtain rfl : k = 6 := by omega
    unfold f_X1_isEnough_2 f_X1_isEnough_2_b
    rw [if_pos (by decide)]
    rfl
  | succ m ih =>
    intro k F hk hF
    obtain ⟨F, rfl⟩ : ∃ f, F = f + 1 := ⟨F - 1, by omega⟩
    have hk6 : ¬ (6 : Int32) ≤ nI k := by rw [n_leT, n_toInt (by omega)]; show ¬ (6 : Int) ≤ k; omega
    have nx := ih (k + 1) F (by omega) (by omega)
    have e1 : alf pr (m + 1) k = (pr k && alf pr m (k + 1)) := rfl
    unfold f_X1_isEnough_2 f_X1_isEnough_2_b
    rw [if_neg hk6, bit_is hU (by omega), Option.bind_some, n_gd (by omega) (by omega), n_cl (by omega), n_s, e1]
    by_cases hp : pr k = false
    · obtain ⟨a, b⟩ := (h k (by omega)).mp hp
      rw [a, if_pos (by rfl), if_pos b, hp]
      rfl
    · have hp1 : pr k = true := by
        cases e : pr k with
        | false => exact absurd e hp
        | true => rfl
      rw [hp1, Bool.true_and, ← nx]
      by_cases a : U.testBit k = true
      · rw [a, if_pos (by rfl), if_neg (fun b => hp ((h k (by omega)).mpr ⟨a, b⟩))]
      · rw [Bool.not_eq_true] at a
        rw [a, if_neg (by decide)]
theorem enough8 {E : Nat → Nat → Nat} {n d s : Nat} {holds : Int32} {de' ha' clauses word begins length code ki' vs' number ro' : Nat → Int32} (hE : EM E n holds de' ha' clauses word begins length code ki' vs' number ro') (hn : n ≤ 6) (hd : d ≤ 20000) {pr : Nat → Bool} (h : ∀ p, p < n → (pr p = false ↔ (de' p = 0 ∧ (nI (E p d) &&& nI s) = 0))) : ∀ (m k F : Nat), k + m = n → m < F → ∀ st, ∃ st2, f_X8_keepsAll_2 (nI n) (nI d) holds de' ha' clauses word begins length code ki' vs' number ro' (nI s) F (nI k) st = some ((if alf pr m k then 1 else 0), st2) := by
  intro m
  induction m with
  | zero =>
    intro k F hk hF st
    obtain ⟨F, rfl⟩ : ∃ f, F = f + 1 := ⟨F - 1, by omega⟩
    obtain rfl : k = n := by omega
    refine ⟨st, ?_⟩
    unfold f_X8_keepsAll_2 f_X8_keepsAll_2_b
    rw [if_pos (by rw [n_le (by omega) (by omega)]; omega)]
    rfl
  | succ m ih =>
    intro k F hk hF st
    obtain ⟨F, rfl⟩ : ∃ f, F = f + 1 := ⟨F - 1, by omega⟩
    have hk6 : ¬ nI n ≤ nI k := by rw [n_le (by omega) (by omega)]; omega
    have e1 : alf pr (m + 1) k = (pr k && alf pr m (k + 1)) := rfl
    conv => enter [1, st2]; lhs; unfold f_X8_keepsAll_2 f_X8_keepsAll_2_b
    rw [if_neg hk6, n_gd (by omega) (by omega), n_cl (by omega), e1]
    by_cases h0 : de' k = 0
    · obtain ⟨st1, h1⟩ := hE k d (by omega) hd st
      rw [if_pos h0, h1, Option.bind_some]
      by_cases hp : pr k = false
      · refine ⟨st1, ?_⟩
        rw [if_pos ((h k (by omega)).mp hp).2, hp]
        rfl
      · have hp1 : pr k = true := by
          cases e : pr k with
          | false => exact absurd e hp
          | true => rfl
        obtain ⟨st2, nx⟩ := ih (k + 1) F (by omega) (by omega) st1
        refine ⟨st2, ?_⟩
        rw [if_neg (fun b => hp ((h k (by omega)).mpr ⟨h0, b⟩)), hp1, Bool.true_and, n_s]
        exact nx
    · have hp1 : pr k = true := by
        cases e : pr k with
        | false => exact absurd ((h k (by omega)).mp e).1 h0
        | true => rfl
      obtain ⟨st2, nx⟩ := ih (k + 1) F (by omega) (by omega) st
      refine ⟨st2, ?_⟩
      rw [if_neg h0, hp1, Bool.true_and, n_s]
      exact nx
theorem out_same : ∀ (n : Fin 7) (s D : Fin 64), s.1 < 2 ^ n.1 → D.1 < 2 ^ n.1 → s.1 &&& (63 ^^^ alv n.1 D.1) = s.1 &&& D.1 := by decide +kernel
theorem out_far : ∀ (n : Fin 7) (s D : Fin 64), 2 ^ n.1 ≤ s.1 → D.1 < 2 ^ n.1 → s.1 &&& (63 ^^^ alv n.1 D.1) ≠ 0 := by decide +kernel
/-- the best set and how many it has, as the class keeps them -/
def BF (bv : Int32) (f : Nat) : Prop := (bv = -5 ∧ f = 7) ∨ ∃ t, t < 64 ∧ bv = nI t ∧ f = bc t
theorem keep7_far {n D : Nat} (hn : n ≤ 6) (hD : D < 2 ^ n) (bv : Int32) (f : Nat) (en fa : Nat → Int32) : ∀ (m s F : Nat), s + m = 64 → 2 ^ n ≤ s → m < F → f_X1_keep_21 F (nI (alv n D)) bv (nI f) (nI s) en fa = some (bv, en, fa) := by
  have p6 := pow6 hn
  intro m
  induction m with
  | zero =>
    intro s F hs h2 hF
    obtain ⟨F, rfl⟩ : ∃ f, F = f + 1 := ⟨F - 1, by omega⟩
    obtain rfl : s = 64 := by omega
    unfold f_X1_keep_21 f_X1_keep_21_b
    rw [if_pos (by decide)]
  | succ m ih =>
    intro s F hs h2 hF
    obtain ⟨F, rfl⟩ : ∃ f, F = f + 1 := ⟨F - 1, by omega⟩
    have hk6 : ¬ (64 : Int32) ≤ nI s := by rw [n_leT, n_toInt (by omega)]; show ¬ (64 : Int) ≤ s; omega
    have hU6 : alv n D < 64 := Nat.lt_of_lt_of_le alv_lt p6
    have ho := out_far ⟨n, by omega⟩ ⟨s, by omega⟩ ⟨D, by omega⟩ h2 hD
    have hb : nI s &&& (nI (alv n D) ^^^ (-1 : Int32)) = nI (s &&& (63 ^^^ alv n D)) := b_not ⟨s, by omega⟩ ⟨_, hU6⟩
    have hlt : s &&& (63 ^^^ alv n D) < 64 := Nat.lt_of_le_of_lt Nat.and_le_left (by omega)
    unfold f_X1_keep_21 f_X1_keep_21_b
    rw [if_neg hk6, bc_is ⟨s, by omega⟩, Option.bind_some, hb, if_neg (by rw [n_eq0 (by omega)]; exact ho), n_s]
    exact ih (s + 1) F (by omega) (by omega) (by omega)
theorem keep_loop {E : Nat → Nat → Nat} {n d D : Nat} {holds : Int32} {de' ha' clauses word begins length code ki' vs' number ro' en : Nat → Int32} (hM : EM E n holds de' ha' clauses word begins length code ki' vs' number ro') (hP : EP E n de') (hn : n ≤ 6) (hd : d ≤ 20000) (hD : D < 2 ^ n) (hB : ∀ p, p < n → de' p = if D.testBit p then 1 else 0) (hen : ∀ p, p < 6 → en p = nI (if (alv n D).testBit p then E p d else 0)) (fa : Nat → Int32) : ∀ (m s : Nat) (bv : Int32) (f : Nat), s + m = 2 ^ n → BF bv f → ∃ r, ∀ F F', 64 + m < F → m < F' → ∀ st, ∃ st2, f_X1_keep_21 F (nI (alv n D)) bv (nI f) (nI s) en fa = some (r, en, fa) ∧ f_X8_keepers_10 (nI n) (nI d) holds de' ha' clauses word begins length code ki' vs' number ro' F' bv (nI D) (nI s) st = some (r, st2) := by
  have p6 := pow6 hn
  have hU6 : alv n D < 64 := Nat.lt_of_lt_of_le alv_lt p6
  have hsh : ((1 : Int32) <<< (nI n &&& 31)) = nI (2 ^ n) := by
    have : ∀ n : Fin 7, ((1 : Int32) <<< (nI n.1 &&& 31)) = nI (2 ^ n.1) := by decide +kernel
    exact this ⟨n, by omega⟩
  intro m
  induction m with
  | zero =>
    intro s bv f hs hbf
    refine ⟨bv, fun F F' hF hF' st => ⟨st, keep7_far hn hD bv f en fa (64 - s) s F (by omega) (by omega) (by omega), ?_⟩⟩
    obtain ⟨F', rfl⟩ : ∃ f, F' = f + 1 := ⟨F' - 1, by omega⟩
    unfold f_X8_keepers_10 f_X8_keepers_10_b
    rw [hsh, if_pos (by rw [n_le (by omega) (by omega)]; omega)]
  | succ m ih =>
    intro s bv f hs hbf
    have hk6 : ¬ (64 : Int32) ≤ nI s := by rw [n_leT, n_toInt (by omega)]; show ¬ (64 : Int) ≤ s; omega
    have hk8 : ¬ nI (2 ^ n) ≤ nI s := by rw [n_le (by omega) (by omega)]; omega
    have hs64 : s < 64 := by omega
    have ho := out_same ⟨n, by omega⟩ ⟨s, hs64⟩ ⟨D, by omega⟩ (by show s < 2 ^ n; omega) hD
    have hb : nI s &&& (nI (alv n D) ^^^ (-1 : Int32)) = nI (s &&& D) := (b_not ⟨s, hs64⟩ ⟨_, hU6⟩).trans (congrArg nI ho)
    have hlt : s &&& D < 64 := Nat.lt_of_le_of_lt Nat.and_le_left (by omega)
    have hbs := bc_le ⟨s, hs64⟩
    have hbi : f_J6_bitCount_0f7a4 (nI s) = some (nI (bc s)) := bc_is ⟨s, hs64⟩
    have hf7 : f ≤ 7 := by
      rcases hbf with ⟨_, h⟩ | ⟨t, ht, _, h⟩
      · omega
      · have := bc_le ⟨t, ht⟩; simp only at this; omega
    simp only at hbs
    -- is it enough
    have k7 : ∀ p, p < 6 → ((!(decide (p < n) && ((alv n D).testBit p && decide ((nI (E p d) &&& nI s) = 0)))) = false ↔ ((alv n D).testBit p = true ∧ (en p &&& nI s) = 0)) := by
      intro p hp
      rw [hen p hp]
      by_cases hpn : p < n
      · rw [decide_eq_true hpn, Bool.true_and, Bool.not_eq_false', Bool.and_eq_true, decide_eq_true_iff]
        constructor
        · rintro ⟨a, b⟩
          rw [a, if_pos rfl]
          exact ⟨rfl, b⟩
        · rintro ⟨a, b⟩
          rw [a, if_pos rfl] at b
          exact ⟨a, b⟩
      · rw [decide_eq_false hpn, Bool.false_and]
        exact ⟨fun h => (Bool.false_ne_true h.symm).elim, fun ⟨a, _⟩ => absurd (bit_lt alv_lt a) hpn⟩
    have k8 : ∀ p, p < n → ((!(decide (p < n) && ((alv n D).testBit p && decide ((nI (E p d) &&& nI s) = 0)))) = false ↔ (de' p = 0 ∧ (nI (E p d) &&& nI s) = 0)) := by
      intro p hp
      rw [decide_eq_true hp, Bool.true_and, Bool.not_eq_false', Bool.and_eq_true, decide_eq_true_iff, alv_at hp hn, hB p hp]
      cases D.testBit p <;> simp
    have e7 := enough7 hU6 k7 6 0 1000 (by omega) (by omega)
    have e8 := enough8 hM hn hd k8 n 0 1000 (by omega) (by omega)
    rw [show (6 : Nat) = n + (6 - n) by omega, alf_more (n := n) (fun p hp => by
      show (!(decide (p < n) && _)) = true
      rw [decide_eq_false (by omega), Bool.false_and]
      rfl) (6 - n) n 0 (by omega)] at e7
    generalize alf (fun p => !(decide (p < n) && ((alv n D).testBit p && decide ((nI (E p d) &&& nI s) = 0)))) n 0 = b at e7 e8
    obtain ⟨r1, i1⟩ := ih (s + 1) bv f (by omega) hbf
    obtain ⟨r2, i2⟩ := ih (s + 1) (nI s) (bc s) (by omega) (Or.inr ⟨s, hs64, rfl, rfl⟩)
    by_cases h0 : s &&& D = 0
    · have h00 : nI (s &&& D) = (0 : Int32) := by rw [h0]; rfl
      by_cases hfb : f ≤ bc s
      · -- no smaller
        obtain ⟨t, ht, hbv, hft⟩ : ∃ t, t < 64 ∧ bv = nI t ∧ f = bc t := by
          rcases hbf with ⟨_, h⟩ | h
          · omega
          · exact h
        have hbt : f_J6_bitCount_0f7a4 bv = some (nI f) := by rw [hbv, hft]; exact bc_is ⟨t, ht⟩
        refine ⟨r1, fun F F' hF hF' st => ?_⟩
        obtain ⟨F, rfl⟩ : ∃ f, F = f + 1 := ⟨F - 1, by omega⟩
        obtain ⟨F', rfl⟩ : ∃ f, F' = f + 1 := ⟨F' - 1, by omega⟩
        obtain ⟨st2, x, y⟩ := i1 F F' (by omega) (by omega) st
        have hle : nI f ≤ nI (bc s) := by rw [n_le (by omega) (by omega)]; exact hfb
        refine ⟨st2, ?_, ?_⟩
        · unfold f_X1_keep_21 f_X1_keep_21_b
          rw [if_neg hk6, hbi, Option.bind_some, hb, if_pos h00, if_pos hle, n_s]
          exact x
        · unfold f_X8_keepers_10 f_X8_keepers_10_b
          rw [hsh, if_neg hk8, x_and, if_pos h00, if_neg (by rw [hbv]; exact eq_nay (c := -5) (by show (t : Int) ≠ -5; omega) (by omega)), hbi, Option.bind_some, hbt, Option.bind_some, if_pos hle, n_s]
          exact y
      · have hle : ¬ nI f ≤ nI (bc s) := by rw [n_le (by omega) (by omega)]; exact hfb
        have h43 : ∀ F' st, f_X8_keepers_10 (nI n) (nI d) holds de' ha' clauses word begins length code ki' vs' number ro' (F' + 1) bv (nI D) (nI s) st = f_X8_keepers_43 (nI n) (nI d) holds de' ha' clauses word begins length code ki' vs' number ro' (f_X8_keepers_10 (nI n) (nI d) holds de' ha' clauses word begins length code ki' vs' number ro' F') bv (nI D) (nI s) st := by
          intro F' st
          conv => lhs; unfold f_X8_keepers_10 f_X8_keepers_10_b
          rw [hsh, if_neg hk8, x_and, if_pos h00]
          rcases hbf with ⟨h, _⟩ | ⟨t, ht, hbv, hft⟩
          · rw [if_pos h]
          · have hbt : f_J6_bitCount_0f7a4 bv = some (nI f) := by rw [hbv, hft]; exact bc_is ⟨t, ht⟩
            rw [if_neg (by rw [hbv]; exact eq_nay (c := -5) (by show (t : Int) ≠ -5; omega) (by omega)), hbi, Option.bind_some, hbt, Option.bind_some, if_neg hle]
        cases b with
        | false =>
          refine ⟨r1, fun F F' hF hF' st => ?_⟩
          obtain ⟨F, rfl⟩ : ∃ f, F = f + 1 := ⟨F - 1, by omega⟩
          obtain ⟨F', rfl⟩ : ∃ f, F' = f + 1 := ⟨F' - 1, by omega⟩
          obtain ⟨st1, z⟩ := e8 st
          obtain ⟨st2, x, y⟩ := i1 F F' (by omega) (by omega) st1
          refine ⟨st2, ?_, ?_⟩
          · unfold f_X1_keep_21 f_X1_keep_21_b f_X1_isEnough
            rw [if_neg hk6, hbi, Option.bind_some, hb, if_pos h00, if_neg hle, show f_X1_isEnough_2 en (nI s) (nI (alv n D)) 1000 0 = _ from e7, Option.bind_some, if_pos (by rfl), n_s]
            exact x
          · rw [h43]
            unfold f_X8_keepers_43 f_X8_keepsAll
            rw [show f_X8_keepsAll_2 (nI n) (nI d) holds de' ha' clauses word begins length code ki' vs' number ro' (nI s) 1000 0 st = _ from z, Option.bind_some, if_pos (by rfl), n_s]
            exact y
        | true =>
          refine ⟨r2, fun F F' hF hF' st => ?_⟩
          obtain ⟨F, rfl⟩ : ∃ f, F = f + 1 := ⟨F - 1, by omega⟩
          obtain ⟨F', rfl⟩ : ∃ f, F' = f + 1 := ⟨F' - 1, by omega⟩
          obtain ⟨st1, z⟩ := e8 st
          obtain ⟨st2, x, y⟩ := i2 F F' (by omega) (by omega) st1
          refine ⟨st2, ?_, ?_⟩
          · unfold f_X1_keep_21 f_X1_keep_21_b f_X1_isEnough
            rw [if_neg hk6, hbi, Option.bind_some, hb, if_pos h00, if_neg hle, show f_X1_isEnough_2 en (nI s) (nI (alv n D)) 1000 0 = _ from e7, Option.bind_some, if_neg (by exact i_10), n_s]
            exact x
          · rw [h43]
            unfold f_X8_keepers_43 f_X8_keepsAll
            rw [show f_X8_keepsAll_2 (nI n) (nI d) holds de' ha' clauses word begins length code ki' vs' number ro' (nI s) 1000 0 st = _ from z, Option.bind_some, if_neg (by exact i_10), n_s]
            exact y
    · have h00 : ¬ nI (s &&& D) = (0 : Int32) := by rw [n_eq0 (by omega)]; exact h0
      refine ⟨r1, fun F F' hF hF' st => ?_⟩
      obtain ⟨F, rfl⟩ : ∃ f, F = f + 1 := ⟨F - 1, by omega⟩
      obtain ⟨F', rfl⟩ : ∃ f, F' = f + 1 := ⟨F' - 1, by omega⟩
      obtain ⟨st2, x, y⟩ := i1 F F' (by omega) (by omega) st
      refine ⟨st2, ?_, ?_⟩
      · unfold f_X1_keep_21 f_X1_keep_21_b
        rw [if_neg hk6, hbi, Option.bind_some, hb, if_neg h00, n_s]
        exact x
      · unfold f_X8_keepers_10 f_X8_keepers_10_b
        rw [hsh, if_neg hk8, x_and, if_neg h00, n_s]
        exact y
theorem keep_eq {E : Nat → Nat → Nat} {n d D : Nat} {ha vs ki : Nat → Int32} {len need : Int32} {steps numbers ro : Nat → Int32} {holds : Int32} {de' ha' clauses word begins length code ki' vs' number ro' : Nat → Int32} (hC : EC E n (nI D) ha vs ki len need steps numbers ro) (hM : EM E n holds de' ha' clauses word begins length code ki' vs' number ro') (hP : EP E n de') (hn : n ≤ 6) (hd : d ≤ 20000) (hD : D < 2 ^ n) (hBR : BR n (nI D) de') (hB : ∀ p, p < n → de' p = if D.testBit p then 1 else 0) (en fa st : Nat → Int32) : ∃ r en2 fa2 st2, f_X1_keep (nI n) (nI d) (nI D) en ha vs ki fa len need steps numbers ro = some (r, en2, fa2) ∧ f_X8_keepers (nI n) (nI d) holds de' ha' clauses word begins length st code ki' vs' number ro' = some (r, st2) := by
  obtain ⟨en2, fa2, h1, h2⟩ := find_is hC hn hd (alv_lt (n := n) (D := D)) en fa
  obtain ⟨r, hr⟩ := keep_loop hM hP hn hd hD hB h2 fa2 (2 ^ n) 0 (-5) 7 (by omega) (Or.inl ⟨rfl, rfl⟩)
  have p6 := pow6 hn
  obtain ⟨st2, x, y⟩ := hr 1000 1000 (by omega) (by omega) st
  refine ⟨r, en2, fa2, st2, ?_, ?_⟩
  · unfold f_X1_keep
    rw [alive_is hn hD, Option.bind_some, h1, Option.bind_some]
    exact x
  · unfold f_X8_keepers
    rw [(hBR.dead hn).1, Option.bind_some]
    exact y
