-- PURE: numbers
theorem n_lit (n : Nat) : (OfNat.ofNat n : Int32) = nI n := rfl
theorem n_gd {α : Type} {k n : Nat} {X : Option α} (h : k < n) (hn : n < 2 ^ 31) : gd (nI k) n X = X := gd_in (vp_in_nI h hn)
theorem n_lt {a b : Nat} (ha : a < 2 ^ 31) (hb : b < 2 ^ 31) : (nI a < nI b) = (a < b) := propext (nI_ltI ha hb)
theorem n_le {a b : Nat} (ha : a < 2 ^ 31) (hb : b < 2 ^ 31) : (nI a ≤ nI b) = (a ≤ b) := propext (nI_leI ha hb)
theorem n_eq {a b : Nat} (ha : a < 2 ^ 31) (hb : b < 2 ^ 31) : (nI a = nI b) = (a = b) := propext (nI_eq ha hb)
theorem n_toInt {n : Nat} (h : n < 2 ^ 31) : (nI n).toInt = (n : Int) := nI_toInt h
theorem n_cl {n : Nat} (h : n < 2 ^ 31) : (nI n).toNatClampNeg = n := nI_clamp h
theorem n_ltT (x y : Int32) : (x < y) = (x.toInt < y.toInt) := propext Int32.lt_iff_toInt_lt
theorem n_leT (x y : Int32) : (x ≤ y) = (x.toInt ≤ y.toInt) := propext Int32.le_iff_toInt_le
theorem n_of {x : Int32} {m : Nat} (h0 : 0 ≤ x.toInt) (h1 : x.toInt < m) (hm : m ≤ 2 ^ 31) : ∃ j, j < m ∧ x = nI j := by
  refine ⟨x.toInt.toNat, by omega, ?_⟩
  apply Int32.toInt_inj.mp
  rw [nI_toInt (by omega)]
  omega
/-- a number is below m, or it isn't -/
theorem n_cases (x : Int32) (m : Nat) (hm : m ≤ 2 ^ 31) : (∃ j, j < m ∧ x = nI j) ∨ (x.toInt < 0 ∨ (m : Int) ≤ x.toInt) := by
  by_cases h0 : 0 ≤ x.toInt
  · by_cases h1 : x.toInt < m
    · exact Or.inl (n_of h0 h1 hm)
    · exact Or.inr (Or.inr (by omega))
  · exact Or.inr (Or.inl (by omega))
-- people: is it one of ours
theorem has_yes {n j : Nat} (h : j < n) (hn : n ≤ 6) : f_X6_has (nI n) (nI j) = some 1 := by
  unfold f_X6_has
  rw [if_neg (by rw [n_ltT, n_toInt (by omega)]; show ¬ (j : Int) < 0; omega), if_neg (by rw [n_le (by omega) (by omega)]; omega)]
theorem has_no {n : Nat} {x : Int32} (h : x.toInt < 0 ∨ (n : Int) ≤ x.toInt) (hn : n ≤ 6) : f_X6_has (nI n) x = some 0 := by
  unfold f_X6_has
  by_cases h0 : x < 0
  · rw [if_pos h0]
  · rw [if_neg h0, if_pos]
    rw [n_ltT] at h0
    rw [n_leT, n_toInt (by omega)]
    have : (0 : Int32).toInt = 0 := rfl
    omega
theorem within_yes {x : Int32} {lo hi : Int32} (h1 : lo.toInt ≤ x.toInt) (h2 : x.toInt ≤ hi.toInt) : f_X8_within x lo hi = some 1 := by
  unfold f_X8_within
  rw [if_neg (by rw [n_ltT]; omega), if_neg (by rw [n_ltT]; omega)]
theorem within_no {x : Int32} {lo hi : Int32} (h : x.toInt < lo.toInt ∨ hi.toInt < x.toInt) : f_X8_within x lo hi = some 0 := by
  unfold f_X8_within
  by_cases h1 : x < lo
  · rw [if_pos h1]
  · rw [if_neg h1, if_pos]
    rw [n_ltT] at h1 ⊢
    omega
theorem n_m1 {n : Nat} (hn : n ≤ 1000) : (nI n - (1 : Int32)).toInt = (n : Int) - 1 := by
  rw [Int32.toInt_sub, n_toInt (by omega), show (1 : Int32).toInt = 1 from rfl, Int.bmod_eq_of_le (by omega) (by omega)]
theorem bz_01 : vp_nar .boolean (0 : Int32) = 0 := by decide
theorem bz_1 : vp_nar .boolean (1 : Int32) = 1 := by decide
theorem gn_b0 {α : Type} {X : Option α} : gn .boolean (0 : Int32) X = X := if_pos bz_01
theorem gn_b1 {α : Type} {X : Option α} : gn .boolean (1 : Int32) X = X := if_pos bz_1
theorem isOne_yes {n j : Nat} (h : j < n) (hn : n ≤ 6) : f_X8_isOne (nI n) (nI j) = some 1 := by
  unfold f_X8_isOne
  rw [within_yes (by rw [n_toInt (by omega)]; show (0 : Int) ≤ j; omega) (by rw [n_toInt (by omega), n_m1 (by omega)]; omega)]
  exact gn_b1
theorem isOne_no {n : Nat} {x : Int32} (h : x.toInt < 0 ∨ (n : Int) ≤ x.toInt) (hn : n ≤ 6) : f_X8_isOne (nI n) x = some 0 := by
  unfold f_X8_isOne
  rw [within_no (by rw [n_m1 (by omega)]; show x.toInt < 0 ∨ _; omega)]
  exact gn_b0
theorem i_10 : ¬ ((1 : Int32) = 0) := by decide
theorem are_yes {n i j : Nat} (h1 : i < n) (h2 : j < n) (hn : n ≤ 6) : f_X8_are (nI n) (nI i) (nI j) = some 1 := by
  unfold f_X8_are
  rw [isOne_yes h1 hn, Option.bind_some, if_neg i_10, isOne_yes h2 hn, Option.bind_some, if_neg i_10]
theorem are_no1 {n : Nat} {x y : Int32} (h : x.toInt < 0 ∨ (n : Int) ≤ x.toInt) (hn : n ≤ 6) : f_X8_are (nI n) x y = some 0 := by
  unfold f_X8_are
  rw [isOne_no h hn, Option.bind_some, if_pos rfl]
theorem are_no2 {n i : Nat} {y : Int32} (h1 : i < n) (h : y.toInt < 0 ∨ (n : Int) ≤ y.toInt) (hn : n ≤ 6) : f_X8_are (nI n) (nI i) y = some 0 := by
  unfold f_X8_are
  rw [isOne_yes h1 hn, Option.bind_some, if_neg i_10, isOne_no h hn, Option.bind_some, if_pos rfl]
-- THE RELATION of class and reference
/-- the bits of de are the people p with de' p = 1 -/
def BR (n : Nat) (de : Int32) (de' : Nat → Int32) : Prop := ∃ D : Nat, D < 2 ^ n ∧ de = nI D ∧ ∀ p, p < n → de' p = if D.testBit p then 1 else 0
/-- a village of n people on day d; bd bounds day and THROWN -/
def VR (bd n d : Nat) (pe da de bu : Int32) (ki vs th ha ro : Nat → Int32) (pe' da' : Int32) (ki' vs' de' bu' th' ro' ha' : Nat → Int32) : Prop :=
  (n ≤ 6 ∧ d ≤ bd ∧ pe = nI n ∧ da = nI d ∧ pe' = nI n ∧ da' = nI d) ∧
  (∀ p, p < n → ki p = ki' p ∧ vs p = vs' p ∧ th p = th' p ∧ (∃ k, k ≤ 6 ∧ ki' p = nI k) ∧ (∃ v, v ≤ 9 ∧ vs' p = nI v) ∧ (∃ t, t ≤ bd ∧ th' p = nI t)) ∧
  (∀ p, n ≤ p → p < 6 → th p = 0) ∧
  ((∀ p k, p < n → k < 4 → ro (4 * p + k) = ro' (4 * p + k) ∧ ∃ r, r ≤ 9 ∧ ro' (4 * p + k) = nI r) ∧ (∀ p k, n ≤ p → p < 6 → k < 4 → ro (4 * p + k) = 0)) ∧
  ((∀ p q, p < n → q < n → ha (6 * p + q) = ha' (6 * p + q) ∧ (∃ h, h ≤ 99 ∧ ha' (6 * p + q) = nI h) ∧ (p = q → ha' (6 * p + q) = 0)) ∧ (∀ p q, p < 6 → q < 6 → ¬ (p < n ∧ q < n) → ha (6 * p + q) = 0)) ∧
  BR n de de' ∧ BR n bu bu'
/-- what is told by hand: SEEN, the PLAN, the BOOK -/
def TR (n : Nat) (sz : Int32) (ce : Nat → Int32) (pz : Int32) (pc : Nat → Int32) (bz : Int32) (bc : Nat → Int32) (seen : Int32) (by' of' in' so' : Nat → Int32) (inPlan : Int32) (goes whose : Nat → Int32) (inBook : Int32) (bby bof bh : Nat → Int32) : Prop :=
  (∃ a, a ≤ 5 ∧ sz = nI a ∧ seen = nI a ∧ ∀ i, i < a → ce (4 * i) = by' i ∧ ce (4 * i + 1) = of' i ∧ ce (4 * i + 2) = in' i ∧ ce (4 * i + 3) = so' i ∧ (∃ p q, p < n ∧ q < n ∧ p ≠ q ∧ by' i = nI p ∧ of' i = nI q) ∧ (∃ t, t ≤ 20 ∧ in' i = nI t) ∧ (so' i = 0 ∨ so' i = 1)) ∧
  (∃ a, a ≤ 10 ∧ pz = nI a ∧ inPlan = nI a ∧ ∀ i, i < a → pc (4 * i) = goes i ∧ (∃ g, g ≤ 3 ∧ goes i = nI g ∧ (g ≠ 0 → pc (4 * i + 1) = whose i)) ∧ (∃ p, whose i = nI p ∧ p < 6 ∧ (goes i ≠ 0 → p < n))) ∧
  (∃ a, a ≤ 8 ∧ bz = nI a ∧ inBook = nI a ∧ ∀ i, i < a → bc (4 * i) = bby i ∧ bc (4 * i + 1) = bof i ∧ bc (4 * i + 2) = bh i ∧ (∃ p q, p < n ∧ q < n ∧ p ≠ q ∧ bby i = nI p ∧ bof i = nI q))
/-- which parish holds -/
def HR (pa : Nat → Nat) (cnt : Nat) (nh : Nat) (holds : Int32) : Prop := (nh = pa 6 ∧ holds = -1) ∨ ∃ k, k < cnt ∧ k < 6 ∧ nh = pa k ∧ holds = nI k
/-- a parish of the class: its clauses weigh w, it needs nd -/
def PC (w : (Nat → Int32) → Int32) (nd : Int32) (len need : Int32) (steps numbers : Nat → Int32) : Prop := need = nd ∧ ∀ fa fb : Nat → Int32, (∀ j, j < 6 → fa j = fb j) → f_X2_weigh len fa steps numbers = some (w fb)
/-- the facts that a clause asks for -/
def k_fa (p q : Nat) (ki v ha : Nat → Int32) (d : Nat) : Nat → Int32 := fun j => if j = 0 then nI p else if j = 1 then nI q else if j = 2 then ki p else if j = 3 then v p else if j = 4 then ha (6 * p + q) / 10 else nI d - nI d / 10 * 10
/-- a parish of the reference -/
def PM (w : (Nat → Int32) → Int32) (nd : Int32) (holds : Int32) (clauses word number begins length code : Nat → Int32) : Prop :=
  f_X8_need holds clauses word number = some nd ∧
  ∀ (p q d : Nat) (ki v ha stack : Nat → Int32), p < 6 → q < 6 → d ≤ 20000 → ∃ stack', f_X8_sum holds ha clauses word begins length stack code ki v number (nI p) (nI q) (nI d) = some (ha (6 * p + q) + w (k_fa p q ki v ha d), stack')
def k_z : (Nat → Int32) → Int32 := fun _ => 0
/-- the reference's parishes: each by its own cells alone -/
def PMs (cnt cd : Nat) (w : Nat → (Nat → Int32) → Int32) (nd : Nat → Int32) (α : Nat → Nat → Int32) : Prop :=
  ∀ k, k < cnt → ∀ (clauses word number begins length code : Nat → Int32), (∀ j, j < cnt → clauses j = α 17 j) → (∀ i, i < 10 * cnt → word i = α 18 i ∧ number i = α 19 i ∧ begins i = α 20 i ∧ length i = α 21 i) → (∀ i, i < cd → code i = α 22 i) → PM (w k) (nd k) (nI k) clauses word number begins length code
/-- the parishes, of both sides -/
def IPar (cnt : Nat) (w : Nat → (Nat → Int32) → Int32) (nd : Nat → Int32) (σ : Nat → Int32) (φ : Nat → Nat → Int32) (μ : Nat → Int32) (α : Nat → Nat → Int32) : Prop :=
  (cnt ≤ 6 ∧ σ 1 = nI cnt ∧ μ 15 = nI cnt ∧ ∃ cd, cd ≤ 100 * cnt ∧ μ 23 = nI cd ∧ PMs cnt cd w nd α) ∧ PC k_z 30 (σ 51) (σ 52) (φ 45) (φ 46) ∧
  ∀ k, k < cnt → PC (w k) (nd k) (σ (39 + 2 * k)) (σ (40 + 2 * k)) (φ (33 + 2 * k)) (φ (34 + 2 * k))
def ITap (σ : Nat → Int32) (τ : Nat → Nat → Int64) (α : Nat → Nat → Int32) (ι : Nat → Int64) : Prop :=
  ∀ t, t < 6 → σ (53 + 2 * t) = α 45 t ∧ σ (54 + 2 * t) = α 46 t ∧ ((α 45 t = -1 ∧ α 46 t = 0) ∨ (∃ s, s ≤ 4 ∧ α 45 t = nI s)) ∧ (∃ z, z ≤ 60 ∧ α 46 t = nI z) ∧ ∀ i, i < 60 → τ t i = ι (60 * t + i)
def IKept (pa : Nat → Nat) (cnt kh : Nat) (σ : Nat → Int32) (φ : Nat → Nat → Int32) (im : Nat → Int32) (m39 : Int32) : Prop :=
  (σ 0 = 0 ∧ m39 = 0) ∨ (σ 0 = 1 ∧ m39 = 1 ∧ ∃ n2 d2 : Nat,
      VR 9999 n2 d2 (σ 6) (σ 7) (σ 8) (σ 9) (φ 6) (φ 7) (φ 8) (φ 9) (φ 10) (im 154) (im 155) (fun p => im p) (fun p => im (6 + p)) (fun p => im (12 + p)) (fun p => im (18 + p)) (fun p => im (24 + p)) (fun i => im (30 + i)) (fun i => im (54 + i)) ∧
      TR n2 (σ 28) (φ 27) (σ 30) (φ 28) (σ 32) (φ 29) (im 156) (fun i => im (90 + i)) (fun i => im (95 + i)) (fun i => im (100 + i)) (fun i => im (105 + i)) (im 157) (fun i => im (110 + i)) (fun i => im (120 + i)) (im 158) (fun i => im (130 + i)) (fun i => im (138 + i)) (fun i => im (146 + i)) ∧
      HR pa cnt kh (im 159))
def ITxt (s14 : Int32) (f18 : Nat → Int32) (m9 : Int32) (a10 : Nat → Int32) : Prop := ∃ t, t ≤ 100 ∧ s14 = nI t ∧ m9 = nI t ∧ ∀ i, i < t → f18 i = a10 i ∧ ∃ c, c ≤ 127 ∧ a10 i = nI c
def IAct (s17 : Int32) (f23 : Nat → Int32) (m37 : Int32) (a38 : Nat → Int32) : Prop := s17 = m37 ∧ (∃ r, r < 2 ^ 20 ∧ m37 = nI r) ∧ ∀ i, i < 20 → f23 i = a38 i
def Inv (pa : Nat → Nat) (S : Sx) (T : Sm) : Prop := match S, T with
  | (σ, φ, τ, nh, kh, _), (μ, α, ι) => ∃ (n d cnt : Nat) (w : Nat → (Nat → Int32) → Int32) (nd : Nat → Int32),
    VR 9999 n d (σ 2) (σ 3) (σ 4) (σ 5) (φ 0) (φ 1) (φ 2) (φ 3) (φ 4) (μ 0) (μ 8) (α 1) (α 2) (α 3) (α 4) (α 5) (α 6) (α 7) ∧
    (σ 21 = 5 ∧ σ 23 = 10 ∧ σ 25 = 8) ∧
    TR n (σ 22) (φ 24) (σ 24) (φ 25) (σ 26) (φ 26) (μ 25) (α 26) (α 27) (α 28) (α 29) (μ 30) (α 31) (α 32) (μ 33) (α 34) (α 35) (α 36) ∧
    HR pa cnt nh (μ 16) ∧ IKept pa cnt kh σ φ (α 40) (μ 39) ∧ ITxt (σ 14) (φ 18) (μ 9) (α 10) ∧ IPar cnt w nd σ φ μ α ∧ IAct (σ 17) (φ 23) (μ 37) (α 38) ∧ ITap σ τ α ι
theorem IPar.keep {cnt : Nat} {w : Nat → (Nat → Int32) → Int32} {nd : Nat → Int32} {σ σ' : Nat → Int32} {φ φ' : Nat → Nat → Int32} {μ μ' : Nat → Int32} {α α' : Nat → Nat → Int32} (h : IPar cnt w nd σ φ μ α) (h1 : σ' 1 = σ 1) (hs : ∀ i, 39 ≤ i → i < 53 → σ' i = σ i) (hf : ∀ i, 33 ≤ i → i < 47 → φ' i = φ i) (m1 : μ' 15 = μ 15) (m2 : μ' 23 = μ 23) (ha : ∀ i, 17 ≤ i → i < 23 → α' i = α i) : IPar cnt w nd σ' φ' μ' α' := by
  obtain ⟨⟨a1, a2, a3, cd, a4, a5, a6⟩, b, c⟩ := h
  refine ⟨⟨a1, h1.trans a2, m1.trans a3, cd, a4, m2.trans a5, ?_⟩, ?_, fun k hk => ?_⟩
  · intro k hk
    rw [ha 17 (by omega) (by omega), ha 18 (by omega) (by omega), ha 19 (by omega) (by omega), ha 20 (by omega) (by omega), ha 21 (by omega) (by omega), ha 22 (by omega) (by omega)]
    exact a6 k hk
  · rw [hs 51 (by omega) (by omega), hs 52 (by omega) (by omega), hf 45 (by omega) (by omega), hf 46 (by omega) (by omega)]
    exact b
  · rw [hs (39 + 2 * k) (by omega) (by omega), hs (40 + 2 * k) (by omega) (by omega), hf (33 + 2 * k) (by omega) (by omega), hf (34 + 2 * k) (by omega) (by omega)]
    exact c k hk
theorem ITap.keep {σ σ' : Nat → Int32} {τ τ' : Nat → Nat → Int64} {α α' : Nat → Nat → Int32} {ι ι' : Nat → Int64} (h : ITap σ τ α ι) (hs : ∀ i, 53 ≤ i → σ' i = σ i) (ht : τ' = τ) (h1 : α' 45 = α 45) (h2 : α' 46 = α 46) (hi : ι' = ι) : ITap σ' τ' α' ι' := by
  subst ht
  subst hi
  intro t ht
  rw [hs (53 + 2 * t) (by omega), hs (54 + 2 * t) (by omega), h1, h2]
  exact h t ht
theorem va_up_same {β : Type} (f : Nat → β) (i : Nat) : va_up f i (f i) = f := by
  funext j
  unfold va_up
  split
  · rename_i h; rw [h]
  · rfl
theorem upd_same (f : Nat → Int32) (i : Nat) : upd f i (f i) = f := by
  funext j
  unfold upd
  split
  · rename_i h; rw [h]
  · rfl
theorem upd_ne {f : Nat → Int32} {i j : Nat} {v : Int32} (h : j ≠ i) : upd f i v j = f j := if_neg h
theorem upd_at {f : Nat → Int32} {i : Nat} {v : Int32} : upd f i v i = v := if_pos rfl
theorem vup_ne {β : Type} {f : Nat → β} {i j : Nat} {v : β} (h : j ≠ i) : va_up f i v j = f j := if_neg h
theorem vup_at {β : Type} {f : Nat → β} {i : Nat} {v : β} : va_up f i v i = v := if_pos rfl
