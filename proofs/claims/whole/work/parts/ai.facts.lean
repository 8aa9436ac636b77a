/-- steps of the class, from a on -/
def SL (st nu : Nat → Int32) : Nat → List (Int32 × Int32) → Prop
  | _, [] => True
  | a, z :: zs => st a = z.1 ∧ nu a = z.2 ∧ SL st nu (a + 1) zs
theorem SL.app {st nu : Nat → Int32} : ∀ {l1 l2 : List (Int32 × Int32)} {a : Nat}, SL st nu a (l1 ++ l2) ↔ SL st nu a l1 ∧ SL st nu (a + l1.length) l2 := by
  intro l1
  induction l1 with
  | nil => intro l2 a; exact ⟨fun h => ⟨trivial, h⟩, fun h => h.2⟩
  | cons z zs ih =>
    intro l2 a
    have e : a + (z :: zs).length = a + 1 + zs.length := by rw [List.length_cons]; omega
    constructor
    · rintro ⟨h1, h2, h3⟩
      obtain ⟨x, y⟩ := ih.mp h3
      exact ⟨⟨h1, h2, x⟩, by rw [e]; exact y⟩
    · rintro ⟨⟨h1, h2, x⟩, y⟩
      rw [e] at y
      exact ⟨h1, h2, ih.mpr ⟨x, y⟩⟩
theorem SL.same {st nu st' nu' : Nat → Int32} : ∀ {l : List (Int32 × Int32)} {a : Nat}, (∀ i, i < a + l.length → st' i = st i ∧ nu' i = nu i) → SL st nu a l → SL st' nu' a l := by
  intro l
  induction l with
  | nil => intro a _ _; trivial
  | cons z zs ih =>
    intro a h hs
    obtain ⟨h1, h2, h3⟩ := hs
    have e : a + (z :: zs).length = a + 1 + zs.length := by rw [List.length_cons]; omega
    rw [e] at h
    obtain ⟨x, y⟩ := h a (by omega)
    exact ⟨x.trans h1, y.trans h2, ih h h3⟩
def CL (co : Nat → Int32) : Nat → List Int32 → Prop
  | _, [] => True
  | a, z :: zs => co a = z ∧ CL co (a + 1) zs
theorem CL.app {co : Nat → Int32} : ∀ {l1 l2 : List Int32} {a : Nat}, CL co a (l1 ++ l2) ↔ CL co a l1 ∧ CL co (a + l1.length) l2 := by
  intro l1
  induction l1 with
  | nil => intro l2 a; exact ⟨fun h => ⟨trivial, h⟩, fun h => h.2⟩
  | cons z zs ih =>
    intro l2 a
    have e : a + (z :: zs).length = a + 1 + zs.length := by rw [List.length_cons]; omega
    constructor
    · rintro ⟨h1, h3⟩
      obtain ⟨x, y⟩ := ih.mp h3
      exact ⟨⟨h1, x⟩, by rw [e]; exact y⟩
    · rintro ⟨⟨h1, x⟩, y⟩
      rw [e] at y
      exact ⟨h1, ih.mpr ⟨x, y⟩⟩
theorem CL.same {co co' : Nat → Int32} : ∀ {l : List Int32} {a : Nat}, (∀ i, i < a + l.length → co' i = co i) → CL co a l → CL co' a l := by
  intro l
  induction l with
  | nil => intro a _ _; trivial
  | cons z zs ih =>
    intro a h hs
    obtain ⟨h1, h3⟩ := hs
    have e : a + (z :: zs).length = a + 1 + zs.length := by rw [List.length_cons]; omega
    rw [e] at h
    exact ⟨(h a (by omega)).trans h1, ih h h3⟩
/-- these steps put f's bit on the stack -/
def XE (l : List (Int32 × Int32)) (f : (Nat → Int32) → Bool) (dp : Nat) : Prop := ∀ (Lt a s d F : Nat) (fa fb st nu : Nat → Int32) (sum : Int32), (∀ j, j < 6 → fa j = fb j) → a + l.length ≤ Lt → Lt ≤ 100 → SL st nu a l → s < 2 ^ d → d + dp ≤ 12 → f_X2_weigh_7 (nI Lt) fa st nu (F + l.length) sum (nI s) (nI a) = f_X2_weigh_7 (nI Lt) fa st nu F sum (nI (2 * s + bN (f fb))) (nI (a + l.length))
/-- these steps make g's bit on the stack g op h's -/
def XR (op : Bool → Bool → Bool) (l : List (Int32 × Int32)) (h : (Nat → Int32) → Bool) (dp : Nat) : Prop := ∀ (Lt a s d F : Nat) (g : Bool) (fa fb st nu : Nat → Int32) (sum : Int32), (∀ j, j < 6 → fa j = fb j) → a + l.length ≤ Lt → Lt ≤ 100 → SL st nu a l → s < 2 ^ d → d + dp ≤ 12 → f_X2_weigh_7 (nI Lt) fa st nu (F + l.length) sum (nI (2 * s + bN g)) (nI a) = f_X2_weigh_7 (nI Lt) fa st nu F sum (nI (2 * s + bN (op g (h fb)))) (nI (a + l.length))
/-- these codes put f's bit on the reference's stack -/
def CE (c : List Int32) (f : (Nat → Int32) → Bool) : Prop := ∀ (p q d cl e a t F : Nat) (ki v ha begins length code w : Nat → Int32), p < 6 → q < 6 → d ≤ 20000 → cl < 61 → begins cl + length cl = nI e → e ≤ 800 → a + c.length ≤ e → t + c.length ≤ 110 → CL code a c → ∃ w', w' t = bI (f (k_fa p q ki v ha d)) ∧ (∀ i, i < t → w' i = w i) ∧ f_X8_isTrue_12 begins length code ki v ha (nI p) (nI q) (nI d) (nI cl) (F + c.length) (nI t) (nI a) w = f_X8_isTrue_12 begins length code ki v ha (nI p) (nI q) (nI d) (nI cl) F (nI (t + 1)) (nI (a + c.length)) w'
def CR (op : Bool → Bool → Bool) (c : List Int32) (h : (Nat → Int32) → Bool) : Prop := ∀ (p q d cl e a t F : Nat) (g : Bool) (ki v ha begins length code w : Nat → Int32), p < 6 → q < 6 → d ≤ 20000 → cl < 61 → begins cl + length cl = nI e → e ≤ 800 → a + c.length ≤ e → t + 1 + c.length ≤ 110 → CL code a c → w t = bI g → ∃ w', w' t = bI (op g (h (k_fa p q ki v ha d))) ∧ (∀ i, i < t → w' i = w i) ∧ f_X8_isTrue_12 begins length code ki v ha (nI p) (nI q) (nI d) (nI cl) (F + c.length) (nI (t + 1)) (nI a) w = f_X8_isTrue_12 begins length code ki v ha (nI p) (nI q) (nI d) (nI cl) F (nI (t + 1)) (nI (a + c.length)) w'
theorem st_bit' : ∀ (x y : Fin 64), (nI (64 * x.1 + y.1) ^^^ (1 : Int32)) = nI (if (64 * x.1 + y.1) % 2 = 0 then (64 * x.1 + y.1) + 1 else (64 * x.1 + y.1) - 1) ∧ (nI (64 * x.1 + y.1) >>> ((1 : Int32) &&& 31)) = nI ((64 * x.1 + y.1) / 2) ∧ (nI (64 * x.1 + y.1) &&& (1 : Int32)) = nI ((64 * x.1 + y.1) % 2) ∧ ((nI (64 * x.1 + y.1) >>> ((1 : Int32) &&& 31)) &&& (-2 : Int32)) = nI (2 * ((64 * x.1 + y.1) / 4)) ∧ ((nI (64 * x.1 + y.1) >>> ((1 : Int32) &&& 31)) ||| nI ((64 * x.1 + y.1) % 2)) = nI (if (64 * x.1 + y.1) % 2 = 1 ∧ (64 * x.1 + y.1) / 2 % 2 = 0 then (64 * x.1 + y.1) / 2 + 1 else (64 * x.1 + y.1) / 2) ∧ ((nI (64 * x.1 + y.1) <<< ((1 : Int32) &&& 31)) ||| (1 : Int32)) = nI (2 * (64 * x.1 + y.1) + 1) ∧ ((nI (64 * x.1 + y.1) <<< ((1 : Int32) &&& 31)) ||| (0 : Int32)) = nI (2 * (64 * x.1 + y.1)) := by decide +kernel
theorem st_bit (s : Fin 4096) : (nI s.1 ^^^ (1 : Int32)) = nI (if s.1 % 2 = 0 then s.1 + 1 else s.1 - 1) ∧ (nI s.1 >>> ((1 : Int32) &&& 31)) = nI (s.1 / 2) ∧ (nI s.1 &&& (1 : Int32)) = nI (s.1 % 2) ∧ ((nI s.1 >>> ((1 : Int32) &&& 31)) &&& (-2 : Int32)) = nI (2 * (s.1 / 4)) ∧ ((nI s.1 >>> ((1 : Int32) &&& 31)) ||| nI (s.1 % 2)) = nI (if s.1 % 2 = 1 ∧ s.1 / 2 % 2 = 0 then s.1 / 2 + 1 else s.1 / 2) ∧ ((nI s.1 <<< ((1 : Int32) &&& 31)) ||| (1 : Int32)) = nI (2 * s.1 + 1) ∧ ((nI s.1 <<< ((1 : Int32) &&& 31)) ||| (0 : Int32)) = nI (2 * s.1) := by
  have h := st_bit' ⟨s.1 / 64, by omega⟩ ⟨s.1 % 64, by omega⟩
  simp only at h
  rw [show 64 * (s.1 / 64) + s.1 % 64 = s.1 by omega] at h
  exact h
theorem bN_le (b : Bool) : bN b ≤ 1 := by cases b <;> decide
theorem p12 {s d dp : Nat} (hs : s < 2 ^ d) (hd : d + dp ≤ 12) : s * 2 ^ dp < 4096 := by
  have h1 : s * 2 ^ dp < 2 ^ d * 2 ^ dp := Nat.mul_lt_mul_of_pos_right hs (Nat.two_pow_pos dp)
  rw [← Nat.pow_add] at h1
  exact Nat.lt_of_lt_of_le h1 (Nat.pow_le_pow_right (by omega) hd)
theorem p12_1 {s d dp : Nat} (hs : s < 2 ^ d) (hd : d + dp ≤ 12) (h1 : 1 ≤ dp) : 2 * s + 1 < 4096 := by
  have := p12 (dp := 1) hs (by omega)
  omega
theorem p12_2 {s d dp : Nat} (hs : s < 2 ^ d) (hd : d + dp ≤ 12) (h1 : 2 ≤ dp) : 4 * s + 3 < 4096 := by
  have := p12 (dp := 2) hs (by omega)
  omega
/-- one step of the class -/
theorem x_not {Lt a r F : Nat} {b : Bool} {fa st nu : Nat → Int32} {sum : Int32} (ha : a < Lt) (hL : Lt ≤ 100) (hs : st a = -1) (hr : 2 * r + 1 < 4096) : f_X2_weigh_7 (nI Lt) fa st nu (F + 1) sum (nI (2 * r + bN b)) (nI a) = f_X2_weigh_7 (nI Lt) fa st nu F sum (nI (2 * r + bN (!b))) (nI (a + 1)) := by
  have h := (st_bit ⟨2 * r + bN b, by have := bN_le b; omega⟩).1
  simp only at h
  conv => lhs; unfold f_X2_weigh_7 f_X2_weigh_7_b
  rw [if_neg (by rw [n_le (by omega) (by omega)]; omega), n_gd (by omega) (by omega), n_cl (by omega)]
  dsimp only [nm]
  rw [hs, if_pos rfl, h, n_s]
  cases b
  · rw [show (if (2 * r + bN false) % 2 = 0 then 2 * r + bN false + 1 else 2 * r + bN false - 1) = 2 * r + bN (!false) by simp [bN]]
  · rw [show (if (2 * r + bN true) % 2 = 0 then 2 * r + bN true + 1 else 2 * r + bN true - 1) = 2 * r + bN (!true) by simp [bN]]
theorem x_op (op : Bool → Bool → Bool) {Lt a r F : Nat} {g b : Bool} {fa st nu : Nat → Int32} {sum : Int32} (ha : a < Lt) (hL : Lt ≤ 100) (hs : (op = (· && ·) ∧ st a = -2) ∨ (op = (· || ·) ∧ st a = -3)) (hr : 4 * r + 3 < 4096) : f_X2_weigh_7 (nI Lt) fa st nu (F + 1) sum (nI (2 * (2 * r + bN g) + bN b)) (nI a) = f_X2_weigh_7 (nI Lt) fa st nu F sum (nI (2 * r + bN (op g b))) (nI (a + 1)) := by
  have hb := bN_le b
  have hg := bN_le g
  obtain ⟨-, h2, h3, h4, h5, -⟩ := st_bit ⟨2 * (2 * r + bN g) + bN b, by omega⟩
  simp only at h2 h3 h4 h5
  conv => lhs; unfold f_X2_weigh_7 f_X2_weigh_7_b
  rw [if_neg (by rw [n_le (by omega) (by omega)]; omega), n_gd (by omega) (by omega), n_cl (by omega)]
  dsimp only [nm]
  rcases hs with ⟨rfl, hs⟩ | ⟨rfl, hs⟩
  · rw [hs, if_neg (by decide), if_pos rfl, h3, h4, h2, n_s]
    cases b
    · rw [show (2 * (2 * r + bN g) + bN false) % 2 = 0 by simp [bN], if_neg (by decide), show 2 * ((2 * (2 * r + bN g) + bN false) / 4) = 2 * r + bN (g && false) by rw [Bool.and_false]; simp only [bN, Bool.false_eq_true, if_false]; cases g <;> simp only [Bool.false_eq_true, if_false, if_true] <;> omega]
    · rw [show (2 * (2 * r + bN g) + bN true) % 2 = 1 by simp only [bN, if_true]; omega, if_pos (by rfl), show (2 * (2 * r + bN g) + bN true) / 2 = 2 * r + bN (g && true) by rw [Bool.and_true]; simp only [bN, if_true]; omega]
  · rw [hs, if_neg (by decide), if_neg (by decide), if_pos rfl, h3, h5, n_s]
    cases b
    · rw [if_neg (by simp only [bN, Bool.false_eq_true, if_false]; omega), show (2 * (2 * r + bN g) + bN false) / 2 = 2 * r + bN (g || false) by rw [Bool.or_false]; simp only [bN, Bool.false_eq_true, if_false]; omega]
    · cases g
      · rw [if_pos (by simp only [bN, Bool.false_eq_true, if_false, if_true]; omega), show (2 * (2 * r + bN false) + bN true) / 2 + 1 = 2 * r + bN (false || true) by simp only [bN, Bool.false_or, Bool.false_eq_true, if_false, if_true]; omega]
      · rw [if_neg (by simp only [bN, if_true]; omega), show (2 * (2 * r + bN true) + bN true) / 2 = 2 * r + bN (true || true) by simp only [bN, Bool.true_or, if_true]; omega]
/-- what a test says: letter j, sign c, number n -/
def tst (j c n : Nat) (fb : Nat → Int32) : Bool := if c = 0 then decide (fb j < nI n) else if c = 1 then decide (fb j = nI n) else decide (nI n < fb j)
theorem XE_test {j c n : Nat} (hj : j < 6) (hc : c < 3) : XE [(nI (3 * j + c), nI n)] (tst j c n) 1 := by
  intro Lt a s d F fa fb st nu sum hf ha hL hS hs hd
  obtain ⟨h1, h2, -⟩ := hS
  have ha2 : a < Lt := by simp only [List.length_cons, List.length_nil] at ha; omega
  have h2s := p12_1 hs hd (by omega)
  obtain ⟨-, -, -, -, -, h6, h7⟩ := st_bit ⟨s, by omega⟩
  simp only at h6 h7
  have hd3 : nI (3 * j + c) / (3 : Int32) = nI j := by
    rw [show (3 : Int32) = nI 3 from rfl, pk_div (by omega) (by omega) (by omega), show (3 * j + c) / 3 = j by omega]
  have hr3 : nI (3 * j + c) - nI (3 * j + c) / (3 : Int32) * (3 : Int32) = nI c := by
    rw [show (3 : Int32) = nI 3 from rfl, pk_rem (by omega) (by omega) (by omega), show (3 * j + c) % 3 = c by omega]
  have e171 : ∀ k0 : Nat, k0 < 3 → f_X2_weigh_171 (f_X2_weigh_7 (nI Lt) fa st nu F) (nI k0) sum (nI s) (nI a) (nI (3 * j + c)) = f_X2_weigh_7 (nI Lt) fa st nu F sum (nI (2 * s + bN (decide (k0 = c)))) (nI (a + 1)) := by
    intro k0 hk0
    unfold f_X2_weigh_171
    dsimp only [nm]
    rw [hr3, h6, h7, n_s]
    by_cases e : k0 = c
    · rw [if_pos (by rw [e]), decide_eq_true e]
      rfl
    · rw [if_neg (by rw [n_eq (by omega) (by omega)]; exact e), decide_eq_false e]
      rfl
  show f_X2_weigh_7 (nI Lt) fa st nu (F + 1) sum (nI s) (nI a) = f_X2_weigh_7 (nI Lt) fa st nu F sum (nI (2 * s + bN (tst j c n fb))) (nI (a + 1))
  conv => lhs; unfold f_X2_weigh_7 f_X2_weigh_7_b
  rw [if_neg (by rw [n_le (by omega) (by omega)]; omega), n_gd (show a < 100 by omega) (by omega), n_cl (show a < 2 ^ 31 by omega)]
  dsimp only [nm]
  rw [show st a = nI (3 * j + c) from h1, show nu a = nI n from h2]
  rw [if_neg (eq_nay (c := -1) (by show ((3 * j + c : Nat) : Int) ≠ -1; omega) (by omega)), if_neg (eq_nay (c := -2) (by show ((3 * j + c : Nat) : Int) ≠ -2; omega) (by omega)), if_neg (eq_nay (c := -3) (by show ((3 * j + c : Nat) : Int) ≠ -3; omega) (by omega)), if_neg (eq_nay (c := -4) (by show ((3 * j + c : Nat) : Int) ≠ -4; omega) (by omega)), if_neg (n_not_neg (by omega)), hd3, if_neg (by rw [n_leT, n_toInt (by omega)]; show ¬ (6 : Int) ≤ j; omega), n_gd hj (by omega), n_cl (by omega), n_gd (show a < 100 by omega) (by omega), n_gd (show a < 100 by omega) (by omega), hf j hj]
  unfold tst
  by_cases k1 : nI n ≤ fb j
  · rw [if_pos k1]
    have k1' := k1
    rw [n_leT] at k1'
    by_cases k2 : fb j = nI n
    · rw [if_pos k2]
      refine (e171 1 (by omega)).trans ?_
      have h3 : c = 0 ∨ c = 1 ∨ c = 2 := by omega
      have hn : ¬ nI n < nI n := by rw [n_ltT]; omega
      rcases h3 with rfl | rfl | rfl <;> simp [k2, hn]
    · rw [if_neg k2]
      refine (e171 2 (by omega)).trans ?_
      have h3 : c = 0 ∨ c = 1 ∨ c = 2 := by omega
      have hne : (fb j).toInt ≠ (nI n).toInt := fun e => k2 (Int32.toInt_inj.mp e)
      have hl : nI n < fb j := by rw [n_ltT]; omega
      have hl2 : ¬ fb j < nI n := by rw [n_ltT]; omega
      rcases h3 with rfl | rfl | rfl <;> simp [k2, hl, hl2]
  · rw [if_neg k1]
    refine (e171 0 (by omega)).trans ?_
    have h3 : c = 0 ∨ c = 1 ∨ c = 2 := by omega
    have k1' := k1
    rw [n_leT] at k1'
    have hl : fb j < nI n := by rw [n_ltT]; omega
    have hl2 : ¬ nI n < fb j := by rw [n_ltT]; omega
    have hne : ¬ fb j = nI n := fun e => by rw [e] at k1'; omega
    rcases h3 with rfl | rfl | rfl <;> simp [hl, hl2, hne]
theorem XE.not {l : List (Int32 × Int32)} {f : (Nat → Int32) → Bool} {dp : Nat} (h : XE l f dp) (h1 : 1 ≤ dp) : XE (l ++ [(-1, 0)]) (fun fb => !(f fb)) dp := by
  intro Lt a s d F fa fb st nu sum hf ha hL hS hs hd
  obtain ⟨hS1, hS2, -, -⟩ := SL.app.mp hS
  rw [List.length_append, List.length_cons, List.length_nil] at ha ⊢
  rw [show F + (l.length + (0 + 1)) = (F + 1) + l.length by omega, h Lt a s d (F + 1) fa fb st nu sum hf (by omega) hL hS1 hs hd, x_not (by omega) hL hS2 (p12_1 hs hd h1), show a + (l.length + (0 + 1)) = a + l.length + 1 by omega]
theorem XE.mono {l : List (Int32 × Int32)} {f : (Nat → Int32) → Bool} {dp dp2 : Nat} (h : XE l f dp) (h1 : dp ≤ dp2) : XE l f dp2 := fun Lt a s d F fa fb st nu sum hf ha hL hS hs hd => h Lt a s d F fa fb st nu sum hf ha hL hS hs (by omega)
theorem XR_and_nil {dp : Nat} : XR (· && ·) [] (fun _ => true) dp := by
  intro Lt a s d F g fa fb st nu sum hf ha hL hS hs hd
  show _ = f_X2_weigh_7 (nI Lt) fa st nu F sum (nI (2 * s + bN (g && true))) (nI (a + 0))
  rw [Bool.and_true]
  rfl
theorem XR_or_nil {dp : Nat} : XR (· || ·) [] (fun _ => false) dp := by
  intro Lt a s d F g fa fb st nu sum hf ha hL hS hs hd
  show _ = f_X2_weigh_7 (nI Lt) fa st nu F sum (nI (2 * s + bN (g || false))) (nI (a + 0))
  rw [Bool.or_false]
  rfl
theorem XR_cons (op : Bool → Bool → Bool) (has : ∀ x y z, op (op x y) z = op x (op y z)) {o : Int32} (ho : (op = (· && ·) ∧ o = -2) ∨ (op = (· || ·) ∧ o = -3)) {l2 l' : List (Int32 × Int32)} {f2 h' : (Nat → Int32) → Bool} {dp : Nat} (h2 : XE l2 f2 dp) (hR : XR op l' h' (dp + 1)) (hdp : 1 ≤ dp) : XR op (l2 ++ ((o, 0) :: l')) (fun fb => op (f2 fb) (h' fb)) (dp + 1) := by
  intro Lt a s d F g fa fb st nu sum hf ha hL hS hs hd
  obtain ⟨hS1, hS2, -, hS3⟩ := SL.app.mp hS
  rw [List.length_append, List.length_cons] at ha ⊢
  have hg := bN_le g
  have hs2 : 2 * s + bN g < 2 ^ (d + 1) := by rw [Nat.pow_succ]; omega
  rw [show F + (l2.length + (l'.length + 1)) = (F + l'.length + 1) + l2.length by omega, h2 Lt a (2 * s + bN g) (d + 1) (F + l'.length + 1) fa fb st nu sum hf (by omega) hL hS1 hs2 (by omega), x_op op (by omega) hL (by rcases ho with ⟨x, y⟩ | ⟨x, y⟩; exact Or.inl ⟨x, hS2.trans y⟩; exact Or.inr ⟨x, hS2.trans y⟩) (p12_2 hs hd (by omega)), hR Lt (a + l2.length + 1) s d F (op g (f2 fb)) fa fb st nu sum hf (by omega) hL hS3 hs hd, has, show a + l2.length + 1 + l'.length = a + (l2.length + (l'.length + 1)) by omega]
theorem XE_of (op : Bool → Bool → Bool) {l1 l' : List (Int32 × Int32)} {f1 h' : (Nat → Int32) → Bool} {dp : Nat} (h1 : XE l1 f1 dp) (hR : XR op l' h' (dp + 1)) : XE (l1 ++ l') (fun fb => op (f1 fb) (h' fb)) (dp + 1) := by
  intro Lt a s d F fa fb st nu sum hf ha hL hS hs hd
  obtain ⟨hS1, hS2⟩ := SL.app.mp hS
  rw [List.length_append] at ha ⊢
  rw [show F + (l1.length + l'.length) = (F + l'.length) + l1.length by omega, h1 Lt a s d (F + l'.length) fa fb st nu sum hf (by omega) hL hS1 hs (by omega), hR Lt (a + l1.length) s d F (f1 fb) fa fb st nu sum hf (by omega) hL hS2 hs hd, show a + l1.length + l'.length = a + (l1.length + l'.length) by omega]
