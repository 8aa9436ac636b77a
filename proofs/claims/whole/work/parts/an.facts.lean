def XQ (l : List (Int32 × Int32)) (W : (Nat → Int32) → Int32) : Prop := ∀ (Lt F : Nat) (fa fb st nu : Nat → Int32), (∀ j, j < 6 → fa j = fb j) → l.length ≤ Lt → Lt ≤ 100 → SL st nu 0 l → f_X2_weigh_7 (nI Lt) fa st nu (F + l.length) 0 0 0 = f_X2_weigh_7 (nI Lt) fa st nu F (W fb) 0 (nI l.length)
def RQ (c i : Nat) (W : (Nat → Int32) → Int32) (N : Int32) (cd : Nat) (word number begins length code : Nat → Int32) : Prop := ∀ (clauses wo no be le co : Nat → Int32) (K : Nat), clauses c = nI K → i ≤ K → K ≤ 10 → (∀ j, 10 * c ≤ j → j < 10 * c + i → wo j = word j ∧ no j = number j ∧ be j = begins j ∧ le j = length j) → (∀ j, j < cd → co j = code j) → (∀ F, f_X8_need_5 (nI c) clauses wo no (F + i) 30 0 = f_X8_need_5 (nI c) clauses wo no F N (nI i)) ∧ ∀ (p q d F : Nat) (ki v ha stack : Nat → Int32) (x : Int32), p < 6 → q < 6 → d ≤ 20000 → ∃ stack', f_X8_sum_16 (nI c) ha clauses wo be le co ki v no (nI p) (nI q) (nI d) (F + i) x 0 stack = f_X8_sum_16 (nI c) ha clauses wo be le co ki v no (nI p) (nI q) (nI d) F (x + W (k_fa p q ki v ha d)) (nI i) stack'
/-- a parish read so far, of both sides -/
def PL (c i len : Nat) (need : Int32) (st nu : Nat → Int32) (cd : Nat) (word number begins length code : Nat → Int32) : Prop := ∃ l W, l.length = len ∧ SL st nu 0 l ∧ XQ l W ∧ RQ c i W need cd word number begins length code
theorem XQ_nil : XQ [] k_z := fun Lt F fa fb st nu _ _ _ _ => rfl
theorem RQ_nil {c cd : Nat} {word number begins length code : Nat → Int32} : RQ c 0 k_z 30 cd word number begins length code := by
  intro clauses wo no be le co K hK h0 h10 hc hd
  refine ⟨fun F => rfl, fun p q d F ki v ha stack x hp hq hd => ⟨stack, ?_⟩⟩
  rw [show x + k_z (k_fa p q ki v ha d) = x from Int32.add_zero x]
  rfl
theorem x_add {Lt a F : Nat} {b : Bool} {fa st nu : Nat → Int32} {sum m : Int32} (ha : a < Lt) (hL : Lt ≤ 100) (hs : st a = -4) (hn : nu a = m) : f_X2_weigh_7 (nI Lt) fa st nu (F + 1) sum (nI (2 * 0 + bN b)) (nI a) = f_X2_weigh_7 (nI Lt) fa st nu F (sum + bI b * m) 0 (nI (a + 1)) := by
  show f_X2_weigh_7_b (nI Lt) fa st nu (f_X2_weigh_7 (nI Lt) fa st nu F) sum (nI (2 * 0 + bN b)) (nI a) = _
  unfold f_X2_weigh_7_b
  have e1 : (nI (2 * 0 + bN b) &&& (1 : Int32)) = bI b := by cases b <;> decide
  have e2 : (nI (2 * 0 + bN b) >>> ((1 : Int32) &&& 31)) = 0 := by cases b <;> decide
  rw [if_neg (by rw [n_le (by omega) (by omega)]; omega), n_gd (by omega) (by omega), n_cl (by omega), hs, hn, e1, e2, n_s]
  dsimp only [nm]
  rw [if_neg (by decide), if_neg (by decide), if_neg (by decide), if_pos rfl, n_gd (by omega) (by omega)]
theorem XQ.add {l l1 : List (Int32 × Int32)} {W f : _} {m : Int32} (h : XQ l W) (h1 : XE l1 f 11) : XQ (l ++ (l1 ++ [((-4 : Int32), m)])) (fun fb => W fb + bI (f fb) * m) := by
  intro Lt F fa fb st nu hf hl hL hS
  obtain ⟨s1, s2⟩ := SL.app.mp hS
  obtain ⟨s3, s4, s5, -⟩ := SL.app.mp s2
  rw [List.length_append, List.length_append] at hl ⊢
  have e1 : ([((-4 : Int32), m)] : List (Int32 × Int32)).length = 1 := rfl
  rw [e1] at hl ⊢
  rw [Nat.zero_add] at s3 s4 s5
  rw [show F + (l.length + (l1.length + 1)) = F + 1 + l1.length + l.length by omega, h Lt (F + 1 + l1.length) fa fb st nu hf (by omega) hL s1]
  rw [show f_X2_weigh_7 (nI Lt) fa st nu (F + 1 + l1.length) (W fb) 0 (nI l.length) = _ from h1 Lt l.length 0 0 (F + 1) fa fb st nu (W fb) hf (by omega) hL s3 (by decide) (by decide), x_add (a := l.length + l1.length) (m := m) (by omega) hL s4 s5]
  rfl
theorem n_nm1 {c : Nat} (hc : c < 6) : ¬ nI c = (-1 : Int32) := by
  have h : c = 0 ∨ c = 1 ∨ c = 2 ∨ c = 3 ∨ c = 4 ∨ c = 5 := by omega
  rcases h with rfl | rfl | rfl | rfl | rfl | rfl <;> decide
theorem e_10 {c i : Nat} : (10 : Int32) * nI c + nI i = nI (10 * c + i) := by rw [show (10 : Int32) = nI 10 from rfl, pk_mul, nI_add]
section PW
variable {c i cd : Nat} {W : (Nat → Int32) → Int32} {N : Int32} {word number begins length code word' number' begins' length' code' : Nat → Int32}
theorem RQ.need (h : RQ c i W N cd word number begins length code) (hc : c < 6) {n : Int32} (hw : word' (10 * c + i) = 2) (hn : number' (10 * c + i) = n) (hcells : ∀ j, j ≠ 10 * c + i → word' j = word j ∧ number' j = number j ∧ begins' j = begins j ∧ length' j = length j) : RQ c (i + 1) W n cd word' number' begins' length' code := by
  intro clauses wo no be le co K hK hi hK10 hce hco
  obtain ⟨r1, r2⟩ := h clauses wo no be le co K hK (by omega) hK10 (fun j h1 h2 => by
    obtain ⟨a1, a2, a3, a4⟩ := hce j h1 (by omega)
    obtain ⟨b1, b2, b3, b4⟩ := hcells j (by omega)
    exact ⟨a1.trans b1, a2.trans b2, a3.trans b3, a4.trans b4⟩) hco
  obtain ⟨a1, a2, a3, a4⟩ := hce (10 * c + i) (by omega) (by omega)
  rw [hw] at a1
  rw [hn] at a2
  refine ⟨fun F => ?_, fun p q d F ki v ha stack x hp hq hd => ?_⟩
  · rw [show F + (i + 1) = F + 1 + i by omega, r1 (F + 1)]
    show f_X8_need_5_b (nI c) clauses wo no (f_X8_need_5 (nI c) clauses wo no F) N (nI i) = _
    unfold f_X8_need_5_b
    simp only [e_10, n_gd (show c < 6 by omega) (by omega : 6 < 2 ^ 31), n_gd (show 10 * c + i < 61 by omega) (by omega : 61 < 2 ^ 31), n_cl (show c < 2 ^ 31 by omega), n_cl (show 10 * c + i < 2 ^ 31 by omega), nm, a1, a2, hK, n_s]
    rw [if_neg (n_nm1 hc), if_neg (by rw [n_le (by omega) (by omega)]; omega), if_pos trivial]
  · obtain ⟨s1, e1⟩ := r2 p q d (F + 1) ki v ha stack x hp hq hd
    refine ⟨s1, ?_⟩
    rw [show F + (i + 1) = F + 1 + i by omega, e1]
    show f_X8_sum_16_b (nI c) ha clauses wo be le co ki v no (nI p) (nI q) (nI d) (f_X8_sum_16 (nI c) ha clauses wo be le co ki v no (nI p) (nI q) (nI d) F) (x + W (k_fa p q ki v ha d)) (nI i) s1 = _
    unfold f_X8_sum_16_b
    simp only [e_10, n_gd (show c < 6 by omega) (by omega : 6 < 2 ^ 31), n_gd (show 10 * c + i < 61 by omega) (by omega : 61 < 2 ^ 31), n_cl (show c < 2 ^ 31 by omega), n_cl (show 10 * c + i < 2 ^ 31 by omega), nm, a1, hK, n_s]
    rw [if_neg (n_nm1 hc), if_neg (by rw [n_le (by omega) (by omega)]; omega), if_pos (by decide)]
theorem true_is {c1 : List Int32} {f : (Nat → Int32) → Bool} (hce : CE c1 f) {cl : Nat} (hcl : cl < 61) {be le co : Nat → Int32} (hC : CL co cd c1) (h1 : c1.length ≤ 100) (h8 : cd + c1.length ≤ 800) (hb : be cl = nI cd) (hl : le cl = nI c1.length) {p q d : Nat} (hp : p < 6) (hq : q < 6) (hd : d ≤ 20000) (ki v ha stack : Nat → Int32) : ∃ st, f_X8_isTrue be le stack co ki v ha (nI p) (nI q) (nI d) (nI cl) = some (bI (f (k_fa p q ki v ha d)), st) := by
  obtain ⟨w', e1, -, e3⟩ := hce p q d cl (cd + c1.length) cd 0 (1000 - c1.length) ki v ha be le co stack hp hq hd hcl (by rw [hb, hl, nI_add]) h8 (Nat.le_refl _) (by omega) hC
  refine ⟨w', ?_⟩
  unfold f_X8_isTrue
  rw [n_gd hcl (by omega), n_cl (by omega), hb]
  dsimp only [nm]
  rw [show 1000 - c1.length + c1.length = 1000 by omega] at e3
  rw [show f_X8_isTrue_12 be le co ki v ha (nI p) (nI q) (nI d) (nI cl) 1000 0 (nI cd) stack = _ from e3]
  obtain ⟨F, hF⟩ : ∃ F, 1000 - c1.length = F + 1 := ⟨999 - c1.length, by omega⟩
  rw [hF]
  show f_X8_isTrue_12_b be le co ki v ha (nI p) (nI q) (nI d) (nI cl) (f_X8_isTrue_12 be le co ki v ha (nI p) (nI q) (nI d) (nI cl) F) (nI (0 + 1)) (nI (cd + c1.length)) w' = _
  unfold f_X8_isTrue_12_b
  rw [n_gd hcl (by omega), n_gd hcl (by omega), n_cl (by omega), hb, hl, nI_add, if_pos (by rw [n_le (by omega) (by omega)]; omega), show w' (0 : Int32).toNatClampNeg = bI (f (k_fa p q ki v ha d)) from e1, gn_bI]
theorem RQ.add (h : RQ c i W N cd word number begins length code) (hc : c < 6) {c1 : List Int32} {f : (Nat → Int32) → Bool} (hce : CE c1 f) (hC : CL code' cd c1) (h1 : c1.length ≤ 100) (h8 : cd + c1.length ≤ 800) {k : Nat} (hk : k < 2) {n : Int32} (hw : word' (10 * c + i) = nI k) (hn : number' (10 * c + i) = n) (hb : begins' (10 * c + i) = nI cd) (hle : length' (10 * c + i) = nI c1.length) (hcells : ∀ j, j ≠ 10 * c + i → word' j = word j ∧ number' j = number j ∧ begins' j = begins j ∧ length' j = length j) (hcode : ∀ j, j < cd → code' j = code j) : RQ c (i + 1) (fun fb => W fb + bI (f fb) * (if k = 0 then n else -n)) N (cd + c1.length) word' number' begins' length' code' := by
  intro clauses wo no be le co K hK hi hK10 hcel hco
  obtain ⟨r1, r2⟩ := h clauses wo no be le co K hK (by omega) hK10 (fun j h1 h2 => by
    obtain ⟨a1, a2, a3, a4⟩ := hcel j h1 (by omega)
    obtain ⟨b1, b2, b3, b4⟩ := hcells j (by omega)
    exact ⟨a1.trans b1, a2.trans b2, a3.trans b3, a4.trans b4⟩) (fun j hj => (hco j (by omega)).trans (hcode j hj))
  obtain ⟨a1, a2, a3, a4⟩ := hcel (10 * c + i) (by omega) (by omega)
  rw [hw] at a1
  rw [hn] at a2
  rw [hb] at a3
  rw [hle] at a4
  have hk2 : ¬ nI k = (2 : Int32) := by
    have h : k = 0 ∨ k = 1 := by omega
    rcases h with rfl | rfl <;> decide
  have hk3 : ¬ (2 : Int32) ≤ nI k := by
    have h : k = 0 ∨ k = 1 := by omega
    rcases h with rfl | rfl <;> decide
  refine ⟨fun F => ?_, fun p q d F ki v ha stack x hp hq hd => ?_⟩
  · rw [show F + (i + 1) = F + 1 + i by omega, r1 (F + 1)]
    show f_X8_need_5_b (nI c) clauses wo no (f_X8_need_5 (nI c) clauses wo no F) N (nI i) = _
    unfold f_X8_need_5_b
    simp only [e_10, n_gd (show c < 6 by omega) (by omega : 6 < 2 ^ 31), n_gd (show 10 * c + i < 61 by omega) (by omega : 61 < 2 ^ 31), n_cl (show c < 2 ^ 31 by omega), n_cl (show 10 * c + i < 2 ^ 31 by omega), nm, a1, a2, hK, n_s]
    rw [if_neg (n_nm1 hc), if_neg (by rw [n_le (by omega) (by omega)]; omega), if_neg hk2]
  · obtain ⟨s1, e1⟩ := r2 p q d (F + 1) ki v ha stack x hp hq hd
    obtain ⟨s2, e2⟩ := true_is hce (show 10 * c + i < 61 by omega) (be := be) (le := le) (co := co) (CL.same (fun j hj => hco j hj) hC) h1 h8 a3 a4 hp hq hd ki v ha s1
    refine ⟨s2, ?_⟩
    rw [show F + (i + 1) = F + 1 + i by omega, e1]
    show f_X8_sum_16_b (nI c) ha clauses wo be le co ki v no (nI p) (nI q) (nI d) (f_X8_sum_16 (nI c) ha clauses wo be le co ki v no (nI p) (nI q) (nI d) F) (x + W (k_fa p q ki v ha d)) (nI i) s1 = _
    unfold f_X8_sum_16_b
    simp only [e_10, n_gd (show c < 6 by omega) (by omega : 6 < 2 ^ 31), n_gd (show 10 * c + i < 61 by omega) (by omega : 61 < 2 ^ 31), n_cl (show c < 2 ^ 31 by omega), n_cl (show 10 * c + i < 2 ^ 31 by omega), nm, a1, a2, hK, n_s]
    rw [if_neg (n_nm1 hc), if_neg (by rw [n_le (by omega) (by omega)]; omega), if_neg hk3, e2, Option.bind_some]
    cases f (k_fa p q ki v ha d) with
    | false =>
      rw [if_pos (by rfl), show bI false = (0 : Int32) from rfl, Int32.zero_mul, Int32.add_zero]
    | true =>
      rw [if_neg (by exact i_10), show bI true = (1 : Int32) from rfl, Int32.one_mul, ← Int32.add_assoc]
      by_cases e : k = 0
      · subst e
        rw [if_pos (by rfl), if_pos rfl]
      · obtain rfl : k = 1 := by omega
        rw [if_neg (by decide), if_neg (by decide)]
end PW
