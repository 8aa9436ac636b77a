theorem n_01 : ¬ (0 : Int32) = 1 := by decide
theorem cell_l {a i : Nat} {ce : Nat → Int32} (h : i < a) (ha : a ≤ 10) : f_X3_cell (nI a) ce (nI i) (0 : Int32) = some (ce (4 * i)) ∧ f_X3_cell (nI a) ce (nI i) (1 : Int32) = some (ce (4 * i + 1)) ∧ f_X3_cell (nI a) ce (nI i) (2 : Int32) = some (ce (4 * i + 2)) ∧ f_X3_cell (nI a) ce (nI i) (3 : Int32) = some (ce (4 * i + 3)) :=
  ⟨cell_yes (k := 0) h (by omega) ha, cell_yes (k := 1) h (by omega) ha, cell_yes (k := 2) h (by omega) ha, cell_yes (k := 3) h (by omega) ha⟩
theorem VR.v {bd n d : Nat} {pe da de bu pe' da' : Int32} {ki vs th ha ro ki' vs' de' bu' th' ro' ha' : Nat → Int32} (h : VR bd n d pe da de bu ki vs th ha ro pe' da' ki' vs' de' bu' th' ro' ha') {q x : Nat} (hx : x ≤ 9) : VR bd n d pe da de bu ki (upd vs q (nI x)) th ha ro pe' da' ki' (upd vs' q (nI x)) de' bu' th' ro' ha' := by
  obtain ⟨h0, h1, h2⟩ := h
  refine ⟨h0, fun p hp => ?_, h2⟩
  obtain ⟨a, b, c, d, e, f⟩ := h1 p hp
  by_cases hpq : p = q
  · subst hpq
    rw [upd_at, upd_at]
    exact ⟨a, rfl, c, d, ⟨x, hx, rfl⟩, f⟩
  · rw [upd_ne hpq, upd_ne hpq]
    exact ⟨a, b, c, d, e, f⟩
/-- what is seen, by rows -/
def SR (n a : Nat) (ce by' of' in' so' : Nat → Int32) : Prop := ∀ i, i < a → ce (4 * i) = by' i ∧ ce (4 * i + 1) = of' i ∧ ce (4 * i + 2) = in' i ∧ ce (4 * i + 3) = so' i ∧ (∃ p q, p < n ∧ q < n ∧ p ≠ q ∧ by' i = nI p ∧ of' i = nI q) ∧ (∃ t, t ≤ 20 ∧ in' i = nI t) ∧ (so' i = 0 ∨ so' i = 1)
theorem does_eq {W : (Nat → Int32) → Int32} {N len need : Int32} {steps numbers : Nat → Int32} {holds : Int32} {clauses word number begins length code : Nat → Int32} (hC : PC W N len need steps numbers) (hM : PM W N holds clauses word number begins length code) {bd n dd : Nat} {pe da de bu pe' da' : Int32} {ki vs th ha ro ki' vs' de' bu' th' ro' ha' : Nat → Int32} (hV : VR bd n dd pe da de bu ki vs th ha ro pe' da' ki' vs' de' bu' th' ro' ha') {p q d : Nat} (hp : p < n) (hq : q < n) (hd : d ≤ 20000) : ∃ b : Bool, ∀ fa stack : Nat → Int32, ∃ r fa2 st2, f_X6_spite (nI n) ki fa len steps numbers ro (nI p) (nI q) (nI d) (ha' (6 * p + q)) (vs' p) = some (r, fa2) ∧ (r < need ↔ b = false) ∧ f_X8_does holds ha' clauses word begins length stack code ki' vs' number ro' (nI p) (nI q) (nI d) = some ((if b then 1 else 0), st2) := by
  obtain ⟨r, hr⟩ := spite_eq hC hM hV hp hq hd
  refine ⟨decide (¬ r < N), fun fa stack => ?_⟩
  obtain ⟨fa2, st2, hx, hm⟩ := hr fa stack
  refine ⟨r, fa2, st2, hx, ?_, ?_⟩
  · rw [hC.1]
    by_cases h : r < N <;> simp [h]
  · unfold f_X8_does
    rw [hm, Option.bind_some, hM.1, Option.bind_some]
    by_cases h : r < N
    · rw [if_pos h, if_neg (by simp [h])]
    · rw [if_neg h, if_pos (by simp [h])]
theorem fits_loop {W : (Nat → Int32) → Int32} {N len need : Int32} {steps numbers : Nat → Int32} {holds : Int32} {clauses word number begins length code : Nat → Int32} (hC : PC W N len need steps numbers) (hM : PM W N holds clauses word number begins length code) {bd n dd : Nat} {pe da de bu pe' da' : Int32} {ki vs th ha ro ki' vs' de' bu' th' ro' ha' : Nat → Int32} (hV : VR bd n dd pe da de bu ki vs th ha ro pe' da' ki' vs' de' bu' th' ro' ha') {a : Nat} {ce by' of' in' so' : Nat → Int32} (ha5 : a ≤ 5) (hS : SR n a ce by' of' in' so') {p q d : Nat} (hp : p < n) (hq : q < n) (hd : d ≤ 9999) : ∀ (m i : Nat), i + m = a → ∃ b : Bool, ∀ F, m < F → ∀ fa stack : Nat → Int32, ∃ fa2 st2, f_X6_fitsHate_13 (nI n) (nI d) (nI a) ce vs ki len need steps numbers ro (nI p) (nI q) (ha' (6 * p + q)) F (nI i) fa = some ((if b then 1 else 0), fa2) ∧ f_X8_isSeen_2 (nI d) holds (nI a) by' of' in' ha' clauses word begins length code ki' vs' number ro' so' (nI p) (nI q) F (nI i) stack = some ((if b then 1 else 0), st2) := by
  have hn := hV.1.1
  have hvp := (hV.2.1 p hp).2.1
  intro m
  induction m with
  | zero =>
    intro i hi
    refine ⟨true, fun F hF fa stack => ⟨fa, stack, ?_, ?_⟩⟩
    · obtain ⟨F, rfl⟩ : ∃ f, F = f + 1 := ⟨F - 1, by omega⟩
      unfold f_X6_fitsHate_13 f_X6_fitsHate_13_b
      rw [if_pos (by rw [n_le (by omega) (by omega)]; omega)]
      rfl
    · obtain ⟨F, rfl⟩ : ∃ f, F = f + 1 := ⟨F - 1, by omega⟩
      unfold f_X8_isSeen_2 f_X8_isSeen_2_b
      rw [if_pos (by rw [n_le (by omega) (by omega)]; omega)]
      rfl
  | succ m ih =>
    intro i hi
    have hk : ¬ nI a ≤ nI i := by rw [n_le (by omega) (by omega)]; omega
    obtain ⟨c0, c1, c2, c3⟩ := cell_l (ce := ce) (show i < a by omega) (by omega)
    obtain ⟨s0, s1, s2, s3, ⟨p0, q0, hp0, hq0, -, sp, sq⟩, ⟨t, ht, st⟩, so⟩ := hS i (by omega)
    rw [s0, sp] at c0
    rw [s1, sq] at c1
    rw [s2, st] at c2
    rw [s3] at c3
    obtain ⟨b, hb⟩ := ih (i + 1) (by omega)
    by_cases h0 : p0 = p
    · subst h0
      by_cases h1 : q0 = q
      · subst h1
        obtain ⟨e, he⟩ := does_eq hC hM hV hp hq (d := d + t) (by omega)
        by_cases hm : (e = true ↔ so' i = 1)
        · refine ⟨b, fun F hF fa stack => ?_⟩
          obtain ⟨F, rfl⟩ : ∃ f, F = f + 1 := ⟨F - 1, by omega⟩
          obtain ⟨r, fa1, st1, hx1, hr, hm1⟩ := he fa stack
          obtain ⟨fa2, st2, hx, hm2⟩ := hb F (by omega) fa1 st1
          refine ⟨fa2, st2, ?_, ?_⟩
          · unfold f_X6_fitsHate_13 f_X6_fitsHate_13_b f_X6_fitsHate_100
            rw [if_neg hk, c0, Option.bind_some, if_pos rfl, c1, Option.bind_some, if_pos rfl, c2, Option.bind_some, n_gd (by omega) (by omega), n_cl (by omega), nI_add, hvp, hx1, Option.bind_some, c3, Option.bind_some, Option.bind_some, n_s]
            cases e with
            | false =>
              rw [if_pos (hr.mpr rfl)]
              rw [if_neg (fun h => Bool.false_ne_true (hm.mpr h)), if_pos (by rfl)]
              exact hx
            | true =>
              rw [if_neg (fun h => Bool.false_ne_true (hr.mp h).symm)]
              rw [if_pos (hm.mp rfl), if_pos (by rfl)]
              exact hx
          · unfold f_X8_isSeen_2 f_X8_isSeen_2_b f_X8_isSeen_38
            rw [if_neg hk]
            simp only [n_gd (show i < 5 by omega) (by omega : 5 < 2 ^ 31), n_cl (show i < 2 ^ 31 by omega), sp, sq, st, nI_add, n_s]
            rw [if_pos trivial, if_neg (nI_m1 (by omega)), if_pos trivial, hm1, Option.bind_some]
            cases e with
            | false =>
              rw [if_neg (fun h => Bool.false_ne_true (hm.mpr h)), if_pos (by rfl)]
              exact hm2
            | true =>
              rw [if_pos (hm.mp rfl), if_pos (by rfl)]
              exact hm2
        · refine ⟨false, fun F hF fa stack => ?_⟩
          obtain ⟨F, rfl⟩ : ∃ f, F = f + 1 := ⟨F - 1, by omega⟩
          obtain ⟨r, fa1, st1, hx1, hr, hm1⟩ := he fa stack
          refine ⟨fa1, st1, ?_, ?_⟩
          · unfold f_X6_fitsHate_13 f_X6_fitsHate_13_b f_X6_fitsHate_100
            rw [if_neg hk, c0, Option.bind_some, if_pos rfl, c1, Option.bind_some, if_pos rfl, c2, Option.bind_some, n_gd (by omega) (by omega), n_cl (by omega), nI_add, hvp, hx1, Option.bind_some, c3, Option.bind_some, Option.bind_some]
            cases e with
            | false =>
              have h1 : so' i = 1 := so.elim (fun h => absurd ⟨fun h2 => (Bool.false_ne_true h2).elim, fun h2 => by rw [h] at h2; exact absurd h2 (by decide)⟩ hm) id
              rw [if_pos (hr.mpr rfl), if_pos h1, if_neg (by decide)]
              rfl
            | true =>
              have h1 : ¬ so' i = 1 := fun h => hm ⟨fun _ => h, fun _ => rfl⟩
              rw [if_neg (fun h => Bool.false_ne_true (hr.mp h).symm), if_neg h1, if_neg (by decide)]
              rfl
          · unfold f_X8_isSeen_2 f_X8_isSeen_2_b f_X8_isSeen_38
            rw [if_neg hk]
            simp only [n_gd (show i < 5 by omega) (by omega : 5 < 2 ^ 31), n_cl (show i < 2 ^ 31 by omega), sp, sq, st, nI_add]
            rw [if_pos trivial, if_neg (nI_m1 (by omega)), if_pos trivial, hm1, Option.bind_some]
            cases e with
            | false =>
              have h1 : so' i = 1 := so.elim (fun h => absurd ⟨fun h2 => (Bool.false_ne_true h2).elim, fun h2 => by rw [h] at h2; exact absurd h2 (by decide)⟩ hm) id
              rw [if_pos h1, if_neg (by exact n_01)]
              rfl
            | true =>
              have h1 : ¬ so' i = 1 := fun h => hm ⟨fun _ => h, fun _ => rfl⟩
              rw [if_neg h1, if_neg (by exact i_10)]
              rfl
      · have hne : ¬ nI q0 = nI q := by rw [n_eq (by omega) (by omega)]; exact h1
        refine ⟨b, fun F hF fa stack => ?_⟩
        obtain ⟨F, rfl⟩ : ∃ f, F = f + 1 := ⟨F - 1, by omega⟩
        obtain ⟨fa2, st2, hx, hm2⟩ := hb F (by omega) fa stack
        refine ⟨fa2, st2, ?_, ?_⟩
        · unfold f_X6_fitsHate_13 f_X6_fitsHate_13_b
          rw [if_neg hk, c0, Option.bind_some, if_pos rfl, c1, Option.bind_some, if_neg hne, n_s]
          exact hx
        · unfold f_X8_isSeen_2 f_X8_isSeen_2_b
          rw [if_neg hk]
          simp only [n_gd (show i < 5 by omega) (by omega : 5 < 2 ^ 31), n_cl (show i < 2 ^ 31 by omega), sp, sq, n_s]
          rw [if_pos trivial, if_neg (nI_m1 (by omega)), if_neg hne]
          exact hm2
    · have hne : ¬ nI p0 = nI p := by rw [n_eq (by omega) (by omega)]; exact h0
      refine ⟨b, fun F hF fa stack => ?_⟩
      obtain ⟨F, rfl⟩ : ∃ f, F = f + 1 := ⟨F - 1, by omega⟩
      obtain ⟨fa2, st2, hx, hm2⟩ := hb F (by omega) fa stack
      refine ⟨fa2, st2, ?_, ?_⟩
      · unfold f_X6_fitsHate_13 f_X6_fitsHate_13_b
        rw [if_neg hk, c0, Option.bind_some, if_neg hne, n_s]
        exact hx
      · unfold f_X8_isSeen_2 f_X8_isSeen_2_b
        rw [if_neg hk]
        simp only [n_gd (show i < 5 by omega) (by omega : 5 < 2 ^ 31), n_cl (show i < 2 ^ 31 by omega), sp, n_s]
        rw [if_neg hne]
        exact hm2
theorem fitsV_loop {W : (Nat → Int32) → Int32} {N len need : Int32} {steps numbers : Nat → Int32} {holds : Int32} {clauses word number begins length code : Nat → Int32} (hC : PC W N len need steps numbers) (hM : PM W N holds clauses word number begins length code) {bd n dd : Nat} {pe da de bu pe' da' : Int32} {ki vs th ha ro ki' vs' de' bu' th' ro' ha' : Nat → Int32} (hV : VR bd n dd pe da de bu ki vs th ha ro pe' da' ki' vs' de' bu' th' ro' ha') {a : Nat} {ce by' of' in' so' : Nat → Int32} (ha5 : a ≤ 5) (hS : SR n a ce by' of' in' so') {p d : Nat} (hp : p < n) (hd : d ≤ 9999) : ∀ (m i : Nat), i + m = a → ∃ b : Bool, ∀ F, m < F → ∀ fa stack : Nat → Int32, ∃ fa2 st2, f_X6_fitsV_2 (nI n) (nI d) (nI a) ce ha ki len need steps numbers ro (nI p) (vs' p) F (nI i) fa = some ((if b then 1 else 0), fa2) ∧ f_X8_isSeen_2 (nI d) holds (nI a) by' of' in' ha' clauses word begins length code ki' vs' number ro' so' (nI p) (-1) F (nI i) stack = some ((if b then 1 else 0), st2) := by
  have hn := hV.1.1
  have h5 := hV.2.2.2.2.1.1
  intro m
  induction m with
  | zero =>
    intro i hi
    refine ⟨true, fun F hF fa stack => ⟨fa, stack, ?_, ?_⟩⟩
    · obtain ⟨F, rfl⟩ : ∃ f, F = f + 1 := ⟨F - 1, by omega⟩
      unfold f_X6_fitsV_2 f_X6_fitsV_2_b
      rw [if_pos (by rw [n_le (by omega) (by omega)]; omega)]
      rfl
    · obtain ⟨F, rfl⟩ : ∃ f, F = f + 1 := ⟨F - 1, by omega⟩
      unfold f_X8_isSeen_2 f_X8_isSeen_2_b
      rw [if_pos (by rw [n_le (by omega) (by omega)]; omega)]
      rfl
  | succ m ih =>
    intro i hi
    have hk : ¬ nI a ≤ nI i := by rw [n_le (by omega) (by omega)]; omega
    obtain ⟨c0, c1, c2, c3⟩ := cell_l (ce := ce) (show i < a by omega) (by omega)
    obtain ⟨s0, s1, s2, s3, ⟨p0, q0, hp0, hq0, -, sp, sq⟩, ⟨t, ht, st⟩, so⟩ := hS i (by omega)
    rw [s0, sp] at c0
    rw [s1, sq] at c1
    rw [s2, st] at c2
    rw [s3] at c3
    obtain ⟨b, hb⟩ := ih (i + 1) (by omega)
    by_cases h0 : p0 = p
    · subst h0
      obtain ⟨e, he⟩ := does_eq hC hM hV hp hq0 (d := d + t) (by omega)
      by_cases hm : (e = true ↔ so' i = 1)
      · refine ⟨b, fun F hF fa stack => ?_⟩
        obtain ⟨F, rfl⟩ : ∃ f, F = f + 1 := ⟨F - 1, by omega⟩
        obtain ⟨r, fa1, st1, hx1, hr, hm1⟩ := he fa stack
        obtain ⟨fa2, st2, hx, hm2⟩ := hb F (by omega) fa1 st1
        refine ⟨fa2, st2, ?_, ?_⟩
        · unfold f_X6_fitsV_2 f_X6_fitsV_2_b f_X6_fitsV_85
          rw [if_neg hk, c0, Option.bind_some, if_pos rfl, c1, Option.bind_some, c2, Option.bind_some, hateOf_yes hp hq0 hn, Option.bind_some, nI_add, (h5 _ _ hp hq0).1, hx1, Option.bind_some, c3, Option.bind_some, Option.bind_some, n_s]
          cases e with
          | false =>
            rw [if_pos (hr.mpr rfl)]
            rw [if_neg (fun h => Bool.false_ne_true (hm.mpr h)), if_pos (by rfl)]
            exact hx
          | true =>
            rw [if_neg (fun h => Bool.false_ne_true (hr.mp h).symm)]
            rw [if_pos (hm.mp rfl), if_pos (by rfl)]
            exact hx
        · unfold f_X8_isSeen_2 f_X8_isSeen_2_b f_X8_isSeen_38
          rw [if_neg hk]
          simp only [n_gd (show i < 5 by omega) (by omega : 5 < 2 ^ 31), n_cl (show i < 2 ^ 31 by omega), sp, sq, st, nI_add, n_s]
          rw [if_pos trivial, if_pos trivial, hm1, Option.bind_some]
          cases e with
          | false =>
            rw [if_neg (fun h => Bool.false_ne_true (hm.mpr h)), if_pos (by rfl)]
            exact hm2
          | true =>
            rw [if_pos (hm.mp rfl), if_pos (by rfl)]
            exact hm2
      · refine ⟨false, fun F hF fa stack => ?_⟩
        obtain ⟨F, rfl⟩ : ∃ f, F = f + 1 := ⟨F - 1, by omega⟩
        obtain ⟨r, fa1, st1, hx1, hr, hm1⟩ := he fa stack
        refine ⟨fa1, st1, ?_, ?_⟩
        · unfold f_X6_fitsV_2 f_X6_fitsV_2_b f_X6_fitsV_85
          rw [if_neg hk, c0, Option.bind_some, if_pos rfl, c1, Option.bind_some, c2, Option.bind_some, hateOf_yes hp hq0 hn, Option.bind_some, nI_add, (h5 _ _ hp hq0).1, hx1, Option.bind_some, c3, Option.bind_some, Option.bind_some]
          cases e with
          | false =>
            have h1 : so' i = 1 := so.elim (fun h => absurd ⟨fun h2 => (Bool.false_ne_true h2).elim, fun h2 => by rw [h] at h2; exact absurd h2 (by decide)⟩ hm) id
            rw [if_pos (hr.mpr rfl), if_pos h1, if_neg (by decide)]
            rfl
          | true =>
            have h1 : ¬ so' i = 1 := fun h => hm ⟨fun _ => h, fun _ => rfl⟩
            rw [if_neg (fun h => Bool.false_ne_true (hr.mp h).symm), if_neg h1, if_neg (by decide)]
            rfl
        · unfold f_X8_isSeen_2 f_X8_isSeen_2_b f_X8_isSeen_38
          rw [if_neg hk]
          simp only [n_gd (show i < 5 by omega) (by omega : 5 < 2 ^ 31), n_cl (show i < 2 ^ 31 by omega), sp, sq, st, nI_add]
          rw [if_pos trivial, if_pos trivial, hm1, Option.bind_some]
          cases e with
          | false =>
            have h1 : so' i = 1 := so.elim (fun h => absurd ⟨fun h2 => (Bool.false_ne_true h2).elim, fun h2 => by rw [h] at h2; exact absurd h2 (by decide)⟩ hm) id
            rw [if_pos h1, if_neg (by exact n_01)]
            rfl
          | true =>
            have h1 : ¬ so' i = 1 := fun h => hm ⟨fun _ => h, fun _ => rfl⟩
            rw [if_neg h1, if_neg (by exact i_10)]
            rfl
    · have hne : ¬ nI p0 = nI p := by rw [n_eq (by omega) (by omega)]; exact h0
      refine ⟨b, fun F hF fa stack => ?_⟩
      obtain ⟨F, rfl⟩ : ∃ f, F = f + 1 := ⟨F - 1, by omega⟩
      obtain ⟨fa2, st2, hx, hm2⟩ := hb F (by omega) fa stack
      refine ⟨fa2, st2, ?_, ?_⟩
      · unfold f_X6_fitsV_2 f_X6_fitsV_2_b
        rw [if_neg hk, c0, Option.bind_some, if_neg hne, n_s]
        exact hx
      · unfold f_X8_isSeen_2 f_X8_isSeen_2_b
        rw [if_neg hk]
        simp only [n_gd (show i < 5 by omega) (by omega : 5 < 2 ^ 31), n_cl (show i < 2 ^ 31 by omega), sp, n_s]
        rw [if_neg hne]
        exact hm2
