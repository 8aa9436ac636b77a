theorem k_arrV {cA : ClassId} {n : Nat} {f g : Nat → Value} (h : ∀ j, j < n → f j = g j) : arrV cA n f = arrV cA n g := by
  unfold arrV
  congr 2
  funext j
  exact h j.val j.isLt
theorem j_arrq {G : Gx} {K : Kx} {nL cells slots : Nat} {ws ws' : va_W} {L : List (Nat × Value)} {pc : Nat} {st : List Value} {a n : Nat} {cA : ClassId} {f g : Nat → Option Nat} (t : Nat) (ha : ws[t]? = some (a, .inl (cA, n, .inr (.inr (.inr (.inr f)))))) (hfg : ∀ j, j < n → f j = g j) (hw : ws.set t (a, .inl (cA, n, .inr (.inr (.inr (.inr g))))) = ws') (k : J G K nL cells slots ws' L pc st) : J G K nL cells slots ws L pc st := by
  obtain ⟨p, l, e, R, s, m, args, below, meth, c, A, Q⟩ := K
  refine fun H locs ls hP hD hS hl => k H locs ls ?_ (hw ▸ hD.set ha) hS hl
  rw [← hw]
  refine hP.set hD ha ?_ (fun _ _ => rfl)
  have h1 := hP t _ ha
  show H[a]? = some (vp_cell _ _)
  have h2 : H[a]? = some (vp_cell cA (n, .inr (.inr (.inr (.inr f))))) := h1
  rw [h2, vp_cell_q, vp_cell_q]
  exact congrArg some (k_arrV (fun j hj => by rw [hfg j hj]))
theorem k_U_tbl {w : Cond} (h : w ∈ k_U) : w ∈ lw_tbl := (List.mem_filter.mp h).1
theorem k_nest_tbl {w : Cond} (h : w ∈ k_nest) : w ∈ lw_tbl := (List.mem_filter.mp h).1
theorem k_nest_on {w : Cond} (h : k_isNest w = true) : w.onTables = true := by
  cases w <;> first | rfl | (simp [k_isNest] at h)
theorem k_prim {args : Array Value} {s : State} {ty : FieldType} (h : (Cond.arrayClass ty).before args s = true) : ∃ c : ClassId, ArrOfT s c ty ∧ s.vm.findClass ("[" ++ ty.toString) = some c := by
  obtain ⟨c, k, comp, h1, h2, h3⟩ := Cond.arrayClass_spec h
  exact ⟨c, fun n z => ⟨fun k h => (by cases h), k, h2, comp, h3⟩, h1⟩
theorem k_objs {args : Array Value} {s : State} {D : String} (h : (Cond.arrayOver (.object D)).before args s = true) : ∃ c : ClassId, ArrOfT s c (.object D) ∧ va_RA s c (.object D) := by
  obtain ⟨comp, c, k, h1, h2, h3, h4, h5⟩ := Cond.arrayOver_spec h
  exact ⟨c, fun n z => ⟨fun k h => (by cases h), k, h3, comp, h4⟩, k, comp, h3, h4, h1, h5⟩
theorem k_classes {args : Array Value} {s : State} (hu : ∀ w ∈ k_U, w.before args s = true) : ∃ D : va_G, ∀ (c : Nat) (q : vw_C), vwCl[c]? = some q → u_Kn s q.1 q.2.1 q.2.2 (D.1 c) (D.2 c) := by
  obtain ⟨c0, i0, hk0⟩ := u_known (ws := k_U) (C := RX0) (T := TX0) (N := 5) (n := 5) hu kc_X0.2.1 (hu _ in_X0.1)
  obtain ⟨c1, i1, hk1⟩ := u_known (ws := k_U) (C := RX1) (T := TX1) (N := 4) (n := 4) hu kc_X1.2.1 (hu _ in_X1.1)
  obtain ⟨c2, i2, hk2⟩ := u_known (ws := k_U) (C := RX2) (T := TX2) (N := 4) (n := 4) hu kc_X2.2.1 (hu _ in_X2.1)
  obtain ⟨c3, i3, hk3⟩ := u_known (ws := k_U) (C := RX3) (T := TX3) (N := 3) (n := 3) hu kc_X3.2.1 (hu _ in_X3.1)
  obtain ⟨c4, i4, hk4⟩ := u_known (ws := k_U) (C := RX4) (T := TX4) (N := 3) (n := 3) hu kc_X4.2.1 (hu _ in_X4.1)
  obtain ⟨c5, i5, hk5⟩ := u_known (ws := k_U) (C := RX5) (T := TX5) (N := 4) (n := 4) hu kc_X5.2.1 (hu _ in_X5.1)
  obtain ⟨c6, i6, hk6⟩ := u_known (ws := k_U) (C := RX6) (T := TX6) (N := 14) (n := 14) hu kc_X6.2.1 (hu _ in_X6.1)
  obtain ⟨c7, i7, hk7⟩ := u_known (ws := k_U) (C := RX7) (T := TX7) (N := 10) (n := 10) hu kc_X7.2.1 (hu _ in_X7.1)
  obtain ⟨c8, i8, hk8⟩ := u_known (ws := k_U) (C := RX8) (T := TX8) (N := 48) (n := 48) hu kc_X8.2.1 (hu _ in_X8.1)
  refine ⟨(fun k => if k = 0 then c0 else if k = 1 then c1 else if k = 2 then c2 else if k = 3 then c3 else if k = 4 then c4 else if k = 5 then c5 else if k = 6 then c6 else if k = 7 then c7 else c8, fun k => if k = 0 then i0 else if k = 1 then i1 else if k = 2 then i2 else if k = 3 then i3 else if k = 4 then i4 else if k = 5 then i5 else if k = 6 then i6 else if k = 7 then i7 else i8), fun c q hq => ?_⟩
  match c, hq with
  | 0, hq => cases hq; exact hk0
  | 1, hq => cases hq; exact hk1
  | 2, hq => cases hq; exact hk2
  | 3, hq => cases hq; exact hk3
  | 4, hq => cases hq; exact hk4
  | 5, hq => cases hq; exact hk5
  | 6, hq => cases hq; exact hk6
  | 7, hq => cases hq; exact hk7
  | 8, hq => cases hq; exact hk8
  | k + 9, hq => simp [vwCl] at hq
theorem k_arrays {args : Array Value} {s : State} (hts : ∀ w ∈ lw_tbl, w.before args s = true) {D : va_G} (hD : ∀ (c : Nat) (q : vw_C), vwCl[c]? = some q → u_Kn s q.1 q.2.1 q.2.2 (D.1 c) (D.2 c)) : ∃ cy : Nat → ClassId, ∀ f : Nat → Nat, va_K D vwCl (k_tys (D, cy, f)) s := by
  obtain ⟨c0, a0, b0⟩ := k_prim (hts _ (k_U_tbl ac_int))
  obtain ⟨c1, a1, b1⟩ := k_prim (hts _ (k_U_tbl ac_long))
  obtain ⟨c2, a2, b2⟩ := k_prim (hts _ (k_U_tbl ac_char))
  obtain ⟨c3, a3, b3⟩ := k_prim (hts _ (k_U_tbl ac_boolean))
  obtain ⟨c4, a4, b4⟩ := k_objs (hts (.arrayOver (.object "NoGraveEnemy$Parish")) (k_I1 157 (by decide +kernel)))
  obtain ⟨c5, a5, b5⟩ := k_objs (hts (.arrayOver (.object "NoGraveEnemy$Tape")) (k_I1 206 (by decide +kernel)))
  refine ⟨fun k => if k = 0 then c0 else if k = 1 then c1 else if k = 2 then c2 else if k = 3 then c3 else if k = 4 then c4 else c5, fun f => ⟨hD, fun k q h => ?_⟩⟩
  match k, h with
  | 0, h => cases h; exact ⟨a0, b0⟩
  | 1, h => cases h; exact ⟨a1, b1⟩
  | 2, h => cases h; exact ⟨a2, b2⟩
  | 3, h => cases h; exact ⟨a3, b3⟩
  | 4, h => cases h; exact ⟨a4, b4⟩
  | 5, h => cases h; exact ⟨a5, b5⟩
  | k + 6, h => simp [k_tys] at h
def k_tm (i : Nat) : Term := [Term.string "NoGraveEnemy$Text" 48, .string "NoGraveEnemy$Text" 50, .string "NoGraveEnemy$Text" 52, .string "NoGraveEnemy$Text" 85, .string "NoGraveEnemy$Text" 91].getD i (.string "" 0)
def k_mm (i : Nat) : Term := [Term.string "NoGraveEnemyModel" 212, .string "NoGraveEnemyModel" 218, .string "NoGraveEnemyModel" 220, .string "NoGraveEnemyModel" 181, .string "NoGraveEnemyModel" 186].getD i (.string "" 0)
theorem k_5 {P : Nat → Prop} (h0 : P 0) (h1 : P 1) (h2 : P 2) (h3 : P 3) (h4 : P 4) : ∀ i, i < 5 → P i := by
  intro i hi
  match i, hi with
  | 0, _ => exact h0
  | 1, _ => exact h1
  | 2, _ => exact h2
  | 3, _ => exact h3
  | 4, _ => exact h4
theorem k_el {n : Nat} {P : Nat → Prop} (h : ∀ j, j < n → P j) : ∀ j, j < n → P j := h
theorem k_eqR {args : Array Value} {s : State} {t u : Term} {a : Nat} (h : (Cond.eq t u).before args s = true) (ht : t.eval args s none [] s = some (.ref a)) : u.eval args s none [] s = some (.ref a) := by
  cases hv : u.eval args s none [] s with
  | none => simp [Cond.before, Cond.holds, Cond.value, hv, ht] at h
  | some w =>
    simp only [Cond.before, Cond.holds, Cond.value, hv, ht] at h
    cases w <;> simp_all
theorem k_texts {args : Array Value} {s : State} {A : Nat → Prop} (hts : ∀ w ∈ lw_tbl, w.before args s = true) (hg : (Jvm.Cond.and given_1 narrow_1).before args s = true) (hA : ∀ a : Nat, a < s.heap.size → ¬ A a) : ∃ adK adV : Nat → Nat, vk_S 5 k_len k_byt adK adV A s s.heap ∧ ∀ q ∈ k_str, vk_R q.1 q.2.1 q.2.2.1 (adK q.2.2.2) s := by
  have hs := flat_of_before _ hg
  obtain ⟨adK, adV, h1, h2⟩ := vk_Sof (args := args) (s := s) (N := 5) (tm := k_tm) (len := k_len) (byt := k_byt) (A := A) (k_5 (by decide) (by decide) (by decide) (by decide) (by decide))
    (k_5 (hs _ (by decide +kernel)) (hs _ (by decide +kernel)) (hs _ (by decide +kernel)) (hs _ (by decide +kernel)) (hs _ (by decide +kernel)))
    (k_5 (hs _ (by decide +kernel)) (hs _ (by decide +kernel)) (hs _ (by decide +kernel)) (hs _ (by decide +kernel)) (hs _ (by decide +kernel)))
    (k_5 (hs _ (by decide +kernel)) (hs _ (by decide +kernel)) (hs _ (by decide +kernel)) (hs _ (by decide +kernel)) (hs _ (by decide +kernel)))
    (k_5 (hs _ (by decide +kernel)) (hs _ (by decide +kernel)) (hs _ (by decide +kernel)) (hs _ (by decide +kernel)) (hs _ (by decide +kernel)))
    (k_5 (by
      intro j hj
      match j, hj with
      | 0, _ => exact hs _ (by decide +kernel)
      | 1, _ => exact hs _ (by decide +kernel)
      | 2, _ => exact hs _ (by decide +kernel)
      | 3, _ => exact hs _ (by decide +kernel)
      | 4, _ => exact hs _ (by decide +kernel)
      | 5, _ => exact hs _ (by decide +kernel)) (by
      intro j hj
      match j, hj with
      | 0, _ => exact hs _ (by decide +kernel)
      | 1, _ => exact hs _ (by decide +kernel)
      | 2, _ => exact hs _ (by decide +kernel)
      | 3, _ => exact hs _ (by decide +kernel)
      | 4, _ => exact hs _ (by decide +kernel)) (by
      intro j hj
      match j, hj with
      | 0, _ => exact hs _ (by decide +kernel)
      | 1, _ => exact hs _ (by decide +kernel)
      | 2, _ => exact hs _ (by decide +kernel)
      | 3, _ => exact hs _ (by decide +kernel)
      | 4, _ => exact hs _ (by decide +kernel)) (by
      intro j hj
      match j, hj with
      | 0, _ => exact hs _ (by decide +kernel)
      | 1, _ => exact hs _ (by decide +kernel)
      | 2, _ => exact hs _ (by decide +kernel)
      | 3, _ => exact hs _ (by decide +kernel)
      | 4, _ => exact hs _ (by decide +kernel)
      | 5, _ => exact hs _ (by decide +kernel)) (by
      intro j hj
      match j, hj with
      | 0, _ => exact hs _ (by decide +kernel)
      | 1, _ => exact hs _ (by decide +kernel)
      | 2, _ => exact hs _ (by decide +kernel)))
    (by
      intro i j hi hj hij
      match i, hi, j, hj, hij with
      | 0, _, 0, _, hij => exact absurd rfl hij
      | 0, _, 1, _, _ => exact (by first | exact Or.inl (hs _ (by decide +kernel)) | exact Or.inr (hs _ (by decide +kernel)))
      | 0, _, 2, _, _ => exact (by first | exact Or.inl (hs _ (by decide +kernel)) | exact Or.inr (hs _ (by decide +kernel)))
      | 0, _, 3, _, _ => exact (by first | exact Or.inl (hs _ (by decide +kernel)) | exact Or.inr (hs _ (by decide +kernel)))
      | 0, _, 4, _, _ => exact (by first | exact Or.inl (hs _ (by decide +kernel)) | exact Or.inr (hs _ (by decide +kernel)))
      | 1, _, 0, _, _ => exact (by first | exact Or.inl (hs _ (by decide +kernel)) | exact Or.inr (hs _ (by decide +kernel)))
      | 1, _, 1, _, hij => exact absurd rfl hij
      | 1, _, 2, _, _ => exact (by first | exact Or.inl (hs _ (by decide +kernel)) | exact Or.inr (hs _ (by decide +kernel)))
      | 1, _, 3, _, _ => exact (by first | exact Or.inl (hs _ (by decide +kernel)) | exact Or.inr (hs _ (by decide +kernel)))
      | 1, _, 4, _, _ => exact (by first | exact Or.inl (hs _ (by decide +kernel)) | exact Or.inr (hs _ (by decide +kernel)))
      | 2, _, 0, _, _ => exact (by first | exact Or.inl (hs _ (by decide +kernel)) | exact Or.inr (hs _ (by decide +kernel)))
      | 2, _, 1, _, _ => exact (by first | exact Or.inl (hs _ (by decide +kernel)) | exact Or.inr (hs _ (by decide +kernel)))
      | 2, _, 2, _, hij => exact absurd rfl hij
      | 2, _, 3, _, _ => exact (by first | exact Or.inl (hs _ (by decide +kernel)) | exact Or.inr (hs _ (by decide +kernel)))
      | 2, _, 4, _, _ => exact (by first | exact Or.inl (hs _ (by decide +kernel)) | exact Or.inr (hs _ (by decide +kernel)))
      | 3, _, 0, _, _ => exact (by first | exact Or.inl (hs _ (by decide +kernel)) | exact Or.inr (hs _ (by decide +kernel)))
      | 3, _, 1, _, _ => exact (by first | exact Or.inl (hs _ (by decide +kernel)) | exact Or.inr (hs _ (by decide +kernel)))
      | 3, _, 2, _, _ => exact (by first | exact Or.inl (hs _ (by decide +kernel)) | exact Or.inr (hs _ (by decide +kernel)))
      | 3, _, 3, _, hij => exact absurd rfl hij
      | 3, _, 4, _, _ => exact (by first | exact Or.inl (hs _ (by decide +kernel)) | exact Or.inr (hs _ (by decide +kernel)))
      | 4, _, 0, _, _ => exact (by first | exact Or.inl (hs _ (by decide +kernel)) | exact Or.inr (hs _ (by decide +kernel)))
      | 4, _, 1, _, _ => exact (by first | exact Or.inl (hs _ (by decide +kernel)) | exact Or.inr (hs _ (by decide +kernel)))
      | 4, _, 2, _, _ => exact (by first | exact Or.inl (hs _ (by decide +kernel)) | exact Or.inr (hs _ (by decide +kernel)))
      | 4, _, 3, _, _ => exact (by first | exact Or.inl (hs _ (by decide +kernel)) | exact Or.inr (hs _ (by decide +kernel)))
      | 4, _, 4, _, hij => exact absurd rfl hij) hA
  refine ⟨adK, adV, h1, ?_⟩
  have e : ∀ i, i < 5 → (k_mm i).eval args s none [] s = some (.ref (adK i)) := k_5 (k_eqR (hs (.eq (k_tm 0) (k_mm 0)) (by decide +kernel)) (h2 0 (by decide))) (k_eqR (hs (.eq (k_tm 1) (k_mm 1)) (by decide +kernel)) (h2 1 (by decide))) (k_eqR (hs (.eq (k_tm 2) (k_mm 2)) (by decide +kernel)) (h2 2 (by decide))) (k_eqR (hs (.eq (k_tm 3) (k_mm 3)) (by decide +kernel)) (h2 3 (by decide))) (k_eqR (hs (.eq (k_tm 4) (k_mm 4)) (by decide +kernel)) (h2 4 (by decide)))
  intro q hq
  simp only [k_str, List.mem_cons, List.not_mem_nil, or_false] at hq
  rcases hq with rfl | rfl | rfl | rfl | rfl | rfl | rfl | rfl | rfl | rfl
  · exact vk_R.of (hts _ (k_I2 147 (by decide +kernel))) (h2 0 (by decide))
  · exact vk_R.of (hts _ (k_I2 148 (by decide +kernel))) (h2 1 (by decide))
  · exact vk_R.of (hts _ (k_I2 149 (by decide +kernel))) (h2 2 (by decide))
  · exact vk_R.of (hts _ (k_I2 222 (by decide +kernel))) (h2 3 (by decide))
  · exact vk_R.of (hts _ (k_I3 40 (by decide +kernel))) (h2 4 (by decide))
  · exact vk_R.of (hts _ (k_I5 48 (by decide +kernel))) (e 0 (by decide))
  · exact vk_R.of (hts _ (k_I5 59 (by decide +kernel))) (e 1 (by decide))
  · exact vk_R.of (hts _ (k_I5 60 (by decide +kernel))) (e 2 (by decide))
  · exact vk_R.of (hts _ (k_I5 93 (by decide +kernel))) (e 3 (by decide))
  · exact vk_R.of (hts _ (k_I5 95 (by decide +kernel))) (e 4 (by decide))
theorem k_amb {args : Array Value} {s : State} {A : Nat → Prop} (hts : ∀ w ∈ lw_tbl, w.before args s = true) (hg : (Jvm.Cond.and given_1 narrow_1).before args s = true) (hA : ∀ a : Nat, a < s.heap.size → ¬ A a) : ∃ f : Nat → Nat, ∀ (D : va_G) (cy : Nat → ClassId), Amb (D, cy, f) A s s.heap := by
  have hs := flat_of_before _ hg
  obtain ⟨adK, adV, hS, hR⟩ := k_texts hts hg hA
  obtain ⟨tABOVE, eABOVE, vABOVE⟩ := va_Tof (args := args) (s := s) (tm := .static "NoGraveEnemy" "ABOVE" "[I") (ty := .int) (N := 7) (f := fun j => .int (k_above j)) (A := A) (by decide) (hs _ (by decide +kernel)) (va_eqt (hs (.eq (.length (.static "NoGraveEnemy" "ABOVE" "[I")) (.int 7)) (by decide +kernel))) (by
    intro j hj
    match j, hj with
    | 0, _ => exact va_eqt (hs _ (by decide +kernel))
    | 1, _ => exact va_eqt (hs _ (by decide +kernel))
    | 2, _ => exact va_eqt (hs _ (by decide +kernel))
    | 3, _ => exact va_eqt (hs _ (by decide +kernel))
    | 4, _ => exact va_eqt (hs _ (by decide +kernel))
    | 5, _ => exact va_eqt (hs _ (by decide +kernel))
    | 6, _ => exact va_eqt (hs _ (by decide +kernel))
    | j + 7, hj => exact absurd hj (by omega)) hA
  obtain ⟨tBODIES, eBODIES, vBODIES⟩ := va_Tof (args := args) (s := s) (tm := .static "NoGraveEnemy" "BODIES" "[I") (ty := .int) (N := 21) (f := fun j => .int (k_bodies j)) (A := A) (by decide) (hs _ (by decide +kernel)) (va_eqt (hs (.eq (.length (.static "NoGraveEnemy" "BODIES" "[I")) (.int 21)) (by decide +kernel))) (by
    intro j hj
    match j, hj with
    | 0, _ => exact va_eqt (hs _ (by decide +kernel))
    | 1, _ => exact va_eqt (hs _ (by decide +kernel))
    | 2, _ => exact va_eqt (hs _ (by decide +kernel))
    | 3, _ => exact va_eqt (hs _ (by decide +kernel))
    | 4, _ => exact va_eqt (hs _ (by decide +kernel))
    | 5, _ => exact va_eqt (hs _ (by decide +kernel))
    | 6, _ => exact va_eqt (hs _ (by decide +kernel))
    | 7, _ => exact va_eqt (hs _ (by decide +kernel))
    | 8, _ => exact va_eqt (hs _ (by decide +kernel))
    | 9, _ => exact va_eqt (hs _ (by decide +kernel))
    | 10, _ => exact va_eqt (hs _ (by decide +kernel))
    | 11, _ => exact va_eqt (hs _ (by decide +kernel))
    | 12, _ => exact va_eqt (hs _ (by decide +kernel))
    | 13, _ => exact va_eqt (hs _ (by decide +kernel))
    | 14, _ => exact va_eqt (hs _ (by decide +kernel))
    | 15, _ => exact va_eqt (hs _ (by decide +kernel))
    | 16, _ => exact va_eqt (hs _ (by decide +kernel))
    | 17, _ => exact va_eqt (hs _ (by decide +kernel))
    | 18, _ => exact va_eqt (hs _ (by decide +kernel))
    | 19, _ => exact va_eqt (hs _ (by decide +kernel))
    | 20, _ => exact va_eqt (hs _ (by decide +kernel))
    | j + 21, hj => exact absurd hj (by omega)) hA
  refine ⟨fun k => if k = 0 then tABOVE else if k = 1 then tBODIES else if k < 20 then adK (k - 10) else adV (k - 20), fun D cy => ⟨fun w hw => va_Nw.of (k_nest_on (k_nest_is hw)) (hts _ (k_nest_tbl hw)), fun q hq => ?_, ?_, ⟨va_Zref (hts _ (k_I3 223 (by decide +kernel))) (hts _ (k_I1 1 (by decide +kernel))) eABOVE hA, vABOVE⟩, ⟨va_Zref (hts _ (k_I3 221 (by decide +kernel))) (hts _ (k_I1 1 (by decide +kernel))) eBODIES hA, vBODIES⟩, va_Zof (hts _ (k_I2 163 (by decide +kernel))) (hts _ (k_I1 13 (by decide +kernel))) (va_eqi (hs _ (by decide +kernel))) hA, va_Zqof (hts _ (k_I2 179 (by decide +kernel))) (hts _ (k_I1 15 (by decide +kernel))) (hs _ (by decide +kernel)) hA⟩⟩
  · have h := hR q hq
    have hq5 : q.2.2.2 < 5 := by
      have : ∀ q ∈ k_str, q.2.2.2 < 5 := by decide +kernel
      exact this q hq
    show vk_R q.1 q.2.1 q.2.2.1 (if 10 + q.2.2.2 = 0 then tABOVE else if 10 + q.2.2.2 = 1 then tBODIES else if 10 + q.2.2.2 < 20 then adK (10 + q.2.2.2 - 10) else adV (10 + q.2.2.2 - 20)) s
    rw [if_neg (by omega), if_neg (by omega), if_pos (by omega), Nat.add_sub_cancel_left]
    exact h
  · refine ⟨fun i hi => ?_, fun i j hi hj hij => ?_⟩
    · have h := hS.1 i hi
      show va_O _ (if 10 + i = 0 then tABOVE else if 10 + i = 1 then tBODIES else if 10 + i < 20 then adK (10 + i - 10) else adV (10 + i - 20)) _ _ _ ∧ va_OF _ _ _ _ (if 10 + i = 0 then tABOVE else if 10 + i = 1 then tBODIES else if 10 + i < 20 then adK (10 + i - 10) else adV (10 + i - 20)) _ _ _ ∧ va_OF _ _ _ (.ref (if 20 + i = 0 then tABOVE else if 20 + i = 1 then tBODIES else if 20 + i < 20 then adK (20 + i - 10) else adV (20 + i - 20))) (if 10 + i = 0 then tABOVE else if 10 + i = 1 then tBODIES else if 10 + i < 20 then adK (10 + i - 10) else adV (10 + i - 20)) _ _ _ ∧ va_T _ (if 20 + i = 0 then tABOVE else if 20 + i = 1 then tBODIES else if 20 + i < 20 then adK (20 + i - 10) else adV (20 + i - 20)) _ _ _ _ _
      rw [if_neg (by omega), if_neg (by omega), if_pos (by omega), Nat.add_sub_cancel_left, if_neg (by omega), if_neg (by omega), if_neg (by omega), Nat.add_sub_cancel_left]
      exact h
    · refine hS.2 i j hi hj ?_
      have h : (if 10 + i = 0 then tABOVE else if 10 + i = 1 then tBODIES else if 10 + i < 20 then adK (10 + i - 10) else adV (10 + i - 20)) = (if 10 + j = 0 then tABOVE else if 10 + j = 1 then tBODIES else if 10 + j < 20 then adK (10 + j - 10) else adV (10 + j - 20)) := hij
      rw [if_neg (by omega), if_neg (by omega), if_pos (by omega), Nat.add_sub_cancel_left, if_neg (by omega), if_neg (by omega), if_pos (by omega), Nat.add_sub_cancel_left] at h
      exact h
