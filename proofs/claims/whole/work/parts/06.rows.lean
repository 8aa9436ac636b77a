def gd {α : Type} (i : Int32) (n : Nat) (X : Option α) : Option α := if i < 0 ∨ n ≤ i.toNatClampNeg then none else X
theorem gd_some {α : Type} {i : Int32} {n : Nat} {X : Option α} {q : α} (h : gd i n X = some q) : vp_in i n ∧ X = some q := by
  unfold gd at h
  split at h
  · cases h
  · exact ⟨by assumption, h⟩
theorem gd_in {α : Type} {i : Int32} {n : Nat} {X : Option α} (h : vp_in i n) : gd i n X = X := if_neg h
def gz {α : Type} (y : Int32) (X : Option α) : Option α := if y = 0 then none else X
theorem gz_some {α : Type} {y : Int32} {X : Option α} {q : α} (h : gz y X = some q) : ¬ y = 0 ∧ X = some q := by
  unfold gz at h
  split at h
  · cases h
  · exact ⟨by assumption, h⟩
def gn {α : Type} (ty : FieldType) (x : Int32) (X : Option α) : Option α := if vp_nar ty x = x then X else none
def gt {α : Type} (c : Bool) (X : Option α) : Option α := if c = true then X else none
theorem gt_some {α : Type} {c : Bool} {X : Option α} {q : α} (h : gt c X = some q) : c = true ∧ X = some q := by
  unfold gt at h
  split at h
  · exact ⟨by assumption, h⟩
  · cases h
def nm {α β : Type} (x : α) (k : α → Option β) : Option β := k x
theorem k_bind {α β : Type} {X : Option α} {F : α → Option β} {q : β} (h : X.bind F = some q) : ∃ r, X = some r ∧ F r = some q := by
  cases X with
  | none => cases h
  | some r => exact ⟨r, rfl, h⟩
theorem k_ite {α : Type} {c : Prop} {i : Decidable c} {A B : Option α} {q : α} (h : @ite _ c i A B = some q) : (c → A = some q) ∧ (¬ c → B = some q) := ⟨fun x => by rwa [if_pos x] at h, fun x => by rwa [if_neg x] at h⟩
section JR
variable {G : Gx} {K : Kx} {cc : ByteArray} {own : String} {nL lv cells slots : Nat} {ws : va_W} {L : List (Nat × Value)} {pc : Nat} {st : List Value}

theorem j_iconst (C : Cx G K cc own nL lv) {n : Int} {v : Int32} (hv : Int32.ofInt n = v) (hd : decode cc pc = .ok (.iconst n, 1)) (k : J G K nL cells slots ws L (pc + 1) (.int v :: st)) : J G K nL cells slots ws L (pc) (st) := by
  obtain ⟨p, l, e, R, s, m, args, below, meth, c, A, Q⟩ := K
  obtain ⟨⟨hx, hb, hml, hown⟩, hts, hK, hA, hAm, hlk, hR⟩ := C
  exact fun H locs ls hP hD hS hl => lv_iconst hx hb hd hv (k H locs ls hP hD hS hl)
theorem j_bipush (C : Cx G K cc own nL lv) {n : Int} {v : Int32} (hv : (Int8.ofInt n).toInt32 = v) (hd : decode cc pc = .ok (.bipush n, 2)) (k : J G K nL cells slots ws L (pc + 2) (.int v :: st)) : J G K nL cells slots ws L (pc) (st) := by
  obtain ⟨p, l, e, R, s, m, args, below, meth, c, A, Q⟩ := K
  obtain ⟨⟨hx, hb, hml, hown⟩, hts, hK, hA, hAm, hlk, hR⟩ := C
  exact fun H locs ls hP hD hS hl => lv_bipush hx hb hd hv (k H locs ls hP hD hS hl)
theorem j_sipush (C : Cx G K cc own nL lv) {n : Int} {v : Int32} (hv : (Int16.ofInt n).toInt32 = v) (hd : decode cc pc = .ok (.sipush n, 3)) (k : J G K nL cells slots ws L (pc + 3) (.int v :: st)) : J G K nL cells slots ws L (pc) (st) := by
  obtain ⟨p, l, e, R, s, m, args, below, meth, c, A, Q⟩ := K
  obtain ⟨⟨hx, hb, hml, hown⟩, hts, hK, hA, hAm, hlk, hR⟩ := C
  exact fun H locs ls hP hD hS hl => lv_sipush hx hb hd hv (k H locs ls hP hD hS hl)
theorem j_lconst (C : Cx G K cc own nL lv) {n : Fin 2} {v : Int64} (hv : Int64.ofNat (n : Nat) = v) (hd : decode cc pc = .ok (.lconst n, 1)) (k : J G K nL cells slots ws L (pc + 1) (.long v :: st)) : J G K nL cells slots ws L (pc) (st) := by
  obtain ⟨p, l, e, R, s, m, args, below, meth, c, A, Q⟩ := K
  obtain ⟨⟨hx, hb, hml, hown⟩, hts, hK, hA, hAm, hlk, hR⟩ := C
  exact fun H locs ls hP hD hS hl => lv_lconst hx hb hd hv (k H locs ls hP hD hS hl)
theorem j_ldc (C : Cx G K cc own nL lv) {idx : Nat} {v : Int32} (hw : Cond.constant own idx v ∈ k_U) (hd : decode cc pc = .ok (.ldc idx, 2)) (k : J G K nL cells slots ws L (pc + 2) (.int v :: st)) : J G K nL cells slots ws L (pc) (st) := by
  obtain ⟨p, l, e, R, s, m, args, below, meth, c, A, Q⟩ := K
  obtain ⟨⟨hx, hb, hml, hown⟩, hts, hK, hA, hAm, hlk, hR⟩ := C
  exact fun H locs ls hP hD hS hl => lv_ldc hx hb hown (hts _ hw) hd (k H locs ls hP hD hS hl)
theorem j_ldcw (C : Cx G K cc own nL lv) {idx : Nat} {v : Int32} (hw : Cond.constant own idx v ∈ k_U) (hd : decode cc pc = .ok (.ldc_w idx, 3)) (k : J G K nL cells slots ws L (pc + 3) (.int v :: st)) : J G K nL cells slots ws L (pc) (st) := by
  obtain ⟨p, l, e, R, s, m, args, below, meth, c, A, Q⟩ := K
  obtain ⟨⟨hx, hb, hml, hown⟩, hts, hK, hA, hAm, hlk, hR⟩ := C
  exact fun H locs ls hP hD hS hl => lv_ldcw hx hb hown (hts _ hw) hd (k H locs ls hP hD hS hl)
theorem j_ldc2 (C : Cx G K cc own nL lv) {idx : Nat} {v : Int64} (hw : Cond.constantLong own idx v ∈ k_U) (hd : decode cc pc = .ok (.ldc2_w idx, 3)) (k : J G K nL cells slots ws L (pc + 3) (.long v :: st)) : J G K nL cells slots ws L (pc) (st) := by
  obtain ⟨p, l, e, R, s, m, args, below, meth, c, A, Q⟩ := K
  obtain ⟨⟨hx, hb, hml, hown⟩, hts, hK, hA, hAm, hlk, hR⟩ := C
  exact fun H locs ls hP hD hS hl => lv_ldc2 hx hb hown (hts _ hw) hd (k H locs ls hP hD hS hl)
theorem j_iload_n (C : Cx G K cc own nL lv) {j : Fin 4} {i : Nat} {x : Int32} (t : Nat) (hi : (j : Nat) = i) (hl0 : L[t]? = some (i, .int x)) (hd : decode cc pc = .ok (.iload_n j, 1)) (k : J G K nL cells slots ws L (pc + 1) (.int x :: st)) : J G K nL cells slots ws L (pc) (st) := by
  obtain ⟨p, l, e, R, s, m, args, below, meth, c, A, Q⟩ := K
  obtain ⟨⟨hx, hb, hml, hown⟩, hts, hK, hA, hAm, hlk, hR⟩ := C
  exact fun H locs ls hP hD hS hl => lv_iload_n hx hb hd hi (lv_at hl t hl0) (k H locs ls hP hD hS hl)
theorem j_iload (C : Cx G K cc own nL lv) {i : Nat} {x : Int32} (t : Nat) (hl0 : L[t]? = some (i, .int x)) (hd : decode cc pc = .ok (.iload i, 2)) (k : J G K nL cells slots ws L (pc + 2) (.int x :: st)) : J G K nL cells slots ws L (pc) (st) := by
  obtain ⟨p, l, e, R, s, m, args, below, meth, c, A, Q⟩ := K
  obtain ⟨⟨hx, hb, hml, hown⟩, hts, hK, hA, hAm, hlk, hR⟩ := C
  exact fun H locs ls hP hD hS hl => lv_iload hx hb hd (lv_at hl t hl0) (k H locs ls hP hD hS hl)
theorem j_lload_n (C : Cx G K cc own nL lv) {j : Fin 4} {i : Nat} {x : Int64} (t : Nat) (hi : (j : Nat) = i) (hl0 : L[t]? = some (i, .long x)) (hd : decode cc pc = .ok (.lload_n j, 1)) (k : J G K nL cells slots ws L (pc + 1) (.long x :: st)) : J G K nL cells slots ws L (pc) (st) := by
  obtain ⟨p, l, e, R, s, m, args, below, meth, c, A, Q⟩ := K
  obtain ⟨⟨hx, hb, hml, hown⟩, hts, hK, hA, hAm, hlk, hR⟩ := C
  exact fun H locs ls hP hD hS hl => lv_lload_n hx hb hd hi (lv_at hl t hl0) (k H locs ls hP hD hS hl)
theorem j_lload (C : Cx G K cc own nL lv) {i : Nat} {x : Int64} (t : Nat) (hl0 : L[t]? = some (i, .long x)) (hd : decode cc pc = .ok (.lload i, 2)) (k : J G K nL cells slots ws L (pc + 2) (.long x :: st)) : J G K nL cells slots ws L (pc) (st) := by
  obtain ⟨p, l, e, R, s, m, args, below, meth, c, A, Q⟩ := K
  obtain ⟨⟨hx, hb, hml, hown⟩, hts, hK, hA, hAm, hlk, hR⟩ := C
  exact fun H locs ls hP hD hS hl => lv_lload hx hb hd (lv_at hl t hl0) (k H locs ls hP hD hS hl)
theorem j_aload_n (C : Cx G K cc own nL lv) {j : Fin 4} {i : Nat} {x : Nat} (t : Nat) (hi : (j : Nat) = i) (hl0 : L[t]? = some (i, .ref x)) (hd : decode cc pc = .ok (.aload_n j, 1)) (k : J G K nL cells slots ws L (pc + 1) (.ref x :: st)) : J G K nL cells slots ws L (pc) (st) := by
  obtain ⟨p, l, e, R, s, m, args, below, meth, c, A, Q⟩ := K
  obtain ⟨⟨hx, hb, hml, hown⟩, hts, hK, hA, hAm, hlk, hR⟩ := C
  exact fun H locs ls hP hD hS hl => lv_aload_n hx hb hd hi (lv_at hl t hl0) (k H locs ls hP hD hS hl)
theorem j_aload (C : Cx G K cc own nL lv) {i : Nat} {x : Nat} (t : Nat) (hl0 : L[t]? = some (i, .ref x)) (hd : decode cc pc = .ok (.aload i, 2)) (k : J G K nL cells slots ws L (pc + 2) (.ref x :: st)) : J G K nL cells slots ws L (pc) (st) := by
  obtain ⟨p, l, e, R, s, m, args, below, meth, c, A, Q⟩ := K
  obtain ⟨⟨hx, hb, hml, hown⟩, hts, hK, hA, hAm, hlk, hR⟩ := C
  exact fun H locs ls hP hD hS hl => lv_aload hx hb hd (lv_at hl t hl0) (k H locs ls hP hD hS hl)
theorem j_istore_n (C : Cx G K cc own nL lv) {j : Fin 4} {i : Nat} {x : Int32} {L' : List (Nat × Value)} (hd : decode cc pc = .ok (.istore_n j, 1)) (hi : (j : Nat) = i) (hn : i < nL) (hl1 : (i, Value.int x) :: L.filter (fun q => !(q.1 == i) && !(q.1 + 1 == i && q.2.category == 2)) = L') (k : J G K nL cells slots ws L' (pc + 1) (st)) : J G K nL cells slots ws L (pc) (.int x :: st) := by
  obtain ⟨p, l, e, R, s, m, args, below, meth, c, A, Q⟩ := K
  obtain ⟨⟨hx, hb, hml, hown⟩, hts, hK, hA, hAm, hlk, hR⟩ := C
  exact fun H locs ls hP hD hS hl => lv_istore_n hx hb hd hi hl hn hl1 (fun ls hl => k H locs ls hP hD hS hl)
theorem j_istore (C : Cx G K cc own nL lv) {i : Nat} {x : Int32} {L' : List (Nat × Value)} (hd : decode cc pc = .ok (.istore i, 2)) (hn : i < nL) (hl1 : (i, Value.int x) :: L.filter (fun q => !(q.1 == i) && !(q.1 + 1 == i && q.2.category == 2)) = L') (k : J G K nL cells slots ws L' (pc + 2) (st)) : J G K nL cells slots ws L (pc) (.int x :: st) := by
  obtain ⟨p, l, e, R, s, m, args, below, meth, c, A, Q⟩ := K
  obtain ⟨⟨hx, hb, hml, hown⟩, hts, hK, hA, hAm, hlk, hR⟩ := C
  exact fun H locs ls hP hD hS hl => lv_istore hx hb hd  hl hn hl1 (fun ls hl => k H locs ls hP hD hS hl)
theorem j_astore_n (C : Cx G K cc own nL lv) {j : Fin 4} {i : Nat} {x : Nat} {L' : List (Nat × Value)} (hd : decode cc pc = .ok (.astore_n j, 1)) (hi : (j : Nat) = i) (hn : i < nL) (hl1 : (i, Value.ref x) :: L.filter (fun q => !(q.1 == i) && !(q.1 + 1 == i && q.2.category == 2)) = L') (k : J G K nL cells slots ws L' (pc + 1) (st)) : J G K nL cells slots ws L (pc) (.ref x :: st) := by
  obtain ⟨p, l, e, R, s, m, args, below, meth, c, A, Q⟩ := K
  obtain ⟨⟨hx, hb, hml, hown⟩, hts, hK, hA, hAm, hlk, hR⟩ := C
  exact fun H locs ls hP hD hS hl => lv_astore_n hx hb hd hi hl hn hl1 (fun ls hl => k H locs ls hP hD hS hl)
theorem j_astore (C : Cx G K cc own nL lv) {i : Nat} {x : Nat} {L' : List (Nat × Value)} (hd : decode cc pc = .ok (.astore i, 2)) (hn : i < nL) (hl1 : (i, Value.ref x) :: L.filter (fun q => !(q.1 == i) && !(q.1 + 1 == i && q.2.category == 2)) = L') (k : J G K nL cells slots ws L' (pc + 2) (st)) : J G K nL cells slots ws L (pc) (.ref x :: st) := by
  obtain ⟨p, l, e, R, s, m, args, below, meth, c, A, Q⟩ := K
  obtain ⟨⟨hx, hb, hml, hown⟩, hts, hK, hA, hAm, hlk, hR⟩ := C
  exact fun H locs ls hP hD hS hl => lv_astore hx hb hd  hl hn hl1 (fun ls hl => k H locs ls hP hD hS hl)
theorem j_iinc (C : Cx G K cc own nL lv) {i t : Nat} {n : Int} {x v : Int32} {L' : List (Nat × Value)} (hd : decode cc pc = .ok (.iinc i n, 3)) (hk : L[t]? = some (i, .int x)) (hv : x + Int32.ofInt n = v) (hn : i < nL) (hl1 : (i, Value.int v) :: L.filter (fun q => !(q.1 == i) && !(q.1 + 1 == i && q.2.category == 2)) = L') (k : J G K nL cells slots ws L' (pc + 3) (st)) : J G K nL cells slots ws L (pc) (st) := by
  obtain ⟨p, l, e, R, s, m, args, below, meth, c, A, Q⟩ := K
  obtain ⟨⟨hx, hb, hml, hown⟩, hts, hK, hA, hAm, hlk, hR⟩ := C
  exact fun H locs ls hP hD hS hl => lv_iinc hx hb hd hl hk hv hn hl1 (fun ls hl => k H locs ls hP hD hS hl)
theorem j_iadd (C : Cx G K cc own nL lv) {x y : Int32} (hd : decode cc pc = .ok (.iadd, 1)) (k : J G K nL cells slots ws L (pc + 1) (.int (x + y) :: st)) : J G K nL cells slots ws L (pc) (.int y :: .int x :: st) := by
  obtain ⟨p, l, e, R, s, m, args, below, meth, c, A, Q⟩ := K
  obtain ⟨⟨hx, hb, hml, hown⟩, hts, hK, hA, hAm, hlk, hR⟩ := C
  exact fun H locs ls hP hD hS hl => lv_iadd hx hb hd (k H locs ls hP hD hS hl)
theorem j_isub (C : Cx G K cc own nL lv) {x y : Int32} (hd : decode cc pc = .ok (.isub, 1)) (k : J G K nL cells slots ws L (pc + 1) (.int (x - y) :: st)) : J G K nL cells slots ws L (pc) (.int y :: .int x :: st) := by
  obtain ⟨p, l, e, R, s, m, args, below, meth, c, A, Q⟩ := K
  obtain ⟨⟨hx, hb, hml, hown⟩, hts, hK, hA, hAm, hlk, hR⟩ := C
  exact fun H locs ls hP hD hS hl => lv_isub hx hb hd (k H locs ls hP hD hS hl)
theorem j_imul (C : Cx G K cc own nL lv) {x y : Int32} (hd : decode cc pc = .ok (.imul, 1)) (k : J G K nL cells slots ws L (pc + 1) (.int (x * y) :: st)) : J G K nL cells slots ws L (pc) (.int y :: .int x :: st) := by
  obtain ⟨p, l, e, R, s, m, args, below, meth, c, A, Q⟩ := K
  obtain ⟨⟨hx, hb, hml, hown⟩, hts, hK, hA, hAm, hlk, hR⟩ := C
  exact fun H locs ls hP hD hS hl => lv_imul hx hb hd (k H locs ls hP hD hS hl)
theorem j_iand (C : Cx G K cc own nL lv) {x y : Int32} (hd : decode cc pc = .ok (.iand, 1)) (k : J G K nL cells slots ws L (pc + 1) (.int (x &&& y) :: st)) : J G K nL cells slots ws L (pc) (.int y :: .int x :: st) := by
  obtain ⟨p, l, e, R, s, m, args, below, meth, c, A, Q⟩ := K
  obtain ⟨⟨hx, hb, hml, hown⟩, hts, hK, hA, hAm, hlk, hR⟩ := C
  exact fun H locs ls hP hD hS hl => lv_iand hx hb hd (k H locs ls hP hD hS hl)
theorem j_ior (C : Cx G K cc own nL lv) {x y : Int32} (hd : decode cc pc = .ok (.ior, 1)) (k : J G K nL cells slots ws L (pc + 1) (.int (x ||| y) :: st)) : J G K nL cells slots ws L (pc) (.int y :: .int x :: st) := by
  obtain ⟨p, l, e, R, s, m, args, below, meth, c, A, Q⟩ := K
  obtain ⟨⟨hx, hb, hml, hown⟩, hts, hK, hA, hAm, hlk, hR⟩ := C
  exact fun H locs ls hP hD hS hl => lv_ior hx hb hd (k H locs ls hP hD hS hl)
theorem j_ixor (C : Cx G K cc own nL lv) {x y : Int32} (hd : decode cc pc = .ok (.ixor, 1)) (k : J G K nL cells slots ws L (pc + 1) (.int (x ^^^ y) :: st)) : J G K nL cells slots ws L (pc) (.int y :: .int x :: st) := by
  obtain ⟨p, l, e, R, s, m, args, below, meth, c, A, Q⟩ := K
  obtain ⟨⟨hx, hb, hml, hown⟩, hts, hK, hA, hAm, hlk, hR⟩ := C
  exact fun H locs ls hP hD hS hl => lv_ixor hx hb hd (k H locs ls hP hD hS hl)
theorem j_ishl (C : Cx G K cc own nL lv) {x y : Int32} (hd : decode cc pc = .ok (.ishl, 1)) (k : J G K nL cells slots ws L (pc + 1) (.int (x <<< (y &&& 31)) :: st)) : J G K nL cells slots ws L (pc) (.int y :: .int x :: st) := by
  obtain ⟨p, l, e, R, s, m, args, below, meth, c, A, Q⟩ := K
  obtain ⟨⟨hx, hb, hml, hown⟩, hts, hK, hA, hAm, hlk, hR⟩ := C
  exact fun H locs ls hP hD hS hl => lv_ishl hx hb hd (k H locs ls hP hD hS hl)
theorem j_ishr (C : Cx G K cc own nL lv) {x y : Int32} (hd : decode cc pc = .ok (.ishr, 1)) (k : J G K nL cells slots ws L (pc + 1) (.int (x >>> (y &&& 31)) :: st)) : J G K nL cells slots ws L (pc) (.int y :: .int x :: st) := by
  obtain ⟨p, l, e, R, s, m, args, below, meth, c, A, Q⟩ := K
  obtain ⟨⟨hx, hb, hml, hown⟩, hts, hK, hA, hAm, hlk, hR⟩ := C
  exact fun H locs ls hP hD hS hl => lv_ishr hx hb hd (k H locs ls hP hD hS hl)
theorem j_iushr (C : Cx G K cc own nL lv) {x y : Int32} (hd : decode cc pc = .ok (.iushr, 1)) (k : J G K nL cells slots ws L (pc + 1) (.int ((x.toUInt32 >>> (y.toUInt32 &&& Int32.toUInt32 31)).toInt32) :: st)) : J G K nL cells slots ws L (pc) (.int y :: .int x :: st) := by
  obtain ⟨p, l, e, R, s, m, args, below, meth, c, A, Q⟩ := K
  obtain ⟨⟨hx, hb, hml, hown⟩, hts, hK, hA, hAm, hlk, hR⟩ := C
  exact fun H locs ls hP hD hS hl => lv_iushr hx hb hd rfl (k H locs ls hP hD hS hl)
theorem j_ineg (C : Cx G K cc own nL lv) {x : Int32} (hd : decode cc pc = .ok (.ineg, 1)) (k : J G K nL cells slots ws L (pc + 1) (.int (-x) :: st)) : J G K nL cells slots ws L (pc) (.int x :: st) := by
  obtain ⟨p, l, e, R, s, m, args, below, meth, c, A, Q⟩ := K
  obtain ⟨⟨hx, hb, hml, hown⟩, hts, hK, hA, hAm, hlk, hR⟩ := C
  exact fun H locs ls hP hD hS hl => lv_ineg hx hb hd (k H locs ls hP hD hS hl)
theorem j_ladd (C : Cx G K cc own nL lv) {x y : Int64} (hd : decode cc pc = .ok (.ladd, 1)) (k : J G K nL cells slots ws L (pc + 1) (.long (x + y) :: st)) : J G K nL cells slots ws L (pc) (.long y :: .long x :: st) := by
  obtain ⟨p, l, e, R, s, m, args, below, meth, c, A, Q⟩ := K
  obtain ⟨⟨hx, hb, hml, hown⟩, hts, hK, hA, hAm, hlk, hR⟩ := C
  exact fun H locs ls hP hD hS hl => lv_ladd hx hb hd (k H locs ls hP hD hS hl)
theorem j_land (C : Cx G K cc own nL lv) {x y : Int64} (hd : decode cc pc = .ok (.land, 1)) (k : J G K nL cells slots ws L (pc + 1) (.long (x &&& y) :: st)) : J G K nL cells slots ws L (pc) (.long y :: .long x :: st) := by
  obtain ⟨p, l, e, R, s, m, args, below, meth, c, A, Q⟩ := K
  obtain ⟨⟨hx, hb, hml, hown⟩, hts, hK, hA, hAm, hlk, hR⟩ := C
  exact fun H locs ls hP hD hS hl => lv_land hx hb hd (k H locs ls hP hD hS hl)
theorem j_lor (C : Cx G K cc own nL lv) {x y : Int64} (hd : decode cc pc = .ok (.lor, 1)) (k : J G K nL cells slots ws L (pc + 1) (.long (x ||| y) :: st)) : J G K nL cells slots ws L (pc) (.long y :: .long x :: st) := by
  obtain ⟨p, l, e, R, s, m, args, below, meth, c, A, Q⟩ := K
  obtain ⟨⟨hx, hb, hml, hown⟩, hts, hK, hA, hAm, hlk, hR⟩ := C
  exact fun H locs ls hP hD hS hl => lv_lor hx hb hd (k H locs ls hP hD hS hl)
theorem j_lshl (C : Cx G K cc own nL lv) {x : Int64} {y : Int32} (hd : decode cc pc = .ok (.lshl, 1)) (k : J G K nL cells slots ws L (pc + 1) (.long (x <<< (y.toInt64 &&& 63)) :: st)) : J G K nL cells slots ws L (pc) (.int y :: .long x :: st) := by
  obtain ⟨p, l, e, R, s, m, args, below, meth, c, A, Q⟩ := K
  obtain ⟨⟨hx, hb, hml, hown⟩, hts, hK, hA, hAm, hlk, hR⟩ := C
  exact fun H locs ls hP hD hS hl => lv_lshl hx hb hd rfl (k H locs ls hP hD hS hl)
theorem j_i2l (C : Cx G K cc own nL lv) {x : Int32} (hd : decode cc pc = .ok (.i2l, 1)) (k : J G K nL cells slots ws L (pc + 1) (.long x.toInt64 :: st)) : J G K nL cells slots ws L (pc) (.int x :: st) := by
  obtain ⟨p, l, e, R, s, m, args, below, meth, c, A, Q⟩ := K
  obtain ⟨⟨hx, hb, hml, hown⟩, hts, hK, hA, hAm, hlk, hR⟩ := C
  exact fun H locs ls hP hD hS hl => lv_i2l hx hb hd rfl (k H locs ls hP hD hS hl)
theorem j_l2i (C : Cx G K cc own nL lv) {x : Int64} (hd : decode cc pc = .ok (.l2i, 1)) (k : J G K nL cells slots ws L (pc + 1) (.int x.toInt32 :: st)) : J G K nL cells slots ws L (pc) (.long x :: st) := by
  obtain ⟨p, l, e, R, s, m, args, below, meth, c, A, Q⟩ := K
  obtain ⟨⟨hx, hb, hml, hown⟩, hts, hK, hA, hAm, hlk, hR⟩ := C
  exact fun H locs ls hP hD hS hl => lv_l2i hx hb hd rfl (k H locs ls hP hD hS hl)
theorem j_i2b (C : Cx G K cc own nL lv) {x : Int32} (hd : decode cc pc = .ok (.i2b, 1)) (k : J G K nL cells slots ws L (pc + 1) (.int x.toInt8.toInt32 :: st)) : J G K nL cells slots ws L (pc) (.int x :: st) := by
  obtain ⟨p, l, e, R, s, m, args, below, meth, c, A, Q⟩ := K
  obtain ⟨⟨hx, hb, hml, hown⟩, hts, hK, hA, hAm, hlk, hR⟩ := C
  exact fun H locs ls hP hD hS hl => lv_i2b hx hb hd rfl (k H locs ls hP hD hS hl)
theorem j_i2s (C : Cx G K cc own nL lv) {x : Int32} (hd : decode cc pc = .ok (.i2s, 1)) (k : J G K nL cells slots ws L (pc + 1) (.int x.toInt16.toInt32 :: st)) : J G K nL cells slots ws L (pc) (.int x :: st) := by
  obtain ⟨p, l, e, R, s, m, args, below, meth, c, A, Q⟩ := K
  obtain ⟨⟨hx, hb, hml, hown⟩, hts, hK, hA, hAm, hlk, hR⟩ := C
  exact fun H locs ls hP hD hS hl => lv_i2s hx hb hd rfl (k H locs ls hP hD hS hl)
theorem j_i2c (C : Cx G K cc own nL lv) {x : Int32} (hd : decode cc pc = .ok (.i2c, 1)) (k : J G K nL cells slots ws L (pc + 1) (.int (x.toUInt32 % 65536).toInt32 :: st)) : J G K nL cells slots ws L (pc) (.int x :: st) := by
  obtain ⟨p, l, e, R, s, m, args, below, meth, c, A, Q⟩ := K
  obtain ⟨⟨hx, hb, hml, hown⟩, hts, hK, hA, hAm, hlk, hR⟩ := C
  exact fun H locs ls hP hD hS hl => lv_i2c hx hb hd rfl (k H locs ls hP hD hS hl)
theorem j_lcmp (C : Cx G K cc own nL lv) {x y : Int64} (hd : decode cc pc = .ok (.lcmp, 1)) (k : J G K nL cells slots ws L (pc + 1) (.int (lg_cmp x y) :: st)) : J G K nL cells slots ws L (pc) (.long y :: .long x :: st) := by
  obtain ⟨p, l, e, R, s, m, args, below, meth, c, A, Q⟩ := K
  obtain ⟨⟨hx, hb, hml, hown⟩, hts, hK, hA, hAm, hlk, hR⟩ := C
  exact fun H locs ls hP hD hS hl => W.lcmp hx hb hd (k H locs ls hP hD hS hl)
theorem j_dup (C : Cx G K cc own nL lv) {va : Value} (h1 : va.category = 1) (hd : decode cc pc = .ok (.dup, 1)) (k : J G K nL cells slots ws L (pc + 1) (va :: va :: st)) : J G K nL cells slots ws L (pc) (va :: st) := by
  obtain ⟨p, l, e, R, s, m, args, below, meth, c, A, Q⟩ := K
  obtain ⟨⟨hx, hb, hml, hown⟩, hts, hK, hA, hAm, hlk, hR⟩ := C
  exact fun H locs ls hP hD hS hl => lv_dup hx hb hd h1 (k H locs ls hP hD hS hl)
theorem j_pop (C : Cx G K cc own nL lv) {va : Value} (h1 : va.category = 1) (hd : decode cc pc = .ok (.pop, 1)) (k : J G K nL cells slots ws L (pc + 1) (st)) : J G K nL cells slots ws L (pc) (va :: st) := by
  obtain ⟨p, l, e, R, s, m, args, below, meth, c, A, Q⟩ := K
  obtain ⟨⟨hx, hb, hml, hown⟩, hts, hK, hA, hAm, hlk, hR⟩ := C
  exact fun H locs ls hP hD hS hl => lv_pop hx hb hd h1 (k H locs ls hP hD hS hl)
theorem j_dup_x1 (C : Cx G K cc own nL lv) {va vb : Value} (h1 : va.category = 1) (h2 : vb.category = 1) (hd : decode cc pc = .ok (.dup_x1, 1)) (k : J G K nL cells slots ws L (pc + 1) (va :: vb :: va :: st)) : J G K nL cells slots ws L (pc) (va :: vb :: st) := by
  obtain ⟨p, l, e, R, s, m, args, below, meth, c, A, Q⟩ := K
  obtain ⟨⟨hx, hb, hml, hown⟩, hts, hK, hA, hAm, hlk, hR⟩ := C
  exact fun H locs ls hP hD hS hl => lv_dup_x1 hx hb hd h1 h2 (k H locs ls hP hD hS hl)
theorem j_dup2 (C : Cx G K cc own nL lv) {va vb : Value} (h1 : va.category = 1) (h2 : vb.category = 1) (hd : decode cc pc = .ok (.dup2, 1)) (k : J G K nL cells slots ws L (pc + 1) (va :: vb :: va :: vb :: st)) : J G K nL cells slots ws L (pc) (va :: vb :: st) := by
  obtain ⟨p, l, e, R, s, m, args, below, meth, c, A, Q⟩ := K
  obtain ⟨⟨hx, hb, hml, hown⟩, hts, hK, hA, hAm, hlk, hR⟩ := C
  exact fun H locs ls hP hD hS hl => lv_dup2_11 hx hb hd h1 h2 (k H locs ls hP hD hS hl)
theorem j_idiv (C : Cx G K cc own nL lv) {x y : Int32} {α : Type} {X : Option α} {q : α} (hd : decode cc pc = .ok (.idiv, 1)) (hf : gz y X = some q) (k : X = some q → J G K nL cells slots ws L (pc + 1) (.int (x / y) :: st)) : J G K nL cells slots ws L (pc) (.int y :: .int x :: st) := by
  obtain ⟨p, l, e, R, s, m, args, below, meth, c, A, Q⟩ := K
  obtain ⟨⟨hx, hb, hml, hown⟩, hts, hK, hA, hAm, hlk, hR⟩ := C
  exact fun H locs ls hP hD hS hl => lv_idiv hx hb hd (gz_some hf).1 (k (gz_some hf).2 H locs ls hP hD hS hl)
theorem j_irem (C : Cx G K cc own nL lv) {x y : Int32} {α : Type} {X : Option α} {q : α} (hd : decode cc pc = .ok (.irem, 1)) (hf : gz y X = some q) (k : X = some q → J G K nL cells slots ws L (pc + 1) (.int (x - x / y * y) :: st)) : J G K nL cells slots ws L (pc) (.int y :: .int x :: st) := by
  obtain ⟨p, l, e, R, s, m, args, below, meth, c, A, Q⟩ := K
  obtain ⟨⟨hx, hb, hml, hown⟩, hts, hK, hA, hAm, hlk, hR⟩ := C
  exact fun H locs ls hP hD hS hl => lv_irem hx hb hd (gz_some hf).1 (k (gz_some hf).2 H locs ls hP hD hS hl)
theorem j_if_eq (C : Cx G K cc own nL lv) {x : Int32} {off : Int} (tgt : Nat) {α : Type} {X Y : Option α} {q : α} {i : Decidable (x = 0)} (hd : decode cc pc = .ok (.ifCond .eq off, 3)) (ht : (pc : Int) + off = (tgt : Int)) (hf : @ite _ (x = 0) i X Y = some q) (kt : X = some q → J G K nL cells slots ws L (tgt) (st)) (kf : Y = some q → J G K nL cells slots ws L (pc + 3) (st)) : J G K nL cells slots ws L (pc) (.int x :: st) := by
  obtain ⟨p, l, e, R, s, m, args, below, meth, c, A, Q⟩ := K
  obtain ⟨⟨hx, hb, hml, hown⟩, hts, hK, hA, hAm, hlk, hR⟩ := C
  exact fun H locs ls hP hD hS hl => lv_if_eq hx hb hd ht (fun h => kt ((k_ite hf).1 h) H locs ls hP hD hS hl) (fun h => kf ((k_ite hf).2 h) H locs ls hP hD hS hl)
theorem j_icmp_eq (C : Cx G K cc own nL lv) {x y : Int32} {off : Int} (tgt : Nat) {α : Type} {X Y : Option α} {q : α} {i : Decidable (x = y)} (hd : decode cc pc = .ok (.if_icmp .eq off, 3)) (ht : (pc : Int) + off = (tgt : Int)) (hf : @ite _ (x = y) i X Y = some q) (kt : X = some q → J G K nL cells slots ws L (tgt) (st)) (kf : Y = some q → J G K nL cells slots ws L (pc + 3) (st)) : J G K nL cells slots ws L (pc) (.int y :: .int x :: st) := by
  obtain ⟨p, l, e, R, s, m, args, below, meth, c, A, Q⟩ := K
  obtain ⟨⟨hx, hb, hml, hown⟩, hts, hK, hA, hAm, hlk, hR⟩ := C
  exact fun H locs ls hP hD hS hl => lv_icmp_eq hx hb hd ht (fun h => kt ((k_ite hf).1 h) H locs ls hP hD hS hl) (fun h => kf ((k_ite hf).2 h) H locs ls hP hD hS hl)
theorem j_if_ne (C : Cx G K cc own nL lv) {x : Int32} {off : Int} (tgt : Nat) {α : Type} {X Y : Option α} {q : α} {i : Decidable (x = 0)} (hd : decode cc pc = .ok (.ifCond .ne off, 3)) (ht : (pc : Int) + off = (tgt : Int)) (hf : @ite _ (x = 0) i X Y = some q) (kt : Y = some q → J G K nL cells slots ws L (tgt) (st)) (kf : X = some q → J G K nL cells slots ws L (pc + 3) (st)) : J G K nL cells slots ws L (pc) (.int x :: st) := by
  obtain ⟨p, l, e, R, s, m, args, below, meth, c, A, Q⟩ := K
  obtain ⟨⟨hx, hb, hml, hown⟩, hts, hK, hA, hAm, hlk, hR⟩ := C
  exact fun H locs ls hP hD hS hl => lv_if_ne hx hb hd ht (fun h => kt ((k_ite hf).2 h) H locs ls hP hD hS hl) (fun h => kf ((k_ite hf).1 h) H locs ls hP hD hS hl)
theorem j_icmp_ne (C : Cx G K cc own nL lv) {x y : Int32} {off : Int} (tgt : Nat) {α : Type} {X Y : Option α} {q : α} {i : Decidable (x = y)} (hd : decode cc pc = .ok (.if_icmp .ne off, 3)) (ht : (pc : Int) + off = (tgt : Int)) (hf : @ite _ (x = y) i X Y = some q) (kt : Y = some q → J G K nL cells slots ws L (tgt) (st)) (kf : X = some q → J G K nL cells slots ws L (pc + 3) (st)) : J G K nL cells slots ws L (pc) (.int y :: .int x :: st) := by
  obtain ⟨p, l, e, R, s, m, args, below, meth, c, A, Q⟩ := K
  obtain ⟨⟨hx, hb, hml, hown⟩, hts, hK, hA, hAm, hlk, hR⟩ := C
  exact fun H locs ls hP hD hS hl => lv_icmp_ne hx hb hd ht (fun h => kt ((k_ite hf).2 h) H locs ls hP hD hS hl) (fun h => kf ((k_ite hf).1 h) H locs ls hP hD hS hl)
theorem j_if_lt (C : Cx G K cc own nL lv) {x : Int32} {off : Int} (tgt : Nat) {α : Type} {X Y : Option α} {q : α} {i : Decidable (x < 0)} (hd : decode cc pc = .ok (.ifCond .lt off, 3)) (ht : (pc : Int) + off = (tgt : Int)) (hf : @ite _ (x < 0) i X Y = some q) (kt : X = some q → J G K nL cells slots ws L (tgt) (st)) (kf : Y = some q → J G K nL cells slots ws L (pc + 3) (st)) : J G K nL cells slots ws L (pc) (.int x :: st) := by
  obtain ⟨p, l, e, R, s, m, args, below, meth, c, A, Q⟩ := K
  obtain ⟨⟨hx, hb, hml, hown⟩, hts, hK, hA, hAm, hlk, hR⟩ := C
  exact fun H locs ls hP hD hS hl => lv_if_lt hx hb hd ht (fun h => kt ((k_ite hf).1 h) H locs ls hP hD hS hl) (fun h => kf ((k_ite hf).2 h) H locs ls hP hD hS hl)
theorem j_icmp_lt (C : Cx G K cc own nL lv) {x y : Int32} {off : Int} (tgt : Nat) {α : Type} {X Y : Option α} {q : α} {i : Decidable (x < y)} (hd : decode cc pc = .ok (.if_icmp .lt off, 3)) (ht : (pc : Int) + off = (tgt : Int)) (hf : @ite _ (x < y) i X Y = some q) (kt : X = some q → J G K nL cells slots ws L (tgt) (st)) (kf : Y = some q → J G K nL cells slots ws L (pc + 3) (st)) : J G K nL cells slots ws L (pc) (.int y :: .int x :: st) := by
  obtain ⟨p, l, e, R, s, m, args, below, meth, c, A, Q⟩ := K
  obtain ⟨⟨hx, hb, hml, hown⟩, hts, hK, hA, hAm, hlk, hR⟩ := C
  exact fun H locs ls hP hD hS hl => lv_icmp_lt hx hb hd ht (fun h => kt ((k_ite hf).1 h) H locs ls hP hD hS hl) (fun h => kf ((k_ite hf).2 h) H locs ls hP hD hS hl)
theorem j_if_ge (C : Cx G K cc own nL lv) {x : Int32} {off : Int} (tgt : Nat) {α : Type} {X Y : Option α} {q : α} {i : Decidable (0 ≤ x)} (hd : decode cc pc = .ok (.ifCond .ge off, 3)) (ht : (pc : Int) + off = (tgt : Int)) (hf : @ite _ (0 ≤ x) i X Y = some q) (kt : X = some q → J G K nL cells slots ws L (tgt) (st)) (kf : Y = some q → J G K nL cells slots ws L (pc + 3) (st)) : J G K nL cells slots ws L (pc) (.int x :: st) := by
  obtain ⟨p, l, e, R, s, m, args, below, meth, c, A, Q⟩ := K
  obtain ⟨⟨hx, hb, hml, hown⟩, hts, hK, hA, hAm, hlk, hR⟩ := C
  exact fun H locs ls hP hD hS hl => lv_if_ge hx hb hd ht (fun h => kt ((k_ite hf).1 h) H locs ls hP hD hS hl) (fun h => kf ((k_ite hf).2 h) H locs ls hP hD hS hl)
theorem j_icmp_ge (C : Cx G K cc own nL lv) {x y : Int32} {off : Int} (tgt : Nat) {α : Type} {X Y : Option α} {q : α} {i : Decidable (y ≤ x)} (hd : decode cc pc = .ok (.if_icmp .ge off, 3)) (ht : (pc : Int) + off = (tgt : Int)) (hf : @ite _ (y ≤ x) i X Y = some q) (kt : X = some q → J G K nL cells slots ws L (tgt) (st)) (kf : Y = some q → J G K nL cells slots ws L (pc + 3) (st)) : J G K nL cells slots ws L (pc) (.int y :: .int x :: st) := by
  obtain ⟨p, l, e, R, s, m, args, below, meth, c, A, Q⟩ := K
  obtain ⟨⟨hx, hb, hml, hown⟩, hts, hK, hA, hAm, hlk, hR⟩ := C
  exact fun H locs ls hP hD hS hl => lv_icmp_ge hx hb hd ht (fun h => kt ((k_ite hf).1 h) H locs ls hP hD hS hl) (fun h => kf ((k_ite hf).2 h) H locs ls hP hD hS hl)
theorem j_if_gt (C : Cx G K cc own nL lv) {x : Int32} {off : Int} (tgt : Nat) {α : Type} {X Y : Option α} {q : α} {i : Decidable (0 < x)} (hd : decode cc pc = .ok (.ifCond .gt off, 3)) (ht : (pc : Int) + off = (tgt : Int)) (hf : @ite _ (0 < x) i X Y = some q) (kt : X = some q → J G K nL cells slots ws L (tgt) (st)) (kf : Y = some q → J G K nL cells slots ws L (pc + 3) (st)) : J G K nL cells slots ws L (pc) (.int x :: st) := by
  obtain ⟨p, l, e, R, s, m, args, below, meth, c, A, Q⟩ := K
  obtain ⟨⟨hx, hb, hml, hown⟩, hts, hK, hA, hAm, hlk, hR⟩ := C
  exact fun H locs ls hP hD hS hl => lv_if_gt hx hb hd ht (fun h => kt ((k_ite hf).1 h) H locs ls hP hD hS hl) (fun h => kf ((k_ite hf).2 h) H locs ls hP hD hS hl)
theorem j_icmp_gt (C : Cx G K cc own nL lv) {x y : Int32} {off : Int} (tgt : Nat) {α : Type} {X Y : Option α} {q : α} {i : Decidable (y < x)} (hd : decode cc pc = .ok (.if_icmp .gt off, 3)) (ht : (pc : Int) + off = (tgt : Int)) (hf : @ite _ (y < x) i X Y = some q) (kt : X = some q → J G K nL cells slots ws L (tgt) (st)) (kf : Y = some q → J G K nL cells slots ws L (pc + 3) (st)) : J G K nL cells slots ws L (pc) (.int y :: .int x :: st) := by
  obtain ⟨p, l, e, R, s, m, args, below, meth, c, A, Q⟩ := K
  obtain ⟨⟨hx, hb, hml, hown⟩, hts, hK, hA, hAm, hlk, hR⟩ := C
  exact fun H locs ls hP hD hS hl => lv_icmp_gt hx hb hd ht (fun h => kt ((k_ite hf).1 h) H locs ls hP hD hS hl) (fun h => kf ((k_ite hf).2 h) H locs ls hP hD hS hl)
theorem j_if_le (C : Cx G K cc own nL lv) {x : Int32} {off : Int} (tgt : Nat) {α : Type} {X Y : Option α} {q : α} {i : Decidable (x ≤ 0)} (hd : decode cc pc = .ok (.ifCond .le off, 3)) (ht : (pc : Int) + off = (tgt : Int)) (hf : @ite _ (x ≤ 0) i X Y = some q) (kt : X = some q → J G K nL cells slots ws L (tgt) (st)) (kf : Y = some q → J G K nL cells slots ws L (pc + 3) (st)) : J G K nL cells slots ws L (pc) (.int x :: st) := by
  obtain ⟨p, l, e, R, s, m, args, below, meth, c, A, Q⟩ := K
  obtain ⟨⟨hx, hb, hml, hown⟩, hts, hK, hA, hAm, hlk, hR⟩ := C
  exact fun H locs ls hP hD hS hl => lv_if_le hx hb hd ht (fun h => kt ((k_ite hf).1 h) H locs ls hP hD hS hl) (fun h => kf ((k_ite hf).2 h) H locs ls hP hD hS hl)
theorem j_icmp_le (C : Cx G K cc own nL lv) {x y : Int32} {off : Int} (tgt : Nat) {α : Type} {X Y : Option α} {q : α} {i : Decidable (x ≤ y)} (hd : decode cc pc = .ok (.if_icmp .le off, 3)) (ht : (pc : Int) + off = (tgt : Int)) (hf : @ite _ (x ≤ y) i X Y = some q) (kt : X = some q → J G K nL cells slots ws L (tgt) (st)) (kf : Y = some q → J G K nL cells slots ws L (pc + 3) (st)) : J G K nL cells slots ws L (pc) (.int y :: .int x :: st) := by
  obtain ⟨p, l, e, R, s, m, args, below, meth, c, A, Q⟩ := K
  obtain ⟨⟨hx, hb, hml, hown⟩, hts, hK, hA, hAm, hlk, hR⟩ := C
  exact fun H locs ls hP hD hS hl => lv_icmp_le hx hb hd ht (fun h => kt ((k_ite hf).1 h) H locs ls hP hD hS hl) (fun h => kf ((k_ite hf).2 h) H locs ls hP hD hS hl)
theorem j_goto (C : Cx G K cc own nL lv) {off : Int} (tgt : Nat) (hd : decode cc pc = .ok (.goto off, 3)) (ht : (pc : Int) + off = (tgt : Int)) (k : J G K nL cells slots ws L (tgt) (st)) : J G K nL cells slots ws L (pc) (st) := by
  obtain ⟨p, l, e, R, s, m, args, below, meth, c, A, Q⟩ := K
  obtain ⟨⟨hx, hb, hml, hown⟩, hts, hK, hA, hAm, hlk, hR⟩ := C
  exact fun H locs ls hP hD hS hl => lv_goto hx hb hd ht (k H locs ls hP hD hS hl)
theorem j_tabOut (C : Cx G K cc own nL lv) {dflt lo hi : Int} {offs : Array Int} {len : Nat} {x : Int32} (tgt : Nat) (hd : decode cc pc = .ok (.tableswitch dflt lo hi offs, len)) (h : x.toInt < lo ∨ hi < x.toInt) (ht : (pc : Int) + dflt = (tgt : Int)) (k : J G K nL cells slots ws L (tgt) (st)) : J G K nL cells slots ws L (pc) (.int x :: st) := by
  obtain ⟨p, l, e, R, s, m, args, below, meth, c, A, Q⟩ := K
  obtain ⟨⟨hx, hb, hml, hown⟩, hts, hK, hA, hAm, hlk, hR⟩ := C
  exact fun H locs ls hP hD hS hl => lv_tableOut hx hb hd h ht (k H locs ls hP hD hS hl)
theorem j_tabIn (C : Cx G K cc own nL lv) {dflt lo hi : Int} {offs : Array Int} {len : Nat} {x : Int32} {off : Int} (tgt : Nat) (hd : decode cc pc = .ok (.tableswitch dflt lo hi offs, len)) (h1 : ¬ x.toInt < lo) (h2 : ¬ hi < x.toInt) (ho : offs[(x.toInt - lo).toNat]? = some off) (ht : (pc : Int) + off = (tgt : Int)) (k : J G K nL cells slots ws L (tgt) (st)) : J G K nL cells slots ws L (pc) (.int x :: st) := by
  obtain ⟨p, l, e, R, s, m, args, below, meth, c, A, Q⟩ := K
  obtain ⟨⟨hx, hb, hml, hown⟩, hts, hK, hA, hAm, hlk, hR⟩ := C
  exact fun H locs ls hP hD hS hl => lv_tableIn hx hb hd h1 h2 ho ht (k H locs ls hP hD hS hl)
theorem j_lookup (C : Cx G K cc own nL lv) {dflt : Int} {ps : Array (Int × Int)} {len : Nat} {x : Int32} {off : Int} (tgt : Nat) (hd : decode cc pc = .ok (.lookupswitch dflt ps, len)) (hp : (ps.toList.zip (ps.toList.drop 1)).all (fun (a, next) => a.1 < next.1) = true) (ho : Op.lookupswitch.offset ps.toList dflt x.toInt = off) (ht : (pc : Int) + off = (tgt : Int)) (k : J G K nL cells slots ws L (tgt) (st)) : J G K nL cells slots ws L (pc) (.int x :: st) := by
  obtain ⟨p, l, e, R, s, m, args, below, meth, c, A, Q⟩ := K
  obtain ⟨⟨hx, hb, hml, hown⟩, hts, hK, hA, hAm, hlk, hR⟩ := C
  exact fun H locs ls hP hD hS hl => lv_lookup hx hb hd hp ho ht (k H locs ls hP hD hS hl)
theorem j_sub {L' : List (Nat × Value)} (ts : List Nat) (h : lv_pick L ts = L') (k : J G K nL cells slots ws L' (pc) (st)) : J G K nL cells slots ws L (pc) (st) := by
  obtain ⟨p, l, e, R, s, m, args, below, meth, c, A, Q⟩ := K
  exact fun H locs ls hP hD hS hl => k H locs ls hP hD hS (lv_sub hl ts h)
theorem j_ws {ws' : va_W} (h : ws = ws') (k : J G K nL cells slots ws' L (pc) (st)) : J G K nL cells slots ws L (pc) (st) := h ▸ k
theorem j_nm {x : Int32} {α : Type} {F : Int32 → Option α} {q : α} (hf : nm x F = some q) (k : ∀ y : Int32, F y = some q → J G K nL cells slots ws L (pc) (.int y :: st)) : J G K nL cells slots ws L (pc) (.int x :: st) := k x hf
def k_cls (ci : Nat) (D : String) (T : u_T) (N : Nat) (ty : Nat → FieldType) : Prop := vwCl[ci]? = some (D, T, N) ∧ (∀ w ∈ u_ws D T N, w ∈ k_U) ∧ (∀ k, k < N → parseFieldDescriptor (T k).2.2.1 = some (ty k)) ∧ (∀ a, a < N → ∀ b, b < N → a ≠ b → (T a).2.1 ≠ (T b).2.1)
def k_fl (own : String) (idx : Nat) (T : u_T) (N j : Nat) : Prop := j < N ∧ Cond.fieldLink own idx (T j).1 (T j).2.1 (T j).2.2.1 ∈ k_U
def k_fn (own : String) (idx : Nat) (T : u_T) (N j : Nat) : Prop := j < N ∧ ∃ host, Cond.fieldLinkNest own idx (T j).1 (T j).2.1 (T j).2.2.1 host ∈ k_nest
theorem j_get (C : Cx G K cc own nL lv) {a ci N idx j : Nat} {D : String} {T : u_T} {ty : Nat → FieldType} {fs : List Value} {v : Value} (hc : k_cls ci D T N ty) (hfl : k_fl own idx T N j) (t : Nat) (he : ws[t]? = some (a, .inr (ci, fs))) (hv : fs[j]? = some v) (hd : decode cc pc = .ok (.getfield idx, 3)) (k : J G K nL cells slots ws L (pc + 3) (v :: st)) : J G K nL cells slots ws L (pc) (.ref a :: st) := by
  obtain ⟨p, l, e, R, s, m, args, below, meth, c, A, Q⟩ := K
  obtain ⟨⟨hx, hb, hml, hown⟩, hts, hK, hA, hAm, hlk, hR⟩ := C
  exact fun H locs ls hP hD hS hl => va_get (tys := k_tys G) hx hb hts hc.2.1 hown hK hP t he hc.1 j hfl.1 (hts _ hfl.2) (fun _ h9 => h9) hv hd (k H locs ls hP hD hS hl)
theorem j_getN (C : Cx G K cc own nL lv) {a ci N idx j : Nat} {D : String} {T : u_T} {ty : Nat → FieldType} {fs : List Value} {v : Value} (hc : k_cls ci D T N ty) (hfl : k_fn own idx T N j) (t : Nat) (he : ws[t]? = some (a, .inr (ci, fs))) (hv : fs[j]? = some v) (hd : decode cc pc = .ok (.getfield idx, 3)) (k : J G K nL cells slots ws L (pc + 3) (v :: st)) : J G K nL cells slots ws L (pc) (.ref a :: st) := by
  obtain ⟨p, l, e, R, s, m, args, below, meth, c, A, Q⟩ := K
  obtain ⟨⟨hx, hb, hml, hown⟩, hts, hK, hA, hAm, hlk, hR⟩ := C
  exact fun H locs ls hP hD hS hl => hfl.2.elim (fun host hh => va_getN (host := host) (tys := k_tys G) hx hb hts hc.2.1 hown hK hP t he hc.1 j hfl.1 (va_Nw.use rfl (hAm.1 _ hh)) (fun _ h9 => h9) hv hd (k H locs ls hP hD hS hl))
theorem j_put (C : Cx G K cc own nL lv) {a ci N idx j : Nat} {D : String} {T : u_T} {ty : Nat → FieldType} {fs : List Value} {v : Value} {ws' : va_W} (hc : k_cls ci D T N ty) (hfl : k_fl own idx T N j) (t : Nat) (he : ws[t]? = some (a, .inr (ci, fs))) (hfin : (T j).2.2.2 = false) (hn : narrow (ty j) v = v) (hfit : fits (ty j) v = true) (hlen : Nat.ble (j + 1) fs.length = true) (hw : ws.set t (a, .inr (ci, fs.set j v)) = ws') (hd : decode cc pc = .ok (.putfield idx, 3)) (k : J G K nL cells slots ws' L (pc + 3) (st)) : J G K nL cells slots ws L (pc) (v :: .ref a :: st) := by
  obtain ⟨p, l, e, R, s, m, args, below, meth, c, A, Q⟩ := K
  obtain ⟨⟨hx, hb, hml, hown⟩, hts, hK, hA, hAm, hlk, hR⟩ := C
  exact fun H locs ls hP hD hS hl => va_put (tys := k_tys G) hx hb hts hc.2.1 ty hc.2.2.1 hc.2.2.2 hown hK hP hD hS t he hc.1 j hfl.1 (hts _ hfl.2) (fun _ h9 => h9) hfin (hc.2.2.1 j hfl.1) hn hfit (Nat.le_of_ble_eq_true hlen) hd (fun H locs hP hD hS => k H locs ls (hw ▸ hP) (hw ▸ hD) hS hl)
theorem j_putN (C : Cx G K cc own nL lv) {a ci N idx j : Nat} {D : String} {T : u_T} {ty : Nat → FieldType} {fs : List Value} {v : Value} {ws' : va_W} (hc : k_cls ci D T N ty) (hfl : k_fn own idx T N j) (t : Nat) (he : ws[t]? = some (a, .inr (ci, fs))) (hfin : (T j).2.2.2 = false) (hn : narrow (ty j) v = v) (hfit : fits (ty j) v = true) (hlen : Nat.ble (j + 1) fs.length = true) (hw : ws.set t (a, .inr (ci, fs.set j v)) = ws') (hd : decode cc pc = .ok (.putfield idx, 3)) (k : J G K nL cells slots ws' L (pc + 3) (st)) : J G K nL cells slots ws L (pc) (v :: .ref a :: st) := by
  obtain ⟨p, l, e, R, s, m, args, below, meth, c, A, Q⟩ := K
  obtain ⟨⟨hx, hb, hml, hown⟩, hts, hK, hA, hAm, hlk, hR⟩ := C
  exact fun H locs ls hP hD hS hl => hfl.2.elim (fun host hh => va_putN (host := host) (tys := k_tys G) hx hb hts hc.2.1 ty hc.2.2.1 hc.2.2.2 hown hK hP hD hS t he hc.1 j hfl.1 (va_Nw.use rfl (hAm.1 _ hh)) (fun _ h9 => h9) hfin (hc.2.2.1 j hfl.1) hn hfit (Nat.le_of_ble_eq_true hlen) hd (fun H locs hP hD hS => k H locs ls (hw ▸ hP) (hw ▸ hD) hS hl))
theorem j_iald (C : Cx G K cc own nL lv) {a n : Nat} {f : Nat → Int32} {i : Int32} {α : Type} {X : Option α} {q : α} (t : Nat) (ha : ws[t]? = some (a, .inl (G.2.1 0, n, .inl f))) (hf : gd i n X = some q) (hd : decode cc pc = .ok (.iaload, 1)) (k : X = some q → J G K nL cells slots ws L (pc + 1) (.int (f i.toNatClampNeg) :: st)) : J G K nL cells slots ws L (pc) (.int i :: .ref a :: st) := by
  obtain ⟨p, l, e, R, s, m, args, below, meth, c, A, Q⟩ := K
  obtain ⟨⟨hx, hb, hml, hown⟩, hts, hK, hA, hAm, hlk, hR⟩ := C
  exact fun H locs ls hP hD hS hl => va_iald (tys := k_tys G) hx hb hK hP t 0 ha rfl (gd_some hf).1 hd (k (gd_some hf).2 H locs ls hP hD hS hl)
theorem j_zald (C : Cx G K cc own nL lv) {a n : Nat} {f : Nat → Int32} {i : Int32} {α : Type} {X : Option α} {q : α} (t : Nat) (ha : ws[t]? = some (a, .inl (G.2.1 3, n, .inl f))) (hf : gd i n X = some q) (hd : decode cc pc = .ok (.baload, 1)) (k : X = some q → J G K nL cells slots ws L (pc + 1) (.int (f i.toNatClampNeg) :: st)) : J G K nL cells slots ws L (pc) (.int i :: .ref a :: st) := by
  obtain ⟨p, l, e, R, s, m, args, below, meth, c, A, Q⟩ := K
  obtain ⟨⟨hx, hb, hml, hown⟩, hts, hK, hA, hAm, hlk, hR⟩ := C
  exact fun H locs ls hP hD hS hl => va_zald (tys := k_tys G) hx hb hK hP t 3 ha rfl (gd_some hf).1 hd (k (gd_some hf).2 H locs ls hP hD hS hl)
theorem j_cald (C : Cx G K cc own nL lv) {a n : Nat} {f : Nat → Int32} {i : Int32} {α : Type} {X : Option α} {q : α} (t : Nat) (ha : ws[t]? = some (a, .inl (G.2.1 2, n, .inl f))) (hf : gd i n X = some q) (hd : decode cc pc = .ok (.caload, 1)) (k : X = some q → J G K nL cells slots ws L (pc + 1) (.int (f i.toNatClampNeg) :: st)) : J G K nL cells slots ws L (pc) (.int i :: .ref a :: st) := by
  obtain ⟨p, l, e, R, s, m, args, below, meth, c, A, Q⟩ := K
  obtain ⟨⟨hx, hb, hml, hown⟩, hts, hK, hA, hAm, hlk, hR⟩ := C
  exact fun H locs ls hP hD hS hl => va_cald (tys := k_tys G) hx hb hK hP t 2 ha rfl (gd_some hf).1 hd (k (gd_some hf).2 H locs ls hP hD hS hl)
theorem j_lald (C : Cx G K cc own nL lv) {a n : Nat} {f : Nat → Int64} {i : Int32} {α : Type} {X : Option α} {q : α} (t : Nat) (ha : ws[t]? = some (a, .inl (G.2.1 1, n, .inr (.inl f)))) (hf : gd i n X = some q) (hd : decode cc pc = .ok (.laload, 1)) (k : X = some q → J G K nL cells slots ws L (pc + 1) (.long (f i.toNatClampNeg) :: st)) : J G K nL cells slots ws L (pc) (.int i :: .ref a :: st) := by
  obtain ⟨p, l, e, R, s, m, args, below, meth, c, A, Q⟩ := K
  obtain ⟨⟨hx, hb, hml, hown⟩, hts, hK, hA, hAm, hlk, hR⟩ := C
  exact fun H locs ls hP hD hS hl => va_lald (tys := k_tys G) hx hb hK hP t 1 ha rfl (gd_some hf).1 hd (k (gd_some hf).2 H locs ls hP hD hS hl)
theorem j_iast (C : Cx G K cc own nL lv) {a n : Nat} {f : Nat → Int32} {i : Int32} {x : Int32} {ws' : va_W} {α : Type} {X : Option α} {q : α} (t : Nat) (ha : ws[t]? = some (a, .inl (G.2.1 0, n, .inl f))) (hf : gd i n X = some q) (hw : ws.set t (a, .inl (G.2.1 0, n, .inl (upd f i.toNatClampNeg x))) = ws') (hd : decode cc pc = .ok (.iastore, 1)) (k : X = some q → J G K nL cells slots ws' L (pc + 1) (st)) : J G K nL cells slots ws L (pc) (.int x :: .int i :: .ref a :: st) := by
  obtain ⟨p, l, e, R, s, m, args, below, meth, c, A, Q⟩ := K
  obtain ⟨⟨hx, hb, hml, hown⟩, hts, hK, hA, hAm, hlk, hR⟩ := C
  exact fun H locs ls hP hD hS hl => va_iast (tys := k_tys G) hx hb hK hP hD hS t 0 ha rfl (gd_some hf).1 hd (fun H locs hP hD hS => k (gd_some hf).2 H locs ls (hw ▸ hP) (hw ▸ hD) hS hl)
theorem j_zast (C : Cx G K cc own nL lv) {a n : Nat} {f : Nat → Int32} {i : Int32} {x : Int32} {ws' : va_W} {α : Type} {X : Option α} {q : α} (t : Nat) (ha : ws[t]? = some (a, .inl (G.2.1 3, n, .inl f))) (hf : gd i n X = some q) (hw : ws.set t (a, .inl (G.2.1 3, n, .inl (upd f i.toNatClampNeg (vp_nar .boolean x)))) = ws') (hd : decode cc pc = .ok (.bastore, 1)) (k : X = some q → J G K nL cells slots ws' L (pc + 1) (st)) : J G K nL cells slots ws L (pc) (.int x :: .int i :: .ref a :: st) := by
  obtain ⟨p, l, e, R, s, m, args, below, meth, c, A, Q⟩ := K
  obtain ⟨⟨hx, hb, hml, hown⟩, hts, hK, hA, hAm, hlk, hR⟩ := C
  exact fun H locs ls hP hD hS hl => va_zast (tys := k_tys G) hx hb hK hP hD hS t 3 ha rfl (gd_some hf).1 hd (fun H locs hP hD hS => k (gd_some hf).2 H locs ls (hw ▸ hP) (hw ▸ hD) hS hl)
theorem j_cast (C : Cx G K cc own nL lv) {a n : Nat} {f : Nat → Int32} {i : Int32} {x : Int32} {ws' : va_W} {α : Type} {X : Option α} {q : α} (t : Nat) (ha : ws[t]? = some (a, .inl (G.2.1 2, n, .inl f))) (hf : gd i n X = some q) (hw : ws.set t (a, .inl (G.2.1 2, n, .inl (upd f i.toNatClampNeg (vp_nar .char x)))) = ws') (hd : decode cc pc = .ok (.castore, 1)) (k : X = some q → J G K nL cells slots ws' L (pc + 1) (st)) : J G K nL cells slots ws L (pc) (.int x :: .int i :: .ref a :: st) := by
  obtain ⟨p, l, e, R, s, m, args, below, meth, c, A, Q⟩ := K
  obtain ⟨⟨hx, hb, hml, hown⟩, hts, hK, hA, hAm, hlk, hR⟩ := C
  exact fun H locs ls hP hD hS hl => va_cast (tys := k_tys G) hx hb hK hP hD hS t 2 ha rfl (gd_some hf).1 hd (fun H locs hP hD hS => k (gd_some hf).2 H locs ls (hw ▸ hP) (hw ▸ hD) hS hl)
theorem j_last (C : Cx G K cc own nL lv) {a n : Nat} {f : Nat → Int64} {i : Int32} {x : Int64} {ws' : va_W} {α : Type} {X : Option α} {q : α} (t : Nat) (ha : ws[t]? = some (a, .inl (G.2.1 1, n, .inr (.inl f)))) (hf : gd i n X = some q) (hw : ws.set t (a, .inl (G.2.1 1, n, .inr (.inl (vp_updL f i.toNatClampNeg x)))) = ws') (hd : decode cc pc = .ok (.lastore, 1)) (k : X = some q → J G K nL cells slots ws' L (pc + 1) (st)) : J G K nL cells slots ws L (pc) (.long x :: .int i :: .ref a :: st) := by
  obtain ⟨p, l, e, R, s, m, args, below, meth, c, A, Q⟩ := K
  obtain ⟨⟨hx, hb, hml, hown⟩, hts, hK, hA, hAm, hlk, hR⟩ := C
  exact fun H locs ls hP hD hS hl => va_last (tys := k_tys G) hx hb hK hP hD hS t 1 ha rfl (gd_some hf).1 hd (fun H locs hP hD hS => k (gd_some hf).2 H locs ls (hw ▸ hP) (hw ▸ hD) hS hl)
theorem j_alen (C : Cx G K cc own nL lv) {a cy : Nat} {x : vp_A} {ty : FieldType} {v : Int32} (t : Nat) (ha : ws[t]? = some (a, .inl (G.2.1 cy, x))) (hy : (k_tys G)[cy]? = some (G.2.1 cy, ty)) (hv : Int32.ofNat x.1 = v) (hd : decode cc pc = .ok (.arraylength, 1)) (k : J G K nL cells slots ws L (pc + 1) (.int v :: st)) : J G K nL cells slots ws L (pc) (.ref a :: st) := by
  obtain ⟨p, l, e, R, s, m, args, below, meth, c, A, Q⟩ := K
  obtain ⟨⟨hx, hb, hml, hown⟩, hts, hK, hA, hAm, hlk, hR⟩ := C
  exact fun H locs ls hP hD hS hl => va_alen (tys := k_tys G) hx hb hK hP t cy ha hy hv hd (k H locs ls hP hD hS hl)
theorem j_aald (C : Cx G K cc own nL lv) {a cy n : Nat} {D : String} {f : Nat → Option Nat} {i : Int32} {α : Type} {X : Option α} {q : α} (t : Nat) (ha : ws[t]? = some (a, .inl (G.2.1 cy, n, .inr (.inr (.inr (.inr f)))))) (hy : (k_tys G)[cy]? = some (G.2.1 cy, .object D)) {b : Nat} (hq : f i.toNatClampNeg = some b) (hf : gd i n X = some q) (hd : decode cc pc = .ok (.aaload, 1)) (k : X = some q → J G K nL cells slots ws L (pc + 1) (.ref b :: st)) : J G K nL cells slots ws L (pc) (.int i :: .ref a :: st) := by
  obtain ⟨p, l, e, R, s, m, args, below, meth, c, A, Q⟩ := K
  obtain ⟨⟨hx, hb, hml, hown⟩, hts, hK, hA, hAm, hlk, hR⟩ := C
  exact fun H locs ls hP hD hS hl => va_aldq (tys := k_tys G) hx hb hK hP t cy ha hy (gd_some hf).1 hd (by rw [hq]; exact k (gd_some hf).2 H locs ls hP hD hS hl)
theorem j_gs_above (C : Cx G K cc own nL lv) {idx : Nat} (hw : Cond.fieldLink own idx "NoGraveEnemy" "ABOVE" "[I" ∈ k_U) (hd : decode cc pc = .ok (.getstatic idx, 3)) (k : J G K nL cells slots ws L (pc + 3) (.ref (G.2.2 0) :: st)) : J G K nL cells slots ws L (pc) (st) := by
  obtain ⟨p, l, e, R, s, m, args, below, meth, c, A, Q⟩ := K
  obtain ⟨⟨hx, hb, hml, hown⟩, hts, hK, hA, hAm, hlk, hR⟩ := C
  exact fun H locs ls hP hD hS hl => va_gets hx hb hAm.2.2.2.1.1 hS hown (hts _ hw) (fun _ h9 => h9) hd (k H locs ls hP hD hS hl)
theorem j_gsN_above (C : Cx G K cc own nL lv) {idx : Nat} {host : String} (hw : Cond.fieldLinkNest own idx "NoGraveEnemy" "ABOVE" "[I" host ∈ k_nest) (hd : decode cc pc = .ok (.getstatic idx, 3)) (k : J G K nL cells slots ws L (pc + 3) (.ref (G.2.2 0) :: st)) : J G K nL cells slots ws L (pc) (st) := by
  obtain ⟨p, l, e, R, s, m, args, below, meth, c, A, Q⟩ := K
  obtain ⟨⟨hx, hb, hml, hown⟩, hts, hK, hA, hAm, hlk, hR⟩ := C
  exact fun H locs ls hP hD hS hl => va_getsN (host := host) hx hb hAm.2.2.2.1.1 hS hown (va_Nw.use rfl (hAm.1 _ hw)) (fun _ h9 => h9) hd (k H locs ls hP hD hS hl)
theorem j_ld_above (C : Cx G K cc own nL lv) {i : Int32} {α : Type} {X : Option α} {q : α} (hf : gd i 7 X = some q) (hd : decode cc pc = .ok (.iaload, 1)) (k : X = some q → J G K nL cells slots ws L (pc + 1) (.int (k_above i.toNatClampNeg) :: st)) : J G K nL cells slots ws L (pc) (.int i :: .ref (G.2.2 0) :: st) := by
  obtain ⟨p, l, e, R, s, m, args, below, meth, c, A, Q⟩ := K
  obtain ⟨⟨hx, hb, hml, hown⟩, hts, hK, hA, hAm, hlk, hR⟩ := C
  exact fun H locs ls hP hD hS hl => va_ti hx hb hAm.2.2.2.1.2 hS (gd_some hf).1 rfl hd (k (gd_some hf).2 H locs ls hP hD hS hl)
theorem j_gs_bodies (C : Cx G K cc own nL lv) {idx : Nat} (hw : Cond.fieldLink own idx "NoGraveEnemy" "BODIES" "[I" ∈ k_U) (hd : decode cc pc = .ok (.getstatic idx, 3)) (k : J G K nL cells slots ws L (pc + 3) (.ref (G.2.2 1) :: st)) : J G K nL cells slots ws L (pc) (st) := by
  obtain ⟨p, l, e, R, s, m, args, below, meth, c, A, Q⟩ := K
  obtain ⟨⟨hx, hb, hml, hown⟩, hts, hK, hA, hAm, hlk, hR⟩ := C
  exact fun H locs ls hP hD hS hl => va_gets hx hb hAm.2.2.2.2.1.1 hS hown (hts _ hw) (fun _ h9 => h9) hd (k H locs ls hP hD hS hl)
theorem j_gsN_bodies (C : Cx G K cc own nL lv) {idx : Nat} {host : String} (hw : Cond.fieldLinkNest own idx "NoGraveEnemy" "BODIES" "[I" host ∈ k_nest) (hd : decode cc pc = .ok (.getstatic idx, 3)) (k : J G K nL cells slots ws L (pc + 3) (.ref (G.2.2 1) :: st)) : J G K nL cells slots ws L (pc) (st) := by
  obtain ⟨p, l, e, R, s, m, args, below, meth, c, A, Q⟩ := K
  obtain ⟨⟨hx, hb, hml, hown⟩, hts, hK, hA, hAm, hlk, hR⟩ := C
  exact fun H locs ls hP hD hS hl => va_getsN (host := host) hx hb hAm.2.2.2.2.1.1 hS hown (va_Nw.use rfl (hAm.1 _ hw)) (fun _ h9 => h9) hd (k H locs ls hP hD hS hl)
theorem j_ld_bodies (C : Cx G K cc own nL lv) {i : Int32} {α : Type} {X : Option α} {q : α} (hf : gd i 21 X = some q) (hd : decode cc pc = .ok (.iaload, 1)) (k : X = some q → J G K nL cells slots ws L (pc + 1) (.int (k_bodies i.toNatClampNeg) :: st)) : J G K nL cells slots ws L (pc) (.int i :: .ref (G.2.2 1) :: st) := by
  obtain ⟨p, l, e, R, s, m, args, below, meth, c, A, Q⟩ := K
  obtain ⟨⟨hx, hb, hml, hown⟩, hts, hK, hA, hAm, hlk, hR⟩ := C
  exact fun H locs ls hP hD hS hl => va_ti hx hb hAm.2.2.2.2.1.2 hS (gd_some hf).1 rfl hd (k (gd_some hf).2 H locs ls hP hD hS hl)
end JR
