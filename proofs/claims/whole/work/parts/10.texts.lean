def gl {α : Type} (i : Nat) (X : Option α) : Option α := if i < 5 then X else none
theorem gl_some {α : Type} {i : Nat} {X : Option α} {q : α} (h : gl i X = some q) : i < 5 ∧ X = some q := by
  unfold gl at h
  split at h
  · exact ⟨by assumption, h⟩
  · cases h
-- the k-th byte of text i; how many it has
def k_tb (i : Nat) (k : Nat) : Int32 := (k_byt.getD i []).getD k 0
def k_tn (i : Nat) : Nat := k_len.getD i 0
section JT
variable {G : Gx} {K : Kx} {cc : ByteArray} {own : String} {nL lv cells slots : Nat} {ws : va_W} {L : List (Nat × Value)} {pc : Nat} {st : List Value}
theorem j_gs_compact (C : Cx G K cc own nL lv) {idx : Nat} (hw : Cond.fieldLink own idx "java/lang/String" "COMPACT_STRINGS" "Z" ∈ k_U) (hd : decode cc pc = .ok (.getstatic idx, 3)) (k : J G K nL cells slots ws L (pc + 3) (.int 1 :: st)) : J G K nL cells slots ws L (pc) (st) := by
  obtain ⟨p, l, e, R, s, m, args, below, meth, c, A, Q⟩ := K
  obtain ⟨⟨hx, hb, hml, hown⟩, hts, hK, hA, hAm, hlks, hR1, hR2⟩ := C
  exact fun H locs ls hP hD hS hl => va_gets hx hb hAm.2.2.2.2.2.1 hS hown (hts _ hw) (fun _ h9 => h9) hd (k H locs ls hP hD hS hl)
theorem j_gs_sio (C : Cx G K cc own nL lv) {idx : Nat} (hw : Cond.fieldLink own idx "jdk/internal/util/Preconditions" "SIOOBE_FORMATTER" "Ljava/util/function/BiFunction;" ∈ k_U) (hd : decode cc pc = .ok (.getstatic idx, 3)) (k : ∀ v : Option Nat, J G K nL cells slots ws L (pc + 3) (va_rf v :: st)) : J G K nL cells slots ws L (pc) (st) := by
  obtain ⟨p, l, e, R, s, m, args, below, meth, c, A, Q⟩ := K
  obtain ⟨⟨hx, hb, hml, hown⟩, hts, hK, hA, hAm, hlks, hR1, hR2⟩ := C
  refine fun H locs ls hP hD hS hl => ?_
  rcases hAm.2.2.2.2.2.2 with h | ⟨t, h⟩
  · exact va_gets hx hb h hS hown (hts _ hw) (fun _ h9 => h9) hd (k none H locs ls hP hD hS hl)
  · exact va_gets hx hb h hS hown (hts _ hw) (fun _ h9 => h9) hd (k (some t) H locs ls hP hD hS hl)
theorem j_sget_coder (C : Cx G K cc own nL lv) {idx i : Nat} (hi : i < 5) (hw : Cond.fieldLink own idx "java/lang/String" "coder" "B" ∈ k_U) (hd : decode cc pc = .ok (.getfield idx, 3)) (k : J G K nL cells slots ws L (pc + 3) (.int 0 :: st)) : J G K nL cells slots ws L (pc) (.ref (G.2.2 (10 + i)) :: st) := by
  obtain ⟨p, l, e, R, s, m, args, below, meth, c, A, Q⟩ := K
  obtain ⟨⟨hx, hb, hml, hown⟩, hts, hK, hA, hAm, hlks, hR1, hR2⟩ := C
  exact fun H locs ls hP hD hS hl => vk_getf hx hb (hAm.2.2.1.1 i hi).2.1 hS hown (hts _ hw) (fun _ h9 => h9) hd (k H locs ls hP hD hS hl)
theorem j_sget_value (C : Cx G K cc own nL lv) {idx i : Nat} (hi : i < 5) (hw : Cond.fieldLink own idx "java/lang/String" "value" "[B" ∈ k_U) (hd : decode cc pc = .ok (.getfield idx, 3)) (k : J G K nL cells slots ws L (pc + 3) (.ref (G.2.2 (20 + i)) :: st)) : J G K nL cells slots ws L (pc) (.ref (G.2.2 (10 + i)) :: st) := by
  obtain ⟨p, l, e, R, s, m, args, below, meth, c, A, Q⟩ := K
  obtain ⟨⟨hx, hb, hml, hown⟩, hts, hK, hA, hAm, hlks, hR1, hR2⟩ := C
  exact fun H locs ls hP hD hS hl => vk_getf hx hb (hAm.2.2.1.1 i hi).2.2.1 hS hown (hts _ hw) (fun _ h9 => h9) hd (k H locs ls hP hD hS hl)
theorem j_bs_ld (C : Cx G K cc own nL lv) {i : Nat} {ix : Int32} {α : Type} {X : Option α} {q : α} (hi : i < 5) (hf : gd ix (k_tn i) X = some q) (hd : decode cc pc = .ok (.baload, 1)) (k : X = some q → J G K nL cells slots ws L (pc + 1) (.int (k_tb i ix.toNatClampNeg) :: st)) : J G K nL cells slots ws L (pc) (.int ix :: .ref (G.2.2 (20 + i)) :: st) := by
  obtain ⟨p, l, e, R, s, m, args, below, meth, c, A, Q⟩ := K
  obtain ⟨⟨hx, hb, hml, hown⟩, hts, hK, hA, hAm, hlks, hR1, hR2⟩ := C
  exact fun H locs ls hP hD hS hl => va_tb hx hb (hAm.2.2.1.1 i hi).2.2.2 hS (gd_some hf).1 rfl hd (k (gd_some hf).2 H locs ls hP hD hS hl)
theorem j_bs_len (C : Cx G K cc own nL lv) {i : Nat} (hi : i < 5) (hd : decode cc pc = .ok (.arraylength, 1)) (k : J G K nL cells slots ws L (pc + 1) (.int (Int32.ofNat (k_tn i)) :: st)) : J G K nL cells slots ws L (pc) (.ref (G.2.2 (20 + i)) :: st) := by
  obtain ⟨p, l, e, R, s, m, args, below, meth, c, A, Q⟩ := K
  obtain ⟨⟨hx, hb, hml, hown⟩, hts, hK, hA, hAm, hlks, hR1, hR2⟩ := C
  exact fun H locs ls hP hD hS hl => va_tlen hx hb (hAm.2.2.1.1 i hi).2.2.2 hS rfl hd (k H locs ls hP hD hS hl)
theorem j_t_if_eq (C : Cx G K cc own nL lv) {x : Int32} {off : Int} (tgt : Nat) (hc : x = 0) (hd : decode cc pc = .ok (.ifCond .eq off, 3)) (ht : (pc : Int) + off = (tgt : Int)) (k : J G K nL cells slots ws L (tgt) (st)) : J G K nL cells slots ws L (pc) (.int x :: st) := by
  obtain ⟨p, l, e, R, s, m, args, below, meth, c, A, Q⟩ := K
  obtain ⟨⟨hx, hb, hml, hown⟩, hts, hK, hA, hAm, hlks, hR1, hR2⟩ := C
  exact fun H locs ls hP hD hS hl => lv_if_eq hx hb hd ht (fun _ => k H locs ls hP hD hS hl) (fun h => by first | exact absurd hc h | exact absurd h hc)
theorem j_f_if_eq (C : Cx G K cc own nL lv) {x : Int32} {off : Int} {tgt : Nat} (hc : ¬ (x = 0)) (hd : decode cc pc = .ok (.ifCond .eq off, 3)) (ht : (pc : Int) + off = (tgt : Int)) (k : J G K nL cells slots ws L (pc + 3) (st)) : J G K nL cells slots ws L (pc) (.int x :: st) := by
  obtain ⟨p, l, e, R, s, m, args, below, meth, c, A, Q⟩ := K
  obtain ⟨⟨hx, hb, hml, hown⟩, hts, hK, hA, hAm, hlks, hR1, hR2⟩ := C
  exact fun H locs ls hP hD hS hl => lv_if_eq hx hb hd ht (fun h => absurd h hc) (fun _ => k H locs ls hP hD hS hl)
theorem j_t_if_ne (C : Cx G K cc own nL lv) {x : Int32} {off : Int} (tgt : Nat) (hc : ¬ x = 0) (hd : decode cc pc = .ok (.ifCond .ne off, 3)) (ht : (pc : Int) + off = (tgt : Int)) (k : J G K nL cells slots ws L (tgt) (st)) : J G K nL cells slots ws L (pc) (.int x :: st) := by
  obtain ⟨p, l, e, R, s, m, args, below, meth, c, A, Q⟩ := K
  obtain ⟨⟨hx, hb, hml, hown⟩, hts, hK, hA, hAm, hlks, hR1, hR2⟩ := C
  exact fun H locs ls hP hD hS hl => lv_if_ne hx hb hd ht (fun _ => k H locs ls hP hD hS hl) (fun h => by first | exact absurd hc h | exact absurd h hc)
theorem j_f_if_ne (C : Cx G K cc own nL lv) {x : Int32} {off : Int} {tgt : Nat} (hc : ¬ (¬ x = 0)) (hd : decode cc pc = .ok (.ifCond .ne off, 3)) (ht : (pc : Int) + off = (tgt : Int)) (k : J G K nL cells slots ws L (pc + 3) (st)) : J G K nL cells slots ws L (pc) (.int x :: st) := by
  obtain ⟨p, l, e, R, s, m, args, below, meth, c, A, Q⟩ := K
  obtain ⟨⟨hx, hb, hml, hown⟩, hts, hK, hA, hAm, hlks, hR1, hR2⟩ := C
  exact fun H locs ls hP hD hS hl => lv_if_ne hx hb hd ht (fun h => absurd h hc) (fun _ => k H locs ls hP hD hS hl)
theorem j_popQ (C : Cx G K cc own nL lv) {va : Value} (h1 : va.category = 1) (hd : decode cc pc = .ok (.pop, 1)) (k : J G K nL cells slots ws L (pc + 1) st) : J G K nL cells slots ws L pc (va :: st) := j_pop C h1 hd k
end JT
