abbrev aI (G : Gx) (a n : Nat) (f : Nat → Int32) : Nat × va_E := (a, .inl (G.2.1 0, n, .inl f))
abbrev aJ (G : Gx) (a n : Nat) (f : Nat → Int64) : Nat × va_E := (a, .inl (G.2.1 1, n, .inr (.inl f)))
abbrev aC (G : Gx) (a n : Nat) (f : Nat → Int32) : Nat × va_E := (a, .inl (G.2.1 2, n, .inl f))
abbrev aZ (G : Gx) (a n : Nat) (f : Nat → Int32) : Nat × va_E := (a, .inl (G.2.1 3, n, .inl f))
abbrev aP (G : Gx) (a n : Nat) (f : Nat → Option Nat) : Nat × va_E := (a, .inl (G.2.1 4, n, .inr (.inr (.inr (.inr f)))))
abbrev aT (G : Gx) (a n : Nat) (f : Nat → Option Nat) : Nat × va_E := (a, .inl (G.2.1 5, n, .inr (.inr (.inr (.inr f)))))
abbrev oX0 (a : Nat) (r : Nat → Nat) (v1 : Int32) (v2 : Int32) (v3 : Int32) (v4 : Int32) : Nat × va_E := (a, .inr (0, [.ref (r 0), .int v1, .int v2, .int v3, .int v4]))
abbrev oX1 (a : Nat) (r : Nat → Nat) : Nat × va_E := (a, .inr (1, [.ref (r 0), .ref (r 1), .ref (r 2), .ref (r 3)]))
abbrev oX2 (a : Nat) (r : Nat → Nat) (v2 : Int32) (v3 : Int32) : Nat × va_E := (a, .inr (2, [.ref (r 0), .ref (r 1), .int v2, .int v3]))
abbrev oX3 (a : Nat) (r : Nat → Nat) (v1 : Int32) (v2 : Int32) : Nat × va_E := (a, .inr (3, [.ref (r 0), .int v1, .int v2]))
abbrev oX4 (a : Nat) (r : Nat → Nat) (v1 : Int32) (v2 : Int32) : Nat × va_E := (a, .inr (4, [.ref (r 0), .int v1, .int v2]))
abbrev oX5 (a : Nat) (r : Nat → Nat) (v1 : Int32) (v2 : Int32) (v3 : Int32) : Nat × va_E := (a, .inr (5, [.ref (r 0), .int v1, .int v2, .int v3]))
abbrev oX6 (a : Nat) (r : Nat → Nat) (v0 : Int32) (v1 : Int32) (v2 : Int32) (v3 : Int32) (v4 : Nat) : Nat × va_E := (a, .inr (6, [.int v0, .int v1, .int v2, .int v3, .ref v4, .ref (r 5), .ref (r 6), .ref (r 7), .ref (r 8), .ref (r 9), .ref (r 10), .ref (r 11), .ref (r 12), .ref (r 13)]))
abbrev oX7 (a : Nat) (r : Nat → Nat) (v3 : Int32) (v6 : Int32) : Nat × va_E := (a, .inr (7, [.ref (r 0), .ref (r 1), .ref (r 2), .int v3, .ref (r 4), .ref (r 5), .int v6, .ref (r 7), .ref (r 8), .ref (r 9)]))
abbrev oX8 (a : Nat) (r : Nat → Nat) (v0 : Int32) (v8 : Int32) (v9 : Int32) (v11 : Int32) (v12 : Int32) (v13 : Int32) (v14 : Int32) (v15 : Int32) (v16 : Int32) (v23 : Int32) (v25 : Int32) (v30 : Int32) (v33 : Int32) (v37 : Int32) (v39 : Int32) (v44 : Int32) : Nat × va_E := (a, .inr (8, [.int v0, .ref (r 1), .ref (r 2), .ref (r 3), .ref (r 4), .ref (r 5), .ref (r 6), .ref (r 7), .int v8, .int v9, .ref (r 10), .int v11, .int v12, .int v13, .int v14, .int v15, .int v16, .ref (r 17), .ref (r 18), .ref (r 19), .ref (r 20), .ref (r 21), .ref (r 22), .int v23, .ref (r 24), .int v25, .ref (r 26), .ref (r 27), .ref (r 28), .ref (r 29), .int v30, .ref (r 31), .ref (r 32), .int v33, .ref (r 34), .ref (r 35), .ref (r 36), .int v37, .ref (r 38), .int v39, .ref (r 40), .ref (r 41), .ref (r 42), .ref (r 43), .int v44, .ref (r 45), .ref (r 46), .ref (r 47)]))
theorem gd_mk {α : Type} {i : Int32} {n : Nat} {X : Option α} {q : α} (h : decide (i < 0 ∨ n ≤ i.toNatClampNeg) = false) (hf : X = some q) : gd i n X = some q := by
  unfold gd
  rw [if_neg (of_decide_eq_false h)]
  exact hf
theorem gz_mk {α : Type} {y : Int32} {X : Option α} {q : α} (h : decide (y = 0) = false) (hf : X = some q) : gz y X = some q := by
  unfold gz
  rw [if_neg (of_decide_eq_false h)]
  exact hf
theorem gn_boolean {α : Type} {x : Int32} {X : Option α} {q : α} (h : gn .boolean x X = some q) : narrow .boolean (.int x) = .int x ∧ X = some q := by
  unfold gn at h
  split at h
  · rename_i h1
    exact ⟨by rw [show narrow .boolean (.int x) = .int (vp_nar .boolean x) from rfl, h1], h⟩
  · cases h
theorem gn_char {α : Type} {x : Int32} {X : Option α} {q : α} (h : gn .char x X = some q) : narrow .char (.int x) = .int x ∧ X = some q := by
  unfold gn at h
  split at h
  · rename_i h1
    exact ⟨by rw [show narrow .char (.int x) = .int (vp_nar .char x) from rfl, h1], h⟩
  · cases h
theorem k_or {α : Type} {c : Prop} {i : Decidable c} {A B : Option α} {q : α} (h : @ite _ c i A B = some q) : (c ∧ A = some q) ∨ (¬ c ∧ B = some q) := by
  by_cases hc : c
  · exact Or.inl ⟨hc, by rwa [if_pos hc] at h⟩
  · exact Or.inr ⟨hc, by rwa [if_neg hc] at h⟩
def gcp {α : Type} (sp dp n : Int32) (n0 n1 : Nat) (X : Option α) : Option α := if (sp < 0 ∨ dp < 0 ∨ n < 0) ∨ n0 < sp.toNatClampNeg + n.toNatClampNeg ∨ n1 < dp.toNatClampNeg + n.toNatClampNeg then none else X
theorem gcp_some {α : Type} {sp dp n : Int32} {n0 n1 : Nat} {X : Option α} {q : α} (h : gcp sp dp n n0 n1 X = some q) : (¬ sp < 0 ∧ ¬ dp < 0 ∧ ¬ n < 0) ∧ sp.toNatClampNeg + n.toNatClampNeg ≤ n0 ∧ dp.toNatClampNeg + n.toNatClampNeg ≤ n1 ∧ X = some q := by
  unfold gcp at h
  split at h
  · cases h
  · rename_i h1
    refine ⟨⟨fun z => h1 (Or.inl (Or.inl z)), fun z => h1 (Or.inl (Or.inr (Or.inl z))), fun z => h1 (Or.inl (Or.inr (Or.inr z)))⟩, Nat.not_lt.mp fun z => h1 (Or.inr (Or.inl z)), Nat.not_lt.mp fun z => h1 (Or.inr (Or.inr z)), h⟩
theorem k_ac : Cond.native arraycopyName ∈ k_U ∧ Cond.static arraycopyName ∈ k_U ∧ Cond.initialized "java/lang/System" ∈ k_U := ⟨k_T2 71 (by decide +kernel) rfl, k_T2 70 (by decide +kernel) rfl, k_T1 11 (by decide +kernel) rfl⟩
theorem ml_X6_116 : Cond.methodLink RX6 116 arraycopyName ∈ k_U := k_T2 69 (by decide +kernel) rfl
theorem ml_X3_28 : Cond.methodLink RX3 28 arraycopyName ∈ k_U := k_T2 76 (by decide +kernel) rfl
theorem ml_X7_266 : Cond.methodLink RX7 266 arraycopyName ∈ k_U := k_T4 32 (by decide +kernel) rfl
section JR2
variable {G : Gx} {K : Kx} {cc : ByteArray} {own : String} {nL lv cells slots : Nat} {ws : va_W} {L : List (Nat × Value)} {pc : Nat} {st : List Value}
theorem j_copyi (C : Cx G K cc own nL lv) {idx a a0 n0 n1 : Nat} {f g : Nat → Int32} {sp dp n : Int32} {ws' : va_W} {α : Type} {X : Option α} {q : α} (hlk : Cond.methodLink own idx arraycopyName ∈ k_U) (t0 t1 : Nat) (ha0 : ws[t0]? = some (a0, .inl (G.2.1 0, n0, .inl f))) (ha1 : ws[t1]? = some (a, .inl (G.2.1 0, n1, .inl g))) (hf : gcp sp dp n n0 n1 X = some q) (hw : ws.set t1 (a, .inl (G.2.1 0, n1, .inl (va_cpy f g sp.toNatClampNeg dp.toNatClampNeg n.toNatClampNeg))) = ws') (hlv : 1 ≤ lv) (hsz : Nat.ble ((st.map fun v => v.category).sum + (nativeFrameWords "java/lang/System" "arraycopy" 5 + 11)) 60 = true) (hd : decode cc pc = .ok (.invokestatic idx, 3)) (k : X = some q → J G K nL cells slots ws' L (pc + 3) st) : J G K nL cells slots ws L pc (.int n :: .int dp :: .ref a :: .int sp :: .ref a0 :: st) := by
  obtain ⟨p, l, e, R, s, m, args, below, meth, c, A, Q⟩ := K
  obtain ⟨⟨hx, hb, hml, hown⟩, hts, hK, hA, hAm, hlks, hR1, hR2⟩ := C
  have g := gcp_some hf
  have hsz := Nat.le_of_ble_eq_true hsz
  exact fun H locs ls hP hD hS hl => va_copyi (tys := k_tys G) hx hb (hml.trans hl.1.symm) hown (hts _ hlk) (hts _ k_ac.1) (hts _ k_ac.2.1) (hts _ k_ac.2.2) hK hP hD hS t0 t1 0 0 ha0 ha1 rfl rfl rfl g.1.1 g.1.2.1 g.1.2.2 g.2.1 g.2.2.1 (fun _ _ => rfl) (by omega) (by omega) hd (fun H locs hP hD hS => k g.2.2.2 H locs ls (hw ▸ hP) (hw ▸ hD) hS hl)
theorem j_copyl (C : Cx G K cc own nL lv) {idx a a0 n0 n1 : Nat} {f g : Nat → Int64} {sp dp n : Int32} {ws' : va_W} {α : Type} {X : Option α} {q : α} (hlk : Cond.methodLink own idx arraycopyName ∈ k_U) (t0 t1 : Nat) (ha0 : ws[t0]? = some (a0, .inl (G.2.1 1, n0, .inr (.inl f)))) (ha1 : ws[t1]? = some (a, .inl (G.2.1 1, n1, .inr (.inl g)))) (hf : gcp sp dp n n0 n1 X = some q) (hw : ws.set t1 (a, .inl (G.2.1 1, n1, .inr (.inl (va_cpy f g sp.toNatClampNeg dp.toNatClampNeg n.toNatClampNeg)))) = ws') (hlv : 1 ≤ lv) (hsz : Nat.ble ((st.map fun v => v.category).sum + (nativeFrameWords "java/lang/System" "arraycopy" 5 + 11)) 60 = true) (hd : decode cc pc = .ok (.invokestatic idx, 3)) (k : X = some q → J G K nL cells slots ws' L (pc + 3) st) : J G K nL cells slots ws L pc (.int n :: .int dp :: .ref a :: .int sp :: .ref a0 :: st) := by
  obtain ⟨p, l, e, R, s, m, args, below, meth, c, A, Q⟩ := K
  obtain ⟨⟨hx, hb, hml, hown⟩, hts, hK, hA, hAm, hlks, hR1, hR2⟩ := C
  have g := gcp_some hf
  have hsz := Nat.le_of_ble_eq_true hsz
  exact fun H locs ls hP hD hS hl => va_copyl (tys := k_tys G) hx hb (hml.trans hl.1.symm) hown (hts _ hlk) (hts _ k_ac.1) (hts _ k_ac.2.1) (hts _ k_ac.2.2) hK hP hD hS t0 t1 1 1 ha0 ha1 rfl rfl rfl g.1.1 g.1.2.1 g.1.2.2 g.2.1 g.2.2.1 (fun _ _ => rfl) (by omega) (by omega) hd (fun H locs hP hD hS => k g.2.2.2 H locs ls (hw ▸ hP) (hw ▸ hD) hS hl)
theorem j_ldcS (C : Cx G K cc own nL lv) {idx i : Nat} {tx : String} (hm : (own, idx, tx, i) ∈ k_str) (hd : decode cc pc = .ok (.ldc idx, 2)) (k : J G K nL cells slots ws L (pc + 2) (.ref (G.2.2 (10 + i)) :: st)) : J G K nL cells slots ws L pc st := by
  obtain ⟨p, l, e, R, s, m, args, below, meth, c, A, Q⟩ := K
  obtain ⟨⟨hx, hb, hml, hown⟩, hts, hK, hA, hAm, hlks, hR1, hR2⟩ := C
  exact fun H locs ls hP hD hS hl => va_ldcS hx hb hown (hAm.2.1 _ hm) hd (k H locs ls hP hD hS hl)
end JR2
