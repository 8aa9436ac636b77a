theorem k_oi : Cond.instanceMethod objectInit ∈ k_U ∧ Cond.code objectInit ⟨#[0xb1]⟩ 1 none ∈ k_U := ⟨k_T1 24 (by decide +kernel) rfl, k_T1 25 (by decide +kernel) rfl⟩
theorem ol_X7_5 : Cond.methodLink RX7 5 objectInit ∈ k_U := k_T1 23 (by decide +kernel) rfl
theorem ol_X6_3 : Cond.methodLink RX6 3 objectInit ∈ k_U := k_T1 31 (by decide +kernel) rfl
theorem ol_X2_3 : Cond.methodLink RX2 3 objectInit ∈ k_U := k_T1 37 (by decide +kernel) rfl
theorem ol_X3_3 : Cond.methodLink RX3 3 objectInit ∈ k_U := k_T1 60 (by decide +kernel) rfl
theorem ol_X5_3 : Cond.methodLink RX5 3 objectInit ∈ k_U := k_T1 139 (by decide +kernel) rfl
theorem ol_X1_3 : Cond.methodLink RX1 3 objectInit ∈ k_U := k_T1 163 (by decide +kernel) rfl
theorem ol_X0_3 : Cond.methodLink RX0 3 objectInit ∈ k_U := k_T1 183 (by decide +kernel) rfl
theorem ol_X4_3 : Cond.methodLink RX4 3 objectInit ∈ k_U := k_T1 212 (by decide +kernel) rfl
theorem ol_X8_3 : Cond.methodLink RX8 3 objectInit ∈ k_U := k_T4 38 (by decide +kernel) rfl
theorem mi_X0_init : (Cond.instanceMethod yX0_init ∈ k_U ∧ Cond.initialized yX0_init.cls ∈ k_U ∧ Cond.code yX0_init cX0_init 1 none ∈ k_U) ∧ (yX0_init.cls ≠ "java/lang/invoke/MethodHandle" ∧ yX0_init.cls ≠ "java/lang/invoke/VarHandle" ∧ (parseMethodDescriptor yX0_init.desc).map (fun d => d.parameters.length) = some 0) := ⟨⟨k_T1 181 (by decide +kernel) rfl, k_T1 8 (by decide +kernel) rfl, k_T1 182 (by decide +kernel) rfl⟩, by decide +kernel⟩
theorem in_X0 : Cond.instantiable RX0 5 ∈ k_U ∧ Cond.initialized RX0 ∈ k_U := ⟨k_T1 179 (by decide +kernel) rfl, k_T1 8 (by decide +kernel) rfl⟩
theorem mi_X1_init : (Cond.instanceMethod yX1_init ∈ k_U ∧ Cond.initialized yX1_init.cls ∈ k_U ∧ Cond.code yX1_init cX1_init 1 none ∈ k_U) ∧ (yX1_init.cls ≠ "java/lang/invoke/MethodHandle" ∧ yX1_init.cls ≠ "java/lang/invoke/VarHandle" ∧ (parseMethodDescriptor yX1_init.desc).map (fun d => d.parameters.length) = some 0) := ⟨⟨k_T1 161 (by decide +kernel) rfl, k_T1 7 (by decide +kernel) rfl, k_T1 162 (by decide +kernel) rfl⟩, by decide +kernel⟩
theorem in_X1 : Cond.instantiable RX1 4 ∈ k_U ∧ Cond.initialized RX1 ∈ k_U := ⟨k_T1 159 (by decide +kernel) rfl, k_T1 7 (by decide +kernel) rfl⟩
theorem mi_X2_init : (Cond.instanceMethod yX2_init ∈ k_U ∧ Cond.initialized yX2_init.cls ∈ k_U ∧ Cond.code yX2_init cX2_init 1 none ∈ k_U) ∧ (yX2_init.cls ≠ "java/lang/invoke/MethodHandle" ∧ yX2_init.cls ≠ "java/lang/invoke/VarHandle" ∧ (parseMethodDescriptor yX2_init.desc).map (fun d => d.parameters.length) = some 0) := ⟨⟨k_T1 35 (by decide +kernel) rfl, k_T1 3 (by decide +kernel) rfl, k_T1 36 (by decide +kernel) rfl⟩, by decide +kernel⟩
theorem in_X2 : Cond.instantiable RX2 4 ∈ k_U ∧ Cond.initialized RX2 ∈ k_U := ⟨k_T1 33 (by decide +kernel) rfl, k_T1 3 (by decide +kernel) rfl⟩
theorem mi_X3_init : (Cond.instanceMethod yX3_init ∈ k_U ∧ Cond.initialized yX3_init.cls ∈ k_U ∧ Cond.code yX3_init cX3_init 2 none ∈ k_U) ∧ (yX3_init.cls ≠ "java/lang/invoke/MethodHandle" ∧ yX3_init.cls ≠ "java/lang/invoke/VarHandle" ∧ (parseMethodDescriptor yX3_init.desc).map (fun d => d.parameters.length) = some 1) := ⟨⟨k_T1 58 (by decide +kernel) rfl, k_T1 4 (by decide +kernel) rfl, k_T1 59 (by decide +kernel) rfl⟩, by decide +kernel⟩
theorem in_X3 : Cond.instantiable RX3 3 ∈ k_U ∧ Cond.initialized RX3 ∈ k_U := ⟨k_T1 56 (by decide +kernel) rfl, k_T1 4 (by decide +kernel) rfl⟩
theorem mi_X4_init : (Cond.instanceMethod yX4_init ∈ k_U ∧ Cond.initialized yX4_init.cls ∈ k_U ∧ Cond.code yX4_init cX4_init 1 none ∈ k_U) ∧ (yX4_init.cls ≠ "java/lang/invoke/MethodHandle" ∧ yX4_init.cls ≠ "java/lang/invoke/VarHandle" ∧ (parseMethodDescriptor yX4_init.desc).map (fun d => d.parameters.length) = some 0) := ⟨⟨k_T1 210 (by decide +kernel) rfl, k_T1 9 (by decide +kernel) rfl, k_T1 211 (by decide +kernel) rfl⟩, by decide +kernel⟩
theorem in_X4 : Cond.instantiable RX4 3 ∈ k_U ∧ Cond.initialized RX4 ∈ k_U := ⟨k_T1 208 (by decide +kernel) rfl, k_T1 9 (by decide +kernel) rfl⟩
theorem mi_X5_init : (Cond.instanceMethod yX5_init ∈ k_U ∧ Cond.initialized yX5_init.cls ∈ k_U ∧ Cond.code yX5_init cX5_init 1 none ∈ k_U) ∧ (yX5_init.cls ≠ "java/lang/invoke/MethodHandle" ∧ yX5_init.cls ≠ "java/lang/invoke/VarHandle" ∧ (parseMethodDescriptor yX5_init.desc).map (fun d => d.parameters.length) = some 0) := ⟨⟨k_T1 137 (by decide +kernel) rfl, k_T1 6 (by decide +kernel) rfl, k_T1 138 (by decide +kernel) rfl⟩, by decide +kernel⟩
theorem in_X5 : Cond.instantiable RX5 4 ∈ k_U ∧ Cond.initialized RX5 ∈ k_U := ⟨k_T1 135 (by decide +kernel) rfl, k_T1 6 (by decide +kernel) rfl⟩
theorem mi_X6_init : (Cond.instanceMethod yX6_init ∈ k_U ∧ Cond.initialized yX6_init.cls ∈ k_U ∧ Cond.code yX6_init cX6_init 1 none ∈ k_U) ∧ (yX6_init.cls ≠ "java/lang/invoke/MethodHandle" ∧ yX6_init.cls ≠ "java/lang/invoke/VarHandle" ∧ (parseMethodDescriptor yX6_init.desc).map (fun d => d.parameters.length) = some 0) := ⟨⟨k_T1 29 (by decide +kernel) rfl, k_T1 2 (by decide +kernel) rfl, k_T1 30 (by decide +kernel) rfl⟩, by decide +kernel⟩
theorem in_X6 : Cond.instantiable RX6 14 ∈ k_U ∧ Cond.initialized RX6 ∈ k_U := ⟨k_T1 27 (by decide +kernel) rfl, k_T1 2 (by decide +kernel) rfl⟩
theorem mi_X7_init : (Cond.instanceMethod yX7_init ∈ k_U ∧ Cond.initialized yX7_init.cls ∈ k_U ∧ Cond.code yX7_init cX7_init 2 none ∈ k_U) ∧ (yX7_init.cls ≠ "java/lang/invoke/MethodHandle" ∧ yX7_init.cls ≠ "java/lang/invoke/VarHandle" ∧ (parseMethodDescriptor yX7_init.desc).map (fun d => d.parameters.length) = some 0) := ⟨⟨k_T1 21 (by decide +kernel) rfl, k_T1 1 (by decide +kernel) rfl, k_T1 22 (by decide +kernel) rfl⟩, by decide +kernel⟩
theorem in_X7 : Cond.instantiable RX7 10 ∈ k_U ∧ Cond.initialized RX7 ∈ k_U := ⟨k_T1 19 (by decide +kernel) rfl, k_T1 1 (by decide +kernel) rfl⟩
theorem mi_X8_init : (Cond.instanceMethod yX8_init ∈ k_U ∧ Cond.initialized yX8_init.cls ∈ k_U ∧ Cond.code yX8_init cX8_init 2 none ∈ k_U) ∧ (yX8_init.cls ≠ "java/lang/invoke/MethodHandle" ∧ yX8_init.cls ≠ "java/lang/invoke/VarHandle" ∧ (parseMethodDescriptor yX8_init.desc).map (fun d => d.parameters.length) = some 0) := ⟨⟨k_T4 36 (by decide +kernel) rfl, k_T1 10 (by decide +kernel) rfl, k_T4 37 (by decide +kernel) rfl⟩, by decide +kernel⟩
theorem in_X8 : Cond.instantiable RX8 48 ∈ k_U ∧ Cond.initialized RX8 ∈ k_U := ⟨k_T4 34 (by decide +kernel) rfl, k_T1 10 (by decide +kernel) rfl⟩
theorem il_L_9 : Cond.methodLink RL 9 yX7_init ∈ k_U := k_T1 20 (by decide +kernel) rfl
theorem il_X7_13 : Cond.methodLinkNest RX7 13 yX6_init "NoGraveEnemy" ∈ k_nest := k_N1 28 (by decide +kernel) rfl
theorem il_X6_11 : Cond.methodLinkNest RX6 11 yX2_init "NoGraveEnemy" ∈ k_nest := k_N1 34 (by decide +kernel) rfl
theorem il_X6_36 : Cond.methodLink RX6 36 yX3_init ∈ k_U := k_T1 57 (by decide +kernel) rfl
theorem il_X7_26 : Cond.methodLinkNest RX7 26 yX5_init "NoGraveEnemy" ∈ k_nest := k_N1 136 (by decide +kernel) rfl
theorem il_X7_39 : Cond.methodLinkNest RX7 39 yX1_init "NoGraveEnemy" ∈ k_nest := k_N1 160 (by decide +kernel) rfl
theorem il_X7_46 : Cond.methodLinkNest RX7 46 yX0_init "NoGraveEnemy" ∈ k_nest := k_N1 180 (by decide +kernel) rfl
theorem il_X7_57 : Cond.methodLinkNest RX7 57 yX2_init "NoGraveEnemy" ∈ k_nest := k_N1 207 (by decide +kernel) rfl
theorem il_X7_58 : Cond.methodLinkNest RX7 58 yX4_init "NoGraveEnemy" ∈ k_nest := k_N1 209 (by decide +kernel) rfl
theorem il_L_12 : Cond.methodLink RL 12 yX8_init ∈ k_U := k_T4 35 (by decide +kernel) rfl
theorem cl_L_7 : Cond.classLink RL 7 "NoGraveEnemy" ∈ k_U := k_T1 18 (by decide +kernel) rfl
theorem cl_X7_11 : Cond.classLink RX7 11 "NoGraveEnemy$Village" ∈ k_U := k_T1 26 (by decide +kernel) rfl
theorem cl_X6_9 : Cond.classLink RX6 9 "NoGraveEnemy$Parish" ∈ k_U := k_T1 32 (by decide +kernel) rfl
theorem cl_X6_34 : Cond.classLink RX6 34 "NoGraveEnemy$Table" ∈ k_U := k_T1 55 (by decide +kernel) rfl
theorem cl_X7_24 : Cond.classLink RX7 24 "NoGraveEnemy$Text" ∈ k_U := k_T1 134 (by decide +kernel) rfl
theorem cl_X7_31 : Cond.classLink RX7 31 "NoGraveEnemy$Parish" ∈ k_U := k_T1 156 (by decide +kernel) rfl
theorem cl_X7_37 : Cond.classLink RX7 37 "NoGraveEnemy$Choices" ∈ k_U := k_T1 158 (by decide +kernel) rfl
theorem cl_X7_44 : Cond.classLink RX7 44 "NoGraveEnemy$Acts" ∈ k_U := k_T1 178 (by decide +kernel) rfl
theorem cl_X7_51 : Cond.classLink RX7 51 "NoGraveEnemy$Tape" ∈ k_U := k_T1 205 (by decide +kernel) rfl
theorem cl_L_10 : Cond.classLink RL 10 "NoGraveEnemyModel" ∈ k_U := k_T4 33 (by decide +kernel) rfl
theorem ac_int : Cond.arrayClass .int ∈ k_U := k_T1 54 (by decide +kernel) rfl
theorem ac_long : Cond.arrayClass .long ∈ k_U := k_T1 225 (by decide +kernel) rfl
theorem ac_char : Cond.arrayClass .char ∈ k_U := k_T1 155 (by decide +kernel) rfl
theorem ac_boolean : Cond.arrayClass .boolean ∈ k_U := k_T4 184 (by decide +kernel) rfl
def k_name (K : Kx) : Prop := match K with | (_, _, _, _, _, _, _, _, meth, _, _, _) => meth.name = "<init>"
def k_over (K : Kx) (D : String) : Prop := match K with | (_, _, _, _, s, _, _, _, _, _, _, _) => va_AO D s
-- a constructor's contract: it makes mc cells of ms slots; what then lies there is one of Pst
def MN (G : Gx) (l : Launch) (y : MethodName) (cy : ByteArray) (nL lv mc ms : Nat) (av : List Value) (W0 : va_W) (E : State → Prop) (Pst : va_W → Prop) : Prop := ∀ sz, Met l y (Cond.code y cy nL none :: k_U) { frames := 2 * lv, cells := mc, slots := ms, locals := 60 * lv } (fun a S => k_Pc G av W0 sz a S ∧ E S) (va_Qv (fun W1 : va_W => Pst W1) (fun W1 t => va_P G.1 vwCl W1 t.heap ∧ va_K G.1 vwCl (k_tys G) t ∧ va_D (va_A W0 sz) W1) (va_A W0 sz)) mc ms (va_A W0 sz)
def k_retN (G : Gx) (K : Kx) (cc : ByteArray) (nL mc ms : Nat) (Pst : va_W → Prop) : Prop := ∀ (W1 : va_W) (pc : Nat) (L : List (Nat × Value)), Pst W1 → decode cc pc = .ok (.return_, 1) → J G K nL mc ms W1 L pc []
theorem mN_of {G : Gx} {l : Launch} {y : MethodName} {cc : ByteArray} {nL lv mc ms : Nat} {av : List Value} {W0 : va_W} {E : State → Prop} {Pst : va_W → Prop} (hy : plainFor y = true) (hyn : y.name = "<init>") (hav : Nat.ble (lg_sl av).length nL = true)
    (body : ∀ K : Kx, K.2.1 = l → Cx G K cc y.cls nL lv → k_name K → E K.2.2.2.2.1 → K.2.2.2.1.cells = mc ∧ K.2.2.2.1.slots = ms → k_retN G K cc nL mc ms Pst → J G K nL 0 0 W0 (lv_args 0 av) 0 []) : MN G l y cc nL lv mc ms av W0 E Pst := by
  intro sz
  refine va_MetF (cc := cc) (maxL := nL) (ret := none) hy rfl ?_
  intro p e s m args below meth c s₁ B hml hv
  obtain ⟨⟨rfl, hsz, hP, hK, hD0, hAm⟩, hE⟩ := hv
  have hx := B.exec
  have hb := B.bytes
  have hr := B.returns
  have hts := atoms_spec B.pre
  have hown : s.vm.findClass y.cls = some m.cls := findClass_of_methodNamed B.named
  have hlocks := B.notSynchronized
  subst hsz
  have hD := hD0.self (sz := s.heap.size)
  have hA : ∀ q : Nat, s.heap.size ≤ q → va_A W0 s.heap.size q := fun q h => Or.inr h
  have hS : va_S (va_A W0 s.heap.size) s.heap s.heap [] := va_S.rf
  have hl := lv_entry av (n := nL) (Nat.le_of_ble_eq_true hav)
  rw [lg_entry_eq]
  exact body (p, l, e, (headSpec (Cond.code y cc nL none :: k_U) ({ frames := 2 * lv, cells := mc, slots := ms, locals := 60 * lv } : Room)).room, s, m, av.toArray, below, meth, c, va_A W0 s.heap.size, _) rfl ⟨⟨hx, hb, hml, hown⟩, fun w h => hts w (List.mem_cons_of_mem _ h), hK, hA, hAm, hlocks, Nat.le_refl _, Nat.le_refl _⟩ ((name_of_methodNamed B.named B.method).1.trans hyn) hE ⟨rfl, rfl⟩
    (fun W1 pc L hW hd H locs ls hP hD hS hl => W.vret hx hb hr (fun t ht hW2 => ⟨⟨W1, rfl, hW, by rw [ht]; exact hP, va_K.moved hW2.alike hK, hD⟩, hS.F ht⟩) hS.2.2 hd) s.heap [] _ hP hD hS hl
section CK
variable {G : Gx} {K : Kx} {cc : ByteArray} {own : String} {nL lv cells slots : Nat} {ws : va_W} {L : List (Nat × Value)} {pc : Nat} {st stk : List Value}
theorem j_new (C : Cx G K cc own nL lv) {idx ci N : Nat} {D : String} {T : u_T} {ty : Nat → FieldType} {fs : List Value} {ws' : Nat → va_W} (hc : k_cls ci D T N ty) (hcl : Cond.classLink own idx D ∈ k_U) (hin : Cond.instantiable D N ∈ k_U ∧ Cond.initialized D ∈ k_U) (hfs : ∀ j, j < N → defaultValue (ty j) = vp_V fs j) (hcs : cells + 1 ≤ K.2.2.2.1.cells ∧ slots + N ≤ K.2.2.2.1.slots) (hw : ∀ q, ws ++ [(q, .inr (ci, fs))] = ws' q) (hd : decode cc pc = .ok (.new idx, 3)) (k : ∀ q, J G K nL (cells + 1) (slots + N) (ws' q) L (pc + 3) (.ref q :: st)) : J G K nL (cells) (slots) ws L (pc) (st) := by
  obtain ⟨p, l, e, R, s, m, args, below, meth, c, A, Q⟩ := K
  obtain ⟨⟨hx, hb, hml, hown⟩, hts, hK, hA, hAm, hlks, hR1, hR2⟩ := C
  exact fun H locs ls hP hD hS hl => va_new (tys := k_tys G) hx hb hts hc.2.1 ty hc.2.2.1 hown (hts _ hcl) (hts _ hin.1) (hts _ hin.2) hK hP hD hS hA hc.1 hfs hcs.1 hcs.2 hd (fun q H hP hD hS => k q H locs ls (hw q ▸ hP) (hw q ▸ hD) hS hl)
theorem j_objInit (C : Cx G K cc own nL lv) {idx a : Nat} (hlk : Cond.methodLink own idx objectInit ∈ k_U) (hlv : 1 ≤ lv) (hcat : Nat.ble (st.map fun v => v.category).sum 8 = true) (hd : decode cc pc = .ok (.invokespecial idx, 3)) (k : J G K nL (cells) (slots) ws L (pc + 3) (st)) : J G K nL (cells) (slots) ws L (pc) (.ref a :: st) := by
  obtain ⟨p, l, e, R, s, m, args, below, meth, c, A, Q⟩ := K
  obtain ⟨⟨hx, hb, hml, hown⟩, hts, hK, hA, hAm, hlks, hR1, hR2⟩ := C
  have hcat := Nat.le_of_ble_eq_true hcat
  exact fun H locs ls hP hD hS hl => W.objInit (rest := st) hx hb hown (hts _ hlk) (hts _ k_oi.1) (hts _ k_oi.2) rfl (by rw [hml]; exact hl.1) rfl hd (by omega) (by show 2 * 0 + _ + 12 ≤ _; omega) (k H locs ls hP hD hS hl)
theorem j_newa_int (C : Cx G K cc own nL lv) {n : Int32} {N : Nat} {ws' : Nat → va_W} (hn : decide (n < 0) = false) (hN : n.toNatClampNeg = N) (hNb : N ≤ 1000) (hcs : cells + 1 ≤ K.2.2.2.1.cells ∧ slots + N ≤ K.2.2.2.1.slots) (hw : ∀ q, ws ++ [(q, .inl (G.2.1 0, N, .inl (fun _ => 0)))] = ws' q) (hd : decode cc pc = .ok (.newarray .int, 2)) (k : ∀ q, J G K nL (cells + 1) (slots + N) (ws' q) L (pc + 2) (.ref q :: st)) : J G K nL (cells) (slots) ws L (pc) (.int n :: st) := by
  obtain ⟨p, l, e, R, s, m, args, below, meth, c, A, Q⟩ := K
  obtain ⟨⟨hx, hb, hml, hown⟩, hts, hK, hA, hAm, hlks, hR1, hR2⟩ := C
  refine fun H locs ls hP hD hS hl => va_newa (atype := .int) (ty := .int) (a0 := (N, .inl (fun _ => 0))) (tys := k_tys G) hx hb (hts _ ac_int) rfl hK hP hD hS hA (fun cA => rfl) (of_decide_eq_false hn) hN (by show N * _ ≤ _; simp only [componentBytes]; omega) hcs.1 hcs.2 hd (fun q cA H hK2 hP hD hS => ?_)
  have e1 := (hK2.2 6 (cA, .int) rfl).2
  have e2 := (hK.2 0 (G.2.1 0, .int) rfl).2
  have e3 : cA = G.2.1 0 := Option.some.inj (e1.symm.trans e2)
  subst e3
  exact k q H locs ls (hw q ▸ hP) (hw q ▸ hD) hS hl
theorem j_newa_long (C : Cx G K cc own nL lv) {n : Int32} {N : Nat} {ws' : Nat → va_W} (hn : decide (n < 0) = false) (hN : n.toNatClampNeg = N) (hNb : N ≤ 1000) (hcs : cells + 1 ≤ K.2.2.2.1.cells ∧ slots + N ≤ K.2.2.2.1.slots) (hw : ∀ q, ws ++ [(q, .inl (G.2.1 1, N, .inr (.inl (fun _ => 0))))] = ws' q) (hd : decode cc pc = .ok (.newarray .long, 2)) (k : ∀ q, J G K nL (cells + 1) (slots + N) (ws' q) L (pc + 2) (.ref q :: st)) : J G K nL (cells) (slots) ws L (pc) (.int n :: st) := by
  obtain ⟨p, l, e, R, s, m, args, below, meth, c, A, Q⟩ := K
  obtain ⟨⟨hx, hb, hml, hown⟩, hts, hK, hA, hAm, hlks, hR1, hR2⟩ := C
  refine fun H locs ls hP hD hS hl => va_newa (atype := .long) (ty := .long) (a0 := (N, .inr (.inl (fun _ => 0)))) (tys := k_tys G) hx hb (hts _ ac_long) rfl hK hP hD hS hA (fun cA => rfl) (of_decide_eq_false hn) hN (by show N * _ ≤ _; simp only [componentBytes]; omega) hcs.1 hcs.2 hd (fun q cA H hK2 hP hD hS => ?_)
  have e1 := (hK2.2 6 (cA, .long) rfl).2
  have e2 := (hK.2 1 (G.2.1 1, .long) rfl).2
  have e3 : cA = G.2.1 1 := Option.some.inj (e1.symm.trans e2)
  subst e3
  exact k q H locs ls (hw q ▸ hP) (hw q ▸ hD) hS hl
theorem j_newa_char (C : Cx G K cc own nL lv) {n : Int32} {N : Nat} {ws' : Nat → va_W} (hn : decide (n < 0) = false) (hN : n.toNatClampNeg = N) (hNb : N ≤ 1000) (hcs : cells + 1 ≤ K.2.2.2.1.cells ∧ slots + N ≤ K.2.2.2.1.slots) (hw : ∀ q, ws ++ [(q, .inl (G.2.1 2, N, .inl (fun _ => 0)))] = ws' q) (hd : decode cc pc = .ok (.newarray .char, 2)) (k : ∀ q, J G K nL (cells + 1) (slots + N) (ws' q) L (pc + 2) (.ref q :: st)) : J G K nL (cells) (slots) ws L (pc) (.int n :: st) := by
  obtain ⟨p, l, e, R, s, m, args, below, meth, c, A, Q⟩ := K
  obtain ⟨⟨hx, hb, hml, hown⟩, hts, hK, hA, hAm, hlks, hR1, hR2⟩ := C
  refine fun H locs ls hP hD hS hl => va_newa (atype := .char) (ty := .char) (a0 := (N, .inl (fun _ => 0))) (tys := k_tys G) hx hb (hts _ ac_char) rfl hK hP hD hS hA (fun cA => rfl) (of_decide_eq_false hn) hN (by show N * _ ≤ _; simp only [componentBytes]; omega) hcs.1 hcs.2 hd (fun q cA H hK2 hP hD hS => ?_)
  have e1 := (hK2.2 6 (cA, .char) rfl).2
  have e2 := (hK.2 2 (G.2.1 2, .char) rfl).2
  have e3 : cA = G.2.1 2 := Option.some.inj (e1.symm.trans e2)
  subst e3
  exact k q H locs ls (hw q ▸ hP) (hw q ▸ hD) hS hl
theorem j_newa_boolean (C : Cx G K cc own nL lv) {n : Int32} {N : Nat} {ws' : Nat → va_W} (hn : decide (n < 0) = false) (hN : n.toNatClampNeg = N) (hNb : N ≤ 1000) (hcs : cells + 1 ≤ K.2.2.2.1.cells ∧ slots + N ≤ K.2.2.2.1.slots) (hw : ∀ q, ws ++ [(q, .inl (G.2.1 3, N, .inl (fun _ => 0)))] = ws' q) (hd : decode cc pc = .ok (.newarray .boolean, 2)) (k : ∀ q, J G K nL (cells + 1) (slots + N) (ws' q) L (pc + 2) (.ref q :: st)) : J G K nL (cells) (slots) ws L (pc) (.int n :: st) := by
  obtain ⟨p, l, e, R, s, m, args, below, meth, c, A, Q⟩ := K
  obtain ⟨⟨hx, hb, hml, hown⟩, hts, hK, hA, hAm, hlks, hR1, hR2⟩ := C
  refine fun H locs ls hP hD hS hl => va_newa (atype := .boolean) (ty := .boolean) (a0 := (N, .inl (fun _ => 0))) (tys := k_tys G) hx hb (hts _ ac_boolean) rfl hK hP hD hS hA (fun cA => rfl) (of_decide_eq_false hn) hN (by show N * _ ≤ _; simp only [componentBytes]; omega) hcs.1 hcs.2 hd (fun q cA H hK2 hP hD hS => ?_)
  have e1 := (hK2.2 6 (cA, .boolean) rfl).2
  have e2 := (hK.2 3 (G.2.1 3, .boolean) rfl).2
  have e3 : cA = G.2.1 3 := Option.some.inj (e1.symm.trans e2)
  subst e3
  exact k q H locs ls (hw q ▸ hP) (hw q ▸ hD) hS hl
theorem j_newq_P (C : Cx G K cc own nL lv) {idx : Nat} {n : Int32} {N : Nat} {ws' : Nat → va_W} (hcl : Cond.classLink own idx "NoGraveEnemy$Parish" ∈ k_U) (hov : k_over K "NoGraveEnemy$Parish") (hn : decide (n < 0) = false) (hN : n.toNatClampNeg = N) (hNb : N ≤ 1000) (hcs : cells + 1 ≤ K.2.2.2.1.cells ∧ slots + N ≤ K.2.2.2.1.slots) (hw : ∀ q, ws ++ [(q, .inl (G.2.1 4, N, .inr (.inr (.inr (.inr (fun _ => none))))))] = ws' q) (hd : decode cc pc = .ok (.anewarray idx, 3)) (k : ∀ q, J G K nL (cells + 1) (slots + N) (ws' q) L (pc + 3) (.ref q :: st)) : J G K nL (cells) (slots) ws L (pc) (.int n :: st) := by
  obtain ⟨p, l, e, R, s, m, args, below, meth, c, A, Q⟩ := K
  obtain ⟨⟨hx, hb, hml, hown⟩, hts, hK, hA, hAm, hlks, hR1, hR2⟩ := C
  refine fun H locs ls hP hD hS hl => va_newq (tys := k_tys G) hx hb hown (hts _ hcl) hov hK hP hD hS hA (of_decide_eq_false hn) hN (by omega) hcs.1 hcs.2 hd (fun q cA H hK2 hP hD hS => ?_)
  obtain ⟨-, -, -, -, -, e1⟩ := (hK2.2 6 (cA, .object "NoGraveEnemy$Parish") rfl).2
  obtain ⟨-, -, -, -, -, e2⟩ := (hK.2 4 (G.2.1 4, .object "NoGraveEnemy$Parish") rfl).2
  have e3 : cA = G.2.1 4 := Option.some.inj (e1.symm.trans e2)
  subst e3
  exact k q H locs ls (hw q ▸ hP) (hw q ▸ hD) hS hl
theorem j_newq_T (C : Cx G K cc own nL lv) {idx : Nat} {n : Int32} {N : Nat} {ws' : Nat → va_W} (hcl : Cond.classLink own idx "NoGraveEnemy$Tape" ∈ k_U) (hov : k_over K "NoGraveEnemy$Tape") (hn : decide (n < 0) = false) (hN : n.toNatClampNeg = N) (hNb : N ≤ 1000) (hcs : cells + 1 ≤ K.2.2.2.1.cells ∧ slots + N ≤ K.2.2.2.1.slots) (hw : ∀ q, ws ++ [(q, .inl (G.2.1 5, N, .inr (.inr (.inr (.inr (fun _ => none))))))] = ws' q) (hd : decode cc pc = .ok (.anewarray idx, 3)) (k : ∀ q, J G K nL (cells + 1) (slots + N) (ws' q) L (pc + 3) (.ref q :: st)) : J G K nL (cells) (slots) ws L (pc) (.int n :: st) := by
  obtain ⟨p, l, e, R, s, m, args, below, meth, c, A, Q⟩ := K
  obtain ⟨⟨hx, hb, hml, hown⟩, hts, hK, hA, hAm, hlks, hR1, hR2⟩ := C
  refine fun H locs ls hP hD hS hl => va_newq (tys := k_tys G) hx hb hown (hts _ hcl) hov hK hP hD hS hA (of_decide_eq_false hn) hN (by omega) hcs.1 hcs.2 hd (fun q cA H hK2 hP hD hS => ?_)
  obtain ⟨-, -, -, -, -, e1⟩ := (hK2.2 6 (cA, .object "NoGraveEnemy$Tape") rfl).2
  obtain ⟨-, -, -, -, -, e2⟩ := (hK.2 5 (G.2.1 5, .object "NoGraveEnemy$Tape") rfl).2
  have e3 : cA = G.2.1 5 := Option.some.inj (e1.symm.trans e2)
  subst e3
  exact k q H locs ls (hw q ▸ hP) (hw q ▸ hD) hS hl
theorem j_aast (C : Cx G K cc own nL lv) {a n v cy ci : Nat} {D : String} {T : u_T} {N : Nat} {ty : Nat → FieldType} {vs : List Value} {f : Nat → Option Nat} {i : Int32} {ws' : va_W} (hc : k_cls ci D T N ty) (t t2 : Nat) (ha : ws[t]? = some (a, .inl (G.2.1 cy, n, .inr (.inr (.inr (.inr f)))))) (hy : (k_tys G)[cy]? = some (G.2.1 cy, .object D)) (hv : ws[t2]? = some (v, .inr (ci, vs))) (hin : decide (i < 0 ∨ n ≤ i.toNatClampNeg) = false) (hw : ws.set t (a, .inl (G.2.1 cy, n, .inr (.inr (.inr (.inr (va_up f i.toNatClampNeg (some v))))))) = ws') (hd : decode cc pc = .ok (.aastore, 1)) (k : J G K nL (cells) (slots) ws' L (pc + 1) (st)) : J G K nL (cells) (slots) ws L (pc) (.ref v :: .int i :: .ref a :: st) := by
  obtain ⟨p, l, e, R, s, m, args, below, meth, c, A, Q⟩ := K
  obtain ⟨⟨hx, hb, hml, hown⟩, hts, hK, hA, hAm, hlks, hR1, hR2⟩ := C
  exact fun H locs ls hP hD hS hl => va_astq (tys := k_tys G) (r := (D, T, N)) hx hb hK hP hD hS t cy t2 ci ha hy hv hc.1 (of_decide_eq_false hin) hd (fun H locs hP hD hS => k H locs ls (hw ▸ hP) (hw ▸ hD) hS hl)
theorem j_putF (C : Cx G K cc own nL lv) {a ci N idx j : Nat} {D : String} {T : u_T} {ty : Nat → FieldType} {fs : List Value} {v : Value} {ws' : va_W} (hc : k_cls ci D T N ty) (hfl : k_fl own idx T N j) (hnm : k_name K) (t : Nat) (he : ws[t]? = some (a, .inr (ci, fs))) (hfin : (T j).2.2.2 = true) (hdecl : (T j).1 = own) (hn : narrow (ty j) v = v) (hfit : fits (ty j) v = true) (hlen : Nat.ble (j + 1) fs.length = true) (hw : ws.set t (a, .inr (ci, fs.set j v)) = ws') (hd : decode cc pc = .ok (.putfield idx, 3)) (k : J G K nL (cells) (slots) ws' L (pc + 3) (st)) : J G K nL (cells) (slots) ws L (pc) (v :: .ref a :: st) := by
  obtain ⟨p, l, e, R, s, m, args, below, meth, c, A, Q⟩ := K
  obtain ⟨⟨hx, hb, hml, hown⟩, hts, hK, hA, hAm, hlks, hR1, hR2⟩ := C
  exact fun H locs ls hP hD hS hl => va_putF (tys := k_tys G) hx hb hts hc.2.1 ty hc.2.2.1 hc.2.2.2 hown hK hP hD hS t he hc.1 j hfl.1 (hts _ hfl.2) (fun _ h9 => h9) hfin hnm hdecl (hc.2.2.1 j hfl.1) hn hfit (Nat.le_of_ble_eq_true hlen) hd (fun H locs hP hD hS => k H locs ls (hw ▸ hP) (hw ▸ hD) hS hl)
theorem j_ge_no (C : Cx G K cc own nL lv) {x y : Int32} {off : Int} {tgt : Nat} (hc : decide (y ≤ x) = false) (hd : decode cc pc = .ok (.if_icmp .ge off, 3)) (ht : (pc : Int) + off = (tgt : Int)) (k : J G K nL (cells) (slots) ws L (pc + 3) (st)) : J G K nL (cells) (slots) ws L (pc) (.int y :: .int x :: st) := by
  obtain ⟨p, l, e, R, s, m, args, below, meth, c, A, Q⟩ := K
  obtain ⟨⟨hx, hb, hml, hown⟩, hts, hK, hA, hAm, hlks, hR1, hR2⟩ := C
  exact fun H locs ls hP hD hS hl => lv_icmp_ge hx hb hd ht (fun h => absurd h (of_decide_eq_false hc)) (fun _ => k H locs ls hP hD hS hl)
theorem j_ge_yes (C : Cx G K cc own nL lv) {x y : Int32} {off : Int} (tgt : Nat) (hc : decide (y ≤ x) = true) (hd : decode cc pc = .ok (.if_icmp .ge off, 3)) (ht : (pc : Int) + off = (tgt : Int)) (k : J G K nL (cells) (slots) ws L (tgt) (st)) : J G K nL (cells) (slots) ws L (pc) (.int y :: .int x :: st) := by
  obtain ⟨p, l, e, R, s, m, args, below, meth, c, A, Q⟩ := K
  obtain ⟨⟨hx, hb, hml, hown⟩, hts, hK, hA, hAm, hlks, hR1, hR2⟩ := C
  exact fun H locs ls hP hD hS hl => lv_icmp_ge hx hb hd ht (fun _ => k H locs ls hP hD hS hl) (fun h => absurd (of_decide_eq_true hc) h)
theorem j_cs {c2 s2 : Nat} (h1 : cells = c2) (h2 : slots = s2) (k : J G K nL (c2) (s2) ws L (pc) (st)) : J G K nL (cells) (slots) ws L (pc) (st) := by subst h1; subst h2; exact k
theorem j_widen {c2 s2 : Nat} (h1 : cells ≤ c2) (h2 : slots ≤ s2) (k : J G K nL (c2) (s2) ws L (pc) (st)) : J G K nL (cells) (slots) ws L (pc) (st) := by
  obtain ⟨p, l, e, R, s, m, args, below, meth, c, A, Q⟩ := K
  exact fun H locs ls hP hD hS hl => W.widen h1 h2 (k H locs ls hP hD hS hl)
theorem j_wsub {ws' : va_W} (is : List Nat) (hs : is.map (fun i => ws[i]?) = ws'.map some) (hn : va_nd is = true) (k : J G K nL (cells) (slots) ws' L (pc) (st)) : J G K nL (cells) (slots) ws L (pc) (st) := by
  obtain ⟨p, l, e, R, s, m, args, below, meth, c, A, Q⟩ := K
  refine fun H locs ls hP hD hS hl => k H locs ls (fun k q hq => ?_) (hD.sub is hn hs) hS hl
  obtain ⟨i, -, h1⟩ := k_at' hs hq
  exact hP i q h1
theorem j_cI (C : Cx G K cc own nL lv) {y : MethodName} {cy : ByteArray} {nLy lvy idx n a mc ms : Nat} {As : List Value} {W0 wr : va_W} {E : State → Prop} {Pst : va_W → Prop} (hlk : Cond.methodLink own idx y ∈ k_U) (hy : (Cond.instanceMethod y ∈ k_U ∧ Cond.initialized y.cls ∈ k_U ∧ Cond.code y cy nLy none ∈ k_U) ∧ (y.cls ≠ "java/lang/invoke/MethodHandle" ∧ y.cls ≠ "java/lang/invoke/VarHandle" ∧ (parseMethodDescriptor y.desc).map (fun d => d.parameters.length) = some n)) (hM : MN G K.2.1 y cy nLy lvy mc ms (.ref a :: As) W0 E Pst) (hE1 : ∀ (U : State) (g : JFrame) (mk : MethodId) (b : Array Value), E U → E (U.calling g mk b)) (hE2 : ∀ U : State, K.2.2.2.2.1.WarmedH U.vm → E U) (hyn : y.name = "<init>") (hnL : nLy ≤ 41) (isC isR : List Nat) (hC : isC.map (fun i => ws[i]?) = W0.map some) (hn : va_nd isC = true) (hR : isR.map (fun i => ws[i]?) = wr.map some) (hnR : va_nd isR = true) (hdis : (isR.all fun i => !isC.contains i) = true) (hlv : Nat.ble (lvy + 1) lv = true) (hAs : As.length = n) (hst : stk = As.reverse ++ .ref a :: st) (hcat : Nat.ble (st.map fun v => v.category).sum 8 = true) (h0 : cells + mc ≤ K.2.2.2.1.cells ∧ slots + ms ≤ K.2.2.2.1.slots) (hd : decode cc pc = .ok (.invokespecial idx, 3)) (k : ∀ W1, Pst W1 → J G K nL (cells + mc) (slots + ms) (wr ++ W1) L (pc + 3) st) : J G K nL cells slots ws L pc stk := by
  obtain ⟨p, l, e, R, s, m, args, below, meth, c, A, Q⟩ := K
  obtain ⟨⟨hx, hb, hml, hown⟩, hts, hK, hA, hAm, hlks, hR1, hR2⟩ := C
  subst hst
  have hroom : 2 * lvy + 1 ≤ R.frames ∧ 8 + (nLy + 11) + 60 * lvy ≤ R.locals := by
    have h1 := Nat.le_of_ble_eq_true hlv
    omega
  intro H locs ls hP hD hS hl
  have hFc := va_free hD hS hA isC hC
  refine va_callv (va_runI (As := As) (rest := st) (free := va_A W0 H.size) ⟨hx, hb, hml, hown, hts⟩ (hM H.size) (cwI n hts (k_gc hy.1.2.2 k_gU) rfl rfl rfl (hts _ hy.1.2.1) (hts _ hlk) (hts _ hy.1.1) hyn hy.2 hroom) ⟨fun b U g mk q => ⟨k_blind b U g mk q.1, hE1 U g mk b q.2⟩, fun U hU hW => ⟨k_pre hK hAm hA hP hD hS hC hn U hU hW, hE2 U hW⟩⟩ rfl hAs hl.1 rfl (lv_room (Nat.le_of_ble_eq_true hcat)) hd ⟨h0.1, h0.2⟩) hS (fun q _ h => hFc q h) hFc (fun W1 t H1 locs1 ht1 hvm hw1 hB hz1 hk1 hS1 => ?_)
  obtain ⟨hP1, hK1, hD1⟩ := hB
  rw [ht1] at hP1
  obtain ⟨hP2, hD2⟩ := va_join hP hD isC isR hC hR hnR (fun i hi hc2 => by
    have := List.all_eq_true.mp hdis i hi
    simp at this
    exact this hc2) hk1 hFc hP1 hD1
  exact k W1 hw1 H1 locs1 ls hP2 hD2 hS1 hl
theorem j_cIN (C : Cx G K cc own nL lv) {y : MethodName} {cy : ByteArray} {nLy lvy idx n a mc ms : Nat} {As : List Value} {W0 wr : va_W} {E : State → Prop} {Pst : va_W → Prop} {host : String} (hlk : Cond.methodLinkNest own idx y host ∈ k_nest) (hy : (Cond.instanceMethod y ∈ k_U ∧ Cond.initialized y.cls ∈ k_U ∧ Cond.code y cy nLy none ∈ k_U) ∧ (y.cls ≠ "java/lang/invoke/MethodHandle" ∧ y.cls ≠ "java/lang/invoke/VarHandle" ∧ (parseMethodDescriptor y.desc).map (fun d => d.parameters.length) = some n)) (hM : MN G K.2.1 y cy nLy lvy mc ms (.ref a :: As) W0 E Pst) (hE1 : ∀ (U : State) (g : JFrame) (mk : MethodId) (b : Array Value), E U → E (U.calling g mk b)) (hE2 : ∀ U : State, K.2.2.2.2.1.WarmedH U.vm → E U) (hyn : y.name = "<init>") (hnL : nLy ≤ 41) (isC isR : List Nat) (hC : isC.map (fun i => ws[i]?) = W0.map some) (hn : va_nd isC = true) (hR : isR.map (fun i => ws[i]?) = wr.map some) (hnR : va_nd isR = true) (hdis : (isR.all fun i => !isC.contains i) = true) (hlv : Nat.ble (lvy + 1) lv = true) (hAs : As.length = n) (hst : stk = As.reverse ++ .ref a :: st) (hcat : Nat.ble (st.map fun v => v.category).sum 8 = true) (h0 : cells + mc ≤ K.2.2.2.1.cells ∧ slots + ms ≤ K.2.2.2.1.slots) (hd : decode cc pc = .ok (.invokespecial idx, 3)) (k : ∀ W1, Pst W1 → J G K nL (cells + mc) (slots + ms) (wr ++ W1) L (pc + 3) st) : J G K nL cells slots ws L pc stk := by
  obtain ⟨p, l, e, R, s, m, args, below, meth, c, A, Q⟩ := K
  obtain ⟨⟨hx, hb, hml, hown⟩, hts, hK, hA, hAm, hlks, hR1, hR2⟩ := C
  subst hst
  have hroom : 2 * lvy + 1 ≤ R.frames ∧ 8 + (nLy + 11) + 60 * lvy ≤ R.locals := by
    have h1 := Nat.le_of_ble_eq_true hlv
    omega
  intro H locs ls hP hD hS hl
  have hFc := va_free hD hS hA isC hC
  refine va_callv (va_runIN (As := As) (rest := st) (free := va_A W0 H.size) ⟨hx, hb, hml, hown, hts⟩ (hM H.size) (⟨va_cnB n hts (k_gc hy.1.2.2 k_gU) rfl rfl rfl (hAm.1 _ hlk) (hts _ hy.1.2.1) hy.2 hroom, hyn, hts _ hy.1.1⟩) ⟨fun b U g mk q => ⟨k_blind b U g mk q.1, hE1 U g mk b q.2⟩, fun U hU hW => ⟨k_pre hK hAm hA hP hD hS hC hn U hU hW, hE2 U hW⟩⟩ rfl hAs hl.1 rfl (lv_room (Nat.le_of_ble_eq_true hcat)) hd ⟨h0.1, h0.2⟩) hS (fun q _ h => hFc q h) hFc (fun W1 t H1 locs1 ht1 hvm hw1 hB hz1 hk1 hS1 => ?_)
  obtain ⟨hP1, hK1, hD1⟩ := hB
  rw [ht1] at hP1
  obtain ⟨hP2, hD2⟩ := va_join hP hD isC isR hC hR hnR (fun i hi hc2 => by
    have := List.all_eq_true.mp hdis i hi
    simp at this
    exact this hc2) hk1 hFc hP1 hD1
  exact k W1 hw1 H1 locs1 ls hP2 hD2 hS1 hl
end CK
def k_l (l : List Nat) : Nat → Nat := fun j => l.getD j 0
