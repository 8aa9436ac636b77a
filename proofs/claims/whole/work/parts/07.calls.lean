-- behind a call: the callee's cells in their places, all others as they were
def k_idx : List Nat → Nat → Option Nat
  | [], _ => none
  | i :: is, k => if i = k then some 0 else (k_idx is k).map (fun j => j + 1)
def k_ks (isC : List Nat) (n : Nat) : List (Option Nat) := (List.range n).map (k_idx isC)
def k_mix : List (Option Nat) → va_W → va_W → va_W
  | none :: ks, W1, w :: ws => w :: k_mix ks W1 ws
  | some j :: ks, W1, w :: ws => W1.getD j w :: k_mix ks W1 ws
  | _, _, _ => []
theorem k_idx_some : ∀ (isC : List Nat) (k j : Nat), k_idx isC k = some j → isC[j]? = some k
  | [], k, j, h => by cases h
  | i :: is, k, j, h => by
    unfold k_idx at h
    split at h
    · rename_i e
      cases h
      rw [List.getElem?_cons_zero, e]
    · cases hk : k_idx is k with
      | none => rw [hk] at h; cases h
      | some j2 =>
        rw [hk] at h
        cases h
        rw [List.getElem?_cons_succ]
        exact k_idx_some is k j2 hk
theorem k_idx_none : ∀ (isC : List Nat) (k : Nat), k_idx isC k = none → k ∉ isC
  | [], k, h => List.not_mem_nil
  | i :: is, k, h => by
    unfold k_idx at h
    split at h
    · cases h
    · rename_i e
      cases hk : k_idx is k with
      | none =>
        intro hm
        rcases List.mem_cons.mp hm with z | z
        · exact e z.symm
        · exact k_idx_none is k hk z
      | some j2 => rw [hk] at h; cases h
theorem k_mix_get : ∀ (ks : List (Option Nat)) (W1 ws : va_W) (k : Nat) (q : Nat × va_E), (k_mix ks W1 ws)[k]? = some q → (∃ j w, ks[k]? = some (some j) ∧ ws[k]? = some w ∧ q = W1.getD j w) ∨ (ks[k]? = some none ∧ ws[k]? = some q)
  | none :: ks, W1, w :: ws, 0, q, h => Or.inr ⟨rfl, h⟩
  | some j :: ks, W1, w :: ws, 0, q, h => Or.inl ⟨j, w, rfl, rfl, (Option.some.inj h).symm⟩
  | none :: ks, W1, w :: ws, k + 1, q, h => k_mix_get ks W1 ws k q h
  | some j :: ks, W1, w :: ws, k + 1, q, h => k_mix_get ks W1 ws k q h
  | [], W1, ws, k, q, h => by cases h
  | none :: ks, W1, [], k, q, h => by cases h
  | some j :: ks, W1, [], k, q, h => by cases h
theorem k_at {ws W0 : va_W} {isC : List Nat} (hC : isC.map (fun i => ws[i]?) = W0.map some) {j k : Nat} (h : isC[j]? = some k) : ∃ q0, ws[k]? = some q0 ∧ W0[j]? = some q0 := by
  have h1 : (isC.map (fun i => ws[i]?))[j]? = some (ws[k]?) := by rw [List.getElem?_map, h]; rfl
  rw [hC, List.getElem?_map] at h1
  cases hw : W0[j]? with
  | none => rw [hw] at h1; cases h1
  | some q0 =>
    rw [hw] at h1
    exact ⟨q0, (Option.some.inj h1).symm, rfl⟩
theorem k_at' {ws W0 : va_W} {isC : List Nat} (hC : isC.map (fun i => ws[i]?) = W0.map some) {j : Nat} {q0 : Nat × va_E} (h : W0[j]? = some q0) : ∃ k, isC[j]? = some k ∧ ws[k]? = some q0 := by
  have h1 : (isC.map (fun i => ws[i]?))[j]? = some (some q0) := by rw [hC, List.getElem?_map, h]; rfl
  rw [List.getElem?_map] at h1
  cases hi : isC[j]? with
  | none => rw [hi] at h1; cases h1
  | some k => rw [hi] at h1; exact ⟨k, rfl, Option.some.inj h1⟩
theorem k_adr {W0 W1 : va_W} (hA : W1.map Prod.fst = W0.map Prod.fst) {j : Nat} {q : Nat × va_E} (h : W1[j]? = some q) : ∃ q0, W0[j]? = some q0 ∧ q0.1 = q.1 := by
  have h1 : (W0.map Prod.fst)[j]? = some q.1 := by rw [← hA, List.getElem?_map, h]; rfl
  rw [List.getElem?_map] at h1
  cases hw : W0[j]? with
  | none => rw [hw] at h1; cases h1
  | some q0 => rw [hw] at h1; exact ⟨q0, rfl, Option.some.inj h1⟩
theorem k_frame {A0 : Nat → Prop} {D : va_G} {cl : List vw_C} {ws W0 W1 : va_W} {H H1 : Heap} {isC : List Nat} {ks : List (Option Nat)} {nw : Nat} (hP : va_P D cl ws H) (hD : va_D A0 ws) (hC : isC.map (fun i => ws[i]?) = W0.map some) (hks : k_ks isC nw = ks) (hk : ∀ q : Nat, q < H.size → ¬ va_A W0 H.size q → H1[q]? = H[q]?) (hP1 : va_P D cl W1 H1) (hA : W1.map Prod.fst = W0.map Prod.fst) :
    va_P D cl (k_mix ks W1 ws) H1 ∧ va_D A0 (k_mix ks W1 ws) := by
  have hlen : isC.length = W1.length := by
    have a := congrArg List.length hC
    have b := congrArg List.length hA
    rw [List.length_map, List.length_map] at a b
    omega
  have kz : ∀ k z, ks[k]? = some z → k_idx isC k = z := by
    intro k z h
    rw [← hks, k_ks, List.getElem?_map] at h
    cases hr : (List.range nw)[k]? with
    | none => rw [hr] at h; cases h
    | some k2 =>
      rw [hr] at h
      have e : k2 = k := by
        have := List.getElem?_eq_some_iff.mp hr
        obtain ⟨h1, h2⟩ := this
        rw [List.getElem_range] at h2
        exact h2.symm
      rw [e] at h
      exact Option.some.inj h
  have g : ∀ (k : Nat) (q : Nat × va_E), (k_mix ks W1 ws)[k]? = some q → (∃ j : Nat, isC[j]? = some k ∧ W1[j]? = some q) ∨ (k ∉ isC ∧ ws[k]? = some q) := by
    intro k q h
    rcases k_mix_get ks W1 ws k q h with ⟨j, w, h1, h2, h3⟩ | ⟨h1, h2⟩
    · have h4 := k_idx_some isC k j (kz k _ h1)
      refine Or.inl ⟨j, h4, ?_⟩
      have hj : j < W1.length := by rw [← hlen]; exact (List.getElem?_eq_some_iff.mp h4).1
      rw [h3, List.getD_eq_getElem?_getD, List.getElem?_eq_getElem hj]
      rfl
    · exact Or.inr ⟨k_idx_none isC k (kz k _ h1), h2⟩
  have key : ∀ (k : Nat) (q : Nat × va_E), (k_mix ks W1 ws)[k]? = some q → ∃ q0, ws[k]? = some q0 ∧ q0.1 = q.1 := by
    intro k q hq
    rcases g k q hq with ⟨j, h1, h2⟩ | ⟨h1, h2⟩
    · obtain ⟨q0, h3, h4⟩ := k_adr hA h2
      obtain ⟨q1, h5, h6⟩ := k_at hC h1
      cases h3.symm.trans h6
      exact ⟨_, h5, h4⟩
    · exact ⟨q, h2, rfl⟩
  refine ⟨fun k q hq => ?_, fun i j x y hx hy hxy => ?_, fun k q hq => ?_⟩
  · rcases g k q hq with ⟨j, h1, h2⟩ | ⟨h1, h3⟩
    · exact hP1 j q h2
    · have h4 := hP k q h3
      refine h4.kept (hk q.1 h4.lt (fun z => ?_))
      rcases z with ⟨j, e, h5⟩ | h5
      · obtain ⟨k2, h6, h7⟩ := k_at' hC h5
        have h8 := hD.1 k k2 q (q.1, e) h3 h7 rfl
        subst h8
        exact h1 (List.mem_of_getElem? h6)
      · exact absurd h4.lt (Nat.not_lt.mpr h5)
  · obtain ⟨x0, h1, h2⟩ := key i x hx
    obtain ⟨y0, h3, h4⟩ := key j y hy
    exact hD.1 i j x0 y0 h1 h3 (by rw [h2, h4]; exact hxy)
  · obtain ⟨q0, h1, h2⟩ := key k q hq
    rw [← h2]
    exact hD.2 k q0 h1
-- contracts: of a method that answers an int (MI), a long (ML), nothing (MV)
def k_Pc (G : Gx) (av : List Value) (W0 : va_W) (sz : Nat) : Array Value → State → Prop := va_Pc av (fun S => S.heap.size = sz ∧ va_P G.1 vwCl W0 S.heap ∧ va_K G.1 vwCl (k_tys G) S ∧ va_D (fun _ => True) W0 ∧ Amb G (va_A W0 sz) S S.heap)
def k_B (G : Gx) (W0 W1 : va_W) (sz : Nat) : Unit → State → Prop := fun _ t => va_P G.1 vwCl W1 t.heap ∧ va_K G.1 vwCl (k_tys G) t ∧ va_D (va_A W0 sz) W1
def MI (G : Gx) (l : Launch) (y : MethodName) (cy : ByteArray) (nL : Nat) (rt : FieldType) (lv : Nat) (av : List Value) (W0 W1 : va_W) (r : Int32) : Prop := ∀ sz, Met l y (Cond.code y cy nL (some rt) :: k_U) (k_rm lv) (k_Pc G av W0 sz) (va_Qi (fun r' (_ : Unit) => r' = r) (k_B G W0 W1 sz) (va_A W0 sz)) 0 0 (va_A W0 sz)
def ML (G : Gx) (l : Launch) (y : MethodName) (cy : ByteArray) (nL : Nat) (rt : FieldType) (lv : Nat) (av : List Value) (W0 W1 : va_W) (r : Int64) : Prop := ∀ sz, Met l y (Cond.code y cy nL (some rt) :: k_U) (k_rm lv) (k_Pc G av W0 sz) (va_Ql (fun r' (_ : Unit) => r' = r) (k_B G W0 W1 sz) (va_A W0 sz)) 0 0 (va_A W0 sz)
def MV (G : Gx) (l : Launch) (y : MethodName) (cy : ByteArray) (nL : Nat) (lv : Nat) (av : List Value) (W0 W1 : va_W) : Prop := ∀ sz, Met l y (Cond.code y cy nL none :: k_U) (k_rm lv) (k_Pc G av W0 sz) (va_Qv (fun (_ : Unit) => True) (k_B G W0 W1 sz) (va_A W0 sz)) 0 0 (va_A W0 sz)
theorem k_blind {G : Gx} {av : List Value} {W0 : va_W} {sz : Nat} : FrameBlind (k_Pc G av W0 sz) := fun a U g mk q => by
  obtain ⟨h0, h1, h2, h3, h4, h5⟩ := q
  exact ⟨h0, h1, h2, va_K.moved (u := U) (U := U.calling g mk a) (Vm.Alike.refl U.vm) h3, h4, h5.same (s := U) (U := U.calling g mk a) rfl⟩
theorem k_pre {G : Gx} {av : List Value} {ws W0 : va_W} {A : Nat → Prop} {s : State} {H : Heap} {locs : List Loc} {isC : List Nat} (hK : va_K G.1 vwCl (k_tys G) s) (hAm : Amb G A s s.heap) (hA : ∀ q, s.heap.size ≤ q → A q) (hP : va_P G.1 vwCl ws H) (hD : va_D A ws) (hS : va_S A s.heap H locs) (hC : isC.map (fun i => ws[i]?) = W0.map some) (hn : va_nd isC = true) :
    ∀ U : State, U.heap = H → s.WarmedH U.vm → k_Pc G av W0 H.size av.toArray U := by
  intro U hU hW
  refine ⟨rfl, by rw [hU], ?_, hK.moved hW.alike, (hD.sub isC hn hC).weaken (fun _ _ _ _ => trivial), ?_⟩
  · rw [hU]
    intro k q hq
    obtain ⟨i, -, h1⟩ := k_at' hC hq
    exact hP i q h1
  · rw [hU]
    exact ((hAm.warm hW).kept (fun a h1 h2 => hS.2.1 a h1 h2)).narrow (va_free hD hS hA isC hC)
def k_mv (y : MethodName) (cy : ByteArray) (nL : Nat) (ret : Option FieldType) (n : Nat) : Prop := (Cond.instanceMethod y ∈ k_U ∧ Cond.selects y.cls y y ∈ k_U ∧ Cond.initialized y.cls ∈ k_U ∧ Cond.code y cy nL ret ∈ k_U) ∧ (y.cls ≠ "java/lang/invoke/MethodHandle" ∧ y.cls ≠ "java/lang/invoke/VarHandle" ∧ (parseMethodDescriptor y.desc).map (fun d => d.parameters.length) = some n) ∧ nL ≤ 41
def k_ms (y : MethodName) (cy : ByteArray) (nL : Nat) (ret : Option FieldType) (n : Nat) : Prop := (Cond.static y ∈ k_U ∧ Cond.initialized y.cls ∈ k_U ∧ Cond.code y cy nL ret ∈ k_U) ∧ (y.cls ≠ "java/lang/invoke/MethodHandle" ∧ y.cls ≠ "java/lang/invoke/VarHandle" ∧ (parseMethodDescriptor y.desc).map (fun d => d.parameters.length) = some n) ∧ nL ≤ 41
theorem k_gU : GoodIn k_U k_U := fun _ h => ⟨h, good_of_word (k_U_good h)⟩
theorem k_gc {w : Cond} {ws : List Cond} (h : w ∈ k_U) (hg : GoodIn k_U ws) : GoodIn k_U (w :: ws) := fun v hv => by
  rcases List.mem_cons.mp hv with e | e
  · subst e
    exact ⟨h, good_of_word (k_U_good h)⟩
  · exact hg v e
section CR
variable {G : Gx} {K : Kx} {cc : ByteArray} {own : String} {nL lv cells slots : Nat} {ws : va_W} {L : List (Nat × Value)} {pc : Nat} {st stk : List Value}
theorem j_cVI (C : Cx G K cc own nL lv) {α β : Type} {X : Option α} {F : α → Option β} {q : β} {y : MethodName} {cy : ByteArray} {nLy lvy idx n a : Nat} {rv : α → Int32} {rt : FieldType} {As : List Value} {W0 : va_W} {W1 : α → va_W} {ws' : α → va_W} (hlk : Cond.methodLink own idx y ∈ k_U) (hy : k_mv y cy nLy (some rt) n) (hf : X.bind F = some q) (hM : ∀ r, X = some r → MI G K.2.1 y cy nLy rt lvy (.ref a :: As) W0 (W1 r) (rv r)) (isC : List Nat) (ks : List (Option Nat)) (nw : Nat) (hC : isC.map (fun i => ws[i]?) = W0.map some) (hn : va_nd isC = true) (hks : k_ks isC nw = ks) (hAd : ∀ r, (W1 r).map Prod.fst = W0.map Prod.fst) (hw : ∀ r, k_mix ks (W1 r) ws = ws' r) (hlv : Nat.ble (lvy + 1) lv = true) (hAs : As.length = n) (hst : stk = As.reverse ++ .ref a :: st) (hcat : Nat.ble (st.map fun v => v.category).sum 8 = true) (h0 : cells ≤ K.2.2.2.1.cells ∧ slots ≤ K.2.2.2.1.slots) (hd : decode cc pc = .ok (.invokevirtual idx, 3)) {ci N : Nat} {T : u_T} {ty : Nat → FieldType} {fs : List Value} (hc : k_cls ci y.cls T N ty) (t : Nat) (ht : ws[t]? = some (a, .inr (ci, fs))) (k : ∀ r, F r = some q → J G K nL cells slots (ws' r) L (pc + 3) (.int (rv r) :: st)) : J G K nL cells slots ws L pc stk := by
  obtain ⟨p, l, e, R, s, m, args, below, meth, c, A, Q⟩ := K
  obtain ⟨⟨hx, hb, hml, hown⟩, hts, hK, hA, hAm, hlks, hR1, hR2⟩ := C
  subst hst
  obtain ⟨r, hX, hF⟩ := k_bind hf
  have hroom : (k_rm lvy).frames + 1 ≤ R.frames ∧ 8 + (nLy + 11) + (k_rm lvy).locals ≤ R.locals := by
    have h1 := Nat.le_of_ble_eq_true hlv
    have h2 := hy.2.2
    simp only [k_rm]
    omega
  intro H locs ls hP hD hS hl
  have hFc := va_free hD hS hA isC hC
  refine va_calli (va_runV (As := As) (rest := st) (free := va_A W0 H.size) ⟨hx, hb, hml, hown, hts⟩ (hM r hX H.size) (cwV n hts (k_gc hlk (k_gc hy.1.1 (k_gc hy.1.2.1 (k_gc hy.1.2.2.1 (k_gc hy.1.2.2.2 k_gU))))) rfl rfl rfl ⟨rfl, hy.2.1⟩ hroom) ⟨k_blind, va_recv hK hP hc.1 ht, k_pre hK hAm hA hP hD hS hC hn⟩ rfl hAs hl.1 rfl (lv_room (Nat.le_of_ble_eq_true hcat)) hd ⟨h0.1, h0.2⟩) hS (fun q _ h => hFc q h) hFc (fun r0 u t H1 locs1 ht1 hvm hw1 hB hz1 hk1 hS1 => ?_)
  obtain ⟨hP1, hK1, hD1⟩ := hB
  rw [ht1] at hP1
  obtain ⟨hP2, hD2⟩ := k_frame hP hD hC hks hk1 hP1 (hAd r)
  rw [hw r] at hP2 hD2
  subst hw1
  exact k r hF H1 locs1 ls hP2 hD2 hS1 hl
theorem j_cVL (C : Cx G K cc own nL lv) {α β : Type} {X : Option α} {F : α → Option β} {q : β} {y : MethodName} {cy : ByteArray} {nLy lvy idx n a : Nat} {rv : α → Int64} {rt : FieldType} {As : List Value} {W0 : va_W} {W1 : α → va_W} {ws' : α → va_W} (hlk : Cond.methodLink own idx y ∈ k_U) (hy : k_mv y cy nLy (some rt) n) (hf : X.bind F = some q) (hM : ∀ r, X = some r → ML G K.2.1 y cy nLy rt lvy (.ref a :: As) W0 (W1 r) (rv r)) (isC : List Nat) (ks : List (Option Nat)) (nw : Nat) (hC : isC.map (fun i => ws[i]?) = W0.map some) (hn : va_nd isC = true) (hks : k_ks isC nw = ks) (hAd : ∀ r, (W1 r).map Prod.fst = W0.map Prod.fst) (hw : ∀ r, k_mix ks (W1 r) ws = ws' r) (hlv : Nat.ble (lvy + 1) lv = true) (hAs : As.length = n) (hst : stk = As.reverse ++ .ref a :: st) (hcat : Nat.ble (st.map fun v => v.category).sum 8 = true) (h0 : cells ≤ K.2.2.2.1.cells ∧ slots ≤ K.2.2.2.1.slots) (hd : decode cc pc = .ok (.invokevirtual idx, 3)) {ci N : Nat} {T : u_T} {ty : Nat → FieldType} {fs : List Value} (hc : k_cls ci y.cls T N ty) (t : Nat) (ht : ws[t]? = some (a, .inr (ci, fs))) (k : ∀ r, F r = some q → J G K nL cells slots (ws' r) L (pc + 3) (.long (rv r) :: st)) : J G K nL cells slots ws L pc stk := by
  obtain ⟨p, l, e, R, s, m, args, below, meth, c, A, Q⟩ := K
  obtain ⟨⟨hx, hb, hml, hown⟩, hts, hK, hA, hAm, hlks, hR1, hR2⟩ := C
  subst hst
  obtain ⟨r, hX, hF⟩ := k_bind hf
  have hroom : (k_rm lvy).frames + 1 ≤ R.frames ∧ 8 + (nLy + 11) + (k_rm lvy).locals ≤ R.locals := by
    have h1 := Nat.le_of_ble_eq_true hlv
    have h2 := hy.2.2
    simp only [k_rm]
    omega
  intro H locs ls hP hD hS hl
  have hFc := va_free hD hS hA isC hC
  refine va_calll (va_runV (As := As) (rest := st) (free := va_A W0 H.size) ⟨hx, hb, hml, hown, hts⟩ (hM r hX H.size) (cwV n hts (k_gc hlk (k_gc hy.1.1 (k_gc hy.1.2.1 (k_gc hy.1.2.2.1 (k_gc hy.1.2.2.2 k_gU))))) rfl rfl rfl ⟨rfl, hy.2.1⟩ hroom) ⟨k_blind, va_recv hK hP hc.1 ht, k_pre hK hAm hA hP hD hS hC hn⟩ rfl hAs hl.1 rfl (lv_room (Nat.le_of_ble_eq_true hcat)) hd ⟨h0.1, h0.2⟩) hS (fun q _ h => hFc q h) hFc (fun r0 u t H1 locs1 ht1 hvm hw1 hB hz1 hk1 hS1 => ?_)
  obtain ⟨hP1, hK1, hD1⟩ := hB
  rw [ht1] at hP1
  obtain ⟨hP2, hD2⟩ := k_frame hP hD hC hks hk1 hP1 (hAd r)
  rw [hw r] at hP2 hD2
  subst hw1
  exact k r hF H1 locs1 ls hP2 hD2 hS1 hl
theorem j_cVZ (C : Cx G K cc own nL lv) {α β : Type} {X : Option α} {F : α → Option β} {q : β} {y : MethodName} {cy : ByteArray} {nLy lvy idx n a : Nat} {As : List Value} {W0 : va_W} {W1 : α → va_W} {ws' : α → va_W} (hlk : Cond.methodLink own idx y ∈ k_U) (hy : k_mv y cy nLy none n) (hf : X.bind F = some q) (hM : ∀ r, X = some r → MV G K.2.1 y cy nLy lvy (.ref a :: As) W0 (W1 r) ) (isC : List Nat) (ks : List (Option Nat)) (nw : Nat) (hC : isC.map (fun i => ws[i]?) = W0.map some) (hn : va_nd isC = true) (hks : k_ks isC nw = ks) (hAd : ∀ r, (W1 r).map Prod.fst = W0.map Prod.fst) (hw : ∀ r, k_mix ks (W1 r) ws = ws' r) (hlv : Nat.ble (lvy + 1) lv = true) (hAs : As.length = n) (hst : stk = As.reverse ++ .ref a :: st) (hcat : Nat.ble (st.map fun v => v.category).sum 8 = true) (h0 : cells ≤ K.2.2.2.1.cells ∧ slots ≤ K.2.2.2.1.slots) (hd : decode cc pc = .ok (.invokevirtual idx, 3)) {ci N : Nat} {T : u_T} {ty : Nat → FieldType} {fs : List Value} (hc : k_cls ci y.cls T N ty) (t : Nat) (ht : ws[t]? = some (a, .inr (ci, fs))) (k : ∀ r, F r = some q → J G K nL cells slots (ws' r) L (pc + 3) (st)) : J G K nL cells slots ws L pc stk := by
  obtain ⟨p, l, e, R, s, m, args, below, meth, c, A, Q⟩ := K
  obtain ⟨⟨hx, hb, hml, hown⟩, hts, hK, hA, hAm, hlks, hR1, hR2⟩ := C
  subst hst
  obtain ⟨r, hX, hF⟩ := k_bind hf
  have hroom : (k_rm lvy).frames + 1 ≤ R.frames ∧ 8 + (nLy + 11) + (k_rm lvy).locals ≤ R.locals := by
    have h1 := Nat.le_of_ble_eq_true hlv
    have h2 := hy.2.2
    simp only [k_rm]
    omega
  intro H locs ls hP hD hS hl
  have hFc := va_free hD hS hA isC hC
  refine va_callv (va_runV (As := As) (rest := st) (free := va_A W0 H.size) ⟨hx, hb, hml, hown, hts⟩ (hM r hX H.size) (cwV n hts (k_gc hlk (k_gc hy.1.1 (k_gc hy.1.2.1 (k_gc hy.1.2.2.1 (k_gc hy.1.2.2.2 k_gU))))) rfl rfl rfl ⟨rfl, hy.2.1⟩ hroom) ⟨k_blind, va_recv hK hP hc.1 ht, k_pre hK hAm hA hP hD hS hC hn⟩ rfl hAs hl.1 rfl (lv_room (Nat.le_of_ble_eq_true hcat)) hd ⟨h0.1, h0.2⟩) hS (fun q _ h => hFc q h) hFc (fun u t H1 locs1 ht1 hvm hw1 hB hz1 hk1 hS1 => ?_)
  obtain ⟨hP1, hK1, hD1⟩ := hB
  rw [ht1] at hP1
  obtain ⟨hP2, hD2⟩ := k_frame hP hD hC hks hk1 hP1 (hAd r)
  rw [hw r] at hP2 hD2
  
  exact k r hF H1 locs1 ls hP2 hD2 hS1 hl
theorem j_cSI (C : Cx G K cc own nL lv) {α β : Type} {X : Option α} {F : α → Option β} {q : β} {y : MethodName} {cy : ByteArray} {nLy lvy idx n : Nat} {rv : α → Int32} {rt : FieldType} {As : List Value} {W0 : va_W} {W1 : α → va_W} {ws' : α → va_W} (hlk : Cond.methodLink own idx y ∈ k_U) (hy : k_ms y cy nLy (some rt) n) (hf : X.bind F = some q) (hM : ∀ r, X = some r → MI G K.2.1 y cy nLy rt lvy As W0 (W1 r) (rv r)) (isC : List Nat) (ks : List (Option Nat)) (nw : Nat) (hC : isC.map (fun i => ws[i]?) = W0.map some) (hn : va_nd isC = true) (hks : k_ks isC nw = ks) (hAd : ∀ r, (W1 r).map Prod.fst = W0.map Prod.fst) (hw : ∀ r, k_mix ks (W1 r) ws = ws' r) (hlv : Nat.ble (lvy + 1) lv = true) (hAs : As.length = n) (hst : stk = As.reverse ++ st) (hcat : Nat.ble (st.map fun v => v.category).sum 8 = true) (h0 : cells ≤ K.2.2.2.1.cells ∧ slots ≤ K.2.2.2.1.slots) (hd : decode cc pc = .ok (.invokestatic idx, 3)) (k : ∀ r, F r = some q → J G K nL cells slots (ws' r) L (pc + 3) (.int (rv r) :: st)) : J G K nL cells slots ws L pc stk := by
  obtain ⟨p, l, e, R, s, m, args, below, meth, c, A, Q⟩ := K
  obtain ⟨⟨hx, hb, hml, hown⟩, hts, hK, hA, hAm, hlks, hR1, hR2⟩ := C
  subst hst
  obtain ⟨r, hX, hF⟩ := k_bind hf
  have hroom : (k_rm lvy).frames + 1 ≤ R.frames ∧ 8 + (nLy + 11) + (k_rm lvy).locals ≤ R.locals := by
    have h1 := Nat.le_of_ble_eq_true hlv
    have h2 := hy.2.2
    simp only [k_rm]
    omega
  intro H locs ls hP hD hS hl
  have hFc := va_free hD hS hA isC hC
  refine va_calli (va_runS (As := As) (rest := st) (free := va_A W0 H.size) ⟨hx, hb, hml, hown, hts⟩ (hM r hX H.size) (va_cwS n hts (k_gc hlk (k_gc hy.1.1 (k_gc hy.1.2.1 (k_gc hy.1.2.2 k_gU)))) rfl rfl rfl hy.2.1 hroom) ⟨k_blind, k_pre hK hAm hA hP hD hS hC hn⟩ rfl hAs hl.1 rfl (lv_room (Nat.le_of_ble_eq_true hcat)) hd ⟨h0.1, h0.2⟩) hS (fun q _ h => hFc q h) hFc (fun r0 u t H1 locs1 ht1 hvm hw1 hB hz1 hk1 hS1 => ?_)
  obtain ⟨hP1, hK1, hD1⟩ := hB
  rw [ht1] at hP1
  obtain ⟨hP2, hD2⟩ := k_frame hP hD hC hks hk1 hP1 (hAd r)
  rw [hw r] at hP2 hD2
  subst hw1
  exact k r hF H1 locs1 ls hP2 hD2 hS1 hl
theorem j_cSL (C : Cx G K cc own nL lv) {α β : Type} {X : Option α} {F : α → Option β} {q : β} {y : MethodName} {cy : ByteArray} {nLy lvy idx n : Nat} {rv : α → Int64} {rt : FieldType} {As : List Value} {W0 : va_W} {W1 : α → va_W} {ws' : α → va_W} (hlk : Cond.methodLink own idx y ∈ k_U) (hy : k_ms y cy nLy (some rt) n) (hf : X.bind F = some q) (hM : ∀ r, X = some r → ML G K.2.1 y cy nLy rt lvy As W0 (W1 r) (rv r)) (isC : List Nat) (ks : List (Option Nat)) (nw : Nat) (hC : isC.map (fun i => ws[i]?) = W0.map some) (hn : va_nd isC = true) (hks : k_ks isC nw = ks) (hAd : ∀ r, (W1 r).map Prod.fst = W0.map Prod.fst) (hw : ∀ r, k_mix ks (W1 r) ws = ws' r) (hlv : Nat.ble (lvy + 1) lv = true) (hAs : As.length = n) (hst : stk = As.reverse ++ st) (hcat : Nat.ble (st.map fun v => v.category).sum 8 = true) (h0 : cells ≤ K.2.2.2.1.cells ∧ slots ≤ K.2.2.2.1.slots) (hd : decode cc pc = .ok (.invokestatic idx, 3)) (k : ∀ r, F r = some q → J G K nL cells slots (ws' r) L (pc + 3) (.long (rv r) :: st)) : J G K nL cells slots ws L pc stk := by
  obtain ⟨p, l, e, R, s, m, args, below, meth, c, A, Q⟩ := K
  obtain ⟨⟨hx, hb, hml, hown⟩, hts, hK, hA, hAm, hlks, hR1, hR2⟩ := C
  subst hst
  obtain ⟨r, hX, hF⟩ := k_bind hf
  have hroom : (k_rm lvy).frames + 1 ≤ R.frames ∧ 8 + (nLy + 11) + (k_rm lvy).locals ≤ R.locals := by
    have h1 := Nat.le_of_ble_eq_true hlv
    have h2 := hy.2.2
    simp only [k_rm]
    omega
  intro H locs ls hP hD hS hl
  have hFc := va_free hD hS hA isC hC
  refine va_calll (va_runS (As := As) (rest := st) (free := va_A W0 H.size) ⟨hx, hb, hml, hown, hts⟩ (hM r hX H.size) (va_cwS n hts (k_gc hlk (k_gc hy.1.1 (k_gc hy.1.2.1 (k_gc hy.1.2.2 k_gU)))) rfl rfl rfl hy.2.1 hroom) ⟨k_blind, k_pre hK hAm hA hP hD hS hC hn⟩ rfl hAs hl.1 rfl (lv_room (Nat.le_of_ble_eq_true hcat)) hd ⟨h0.1, h0.2⟩) hS (fun q _ h => hFc q h) hFc (fun r0 u t H1 locs1 ht1 hvm hw1 hB hz1 hk1 hS1 => ?_)
  obtain ⟨hP1, hK1, hD1⟩ := hB
  rw [ht1] at hP1
  obtain ⟨hP2, hD2⟩ := k_frame hP hD hC hks hk1 hP1 (hAd r)
  rw [hw r] at hP2 hD2
  subst hw1
  exact k r hF H1 locs1 ls hP2 hD2 hS1 hl
theorem j_cSZ (C : Cx G K cc own nL lv) {α β : Type} {X : Option α} {F : α → Option β} {q : β} {y : MethodName} {cy : ByteArray} {nLy lvy idx n : Nat} {As : List Value} {W0 : va_W} {W1 : α → va_W} {ws' : α → va_W} (hlk : Cond.methodLink own idx y ∈ k_U) (hy : k_ms y cy nLy none n) (hf : X.bind F = some q) (hM : ∀ r, X = some r → MV G K.2.1 y cy nLy lvy As W0 (W1 r) ) (isC : List Nat) (ks : List (Option Nat)) (nw : Nat) (hC : isC.map (fun i => ws[i]?) = W0.map some) (hn : va_nd isC = true) (hks : k_ks isC nw = ks) (hAd : ∀ r, (W1 r).map Prod.fst = W0.map Prod.fst) (hw : ∀ r, k_mix ks (W1 r) ws = ws' r) (hlv : Nat.ble (lvy + 1) lv = true) (hAs : As.length = n) (hst : stk = As.reverse ++ st) (hcat : Nat.ble (st.map fun v => v.category).sum 8 = true) (h0 : cells ≤ K.2.2.2.1.cells ∧ slots ≤ K.2.2.2.1.slots) (hd : decode cc pc = .ok (.invokestatic idx, 3)) (k : ∀ r, F r = some q → J G K nL cells slots (ws' r) L (pc + 3) (st)) : J G K nL cells slots ws L pc stk := by
  obtain ⟨p, l, e, R, s, m, args, below, meth, c, A, Q⟩ := K
  obtain ⟨⟨hx, hb, hml, hown⟩, hts, hK, hA, hAm, hlks, hR1, hR2⟩ := C
  subst hst
  obtain ⟨r, hX, hF⟩ := k_bind hf
  have hroom : (k_rm lvy).frames + 1 ≤ R.frames ∧ 8 + (nLy + 11) + (k_rm lvy).locals ≤ R.locals := by
    have h1 := Nat.le_of_ble_eq_true hlv
    have h2 := hy.2.2
    simp only [k_rm]
    omega
  intro H locs ls hP hD hS hl
  have hFc := va_free hD hS hA isC hC
  refine va_callv (va_runS (As := As) (rest := st) (free := va_A W0 H.size) ⟨hx, hb, hml, hown, hts⟩ (hM r hX H.size) (va_cwS n hts (k_gc hlk (k_gc hy.1.1 (k_gc hy.1.2.1 (k_gc hy.1.2.2 k_gU)))) rfl rfl rfl hy.2.1 hroom) ⟨k_blind, k_pre hK hAm hA hP hD hS hC hn⟩ rfl hAs hl.1 rfl (lv_room (Nat.le_of_ble_eq_true hcat)) hd ⟨h0.1, h0.2⟩) hS (fun q _ h => hFc q h) hFc (fun u t H1 locs1 ht1 hvm hw1 hB hz1 hk1 hS1 => ?_)
  obtain ⟨hP1, hK1, hD1⟩ := hB
  rw [ht1] at hP1
  obtain ⟨hP2, hD2⟩ := k_frame hP hD hC hks hk1 hP1 (hAd r)
  rw [hw r] at hP2 hD2
  
  exact k r hF H1 locs1 ls hP2 hD2 hS1 hl
theorem j_cVNI (C : Cx G K cc own nL lv) {α β : Type} {X : Option α} {F : α → Option β} {q : β} {y : MethodName} {cy : ByteArray} {nLy lvy idx n a : Nat} {rv : α → Int32} {rt : FieldType} {As : List Value} {W0 : va_W} {W1 : α → va_W} {ws' : α → va_W} {host : String} (hlk : Cond.methodLinkNest own idx y host ∈ k_nest) (hy : k_mv y cy nLy (some rt) n) (hf : X.bind F = some q) (hM : ∀ r, X = some r → MI G K.2.1 y cy nLy rt lvy (.ref a :: As) W0 (W1 r) (rv r)) (isC : List Nat) (ks : List (Option Nat)) (nw : Nat) (hC : isC.map (fun i => ws[i]?) = W0.map some) (hn : va_nd isC = true) (hks : k_ks isC nw = ks) (hAd : ∀ r, (W1 r).map Prod.fst = W0.map Prod.fst) (hw : ∀ r, k_mix ks (W1 r) ws = ws' r) (hlv : Nat.ble (lvy + 1) lv = true) (hAs : As.length = n) (hst : stk = As.reverse ++ .ref a :: st) (hcat : Nat.ble (st.map fun v => v.category).sum 8 = true) (h0 : cells ≤ K.2.2.2.1.cells ∧ slots ≤ K.2.2.2.1.slots) (hd : decode cc pc = .ok (.invokevirtual idx, 3)) {ci N : Nat} {T : u_T} {ty : Nat → FieldType} {fs : List Value} (hc : k_cls ci y.cls T N ty) (t : Nat) (ht : ws[t]? = some (a, .inr (ci, fs))) (k : ∀ r, F r = some q → J G K nL cells slots (ws' r) L (pc + 3) (.int (rv r) :: st)) : J G K nL cells slots ws L pc stk := by
  obtain ⟨p, l, e, R, s, m, args, below, meth, c, A, Q⟩ := K
  obtain ⟨⟨hx, hb, hml, hown⟩, hts, hK, hA, hAm, hlks, hR1, hR2⟩ := C
  subst hst
  obtain ⟨r, hX, hF⟩ := k_bind hf
  have hroom : (k_rm lvy).frames + 1 ≤ R.frames ∧ 8 + (nLy + 11) + (k_rm lvy).locals ≤ R.locals := by
    have h1 := Nat.le_of_ble_eq_true hlv
    have h2 := hy.2.2
    simp only [k_rm]
    omega
  intro H locs ls hP hD hS hl
  have hFc := va_free hD hS hA isC hC
  refine va_calli (va_runVN (As := As) (rest := st) (free := va_A W0 H.size) ⟨hx, hb, hml, hown, hts⟩ (hM r hX H.size) (⟨va_cnB n hts (k_gc hy.1.2.2.2 k_gU) rfl rfl rfl (hAm.1 _ hlk) (hts _ hy.1.2.2.1) hy.2.1 hroom, hts _ hy.1.1, hts _ hy.1.2.1⟩) ⟨k_blind, va_recv hK hP hc.1 ht, k_pre hK hAm hA hP hD hS hC hn⟩ rfl hAs hl.1 rfl (lv_room (Nat.le_of_ble_eq_true hcat)) hd ⟨h0.1, h0.2⟩) hS (fun q _ h => hFc q h) hFc (fun r0 u t H1 locs1 ht1 hvm hw1 hB hz1 hk1 hS1 => ?_)
  obtain ⟨hP1, hK1, hD1⟩ := hB
  rw [ht1] at hP1
  obtain ⟨hP2, hD2⟩ := k_frame hP hD hC hks hk1 hP1 (hAd r)
  rw [hw r] at hP2 hD2
  subst hw1
  exact k r hF H1 locs1 ls hP2 hD2 hS1 hl
theorem j_cVNL (C : Cx G K cc own nL lv) {α β : Type} {X : Option α} {F : α → Option β} {q : β} {y : MethodName} {cy : ByteArray} {nLy lvy idx n a : Nat} {rv : α → Int64} {rt : FieldType} {As : List Value} {W0 : va_W} {W1 : α → va_W} {ws' : α → va_W} {host : String} (hlk : Cond.methodLinkNest own idx y host ∈ k_nest) (hy : k_mv y cy nLy (some rt) n) (hf : X.bind F = some q) (hM : ∀ r, X = some r → ML G K.2.1 y cy nLy rt lvy (.ref a :: As) W0 (W1 r) (rv r)) (isC : List Nat) (ks : List (Option Nat)) (nw : Nat) (hC : isC.map (fun i => ws[i]?) = W0.map some) (hn : va_nd isC = true) (hks : k_ks isC nw = ks) (hAd : ∀ r, (W1 r).map Prod.fst = W0.map Prod.fst) (hw : ∀ r, k_mix ks (W1 r) ws = ws' r) (hlv : Nat.ble (lvy + 1) lv = true) (hAs : As.length = n) (hst : stk = As.reverse ++ .ref a :: st) (hcat : Nat.ble (st.map fun v => v.category).sum 8 = true) (h0 : cells ≤ K.2.2.2.1.cells ∧ slots ≤ K.2.2.2.1.slots) (hd : decode cc pc = .ok (.invokevirtual idx, 3)) {ci N : Nat} {T : u_T} {ty : Nat → FieldType} {fs : List Value} (hc : k_cls ci y.cls T N ty) (t : Nat) (ht : ws[t]? = some (a, .inr (ci, fs))) (k : ∀ r, F r = some q → J G K nL cells slots (ws' r) L (pc + 3) (.long (rv r) :: st)) : J G K nL cells slots ws L pc stk := by
  obtain ⟨p, l, e, R, s, m, args, below, meth, c, A, Q⟩ := K
  obtain ⟨⟨hx, hb, hml, hown⟩, hts, hK, hA, hAm, hlks, hR1, hR2⟩ := C
  subst hst
  obtain ⟨r, hX, hF⟩ := k_bind hf
  have hroom : (k_rm lvy).frames + 1 ≤ R.frames ∧ 8 + (nLy + 11) + (k_rm lvy).locals ≤ R.locals := by
    have h1 := Nat.le_of_ble_eq_true hlv
    have h2 := hy.2.2
    simp only [k_rm]
    omega
  intro H locs ls hP hD hS hl
  have hFc := va_free hD hS hA isC hC
  refine va_calll (va_runVN (As := As) (rest := st) (free := va_A W0 H.size) ⟨hx, hb, hml, hown, hts⟩ (hM r hX H.size) (⟨va_cnB n hts (k_gc hy.1.2.2.2 k_gU) rfl rfl rfl (hAm.1 _ hlk) (hts _ hy.1.2.2.1) hy.2.1 hroom, hts _ hy.1.1, hts _ hy.1.2.1⟩) ⟨k_blind, va_recv hK hP hc.1 ht, k_pre hK hAm hA hP hD hS hC hn⟩ rfl hAs hl.1 rfl (lv_room (Nat.le_of_ble_eq_true hcat)) hd ⟨h0.1, h0.2⟩) hS (fun q _ h => hFc q h) hFc (fun r0 u t H1 locs1 ht1 hvm hw1 hB hz1 hk1 hS1 => ?_)
  obtain ⟨hP1, hK1, hD1⟩ := hB
  rw [ht1] at hP1
  obtain ⟨hP2, hD2⟩ := k_frame hP hD hC hks hk1 hP1 (hAd r)
  rw [hw r] at hP2 hD2
  subst hw1
  exact k r hF H1 locs1 ls hP2 hD2 hS1 hl
theorem j_cVNZ (C : Cx G K cc own nL lv) {α β : Type} {X : Option α} {F : α → Option β} {q : β} {y : MethodName} {cy : ByteArray} {nLy lvy idx n a : Nat} {As : List Value} {W0 : va_W} {W1 : α → va_W} {ws' : α → va_W} {host : String} (hlk : Cond.methodLinkNest own idx y host ∈ k_nest) (hy : k_mv y cy nLy none n) (hf : X.bind F = some q) (hM : ∀ r, X = some r → MV G K.2.1 y cy nLy lvy (.ref a :: As) W0 (W1 r) ) (isC : List Nat) (ks : List (Option Nat)) (nw : Nat) (hC : isC.map (fun i => ws[i]?) = W0.map some) (hn : va_nd isC = true) (hks : k_ks isC nw = ks) (hAd : ∀ r, (W1 r).map Prod.fst = W0.map Prod.fst) (hw : ∀ r, k_mix ks (W1 r) ws = ws' r) (hlv : Nat.ble (lvy + 1) lv = true) (hAs : As.length = n) (hst : stk = As.reverse ++ .ref a :: st) (hcat : Nat.ble (st.map fun v => v.category).sum 8 = true) (h0 : cells ≤ K.2.2.2.1.cells ∧ slots ≤ K.2.2.2.1.slots) (hd : decode cc pc = .ok (.invokevirtual idx, 3)) {ci N : Nat} {T : u_T} {ty : Nat → FieldType} {fs : List Value} (hc : k_cls ci y.cls T N ty) (t : Nat) (ht : ws[t]? = some (a, .inr (ci, fs))) (k : ∀ r, F r = some q → J G K nL cells slots (ws' r) L (pc + 3) (st)) : J G K nL cells slots ws L pc stk := by
  obtain ⟨p, l, e, R, s, m, args, below, meth, c, A, Q⟩ := K
  obtain ⟨⟨hx, hb, hml, hown⟩, hts, hK, hA, hAm, hlks, hR1, hR2⟩ := C
  subst hst
  obtain ⟨r, hX, hF⟩ := k_bind hf
  have hroom : (k_rm lvy).frames + 1 ≤ R.frames ∧ 8 + (nLy + 11) + (k_rm lvy).locals ≤ R.locals := by
    have h1 := Nat.le_of_ble_eq_true hlv
    have h2 := hy.2.2
    simp only [k_rm]
    omega
  intro H locs ls hP hD hS hl
  have hFc := va_free hD hS hA isC hC
  refine va_callv (va_runVN (As := As) (rest := st) (free := va_A W0 H.size) ⟨hx, hb, hml, hown, hts⟩ (hM r hX H.size) (⟨va_cnB n hts (k_gc hy.1.2.2.2 k_gU) rfl rfl rfl (hAm.1 _ hlk) (hts _ hy.1.2.2.1) hy.2.1 hroom, hts _ hy.1.1, hts _ hy.1.2.1⟩) ⟨k_blind, va_recv hK hP hc.1 ht, k_pre hK hAm hA hP hD hS hC hn⟩ rfl hAs hl.1 rfl (lv_room (Nat.le_of_ble_eq_true hcat)) hd ⟨h0.1, h0.2⟩) hS (fun q _ h => hFc q h) hFc (fun u t H1 locs1 ht1 hvm hw1 hB hz1 hk1 hS1 => ?_)
  obtain ⟨hP1, hK1, hD1⟩ := hB
  rw [ht1] at hP1
  obtain ⟨hP2, hD2⟩ := k_frame hP hD hC hks hk1 hP1 (hAd r)
  rw [hw r] at hP2 hD2
  
  exact k r hF H1 locs1 ls hP2 hD2 hS1 hl
theorem j_cSNI (C : Cx G K cc own nL lv) {α β : Type} {X : Option α} {F : α → Option β} {q : β} {y : MethodName} {cy : ByteArray} {nLy lvy idx n : Nat} {rv : α → Int32} {rt : FieldType} {As : List Value} {W0 : va_W} {W1 : α → va_W} {ws' : α → va_W} {host : String} (hlk : Cond.methodLinkNest own idx y host ∈ k_nest) (hy : k_ms y cy nLy (some rt) n) (hf : X.bind F = some q) (hM : ∀ r, X = some r → MI G K.2.1 y cy nLy rt lvy As W0 (W1 r) (rv r)) (isC : List Nat) (ks : List (Option Nat)) (nw : Nat) (hC : isC.map (fun i => ws[i]?) = W0.map some) (hn : va_nd isC = true) (hks : k_ks isC nw = ks) (hAd : ∀ r, (W1 r).map Prod.fst = W0.map Prod.fst) (hw : ∀ r, k_mix ks (W1 r) ws = ws' r) (hlv : Nat.ble (lvy + 1) lv = true) (hAs : As.length = n) (hst : stk = As.reverse ++ st) (hcat : Nat.ble (st.map fun v => v.category).sum 8 = true) (h0 : cells ≤ K.2.2.2.1.cells ∧ slots ≤ K.2.2.2.1.slots) (hd : decode cc pc = .ok (.invokestatic idx, 3)) (k : ∀ r, F r = some q → J G K nL cells slots (ws' r) L (pc + 3) (.int (rv r) :: st)) : J G K nL cells slots ws L pc stk := by
  obtain ⟨p, l, e, R, s, m, args, below, meth, c, A, Q⟩ := K
  obtain ⟨⟨hx, hb, hml, hown⟩, hts, hK, hA, hAm, hlks, hR1, hR2⟩ := C
  subst hst
  obtain ⟨r, hX, hF⟩ := k_bind hf
  have hroom : (k_rm lvy).frames + 1 ≤ R.frames ∧ 8 + (nLy + 11) + (k_rm lvy).locals ≤ R.locals := by
    have h1 := Nat.le_of_ble_eq_true hlv
    have h2 := hy.2.2
    simp only [k_rm]
    omega
  intro H locs ls hP hD hS hl
  have hFc := va_free hD hS hA isC hC
  refine va_calli (va_runSN (As := As) (rest := st) (free := va_A W0 H.size) ⟨hx, hb, hml, hown, hts⟩ (hM r hX H.size) (⟨va_cnB n hts (k_gc hy.1.2.2 k_gU) rfl rfl rfl (hAm.1 _ hlk) (hts _ hy.1.2.1) hy.2.1 hroom, hts _ hy.1.1, trivial⟩) ⟨k_blind, k_pre hK hAm hA hP hD hS hC hn⟩ rfl hAs hl.1 rfl (lv_room (Nat.le_of_ble_eq_true hcat)) hd ⟨h0.1, h0.2⟩) hS (fun q _ h => hFc q h) hFc (fun r0 u t H1 locs1 ht1 hvm hw1 hB hz1 hk1 hS1 => ?_)
  obtain ⟨hP1, hK1, hD1⟩ := hB
  rw [ht1] at hP1
  obtain ⟨hP2, hD2⟩ := k_frame hP hD hC hks hk1 hP1 (hAd r)
  rw [hw r] at hP2 hD2
  subst hw1
  exact k r hF H1 locs1 ls hP2 hD2 hS1 hl
theorem j_cSNL (C : Cx G K cc own nL lv) {α β : Type} {X : Option α} {F : α → Option β} {q : β} {y : MethodName} {cy : ByteArray} {nLy lvy idx n : Nat} {rv : α → Int64} {rt : FieldType} {As : List Value} {W0 : va_W} {W1 : α → va_W} {ws' : α → va_W} {host : String} (hlk : Cond.methodLinkNest own idx y host ∈ k_nest) (hy : k_ms y cy nLy (some rt) n) (hf : X.bind F = some q) (hM : ∀ r, X = some r → ML G K.2.1 y cy nLy rt lvy As W0 (W1 r) (rv r)) (isC : List Nat) (ks : List (Option Nat)) (nw : Nat) (hC : isC.map (fun i => ws[i]?) = W0.map some) (hn : va_nd isC = true) (hks : k_ks isC nw = ks) (hAd : ∀ r, (W1 r).map Prod.fst = W0.map Prod.fst) (hw : ∀ r, k_mix ks (W1 r) ws = ws' r) (hlv : Nat.ble (lvy + 1) lv = true) (hAs : As.length = n) (hst : stk = As.reverse ++ st) (hcat : Nat.ble (st.map fun v => v.category).sum 8 = true) (h0 : cells ≤ K.2.2.2.1.cells ∧ slots ≤ K.2.2.2.1.slots) (hd : decode cc pc = .ok (.invokestatic idx, 3)) (k : ∀ r, F r = some q → J G K nL cells slots (ws' r) L (pc + 3) (.long (rv r) :: st)) : J G K nL cells slots ws L pc stk := by
  obtain ⟨p, l, e, R, s, m, args, below, meth, c, A, Q⟩ := K
  obtain ⟨⟨hx, hb, hml, hown⟩, hts, hK, hA, hAm, hlks, hR1, hR2⟩ := C
  subst hst
  obtain ⟨r, hX, hF⟩ := k_bind hf
  have hroom : (k_rm lvy).frames + 1 ≤ R.frames ∧ 8 + (nLy + 11) + (k_rm lvy).locals ≤ R.locals := by
    have h1 := Nat.le_of_ble_eq_true hlv
    have h2 := hy.2.2
    simp only [k_rm]
    omega
  intro H locs ls hP hD hS hl
  have hFc := va_free hD hS hA isC hC
  refine va_calll (va_runSN (As := As) (rest := st) (free := va_A W0 H.size) ⟨hx, hb, hml, hown, hts⟩ (hM r hX H.size) (⟨va_cnB n hts (k_gc hy.1.2.2 k_gU) rfl rfl rfl (hAm.1 _ hlk) (hts _ hy.1.2.1) hy.2.1 hroom, hts _ hy.1.1, trivial⟩) ⟨k_blind, k_pre hK hAm hA hP hD hS hC hn⟩ rfl hAs hl.1 rfl (lv_room (Nat.le_of_ble_eq_true hcat)) hd ⟨h0.1, h0.2⟩) hS (fun q _ h => hFc q h) hFc (fun r0 u t H1 locs1 ht1 hvm hw1 hB hz1 hk1 hS1 => ?_)
  obtain ⟨hP1, hK1, hD1⟩ := hB
  rw [ht1] at hP1
  obtain ⟨hP2, hD2⟩ := k_frame hP hD hC hks hk1 hP1 (hAd r)
  rw [hw r] at hP2 hD2
  subst hw1
  exact k r hF H1 locs1 ls hP2 hD2 hS1 hl
theorem j_cSNZ (C : Cx G K cc own nL lv) {α β : Type} {X : Option α} {F : α → Option β} {q : β} {y : MethodName} {cy : ByteArray} {nLy lvy idx n : Nat} {As : List Value} {W0 : va_W} {W1 : α → va_W} {ws' : α → va_W} {host : String} (hlk : Cond.methodLinkNest own idx y host ∈ k_nest) (hy : k_ms y cy nLy none n) (hf : X.bind F = some q) (hM : ∀ r, X = some r → MV G K.2.1 y cy nLy lvy As W0 (W1 r) ) (isC : List Nat) (ks : List (Option Nat)) (nw : Nat) (hC : isC.map (fun i => ws[i]?) = W0.map some) (hn : va_nd isC = true) (hks : k_ks isC nw = ks) (hAd : ∀ r, (W1 r).map Prod.fst = W0.map Prod.fst) (hw : ∀ r, k_mix ks (W1 r) ws = ws' r) (hlv : Nat.ble (lvy + 1) lv = true) (hAs : As.length = n) (hst : stk = As.reverse ++ st) (hcat : Nat.ble (st.map fun v => v.category).sum 8 = true) (h0 : cells ≤ K.2.2.2.1.cells ∧ slots ≤ K.2.2.2.1.slots) (hd : decode cc pc = .ok (.invokestatic idx, 3)) (k : ∀ r, F r = some q → J G K nL cells slots (ws' r) L (pc + 3) (st)) : J G K nL cells slots ws L pc stk := by
  obtain ⟨p, l, e, R, s, m, args, below, meth, c, A, Q⟩ := K
  obtain ⟨⟨hx, hb, hml, hown⟩, hts, hK, hA, hAm, hlks, hR1, hR2⟩ := C
  subst hst
  obtain ⟨r, hX, hF⟩ := k_bind hf
  have hroom : (k_rm lvy).frames + 1 ≤ R.frames ∧ 8 + (nLy + 11) + (k_rm lvy).locals ≤ R.locals := by
    have h1 := Nat.le_of_ble_eq_true hlv
    have h2 := hy.2.2
    simp only [k_rm]
    omega
  intro H locs ls hP hD hS hl
  have hFc := va_free hD hS hA isC hC
  refine va_callv (va_runSN (As := As) (rest := st) (free := va_A W0 H.size) ⟨hx, hb, hml, hown, hts⟩ (hM r hX H.size) (⟨va_cnB n hts (k_gc hy.1.2.2 k_gU) rfl rfl rfl (hAm.1 _ hlk) (hts _ hy.1.2.1) hy.2.1 hroom, hts _ hy.1.1, trivial⟩) ⟨k_blind, k_pre hK hAm hA hP hD hS hC hn⟩ rfl hAs hl.1 rfl (lv_room (Nat.le_of_ble_eq_true hcat)) hd ⟨h0.1, h0.2⟩) hS (fun q _ h => hFc q h) hFc (fun u t H1 locs1 ht1 hvm hw1 hB hz1 hk1 hS1 => ?_)
  obtain ⟨hP1, hK1, hD1⟩ := hB
  rw [ht1] at hP1
  obtain ⟨hP2, hD2⟩ := k_frame hP hD hC hks hk1 hP1 (hAd r)
  rw [hw r] at hP2 hD2
  
  exact k r hF H1 locs1 ls hP2 hD2 hS1 hl
theorem j_cTI (C : Cx G K cc own nL lv) {α β : Type} {X : Option α} {F : α → Option β} {q : β} {y : MethodName} {cy : ByteArray} {nLy lvy idx n a : Nat} {rv : α → Int32} {rt : FieldType} {As : List Value} {W0 : va_W} {W1 : α → va_W} {ws' : α → va_W} (hlk : Cond.methodLink own idx y ∈ k_U) (hy : k_mv y cy nLy (some rt) n) (hf : X.bind F = some q) (hM : ∀ r, X = some r → MI G K.2.1 y cy nLy rt lvy (.ref a :: As) W0 (W1 r) (rv r)) (isC : List Nat) (ks : List (Option Nat)) (nw : Nat) (hC : isC.map (fun i => ws[i]?) = W0.map some) (hn : va_nd isC = true) (hks : k_ks isC nw = ks) (hAd : ∀ r, (W1 r).map Prod.fst = W0.map Prod.fst) (hw : ∀ r, k_mix ks (W1 r) ws = ws' r) (hlv : Nat.ble (lvy + 1) lv = true) (hAs : As.length = n) (hst : stk = As.reverse ++ .ref a :: st) (hcat : Nat.ble (st.map fun v => v.category).sum 8 = true) (h0 : cells ≤ K.2.2.2.1.cells ∧ slots ≤ K.2.2.2.1.slots) (hd : decode cc pc = .ok (.invokevirtual idx, 3)) (i : Nat) (hi : i < 5) (hia : a = G.2.2 (10 + i)) (hyc : y.cls = "java/lang/String") (k : ∀ r, F r = some q → J G K nL cells slots (ws' r) L (pc + 3) (.int (rv r) :: st)) : J G K nL cells slots ws L pc stk := by
  obtain ⟨p, l, e, R, s, m, args, below, meth, c, A, Q⟩ := K
  obtain ⟨⟨hx, hb, hml, hown⟩, hts, hK, hA, hAm, hlks, hR1, hR2⟩ := C
  subst hst
  obtain ⟨r, hX, hF⟩ := k_bind hf
  have hroom : (k_rm lvy).frames + 1 ≤ R.frames ∧ 8 + (nLy + 11) + (k_rm lvy).locals ≤ R.locals := by
    have h1 := Nat.le_of_ble_eq_true hlv
    have h2 := hy.2.2
    simp only [k_rm]
    omega
  intro H locs ls hP hD hS hl
  have hFc := va_free hD hS hA isC hC
  refine va_calli (va_runV (As := As) (rest := st) (free := va_A W0 H.size) ⟨hx, hb, hml, hown, hts⟩ (hM r hX H.size) (cwV n hts (k_gc hlk (k_gc hy.1.1 (k_gc hy.1.2.1 (k_gc hy.1.2.2.1 (k_gc hy.1.2.2.2 k_gU))))) rfl rfl rfl ⟨rfl, hy.2.1⟩ hroom) ⟨k_blind, by rw [hyc, hia]; exact vk_recv (adK := fun i => G.2.2 (10 + i)) hAm.2.2.1 hi hS, k_pre hK hAm hA hP hD hS hC hn⟩ rfl hAs hl.1 rfl (lv_room (Nat.le_of_ble_eq_true hcat)) hd ⟨h0.1, h0.2⟩) hS (fun q _ h => hFc q h) hFc (fun r0 u t H1 locs1 ht1 hvm hw1 hB hz1 hk1 hS1 => ?_)
  obtain ⟨hP1, hK1, hD1⟩ := hB
  rw [ht1] at hP1
  obtain ⟨hP2, hD2⟩ := k_frame hP hD hC hks hk1 hP1 (hAd r)
  rw [hw r] at hP2 hD2
  subst hw1
  exact k r hF H1 locs1 ls hP2 hD2 hS1 hl
theorem j_cTL (C : Cx G K cc own nL lv) {α β : Type} {X : Option α} {F : α → Option β} {q : β} {y : MethodName} {cy : ByteArray} {nLy lvy idx n a : Nat} {rv : α → Int64} {rt : FieldType} {As : List Value} {W0 : va_W} {W1 : α → va_W} {ws' : α → va_W} (hlk : Cond.methodLink own idx y ∈ k_U) (hy : k_mv y cy nLy (some rt) n) (hf : X.bind F = some q) (hM : ∀ r, X = some r → ML G K.2.1 y cy nLy rt lvy (.ref a :: As) W0 (W1 r) (rv r)) (isC : List Nat) (ks : List (Option Nat)) (nw : Nat) (hC : isC.map (fun i => ws[i]?) = W0.map some) (hn : va_nd isC = true) (hks : k_ks isC nw = ks) (hAd : ∀ r, (W1 r).map Prod.fst = W0.map Prod.fst) (hw : ∀ r, k_mix ks (W1 r) ws = ws' r) (hlv : Nat.ble (lvy + 1) lv = true) (hAs : As.length = n) (hst : stk = As.reverse ++ .ref a :: st) (hcat : Nat.ble (st.map fun v => v.category).sum 8 = true) (h0 : cells ≤ K.2.2.2.1.cells ∧ slots ≤ K.2.2.2.1.slots) (hd : decode cc pc = .ok (.invokevirtual idx, 3)) (i : Nat) (hi : i < 5) (hia : a = G.2.2 (10 + i)) (hyc : y.cls = "java/lang/String") (k : ∀ r, F r = some q → J G K nL cells slots (ws' r) L (pc + 3) (.long (rv r) :: st)) : J G K nL cells slots ws L pc stk := by
  obtain ⟨p, l, e, R, s, m, args, below, meth, c, A, Q⟩ := K
  obtain ⟨⟨hx, hb, hml, hown⟩, hts, hK, hA, hAm, hlks, hR1, hR2⟩ := C
  subst hst
  obtain ⟨r, hX, hF⟩ := k_bind hf
  have hroom : (k_rm lvy).frames + 1 ≤ R.frames ∧ 8 + (nLy + 11) + (k_rm lvy).locals ≤ R.locals := by
    have h1 := Nat.le_of_ble_eq_true hlv
    have h2 := hy.2.2
    simp only [k_rm]
    omega
  intro H locs ls hP hD hS hl
  have hFc := va_free hD hS hA isC hC
  refine va_calll (va_runV (As := As) (rest := st) (free := va_A W0 H.size) ⟨hx, hb, hml, hown, hts⟩ (hM r hX H.size) (cwV n hts (k_gc hlk (k_gc hy.1.1 (k_gc hy.1.2.1 (k_gc hy.1.2.2.1 (k_gc hy.1.2.2.2 k_gU))))) rfl rfl rfl ⟨rfl, hy.2.1⟩ hroom) ⟨k_blind, by rw [hyc, hia]; exact vk_recv (adK := fun i => G.2.2 (10 + i)) hAm.2.2.1 hi hS, k_pre hK hAm hA hP hD hS hC hn⟩ rfl hAs hl.1 rfl (lv_room (Nat.le_of_ble_eq_true hcat)) hd ⟨h0.1, h0.2⟩) hS (fun q _ h => hFc q h) hFc (fun r0 u t H1 locs1 ht1 hvm hw1 hB hz1 hk1 hS1 => ?_)
  obtain ⟨hP1, hK1, hD1⟩ := hB
  rw [ht1] at hP1
  obtain ⟨hP2, hD2⟩ := k_frame hP hD hC hks hk1 hP1 (hAd r)
  rw [hw r] at hP2 hD2
  subst hw1
  exact k r hF H1 locs1 ls hP2 hD2 hS1 hl
theorem j_cTZ (C : Cx G K cc own nL lv) {α β : Type} {X : Option α} {F : α → Option β} {q : β} {y : MethodName} {cy : ByteArray} {nLy lvy idx n a : Nat} {As : List Value} {W0 : va_W} {W1 : α → va_W} {ws' : α → va_W} (hlk : Cond.methodLink own idx y ∈ k_U) (hy : k_mv y cy nLy none n) (hf : X.bind F = some q) (hM : ∀ r, X = some r → MV G K.2.1 y cy nLy lvy (.ref a :: As) W0 (W1 r) ) (isC : List Nat) (ks : List (Option Nat)) (nw : Nat) (hC : isC.map (fun i => ws[i]?) = W0.map some) (hn : va_nd isC = true) (hks : k_ks isC nw = ks) (hAd : ∀ r, (W1 r).map Prod.fst = W0.map Prod.fst) (hw : ∀ r, k_mix ks (W1 r) ws = ws' r) (hlv : Nat.ble (lvy + 1) lv = true) (hAs : As.length = n) (hst : stk = As.reverse ++ .ref a :: st) (hcat : Nat.ble (st.map fun v => v.category).sum 8 = true) (h0 : cells ≤ K.2.2.2.1.cells ∧ slots ≤ K.2.2.2.1.slots) (hd : decode cc pc = .ok (.invokevirtual idx, 3)) (i : Nat) (hi : i < 5) (hia : a = G.2.2 (10 + i)) (hyc : y.cls = "java/lang/String") (k : ∀ r, F r = some q → J G K nL cells slots (ws' r) L (pc + 3) (st)) : J G K nL cells slots ws L pc stk := by
  obtain ⟨p, l, e, R, s, m, args, below, meth, c, A, Q⟩ := K
  obtain ⟨⟨hx, hb, hml, hown⟩, hts, hK, hA, hAm, hlks, hR1, hR2⟩ := C
  subst hst
  obtain ⟨r, hX, hF⟩ := k_bind hf
  have hroom : (k_rm lvy).frames + 1 ≤ R.frames ∧ 8 + (nLy + 11) + (k_rm lvy).locals ≤ R.locals := by
    have h1 := Nat.le_of_ble_eq_true hlv
    have h2 := hy.2.2
    simp only [k_rm]
    omega
  intro H locs ls hP hD hS hl
  have hFc := va_free hD hS hA isC hC
  refine va_callv (va_runV (As := As) (rest := st) (free := va_A W0 H.size) ⟨hx, hb, hml, hown, hts⟩ (hM r hX H.size) (cwV n hts (k_gc hlk (k_gc hy.1.1 (k_gc hy.1.2.1 (k_gc hy.1.2.2.1 (k_gc hy.1.2.2.2 k_gU))))) rfl rfl rfl ⟨rfl, hy.2.1⟩ hroom) ⟨k_blind, by rw [hyc, hia]; exact vk_recv (adK := fun i => G.2.2 (10 + i)) hAm.2.2.1 hi hS, k_pre hK hAm hA hP hD hS hC hn⟩ rfl hAs hl.1 rfl (lv_room (Nat.le_of_ble_eq_true hcat)) hd ⟨h0.1, h0.2⟩) hS (fun q _ h => hFc q h) hFc (fun u t H1 locs1 ht1 hvm hw1 hB hz1 hk1 hS1 => ?_)
  obtain ⟨hP1, hK1, hD1⟩ := hB
  rw [ht1] at hP1
  obtain ⟨hP2, hD2⟩ := k_frame hP hD hC hks hk1 hP1 (hAd r)
  rw [hw r] at hP2 hD2
  
  exact k r hF H1 locs1 ls hP2 hD2 hS1 hl
end CR
def k_retI (G : Gx) (K : Kx) (cc : ByteArray) (nL : Nat) (rt : FieldType) (W1 : va_W) (r : Int32) : Prop := ∀ (pc : Nat) (L : List (Nat × Value)), decode cc pc = .ok (.ireturn, 1) → narrow rt (.int r) = .int r → J G K nL 0 0 W1 L pc [.int r]
theorem mI_of {G : Gx} {l : Launch} {y : MethodName} {cc : ByteArray} {nL lv : Nat} {av : List Value} {W0 W1 : va_W} {rt : FieldType} {r : Int32} (hy : plainFor y = true) (hav : Nat.ble (lg_sl av).length nL = true)
    (body : ∀ K : Kx, K.2.1 = l → Cx G K cc y.cls nL lv → k_retI G K cc nL rt W1 r → J G K nL 0 0 W0 (lv_args 0 av) 0 []) : MI G l y cc nL rt lv av W0 W1 r := by
  intro sz
  refine va_MetF (cc := cc) (maxL := nL) (ret := some rt) hy rfl ?_
  intro p e s m args below meth c s₁ B hml hv
  obtain ⟨rfl, hsz, hP, hK, hD0, hAm⟩ := hv
  have hx := B.exec
  have hb := B.bytes
  have hr := B.returns
  have hts := atoms_spec B.pre
  have hown : s.vm.findClass y.cls = some m.cls := findClass_of_methodNamed B.named
  have hlocks := B.notSynchronized
  subst hsz
  have hD := hD0.self (sz := s.heap.size)
  have hA : ∀ q : Nat, s.heap.size ≤ q → va_A W0 s.heap.size q := fun q h => Or.inr h
  have hS : va_S (va_A W0 s.heap.size) s.heap s.heap [] := va_S.rf
  have hl := lv_entry av (n := nL) (Nat.le_of_ble_eq_true hav)
  rw [lg_entry_eq]
  exact body (p, l, e, (headSpec (Cond.code y cc nL (some rt) :: k_U) (k_rm lv)).room, s, m, av.toArray, below, meth, c, va_A W0 s.heap.size, _) rfl ⟨⟨hx, hb, hml, hown⟩, fun w h => hts w (List.mem_cons_of_mem _ h), hK, hA, hAm, hlocks, Nat.le_refl _, Nat.le_refl _⟩
    (fun pc L hd hn H locs ls hP hD hS hl => W.zret hx hb hr hn (fun t ht hW => ⟨⟨r, (), rfl, rfl, by rw [ht]; exact hP, va_K.moved hW.alike hK, hD⟩, hS.F ht⟩) hS.2.2 hd) s.heap [] _ hP hD hS hl
def k_retL (G : Gx) (K : Kx) (cc : ByteArray) (nL : Nat) (W1 : va_W) (r : Int64) : Prop := ∀ (pc : Nat) (L : List (Nat × Value)), decode cc pc = .ok (.lreturn, 1) → J G K nL 0 0 W1 L pc [.long r]
theorem mL_of {G : Gx} {l : Launch} {y : MethodName} {cc : ByteArray} {nL lv : Nat} {av : List Value} {W0 W1 : va_W} {r : Int64} (hy : plainFor y = true) (hav : Nat.ble (lg_sl av).length nL = true)
    (body : ∀ K : Kx, K.2.1 = l → Cx G K cc y.cls nL lv → k_retL G K cc nL W1 r → J G K nL 0 0 W0 (lv_args 0 av) 0 []) : ML G l y cc nL .long lv av W0 W1 r := by
  intro sz
  refine va_MetF (cc := cc) (maxL := nL) (ret := some .long) hy rfl ?_
  intro p e s m args below meth c s₁ B hml hv
  obtain ⟨rfl, hsz, hP, hK, hD0, hAm⟩ := hv
  have hx := B.exec
  have hb := B.bytes
  have hr := B.returns
  have hts := atoms_spec B.pre
  have hown : s.vm.findClass y.cls = some m.cls := findClass_of_methodNamed B.named
  have hlocks := B.notSynchronized
  subst hsz
  have hD := hD0.self (sz := s.heap.size)
  have hA : ∀ q : Nat, s.heap.size ≤ q → va_A W0 s.heap.size q := fun q h => Or.inr h
  have hS : va_S (va_A W0 s.heap.size) s.heap s.heap [] := va_S.rf
  have hl := lv_entry av (n := nL) (Nat.le_of_ble_eq_true hav)
  rw [lg_entry_eq]
  exact body (p, l, e, (headSpec (Cond.code y cc nL (some .long) :: k_U) (k_rm lv)).room, s, m, av.toArray, below, meth, c, va_A W0 s.heap.size, _) rfl ⟨⟨hx, hb, hml, hown⟩, fun w h => hts w (List.mem_cons_of_mem _ h), hK, hA, hAm, hlocks, Nat.le_refl _, Nat.le_refl _⟩
    (fun pc L hd H locs ls hP hD hS hl => W.lret hx hb hr (fun t ht hW => ⟨⟨r, (), rfl, rfl, by rw [ht]; exact hP, va_K.moved hW.alike hK, hD⟩, hS.F ht⟩) hS.2.2 hd) s.heap [] _ hP hD hS hl
def k_retV (G : Gx) (K : Kx) (cc : ByteArray) (nL : Nat) (W1 : va_W) : Prop := ∀ (pc : Nat) (L : List (Nat × Value)), decode cc pc = .ok (.return_, 1) → J G K nL 0 0 W1 L pc []
theorem mV_of {G : Gx} {l : Launch} {y : MethodName} {cc : ByteArray} {nL lv : Nat} {av : List Value} {W0 W1 : va_W} (hy : plainFor y = true) (hav : Nat.ble (lg_sl av).length nL = true)
    (body : ∀ K : Kx, K.2.1 = l → Cx G K cc y.cls nL lv → k_retV G K cc nL W1 → J G K nL 0 0 W0 (lv_args 0 av) 0 []) : MV G l y cc nL lv av W0 W1 := by
  intro sz
  refine va_MetF (cc := cc) (maxL := nL) (ret := none) hy rfl ?_
  intro p e s m args below meth c s₁ B hml hv
  obtain ⟨rfl, hsz, hP, hK, hD0, hAm⟩ := hv
  have hx := B.exec
  have hb := B.bytes
  have hr := B.returns
  have hts := atoms_spec B.pre
  have hown : s.vm.findClass y.cls = some m.cls := findClass_of_methodNamed B.named
  have hlocks := B.notSynchronized
  subst hsz
  have hD := hD0.self (sz := s.heap.size)
  have hA : ∀ q : Nat, s.heap.size ≤ q → va_A W0 s.heap.size q := fun q h => Or.inr h
  have hS : va_S (va_A W0 s.heap.size) s.heap s.heap [] := va_S.rf
  have hl := lv_entry av (n := nL) (Nat.le_of_ble_eq_true hav)
  rw [lg_entry_eq]
  exact body (p, l, e, (headSpec (Cond.code y cc nL (none) :: k_U) (k_rm lv)).room, s, m, av.toArray, below, meth, c, va_A W0 s.heap.size, _) rfl ⟨⟨hx, hb, hml, hown⟩, fun w h => hts w (List.mem_cons_of_mem _ h), hK, hA, hAm, hlocks, Nat.le_refl _, Nat.le_refl _⟩
    (fun pc L hd H locs ls hP hD hS hl => W.vret hx hb hr (fun t ht hW => ⟨⟨(), rfl, trivial, by rw [ht]; exact hP, va_K.moved hW.alike hK, hD⟩, hS.F ht⟩) hS.2.2 hd) s.heap [] _ hP hD hS hl
