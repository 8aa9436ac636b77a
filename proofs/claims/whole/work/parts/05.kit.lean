-- THE WALK'S OWN WORDS: one context K, one judgement J: 'from pc, with these locals and this stack, over these cells, the method comes to its end'
def k_isNest : Cond → Bool
  | .fieldLinkNest .. => true
  | .methodLinkNest .. => true
  | _ => false
def k_nest : List Cond := lw_tbl.filter k_isNest
def k_U : List Cond := lw_tbl.filter goodWord
theorem k_U_in {w : Cond} (h : w ∈ lw_tbl) (hg : goodWord w = true) : w ∈ k_U := List.mem_filter.mpr ⟨h, hg⟩
theorem k_U_good {w : Cond} (h : w ∈ k_U) : goodWord w = true := (List.mem_filter.mp h).2
theorem k_nest_in {w : Cond} (h : w ∈ lw_tbl) (hg : k_isNest w = true) : w ∈ k_nest := List.mem_filter.mpr ⟨h, hg⟩
-- G: the classes' tables, the arrays' classes, the addresses of what nobody writes
abbrev Gx : Type := va_G × (Nat → ClassId) × (Nat → Nat)
def k_tys (G : Gx) : List (ClassId × FieldType) := [(G.2.1 0, .int), (G.2.1 1, .long), (G.2.1 2, .char), (G.2.1 3, .boolean), (G.2.1 4, .object "NoGraveEnemy$Parish"), (G.2.1 5, .object "NoGraveEnemy$Tape")]
def k_above : Nat → Int32 := fun j => ([-1, 0, 0, 0, 1, 2, 3] : List Int32).getD j 0
def k_bodies : Nat → Int32 := fun j => ([10, 11, 12, 0, 20, 0, 30, 0, 0, 0, 0, 40, 50, 51, 0, 0, 0, 60, 71, 70, 0] : List Int32).getD j 0
def k_len : List Nat := [6, 5, 5, 6, 3]
def k_byt : List (List Int32) := [[115, 116, 105, 110, 103, 32], [98, 97, 108, 109, 32], [110, 101, 101, 100, 32], [112, 113, 107, 118, 104, 100], [60, 61, 62]]
def k_str : List (String × Nat × String × Nat) := [("NoGraveEnemy$Text", 48, "sting ", 0), ("NoGraveEnemy$Text", 50, "balm ", 1), ("NoGraveEnemy$Text", 52, "need ", 2), ("NoGraveEnemy$Text", 85, "pqkvhd", 3), ("NoGraveEnemy$Text", 91, "<=>", 4), ("NoGraveEnemyModel", 212, "sting ", 0), ("NoGraveEnemyModel", 218, "balm ", 1), ("NoGraveEnemyModel", 220, "need ", 2), ("NoGraveEnemyModel", 181, "pqkvhd", 3), ("NoGraveEnemyModel", 186, "<=>", 4)]
-- what nobody writes: tables, texts, links of nest mates
def Amb (G : Gx) (A : Nat → Prop) (U : State) (H : Heap) : Prop :=
  (∀ w ∈ k_nest, va_Nw w U) ∧ (∀ q ∈ k_str, vk_R q.1 q.2.1 q.2.2.1 (G.2.2 (10 + q.2.2.2)) U) ∧
  vk_S 5 k_len k_byt (fun i => G.2.2 (10 + i)) (fun i => G.2.2 (20 + i)) A U H ∧
  (va_Z "NoGraveEnemy" "ABOVE" "[I" (.ref (G.2.2 0)) A U H ∧ va_T .int (G.2.2 0) 7 (fun j => .int (k_above j)) A U H) ∧
  (va_Z "NoGraveEnemy" "BODIES" "[I" (.ref (G.2.2 1)) A U H ∧ va_T .int (G.2.2 1) 21 (fun j => .int (k_bodies j)) A U H) ∧
  va_Z "java/lang/String" "COMPACT_STRINGS" "Z" (.int 1) A U H ∧
  va_Zq "jdk/internal/util/Preconditions" "SIOOBE_FORMATTER" "Ljava/util/function/BiFunction;" A U H
theorem k_nest_warm {w : Cond} (hw : k_isNest w = true) {s U : State} (h : s.WarmedH U.vm) (hZ : va_Nw w s) : va_Nw w U := by
  cases w <;> first | exact va_Nw.warmF h hZ | exact va_Nw.warmM h hZ | (simp [k_isNest] at hw)
theorem k_nest_same {w : Cond} (hw : k_isNest w = true) {u U : State} (h : u.vm = U.vm) (hZ : va_Nw w u) : va_Nw w U := by
  cases w <;> first | exact va_Nw.same rfl h hZ | (simp [k_isNest] at hw)
theorem k_nest_is {w : Cond} (h : w ∈ k_nest) : k_isNest w = true := (List.mem_filter.mp h).2
theorem Amb.warm {G : Gx} {A : Nat → Prop} {s U : State} {H : Heap} (hW : s.WarmedH U.vm) (h : Amb G A s H) : Amb G A U H := by
  obtain ⟨h1, h2, h3, h4, h5, h6, h7⟩ := h
  have ha := hW.alike
  refine ⟨fun w hw => k_nest_warm (k_nest_is hw) hW (h1 w hw), fun q hq => (h2 q hq).warm hW, h3.moved ha, ⟨h4.1.moved ha, h4.2.moved ha⟩, ⟨h5.1.moved ha, h5.2.moved ha⟩, h6.moved ha, ?_⟩
  exact h7.elim (fun h => Or.inl (h.moved ha)) (fun ⟨t, h⟩ => Or.inr ⟨t, h.moved ha⟩)
theorem Amb.same {G : Gx} {A : Nat → Prop} {s U : State} {H : Heap} (hv : U.vm = s.vm) (h : Amb G A s H) : Amb G A U H := by
  obtain ⟨h1, h2, h3, h4, h5, h6, h7⟩ := h
  have ha : s.vm.Alike U.vm := by rw [hv]; exact Vm.Alike.refl s.vm
  refine ⟨fun w hw => k_nest_same (k_nest_is hw) hv.symm (h1 w hw), fun q hq => (h2 q hq).same hv, h3.moved ha, ⟨h4.1.moved ha, h4.2.moved ha⟩, ⟨h5.1.moved ha, h5.2.moved ha⟩, h6.moved ha, ?_⟩
  exact h7.elim (fun h => Or.inl (h.moved ha)) (fun ⟨t, h⟩ => Or.inr ⟨t, h.moved ha⟩)
theorem Amb.kept {G : Gx} {A : Nat → Prop} {U : State} {H H1 : Heap} (h : Amb G A U H) (hq : ∀ a : Nat, a < H.size → ¬ A a → H1[a]? = H[a]?) : Amb G A U H1 := by
  obtain ⟨h1, h2, h3, h4, h5, h6, h7⟩ := h
  refine ⟨h1, h2, h3.kept hq, ⟨h4.1.kept hq, h4.2.kept hq⟩, ⟨h5.1.kept hq, h5.2.kept hq⟩, h6.kept hq, ?_⟩
  exact h7.elim (fun h => Or.inl (h.kept hq)) (fun ⟨t, h⟩ => Or.inr ⟨t, h.kept hq⟩)
theorem Amb.narrow {G : Gx} {A B : Nat → Prop} {U : State} {H : Heap} (h : Amb G A U H) (hAB : ∀ q, B q → A q) : Amb G B U H := by
  obtain ⟨h1, h2, h3, h4, h5, h6, h7⟩ := h
  refine ⟨h1, h2, h3.narrow hAB, ⟨h4.1.narrow hAB, h4.2.narrow hAB⟩, ⟨h5.1.narrow hAB, h5.2.narrow hAB⟩, h6.narrow hAB, ?_⟩
  exact h7.elim (fun h => Or.inl (h.narrow hAB)) (fun ⟨t, h⟩ => Or.inr ⟨t, h.narrow hAB⟩)
-- rooms by levels: a method of level n calls those of smaller levels
def k_rm (lv : Nat) : Room := { frames := 2 * lv, cells := 0, slots := 0, locals := 60 * lv }
-- K: program, launch, environment, room, start, method, arguments, frames below, method, code, own cells, goal
abbrev Kx := Program × Launch × Env × Room × State × MethodId × Array Value × List Frame × Method × Code × (Nat → Prop) × (State → Prop)
def Cx (G : Gx) (K : Kx) (cc : ByteArray) (own : String) (nL lv : Nat) : Prop := match K with
  | (p, _, _, R, s, m, args, _, meth, c, A, _) =>
    (p.tables.exec = Jvm.exec ∧ c.code = cc ∧ c.maxLocals = nL ∧ s.vm.findClass own = some m.cls) ∧ (∀ w ∈ k_U, w.before args s = true) ∧ va_K G.1 vwCl (k_tys G) s ∧ (∀ q, s.heap.size ≤ q → A q) ∧ Amb G A s s.heap ∧ meth.locks = false ∧ 2 * lv ≤ R.frames ∧ 60 * lv ≤ R.locals
def J (G : Gx) (K : Kx) (nL cells slots : Nat) (ws : va_W) (L : List (Nat × Value)) (pc : Nat) (st : List Value) : Prop := match K with
  | (p, l, e, R, s, m, args, below, meth, c, A, Q) =>
    ∀ (H : Heap) (locs : List Loc) (ls : Array Slot), va_P G.1 vwCl ws H → va_D A ws → va_S A s.heap H locs → lv_has ls nL L → W p l e R s m args below meth c H locs cells slots Q (F0 m pc ls st)
