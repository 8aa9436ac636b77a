def gl {α : Type} (i : Nat) (X : Option α) : Option α := if i < 5 then X else none
theorem gl_some {α : Type} {i : Nat} {X : Option α} {q : α} (h : gl i X = some q) : i < 5 ∧ X = some q := by
  unfold gl at h
  split at h
  · exact ⟨by assumption, h⟩
  · cases h
def k_ix : List Int32 → Int32 → Int32 → Int32
  | [], _, _ => -1
  | b :: l, c, k => if b = c then k else k_ix l c (k + 1)
def f_J0_length_8abf5 (sx : Nat) : Option Int32 := gl sx (some (Int32.ofNat (k_len.getD sx 0)))
def f_J0_charAt_5068e (sx : Nat) (p1 : Int32) : Option Int32 := gl sx (gd p1 (k_len.getD sx 0) (some ((k_byt.getD sx []).getD p1.toNatClampNeg 0)))
def f_J0_indexOf_0f7a4 (sx : Nat) (p1 : Int32) : Option Int32 := gl sx (some (k_ix (k_byt.getD sx []) p1 0))
def ct_J0_length_8abf5 (G : Gx) (l : Launch) (F : Nat → Option Int32) (lv : Nat) : Prop := ∀ (sx : Nat) (q : Int32), F sx = some q → MI G l yJ0_length_8abf5 cJ0_length_8abf5 1 .int lv [.ref (G.2.2 (10 + sx))] [] [] q
theorem c_J0_length_8abf5 (G : Gx) (l : Launch) : ct_J0_length_8abf5 G l f_J0_length_8abf5 8 := sorry
def ct_J0_charAt_5068e (G : Gx) (l : Launch) (F : Nat → Int32 → Option Int32) (lv : Nat) : Prop := ∀ (sx : Nat) (p1 : Int32) (q : Int32), F sx p1 = some q → MI G l yJ0_charAt_5068e cJ0_charAt_5068e 2 .char lv [.ref (G.2.2 (10 + sx)), .int p1] [] [] q
theorem c_J0_charAt_5068e (G : Gx) (l : Launch) : ct_J0_charAt_5068e G l f_J0_charAt_5068e 8 := sorry
def ct_J0_indexOf_0f7a4 (G : Gx) (l : Launch) (F : Nat → Int32 → Option Int32) (lv : Nat) : Prop := ∀ (sx : Nat) (p1 : Int32) (q : Int32), F sx p1 = some q → MI G l yJ0_indexOf_0f7a4 cJ0_indexOf_0f7a4 2 .int lv [.ref (G.2.2 (10 + sx)), .int p1] [] [] q
theorem c_J0_indexOf_0f7a4 (G : Gx) (l : Launch) : ct_J0_indexOf_0f7a4 G l f_J0_indexOf_0f7a4 12 := sorry
