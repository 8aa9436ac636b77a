/-- a text of both sides: its bytes -/
def TX (L : Nat) (sg tt : Nat → Int32) (ch : Nat → Nat) : Prop := L ≤ 100 ∧ ∀ i, i < L → sg i = nI (ch i) ∧ tt i = nI (ch i) ∧ ch i ≤ 127
def nx (L : Nat) (ch : Nat → Nat) (a : Nat) : Nat := if a < L then ch a else 0
def bI (b : Bool) : Int32 := if b then 1 else 0
def bN (b : Bool) : Nat := if b then 1 else 0
theorem bI_ne {b : Bool} : (bI b = 0) = (b = false) := by cases b <;> simp [bI]
theorem bI_nI {b : Bool} : bI b = nI (bN b) := by cases b <;> rfl
theorem ch_nar : ∀ c : Fin 128, vp_nar .char (nI c.1) = nI c.1 := by decide +kernel
theorem nx_le {L : Nat} {sg tt : Nat → Int32} {ch : Nat → Nat} (h : TX L sg tt ch) (a : Nat) : nx L ch a ≤ 127 := by
  unfold nx
  split
  · rename_i ha; exact (h.2 a ha).2.2
  · omega
theorem next_is {L : Nat} {sg tt : Nat → Int32} {ch : Nat → Nat} (h : TX L sg tt ch) {a : Nat} (ha : a ≤ L) : f_X5_next (nI L) (nI a) sg = some (nI (nx L ch a)) := by
  have hL := h.1
  unfold f_X5_next nx
  rw [if_neg (n_not_neg (by omega))]
  by_cases hl : a < L
  · obtain ⟨h1, -, h2⟩ := h.2 a hl
    rw [if_neg (by rw [n_le (by omega) (by omega)]; omega), if_neg (by rw [n_leT, n_toInt (by omega)]; show ¬ (100 : Int) ≤ a; omega), n_gd (by omega) (by omega), n_cl (by omega), h1, if_pos hl]
    exact if_pos (ch_nar ⟨ch a, by omega⟩)
  · rw [if_pos (by rw [n_le (by omega) (by omega)]; omega), if_neg hl]
    rfl
theorem take_is {L : Nat} {sg tt : Nat → Int32} {ch : Nat → Nat} (h : TX L sg tt ch) {a c : Nat} (ha : a ≤ L) (hc : c ≤ 127) : f_X5_take (nI L) (nI a) sg (nI c) = some (if nx L ch a = c then ((1 : Int32), nI (a + 1)) else ((0 : Int32), nI a)) := by
  have := nx_le h a
  unfold f_X5_take
  rw [next_is h ha, Option.bind_some]
  by_cases e : nx L ch a = c
  · rw [if_pos (by rw [e]), if_pos e, n_s]
  · rw [if_neg (by rw [n_eq (by omega) (by omega)]; exact e), if_neg e]
theorem is_is {L : Nat} {sg tt : Nat → Int32} {ch : Nat → Nat} (h : TX L sg tt ch) {a c : Nat} (ha : a ≤ L) (hc : c ≤ 127) (h0 : c ≠ 0) : f_X8_is (nI L) (nI a) tt (nI c) = some (if nx L ch a = c then ((1 : Int32), nI (a + 1)) else ((0 : Int32), nI a)) := by
  have hL := h.1
  unfold f_X8_is nx
  by_cases hl : a < L
  · obtain ⟨-, h1, h2⟩ := h.2 a hl
    rw [if_neg (by rw [n_eq (by omega) (by omega)]; omega), n_gd (by omega) (by omega), n_cl (by omega), h1, if_pos hl]
    by_cases e : ch a = c
    · rw [if_pos (by rw [e]), if_pos e, n_s]
    · rw [if_neg (by rw [n_eq (by omega) (by omega)]; exact e), if_neg e]
  · rw [if_pos (by rw [n_eq (by omega) (by omega)]; omega), if_neg hl, if_neg (by omega)]
theorem dig_is {L : Nat} {sg tt : Nat → Int32} {ch : Nat → Nat} (h : TX L sg tt ch) {a : Nat} (ha : a ≤ L) : f_X8_isDigit (nI L) (nI a) tt = some (if 48 ≤ nx L ch a ∧ nx L ch a ≤ 57 then 1 else 0) := by
  have hL := h.1
  unfold f_X8_isDigit nx
  by_cases hl : a < L
  · obtain ⟨-, h1, h2⟩ := h.2 a hl
    rw [if_neg (by rw [n_le (by omega) (by omega)]; omega), n_gd (by omega) (by omega), n_gd (by omega) (by omega), n_cl (by omega), h1, if_pos hl]
    by_cases e1 : ch a < 48
    · rw [if_pos (lt_yes (c := 48) (by show (ch a : Int) < 48; omega) (by omega)), if_neg (by omega)]
    · rw [if_neg (lt_nay (c := 48) (by show (48 : Int) ≤ ch a; omega) (by omega))]
      by_cases e2 : ch a ≤ 57
      · rw [if_neg (lt_nay' (c := 57) (by show (ch a : Int) ≤ 57; omega) (by omega)), if_pos (by omega)]
      · rw [if_pos (by rw [n_ltT, n_toInt (by omega)]; show (57 : Int) < ch a; omega), if_neg (by omega)]
  · rw [if_pos (by rw [n_le (by omega) (by omega)]; omega), if_neg hl, if_neg (by omega)]
theorem num_loop {L : Nat} {sg tt : Nat → Int32} {ch : Nat → Nat} (h : TX L sg tt ch) : ∀ (m k v a : Nat), k + m = 2 → v < 10 ^ k → a ≤ L → ∃ (ok : Bool) (v' a' : Nat) (g : Int32), v' ≤ 99 ∧ a ≤ a' ∧ a' ≤ L ∧ (ok = true → 0 < k ∨ a < a') ∧ ∀ F, m < F → f_X5_takeNumber_7 (nI L) sg F (nI k) (nI v) (nI a) = some (bI ok, nI v', nI a') ∧ f_X8_isNumber_10 (nI L) tt F (nI v) (nI k) (nI a) = some (bI ok, nI v', g, nI a') := by
  have hL := h.1
  intro m
  induction m with
  | zero =>
    intro k v a hk hv ha
    obtain rfl : k = 2 := by omega
    refine ⟨true, v, a, nI 2, by omega, by omega, ha, fun _ => Or.inl (by omega), fun F hF => ⟨?_, ?_⟩⟩
    · obtain ⟨F, rfl⟩ : ∃ f, F = f + 1 := ⟨F - 1, by omega⟩
      unfold f_X5_takeNumber_7 f_X5_takeNumber_7_b
      rw [if_pos (by decide), if_neg (by decide)]
      rfl
    · obtain ⟨F, rfl⟩ : ∃ f, F = f + 1 := ⟨F - 1, by omega⟩
      unfold f_X8_isNumber_10 f_X8_isNumber_10_b
      rw [if_pos (by decide), if_neg (by decide)]
      rfl
  | succ m ih =>
    intro k v a hk hv ha
    have hk2 : ¬ (2 : Int32) ≤ nI k := by rw [n_leT, n_toInt (by omega)]; show ¬ (2 : Int) ≤ k; omega
    have hv99 : v ≤ 9 := by
      have h2 : k = 0 ∨ k = 1 := by omega
      rcases h2 with rfl | rfl <;> omega
    have hn := nx_le h a
    by_cases hd : 48 ≤ nx L ch a ∧ nx L ch a ≤ 57
    · have hal : a < L := by
        apply Decidable.byContradiction
        intro e
        have : nx L ch a = 0 := if_neg e
        omega
      have hna : nx L ch a = ch a := if_pos hal
      have hch := (h.2 a hal).2.1
      obtain ⟨ok, v', a', g, g1, g2, g3, g4, g5⟩ := ih (k + 1) (10 * v + (nx L ch a - 48)) (a + 1) (by omega) (by
        have h2 : k = 0 ∨ k = 1 := by omega
        rcases h2 with rfl | rfl <;> omega) (by omega)
      refine ⟨ok, v', a', g, g1, by omega, g3, fun _ => Or.inr (by omega), fun F hF => ⟨?_, ?_⟩⟩
      · obtain ⟨F, rfl⟩ : ∃ f, F = f + 1 := ⟨F - 1, by omega⟩
        unfold f_X5_takeNumber_7 f_X5_takeNumber_7_b
        rw [if_neg hk2, next_is h ha, Option.bind_some, if_neg (lt_nay (c := 48) (by show (48 : Int) ≤ (nx L ch a : Nat); omega) (by omega)), Option.bind_some, if_neg (lt_nay' (c := 57) (by show ((nx L ch a : Nat) : Int) ≤ 57; omega) (by omega)), Option.bind_some, n_s, n_s, show (48 : Int32) = nI 48 from rfl, pk_sub hd.1, show (10 : Int32) = nI 10 from rfl, pk_mul, nI_add, Nat.mul_comm v 10]
        exact (g5 F (by omega)).1
      · obtain ⟨F, rfl⟩ : ∃ f, F = f + 1 := ⟨F - 1, by omega⟩
        unfold f_X8_isNumber_10 f_X8_isNumber_10_b
        rw [if_neg hk2, dig_is h ha, Option.bind_some, if_pos hd, if_neg i_10, n_gd (by omega) (by omega), n_cl (by omega), hch, ← hna, n_s, n_s, show (48 : Int32) = nI 48 from rfl, show (10 : Int32) = nI 10 from rfl, pk_mul, nI_add, pk_sub (by omega), show 10 * v + nx L ch a - 48 = 10 * v + (nx L ch a - 48) by omega]
        exact (g5 F (by omega)).2
    · refine ⟨decide (0 < k), v, a, nI k, by omega, by omega, ha, fun e => Or.inl (by simpa using e), fun F hF => ⟨?_, ?_⟩⟩
      · obtain ⟨F, rfl⟩ : ∃ f, F = f + 1 := ⟨F - 1, by omega⟩
        have hend : (if nI k ≤ (0 : Int32) then some ((0 : Int32), nI v, nI a) else some ((1 : Int32), nI v, nI a)) = some (bI (decide (0 < k)), nI v, nI a) := by
          by_cases e : 0 < k
          · rw [if_neg (le_nay (c := 0) (by show (0 : Int) < k; omega) (by omega)), decide_eq_true e]; rfl
          · rw [if_pos (show nI k ≤ (0 : Int32) by obtain rfl : k = 0 := by omega
                                                   decide), decide_eq_false e]; rfl
        unfold f_X5_takeNumber_7 f_X5_takeNumber_7_b
        rw [if_neg hk2, next_is h ha, Option.bind_some]
        by_cases e1 : nx L ch a < 48
        · rw [if_pos (lt_yes (c := 48) (by show ((nx L ch a : Nat) : Int) < 48; omega) (by omega))]
          exact hend
        · rw [if_neg (lt_nay (c := 48) (by show (48 : Int) ≤ (nx L ch a : Nat); omega) (by omega)), Option.bind_some, if_pos (by rw [n_ltT, n_toInt (by omega)]; show (57 : Int) < (nx L ch a : Nat); omega)]
          exact hend
      · obtain ⟨F, rfl⟩ : ∃ f, F = f + 1 := ⟨F - 1, by omega⟩
        unfold f_X8_isNumber_10 f_X8_isNumber_10_b
        rw [if_neg hk2, dig_is h ha, Option.bind_some, if_neg hd, if_pos rfl]
        by_cases e : 0 < k
        · rw [if_neg (le_nay (c := 0) (by show (0 : Int) < k; omega) (by omega)), decide_eq_true e]; rfl
        · rw [if_pos (show nI k ≤ (0 : Int32) by obtain rfl : k = 0 := by omega
                                                 decide), decide_eq_false e]; rfl
theorem num_is {L : Nat} {sg tt : Nat → Int32} {ch : Nat → Nat} (h : TX L sg tt ch) {a : Nat} (ha : a ≤ L) : ∃ (ok : Bool) (v a' : Nat) (g : Int32), v ≤ 99 ∧ a ≤ a' ∧ a' ≤ L ∧ (ok = true → a < a') ∧ f_X5_takeNumber (nI L) (nI a) sg = some (bI ok, nI v, nI a') ∧ f_X8_isNumber (nI L) (nI a) tt = some (bI ok, nI v, g, nI a') := by
  obtain ⟨ok, v, a', g, g1, g2, g3, g4, g5⟩ := num_loop h 2 0 0 a (by omega) (by omega) ha
  obtain ⟨x, y⟩ := g5 1000 (by omega)
  exact ⟨ok, v, a', g, g1, g2, g3, fun e => (g4 e).resolve_left (by omega), x, y⟩
def wb (k i : Nat) : Nat := (([[115, 116, 105, 110, 103, 32], [98, 97, 108, 109, 32], [110, 101, 101, 100, 32]] : List (List Nat)).getD k []).getD i 0
theorem chr_is : ∀ (k : Fin 3) (i : Fin 6), i.1 < k_tn k.1 → f_J0_charAt_5068e k.1 (nI i.1) = some (nI (wb k.1 i.1)) ∧ wb k.1 i.1 ≠ 0 ∧ wb k.1 i.1 ≤ 127 := by decide +kernel
theorem len_is : ∀ (k : Fin 3), f_J0_length_8abf5 k.1 = some (nI (k_tn k.1)) ∧ k_tn k.1 ≤ 6 := by decide +kernel
theorem gl_in {α : Type} {k : Nat} {X : Option α} (h : k < 5) : gl k X = X := if_pos h
theorem word_loop {L : Nat} {sg tt : Nat → Int32} {ch : Nat → Nat} (h : TX L sg tt ch) {k : Nat} (hk : k < 3) : ∀ (m i a : Nat), i + m = k_tn k → a ≤ L → ∃ (ok : Bool) (a' : Nat), a ≤ a' ∧ a' ≤ L ∧ ∀ F, m < F → f_X5_takeWord_2 (nI L) sg k F (nI i) (nI a) = some (bI ok, nI a') ∧ f_X8_isAll_2 (nI L) tt k F (nI i) (nI a) = some (bI ok, nI a') := by
  have hL := h.1
  obtain ⟨hl1, hl2⟩ := len_is ⟨k, hk⟩
  simp only at hl1 hl2
  intro m
  induction m with
  | zero =>
    intro i a hi ha
    refine ⟨true, a, Nat.le_refl a, ha, fun F hF => ⟨?_, ?_⟩⟩
    · obtain ⟨F, rfl⟩ : ∃ f, F = f + 1 := ⟨F - 1, by omega⟩
      unfold f_X5_takeWord_2 f_X5_takeWord_2_b
      rw [gl_in (by omega), hl1, Option.bind_some, if_pos (by rw [n_le (by omega) (by omega)]; omega)]
      rfl
    · obtain ⟨F, rfl⟩ : ∃ f, F = f + 1 := ⟨F - 1, by omega⟩
      unfold f_X8_isAll_2 f_X8_isAll_2_b
      rw [gl_in (by omega), hl1, Option.bind_some, if_pos (by rw [n_le (by omega) (by omega)]; omega)]
      rfl
  | succ m ih =>
    intro i a hi ha
    obtain ⟨c1, c2, c3⟩ := chr_is ⟨k, hk⟩ ⟨i, by omega⟩ (by show i < k_tn k; omega)
    simp only at c1 c2 c3
    have hle : ¬ nI (k_tn k) ≤ nI i := by rw [n_le (by omega) (by omega)]; omega
    by_cases e : nx L ch a = wb k i
    · have hal : a < L := by
        apply Decidable.byContradiction
        intro e2
        have : nx L ch a = 0 := if_neg e2
        omega
      obtain ⟨ok, a', g1, g2, g3⟩ := ih (i + 1) (a + 1) (by omega) (by omega)
      refine ⟨ok, a', by omega, g2, fun F hF => ⟨?_, ?_⟩⟩
      · obtain ⟨F, rfl⟩ : ∃ f, F = f + 1 := ⟨F - 1, by omega⟩
        unfold f_X5_takeWord_2 f_X5_takeWord_2_b
        rw [gl_in (by omega), hl1, Option.bind_some, if_neg hle, gl_in (by omega), c1, Option.bind_some, take_is h ha c3, Option.bind_some, if_pos e, if_neg (by exact i_10), n_s]
        exact (g3 F (by omega)).1
      · obtain ⟨F, rfl⟩ : ∃ f, F = f + 1 := ⟨F - 1, by omega⟩
        unfold f_X8_isAll_2 f_X8_isAll_2_b
        rw [gl_in (by omega), hl1, Option.bind_some, if_neg hle, gl_in (by omega), c1, Option.bind_some, is_is h ha c3 c2, Option.bind_some, if_pos e, if_neg (by exact i_10), n_s]
        exact (g3 F (by omega)).2
    · refine ⟨false, a, Nat.le_refl a, ha, fun F hF => ⟨?_, ?_⟩⟩
      · obtain ⟨F, rfl⟩ : ∃ f, F = f + 1 := ⟨F - 1, by omega⟩
        unfold f_X5_takeWord_2 f_X5_takeWord_2_b
        rw [gl_in (by omega), hl1, Option.bind_some, if_neg hle, gl_in (by omega), c1, Option.bind_some, take_is h ha c3, Option.bind_some, if_neg e, if_pos (by rfl)]
        rfl
      · obtain ⟨F, rfl⟩ : ∃ f, F = f + 1 := ⟨F - 1, by omega⟩
        unfold f_X8_isAll_2 f_X8_isAll_2_b
        rw [gl_in (by omega), hl1, Option.bind_some, if_neg hle, gl_in (by omega), c1, Option.bind_some, is_is h ha c3 c2, Option.bind_some, if_neg e, if_pos (by rfl)]
        rfl
theorem word_is {L : Nat} {sg tt : Nat → Int32} {ch : Nat → Nat} (h : TX L sg tt ch) {k a : Nat} (hk : k < 3) (ha : a ≤ L) : ∃ (ok : Bool) (a' : Nat), a ≤ a' ∧ a' ≤ L ∧ f_X5_takeWord (nI L) (nI a) sg k = some (bI ok, nI a') ∧ f_X8_isAll (nI L) (nI a) tt k = some (bI ok, nI a') := by
  have hl := (len_is ⟨k, hk⟩).2
  simp only at hl
  obtain ⟨ok, a', g1, g2, g3⟩ := word_loop h hk (k_tn k) 0 a (by omega) ha
  obtain ⟨x, y⟩ := g3 1000 (by omega)
  exact ⟨ok, a', g1, g2, x, y⟩
theorem word_no {L : Nat} {sg tt : Nat → Int32} {ch : Nat → Nat} (h : TX L sg tt ch) {a : Nat} (ha : a ≤ L) (hn : nx L ch a ≠ 110) : f_X5_takeWord (nI L) (nI a) sg 2 = some (0, nI a) := by
  unfold f_X5_takeWord f_X5_takeWord_2 f_X5_takeWord_2_b
  rw [gl_in (by omega), show f_J0_length_8abf5 2 = some (nI 5) from (len_is 2).1, Option.bind_some, if_neg (by decide), gl_in (by omega), show f_J0_charAt_5068e 2 0 = some (nI 110) from (chr_is 2 0 (by decide)).1, Option.bind_some, take_is h ha (by omega), Option.bind_some, if_neg hn, if_pos (by rfl)]
def li3 (c : Nat) : Int32 := if c = 112 then 0 else if c = 113 then 1 else if c = 107 then 2 else if c = 118 then 3 else if c = 104 then 4 else if c = 100 then 5 else -1
def li4 (c : Nat) : Int32 := if c = 60 then 0 else if c = 61 then 1 else if c = 62 then 2 else -1
theorem ix3 : ∀ c : Fin 128, f_J0_indexOf_0f7a4 3 (nI c.1) = some (li3 c.1) := by decide +kernel
theorem ix4 : ∀ c : Fin 128, f_J0_indexOf_0f7a4 4 (nI c.1) = some (li4 c.1) := by decide +kernel
theorem li3_is : ∀ c : Fin 128, (li3 c.1 = -1) ∨ (c.1 ≠ 0 ∧ ∃ j : Fin 6, li3 c.1 = nI j.1) := by decide +kernel
theorem li4_is : ∀ c : Fin 128, (li4 c.1 = -1) ∨ (c.1 ≠ 0 ∧ ∃ j : Fin 3, li4 c.1 = nI j.1) := by decide +kernel
