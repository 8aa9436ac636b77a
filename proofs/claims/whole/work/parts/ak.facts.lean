theorem gn_bI {α : Type} {b : Bool} {X : Option α} : gn .boolean (bI b) X = X := by
  cases b
  · exact gn_b0
  · exact gn_b1
theorem put_is {n : Nat} (hn : n < 100) (st nu : Nat → Int32) (s v : Int32) : f_X2_put (nI n) st nu s v = some (upd st n s, upd nu n v, nI (n + 1)) := by
  unfold f_X2_put
  rw [if_neg (by rw [n_leT, n_toInt (by omega)]; show ¬ (100 : Int) ≤ n; omega), n_gd hn (by omega), n_gd hn (by omega), n_cl (by omega), n_s]
theorem put_any {n : Nat} (hn : n ≤ 100) (st nu : Nat → Int32) (s v : Int32) : ∃ st' nu' n', n' ≤ 100 ∧ f_X2_put (nI n) st nu s v = some (st', nu', nI n') := by
  by_cases h : n < 100
  · exact ⟨_, _, n + 1, by omega, put_is h st nu s v⟩
  · refine ⟨st, nu, n, hn, ?_⟩
    unfold f_X2_put
    rw [if_pos (by rw [n_leT, n_toInt (by omega)]; show (100 : Int) ≤ n; omega)]
theorem codes_is {n : Nat} (hn : n < 800) (co : Nat → Int32) (v : Int32) : f_X8_codes (nI n) co v = some (1, nI (n + 1), upd co n v) := by
  unfold f_X8_codes
  rw [n_gd hn (by omega), n_cl (by omega), n_s]
/-- what a piece of the text came to, of both sides -/
def RJ (L a len co dp : Nat) (code : Nat → Int32) (ok : Bool) (a' : Nat) (st nu st' nu' : Nat → Int32) (ln co' : Int32) (code' : Nat → Int32) : Prop :=
  a ≤ a' ∧ a' ≤ L ∧ (∃ n, n ≤ 100 ∧ ln = nI n) ∧ (∀ i, i < co → code' i = code i) ∧ (ok = true → ∃ l c f, a + l.length ≤ a' ∧ a + c.length ≤ a' ∧ 1 ≤ c.length ∧ ln = nI (len + l.length) ∧ co' = nI (co + c.length) ∧ (∀ i, i < len → st' i = st i ∧ nu' i = nu i) ∧ SL st' nu' len l ∧ CL code' co c ∧ XE l f dp ∧ CE c f)
def RR (op : Bool → Bool → Bool) (L a len co dp : Nat) (code : Nat → Int32) (ok : Bool) (a' : Nat) (st nu st' nu' : Nat → Int32) (ln co' : Int32) (code' : Nat → Int32) : Prop :=
  a ≤ a' ∧ a' ≤ L ∧ (∃ n, n ≤ 100 ∧ ln = nI n) ∧ (∀ i, i < co → code' i = code i) ∧ (ok = true → ∃ l c h, a + l.length ≤ a' ∧ a + c.length ≤ a' ∧ ln = nI (len + l.length) ∧ co' = nI (co + c.length) ∧ (∀ i, i < len → st' i = st i ∧ nu' i = nu i) ∧ SL st' nu' len l ∧ CL code' co c ∧ XR op l h dp ∧ CR op c h)
section PX
variable {L : Nat} {sg tt : Nat → Int32} {ch : Nat → Nat}
theorem test_is (h : TX L sg tt ch) {a len co : Nat} (ha : a ≤ L) (hl : len ≤ a) (hco : co + (L - a) ≤ 700) (num val dig : Int32) (st nu code : Nat → Int32) : ∃ ok a' num' st' nu' ln val' dig' co' code', f_X5_test (nI L) (nI a) num (nI len) sg st nu = some (bI ok, nI a', num', st', nu', ln) ∧ f_X8_isTest (nI L) (nI a) val dig (nI co) tt code = some (bI ok, nI a', val', dig', co', code') ∧ RJ L a len co 1 code ok a' st nu st' nu' ln co' code' := by
  have hL := h.1
  have hx := nx_le h a
  have r41 : f_X8_isTest (nI L) (nI a) val dig (nI co) tt code = f_X8_isTest_41 (nI L) (nI a) val dig (nI co) tt code (li3 (nx L ch a)) := by
    unfold f_X8_isTest
    by_cases hal : a < L
    · obtain ⟨-, h2, h3⟩ := h.2 a hal
      rw [if_neg (by rw [n_le (by omega) (by omega)]; omega), n_gd (by omega) (by omega), n_gd (by omega) (by omega), n_cl (by omega), h2, show nx L ch a = ch a from if_pos hal]
      by_cases e : ch a = 0
      · rw [if_pos (show nI (ch a) ≤ (0 : Int32) by rw [e]; decide), e]
        rfl
      · rw [if_neg (le_nay (c := 0) (by show (0 : Int) < ch a; omega) (by omega)), show f_J0_indexOf_0f7a4 3 (nI (ch a)) = _ from ix3 ⟨ch a, by omega⟩, Option.bind_some]
    · rw [if_pos (by rw [n_le (by omega) (by omega)]; omega), show nx L ch a = 0 from if_neg hal]
      rfl
  unfold f_X5_test
  rw [next_is h ha, Option.bind_some, show f_J0_indexOf_0f7a4 3 (nI (nx L ch a)) = _ from ix3 ⟨nx L ch a, by omega⟩, Option.bind_some, r41]
  have hz : ¬ (0 : Int32) ≤ -1 := by decide
  have hpos : ∀ j : Nat, j < 100 → (0 : Int32) ≤ nI j := fun j hj => by rw [n_leT, n_toInt (by omega)]; show (0 : Int) ≤ j; omega
  have hfail : RJ L a len co 1 code false a st nu st nu (nI len) (nI co) code := ⟨Nat.le_refl a, ha, ⟨len, by omega, rfl⟩, fun _ _ => rfl, fun e => (Bool.false_ne_true e).elim⟩
  rcases li3_is ⟨nx L ch a, by omega⟩ with e | ⟨hx0, ⟨j, hj⟩, hj3⟩
  · simp only at e
    unfold f_X8_isTest_41
    rw [e, if_neg hz, if_neg hz]
    exact ⟨false, a, _, _, _, _, _, _, _, _, rfl, rfl, hfail⟩
  · simp only at hx0 hj3
    have hal : a < L := by
      apply Decidable.byContradiction
      intro e
      exact hx0 (if_neg e)
    have hx1 := nx_le h (a + 1)
    rw [hj3, if_pos (hpos j (by omega)), n_s, next_is h (by omega : a + 1 ≤ L), Option.bind_some, show f_J0_indexOf_0f7a4 4 (nI (nx L ch (a + 1))) = _ from ix4 ⟨nx L ch (a + 1), by omega⟩, Option.bind_some]
    have r99 : f_X8_isTest_41 (nI L) (nI a) val dig (nI co) tt code (nI j) = f_X8_isTest_99 (nI L) val dig (nI co) tt code (li4 (nx L ch (a + 1))) (nI j) (nI (a + 1)) := by
      unfold f_X8_isTest_41
      rw [if_pos (hpos j (by omega)), n_s]
      by_cases hal1 : a + 1 < L
      · obtain ⟨-, h2, h3⟩ := h.2 (a + 1) hal1
        rw [if_neg (by rw [n_le (by omega) (by omega)]; omega), n_gd (by omega) (by omega), n_gd (by omega) (by omega), n_cl (by omega), h2, show nx L ch (a + 1) = ch (a + 1) from if_pos hal1]
        by_cases e : ch (a + 1) = 0
        · rw [if_pos (show nI (ch (a + 1)) ≤ (0 : Int32) by rw [e]; decide), e]
          rfl
        · rw [if_neg (le_nay (c := 0) (by show (0 : Int) < ch (a + 1); omega) (by omega)), show f_J0_indexOf_0f7a4 4 (nI (ch (a + 1))) = _ from ix4 ⟨ch (a + 1), by omega⟩, Option.bind_some]
      · rw [if_pos (by rw [n_le (by omega) (by omega)]; omega), show nx L ch (a + 1) = 0 from if_neg hal1]
        rfl
    rw [r99]
    rcases li4_is ⟨nx L ch (a + 1), by omega⟩ with e | ⟨hy0, ⟨c, hc⟩, hc3⟩
    · simp only at e
      unfold f_X8_isTest_99
      rw [e, if_neg hz, if_neg hz]
      exact ⟨false, a + 1, _, _, _, _, _, _, _, _, rfl, rfl, by omega, by omega, ⟨len, by omega, rfl⟩, fun _ _ => rfl, fun e => (Bool.false_ne_true e).elim⟩
    · simp only at hy0 hc3
      have hal1 : a + 1 < L := by
        apply Decidable.byContradiction
        intro e
        exact hy0 (if_neg e)
      obtain ⟨ok, v, a', g, g1, g2, g3, g4, g5, g6⟩ := num_is h (show a + 2 ≤ L by omega)
      unfold f_X8_isTest_99
      rw [hc3, if_pos (hpos c (by omega)), if_pos (hpos c (by omega)), n_s, show a + 1 + 1 = a + 2 by omega, g5, g6, Option.bind_some, Option.bind_some]
      cases ok with
      | false =>
        rw [if_pos (by rfl), if_pos (by rfl)]
        exact ⟨false, a', _, _, _, _, _, _, _, _, rfl, rfl, by omega, by omega, ⟨len, by omega, rfl⟩, fun _ _ => rfl, fun e => (Bool.false_ne_true e).elim⟩
      | true =>
        have g4 := g4 rfl
        have e1 : nI j * (3 : Int32) + nI c = nI (3 * j + c) := by rw [show (3 : Int32) = nI 3 from rfl, pk_mul, nI_add, Nat.mul_comm]
        have e2 : (3 : Int32) + (300 : Int32) * nI j + (100 : Int32) * nI c + nI v = nI (3 + 300 * j + 100 * c + v) := by
          rw [show (3 : Int32) = nI 3 from rfl, show (300 : Int32) = nI 300 from rfl, show (100 : Int32) = nI 100 from rfl, pk_mul, pk_mul, nI_add, nI_add, nI_add]
        rw [if_neg (by exact i_10), if_neg (by exact i_10), e1]
        dsimp only
        rw [put_is (show len < 100 by omega), Option.bind_some, e2, codes_is (show co < 800 by omega), Option.bind_some, if_neg (by exact i_10)]
        refine ⟨true, a', _, _, _, _, _, _, _, _, rfl, rfl, by omega, by omega, ⟨len + 1, by omega, rfl⟩, fun i hi => upd_ne (by omega), fun _ => ⟨[(nI (3 * j + c), nI v)], [nI (3 + 300 * j + 100 * c + v)], tst j c v, by show a + 1 ≤ a'; omega, by show a + 1 ≤ a'; omega, Nat.le_refl 1, rfl, rfl, fun i hi => ⟨upd_ne (by omega), upd_ne (by omega)⟩, ⟨upd_at, upd_at, trivial⟩, ⟨upd_at, trivial⟩, XE_test hj hc, CE_test hj hc g1⟩⟩
def FJ (L : Nat) (sg tt : Nat → Int32) (o a : Nat) : Prop := ∀ (len co : Nat) (num val dig : Int32) (st nu code : Nat → Int32) (d7 d8 : Nat), a ≤ L → len ≤ a → co + (L - a) ≤ 700 → 1 + 3 * (4 - o) ≤ d7 → 3 * (L - a) + 1 ≤ d8 → ∃ ok a' num' st' nu' ln val' dig' co' code', (g_X5_either_X5_both_X5_factor d7).2.2 (nI L) (nI a) num (nI len) sg st nu (nI o) = some (bI ok, nI a', num', st', nu', ln) ∧ (g_X8_isE_X8_isT_X8_isF d8).2.2 (nI L) (nI a) val dig (nI o) (nI co) tt code = some (bI ok, nI a', nI o, val', dig', co', code') ∧ RJ L a len co (1 + 2 * (4 - o)) code ok a' st nu st' nu' ln co' code'
def TJ (L : Nat) (sg tt : Nat → Int32) (o a : Nat) : Prop := ∀ (len co : Nat) (num val dig : Int32) (st nu code : Nat → Int32) (d7 d8 : Nat), a ≤ L → len ≤ a → co + (L - a) ≤ 700 → 2 + 3 * (4 - o) ≤ d7 → 3 * (L - a) + 2 ≤ d8 → ∃ ok a' num' st' nu' ln val' dig' co' code', (g_X5_either_X5_both_X5_factor d7).2.1 (nI L) (nI a) num (nI len) sg st nu (nI o) = some (bI ok, nI a', st', nu', ln, num') ∧ (g_X8_isE_X8_isT_X8_isF d8).2.1 (nI L) (nI a) val dig (nI o) (nI co) tt code = some (bI ok, nI a', co', code', nI o, val', dig') ∧ RJ L a len co (2 + 2 * (4 - o)) code ok a' st nu st' nu' ln co' code'
def EJ (L : Nat) (sg tt : Nat → Int32) (o a : Nat) : Prop := ∀ (len co : Nat) (num val dig : Int32) (st nu code : Nat → Int32) (d7 d8 : Nat), a ≤ L → len ≤ a → co + (L - a) ≤ 700 → 3 + 3 * (4 - o) ≤ d7 → 3 * (L - a) + 3 ≤ d8 → ∃ ok a' num' st' nu' ln val' dig' co' code', (g_X5_either_X5_both_X5_factor d7).1 (nI L) (nI a) num (nI len) sg st nu (nI o) = some (bI ok, nI a', st', nu', ln, num') ∧ (g_X8_isE_X8_isT_X8_isF d8).1 (nI L) (nI a) val dig (nI o) (nI co) tt code = some (bI ok, nI a', co', code', nI o, val', dig') ∧ RJ L a len co (3 + 2 * (4 - o)) code ok a' st nu st' nu' ln co' code'
end PX
