def nt (c : Nat) (b : Nat → Int32) (z : Int32) : Nat → Int32 := if c < 20 then upd b c z else b
def nts : Nat → (Nat → Int32) → List Int32 → (Nat → Int32)
  | _, b, [] => b
  | c, b, z :: zs => nts (c + 1) (nt c b z) zs
theorem nts_app : ∀ (l1 l2 : List Int32) (c : Nat) (b : Nat → Int32), nts c b (l1 ++ l2) = nts (c + l1.length) (nts c b l1) l2 := by
  intro l1
  induction l1 with
  | nil => intro l2 c b; rfl
  | cons z zs ih =>
    intro l2 c b
    show nts (c + 1) (nt c b z) (zs ++ l2) = nts (c + (zs.length + 1)) (nts (c + 1) (nt c b z) zs) l2
    rw [ih, show c + 1 + zs.length = c + (zs.length + 1) by omega]
theorem nts_same : ∀ (l : List Int32) (c : Nat) (b b' : Nat → Int32), (∀ i, i < 20 → b i = b' i) → ∀ i, i < 20 → nts c b l i = nts c b' l i := by
  intro l
  induction l with
  | nil => intro c b b' h i hi; exact h i hi
  | cons z zs ih =>
    intro c b b' h i hi
    apply ih (c + 1) _ _ _ i hi
    intro j hj
    unfold nt
    by_cases hc : c < 20
    · rw [if_pos hc, if_pos hc]
      by_cases e : j = c
      · subst e; rw [upd_at, upd_at]
      · rw [upd_ne e, upd_ne e, h j hj]
    · rw [if_neg hc, if_neg hc, h j hj]
theorem note_is {c : Nat} (hc : c < 1000) (b : Nat → Int32) (z : Int32) : f_X0_note (nI c) b z = some (nI (c + 1), nt c b z) := by
  unfold f_X0_note nt
  by_cases h : c < 20
  · rw [if_neg (by rw [n_leT, n_toInt (by omega)]; show ¬ (20 : Int) ≤ c; omega), n_gd h (by omega), n_cl (by omega), n_s, if_pos h]
  · rw [if_pos (by rw [n_leT, n_toInt (by omega)]; show (20 : Int) ≤ c; omega), n_s, if_neg h]
theorem ran_is {c : Nat} (hc : c < 1000) (b : Nat → Int32) (z : Int32) : f_X8_ran (nI c) b z = some (nI (c + 1), nt c b z) := by
  unfold f_X8_ran nt
  by_cases h : c < 20
  · rw [if_neg (by rw [n_leT, n_toInt (by omega)]; show ¬ (20 : Int) ≤ c; omega), n_gd h (by omega), n_cl (by omega), n_s, if_pos h]
  · rw [if_pos (by rw [n_leT, n_toInt (by omega)]; show (20 : Int) ≤ c; omega), n_s, if_neg h]
/-- digs, casts, tells: what they come to, and which bodies run -/
def dg (P v : Int32) : Nat → Int32 → Int32
  | 2, x => x * (3 : Int32) + P
  | 4, x => -(x + P)
  | 5, x => x * (3 : Int32) + P
  | 6, x => (x + P) ^^^ v
  | _, x => x + P
def dl : Nat → List Int32
  | 2 => [30, 10]
  | 4 => [50, 10]
  | 5 => [30, 10]
  | 6 => [71, 10]
  | _ => [10]
def cb (P v : Int32) (K : Nat) (x : Int32) : Int32 := dg P v K x - v
def cbl (K : Nat) : List Int32 := 11 :: dl K
def cs (P v : Int32) (K : Nat) : Nat → Int32 → Int32
  | 1, x => cb P v K x ^^^ (6 : Int32)
  | 4, x => cb P v K (x + (1 : Int32)) ^^^ (6 : Int32)
  | 6, x => cb P v K x + dg P v 3 (2 : Int32)
  | _, x => cb P v K x
def cl (K : Nat) : Nat → List Int32
  | 1 => 20 :: cbl K
  | 4 => 51 :: 20 :: cbl K
  | 6 => 70 :: (cbl K ++ dl 3)
  | _ => cbl K
def tb (P v : Int32) (K : Nat) (x : Int32) : Int32 := cs P v K K x * (2 : Int32)
def tbl (K : Nat) : List Int32 := 12 :: cl K K
def tl (P v : Int32) (K : Nat) : Nat → Int32 → Int32
  | 3, x => tb P v K x + cs P v K K (1 : Int32)
  | 5, x => tb P v K (x - P)
  | 6, x => tb P v K x + cs P v K K (1 : Int32)
  | _, x => tb P v K x
def tll (K : Nat) : Nat → List Int32
  | 3 => 40 :: (tbl K ++ cl K K)
  | 5 => 60 :: tbl K
  | 6 => 40 :: (tbl K ++ cl K K)
  | _ => tbl K
theorem bd_00 : f_X0_bodyFor (0 : Int32) (0 : Int32) = some 10 := by decide +kernel
theorem bd_01 : f_X0_bodyFor (0 : Int32) (1 : Int32) = some 10 := by decide +kernel
theorem bd_02 : f_X0_bodyFor (0 : Int32) (2 : Int32) = some 30 := by decide +kernel
theorem bd_03 : f_X0_bodyFor (0 : Int32) (3 : Int32) = some 10 := by decide +kernel
theorem bd_04 : f_X0_bodyFor (0 : Int32) (4 : Int32) = some 50 := by decide +kernel
theorem bd_05 : f_X0_bodyFor (0 : Int32) (5 : Int32) = some 30 := by decide +kernel
theorem bd_06 : f_X0_bodyFor (0 : Int32) (6 : Int32) = some 71 := by decide +kernel
theorem bd_10 : f_X0_bodyFor (1 : Int32) (0 : Int32) = some 11 := by decide +kernel
theorem bd_11 : f_X0_bodyFor (1 : Int32) (1 : Int32) = some 20 := by decide +kernel
theorem bd_12 : f_X0_bodyFor (1 : Int32) (2 : Int32) = some 11 := by decide +kernel
theorem bd_13 : f_X0_bodyFor (1 : Int32) (3 : Int32) = some 11 := by decide +kernel
theorem bd_14 : f_X0_bodyFor (1 : Int32) (4 : Int32) = some 51 := by decide +kernel
theorem bd_15 : f_X0_bodyFor (1 : Int32) (5 : Int32) = some 11 := by decide +kernel
theorem bd_16 : f_X0_bodyFor (1 : Int32) (6 : Int32) = some 70 := by decide +kernel
theorem bd_20 : f_X0_bodyFor (2 : Int32) (0 : Int32) = some 12 := by decide +kernel
theorem bd_21 : f_X0_bodyFor (2 : Int32) (1 : Int32) = some 12 := by decide +kernel
theorem bd_22 : f_X0_bodyFor (2 : Int32) (2 : Int32) = some 12 := by decide +kernel
theorem bd_23 : f_X0_bodyFor (2 : Int32) (3 : Int32) = some 40 := by decide +kernel
theorem bd_24 : f_X0_bodyFor (2 : Int32) (4 : Int32) = some 12 := by decide +kernel
theorem bd_25 : f_X0_bodyFor (2 : Int32) (5 : Int32) = some 60 := by decide +kernel
theorem bd_26 : f_X0_bodyFor (2 : Int32) (6 : Int32) = some 40 := by decide +kernel
theorem run7_d (P v : Int32) (K : Nat) : ∀ (k : Nat), k < 7 → ∀ (dep c e : Nat) (b : Nat → Int32) (x : Int32), c < 900 → e ≤ 18 → f_X0_run (dep + 3) (nI c) P (nI K) v b (0 : Int32) (nI k) x (nI e) = some (dg P v k x, nI (c + (dl k).length), nts c b (dl k)) := by
  have h0 : ∀ (dep c e : Nat) (b : Nat → Int32) (x : Int32), c < 950 → e ≤ 20 → f_X0_run (dep + 1) (nI c) P (nI K) v b (0 : Int32) (nI 0) x (nI e) = some (x + P, nI (c + 1), nt c b 10) := by
    intro dep c e b x hc he
    unfold f_X0_run f_X0_run_b
    rw [if_pos (le_yes (c := 20) (by show (e : Int) ≤ 20; omega) (by omega)), show f_X0_bodyFor (0 : Int32) (nI 0) = _ from bd_00, Option.bind_some, note_is (by omega), Option.bind_some]
    dsimp only [nm]
    rw [if_pos rfl]
  have h1 : ∀ (dep c e : Nat) (b : Nat → Int32) (x : Int32), c < 950 → e ≤ 20 → f_X0_run (dep + 1) (nI c) P (nI K) v b (0 : Int32) (nI 1) x (nI e) = some (x + P, nI (c + 1), nt c b 10) := by
    intro dep c e b x hc he
    unfold f_X0_run f_X0_run_b
    rw [if_pos (le_yes (c := 20) (by show (e : Int) ≤ 20; omega) (by omega)), show f_X0_bodyFor (0 : Int32) (nI 1) = _ from bd_01, Option.bind_some, note_is (by omega), Option.bind_some]
    dsimp only [nm]
    rw [if_pos rfl]
  have h3 : ∀ (dep c e : Nat) (b : Nat → Int32) (x : Int32), c < 950 → e ≤ 20 → f_X0_run (dep + 1) (nI c) P (nI K) v b (0 : Int32) (nI 3) x (nI e) = some (x + P, nI (c + 1), nt c b 10) := by
    intro dep c e b x hc he
    unfold f_X0_run f_X0_run_b
    rw [if_pos (le_yes (c := 20) (by show (e : Int) ≤ 20; omega) (by omega)), show f_X0_bodyFor (0 : Int32) (nI 3) = _ from bd_03, Option.bind_some, note_is (by omega), Option.bind_some]
    dsimp only [nm]
    rw [if_pos rfl]
  intro k hk dep c e b x hc he
  have h7 : k = 0 ∨ k = 1 ∨ k = 2 ∨ k = 3 ∨ k = 4 ∨ k = 5 ∨ k = 6 := by omega
  rcases h7 with rfl | rfl | rfl | rfl | rfl | rfl | rfl
  · exact h0 (dep + 2) c e b x (by omega) (by omega)
  · exact h1 (dep + 2) c e b x (by omega) (by omega)
  · unfold f_X0_run f_X0_run_b
    rw [if_pos (le_yes (c := 20) (by show (e : Int) ≤ 20; omega) (by omega)), show f_X0_bodyFor (0 : Int32) (nI 2) = _ from bd_02, Option.bind_some, note_is (by omega), Option.bind_some]
    dsimp only [nm]
    rw [if_neg (by decide), if_neg (by decide), if_neg (by decide), if_neg (by decide), if_pos rfl, n_s, show f_X0_run (dep + 2) (nI (c + 1)) P (nI K) v (nt c b 30) (0 : Int32) 0 (x * (3 : Int32)) (nI (e + 1)) = _ from h0 (dep + 1) (c + 1) (e + 1) _ (x * (3 : Int32)) (by omega) (by omega), Option.bind_some]
    rfl
  · exact h3 (dep + 2) c e b x (by omega) (by omega)
  · unfold f_X0_run f_X0_run_b
    rw [if_pos (le_yes (c := 20) (by show (e : Int) ≤ 20; omega) (by omega)), show f_X0_bodyFor (0 : Int32) (nI 4) = _ from bd_04, Option.bind_some, note_is (by omega), Option.bind_some]
    dsimp only [nm]
    rw [if_neg (by decide), if_neg (by decide), if_neg (by decide), if_neg (by decide), if_neg (by decide), if_neg (by decide), if_pos rfl, n_s, show f_X0_run (dep + 2) (nI (c + 1)) P (nI K) v (nt c b 50) (0 : Int32) 1 x (nI (e + 1)) = _ from h1 (dep + 1) (c + 1) (e + 1) _ x (by omega) (by omega), Option.bind_some]
    rfl
  · unfold f_X0_run f_X0_run_b
    rw [if_pos (le_yes (c := 20) (by show (e : Int) ≤ 20; omega) (by omega)), show f_X0_bodyFor (0 : Int32) (nI 5) = _ from bd_05, Option.bind_some, note_is (by omega), Option.bind_some]
    dsimp only [nm]
    rw [if_neg (by decide), if_neg (by decide), if_neg (by decide), if_neg (by decide), if_pos rfl, n_s, show f_X0_run (dep + 2) (nI (c + 1)) P (nI K) v (nt c b 30) (0 : Int32) 0 (x * (3 : Int32)) (nI (e + 1)) = _ from h0 (dep + 1) (c + 1) (e + 1) _ (x * (3 : Int32)) (by omega) (by omega), Option.bind_some]
    rfl
  · unfold f_X0_run f_X0_run_b
    rw [if_pos (le_yes (c := 20) (by show (e : Int) ≤ 20; omega) (by omega)), show f_X0_bodyFor (0 : Int32) (nI 6) = _ from bd_06, Option.bind_some, note_is (by omega), Option.bind_some]
    dsimp only [nm]
    rw [if_neg (by decide), if_neg (by decide), if_neg (by decide), if_neg (by decide), if_neg (by decide), if_neg (by decide), if_neg (by decide), if_neg (by decide), if_neg (by decide), if_neg (by decide), if_pos rfl, n_s, show f_X0_run (dep + 2) (nI (c + 1)) P (nI K) v (nt c b 71) (0 : Int32) 3 x (nI (e + 1)) = _ from h3 (dep + 1) (c + 1) (e + 1) _ x (by omega) (by omega), Option.bind_some]
    rfl
theorem run7_c (P v : Int32) {K : Nat} (hK : K < 7) : ∀ (k : Nat), k < 7 → ∀ (dep c e : Nat) (b : Nat → Int32) (x : Int32), c < 800 → e ≤ 14 → f_X0_run (dep + 8) (nI c) P (nI K) v b (1 : Int32) (nI k) x (nI e) = some (cs P v K k x, nI (c + (cl K k).length), nts c b (cl K k)) := by
  have hdl : ∀ k, (dl k).length ≤ 2 := by intro k; unfold dl; split <;> decide
  have hcb : (cbl K).length ≤ 3 := by have := hdl K; show (dl K).length + 1 ≤ 3; omega
  have h0 : ∀ (dep c e : Nat) (b : Nat → Int32) (x : Int32), c < 850 → e ≤ 17 → f_X0_run (dep + 4) (nI c) P (nI K) v b (1 : Int32) (nI 0) x (nI e) = some (cb P v K x, nI (c + (cbl K).length), nts c b (cbl K)) := by
    intro dep c e b x hc he
    unfold f_X0_run f_X0_run_b
    rw [if_pos (le_yes (c := 20) (by show (e : Int) ≤ 20; omega) (by omega)), show f_X0_bodyFor (1 : Int32) (nI 0) = _ from bd_10, Option.bind_some, note_is (by omega), Option.bind_some]
    dsimp only [nm]
    rw [if_neg (by decide), if_pos rfl, n_s, run7_d P v K K hK dep (c + 1) (e + 1) _ x (by omega) (by omega), Option.bind_some]
    show some (dg P v K x - v, nI (c + 1 + (dl K).length), nts (c + 1) (nt c b 11) (dl K)) = some (dg P v K x - v, nI (c + ((dl K).length + 1)), nts (c + 1) (nt c b 11) (dl K))
    rw [show c + 1 + (dl K).length = c + ((dl K).length + 1) by omega]
  have h2 : ∀ (dep c e : Nat) (b : Nat → Int32) (x : Int32), c < 850 → e ≤ 17 → f_X0_run (dep + 4) (nI c) P (nI K) v b (1 : Int32) (nI 2) x (nI e) = some (cb P v K x, nI (c + (cbl K).length), nts c b (cbl K)) := by
    intro dep c e b x hc he
    unfold f_X0_run f_X0_run_b
    rw [if_pos (le_yes (c := 20) (by show (e : Int) ≤ 20; omega) (by omega)), show f_X0_bodyFor (1 : Int32) (nI 2) = _ from bd_12, Option.bind_some, note_is (by omega), Option.bind_some]
    dsimp only [nm]
    rw [if_neg (by decide), if_pos rfl, n_s, run7_d P v K K hK dep (c + 1) (e + 1) _ x (by omega) (by omega), Option.bind_some]
    show some (dg P v K x - v, nI (c + 1 + (dl K).length), nts (c + 1) (nt c b 11) (dl K)) = some (dg P v K x - v, nI (c + ((dl K).length + 1)), nts (c + 1) (nt c b 11) (dl K))
    rw [show c + 1 + (dl K).length = c + ((dl K).length + 1) by omega]
  have h3 : ∀ (dep c e : Nat) (b : Nat → Int32) (x : Int32), c < 850 → e ≤ 17 → f_X0_run (dep + 4) (nI c) P (nI K) v b (1 : Int32) (nI 3) x (nI e) = some (cb P v K x, nI (c + (cbl K).length), nts c b (cbl K)) := by
    intro dep c e b x hc he
    unfold f_X0_run f_X0_run_b
    rw [if_pos (le_yes (c := 20) (by show (e : Int) ≤ 20; omega) (by omega)), show f_X0_bodyFor (1 : Int32) (nI 3) = _ from bd_13, Option.bind_some, note_is (by omega), Option.bind_some]
    dsimp only [nm]
    rw [if_neg (by decide), if_pos rfl, n_s, run7_d P v K K hK dep (c + 1) (e + 1) _ x (by omega) (by omega), Option.bind_some]
    show some (dg P v K x - v, nI (c + 1 + (dl K).length), nts (c + 1) (nt c b 11) (dl K)) = some (dg P v K x - v, nI (c + ((dl K).length + 1)), nts (c + 1) (nt c b 11) (dl K))
    rw [show c + 1 + (dl K).length = c + ((dl K).length + 1) by omega]
  have h5 : ∀ (dep c e : Nat) (b : Nat → Int32) (x : Int32), c < 850 → e ≤ 17 → f_X0_run (dep + 4) (nI c) P (nI K) v b (1 : Int32) (nI 5) x (nI e) = some (cb P v K x, nI (c + (cbl K).length), nts c b (cbl K)) := by
    intro dep c e b x hc he
    unfold f_X0_run f_X0_run_b
    rw [if_pos (le_yes (c := 20) (by show (e : Int) ≤ 20; omega) (by omega)), show f_X0_bodyFor (1 : Int32) (nI 5) = _ from bd_15, Option.bind_some, note_is (by omega), Option.bind_some]
    dsimp only [nm]
    rw [if_neg (by decide), if_pos rfl, n_s, run7_d P v K K hK dep (c + 1) (e + 1) _ x (by omega) (by omega), Option.bind_some]
    show some (dg P v K x - v, nI (c + 1 + (dl K).length), nts (c + 1) (nt c b 11) (dl K)) = some (dg P v K x - v, nI (c + ((dl K).length + 1)), nts (c + 1) (nt c b 11) (dl K))
    rw [show c + 1 + (dl K).length = c + ((dl K).length + 1) by omega]
  have h1 : ∀ (dep c e : Nat) (b : Nat → Int32) (x : Int32), c < 840 → e ≤ 16 → f_X0_run (dep + 5) (nI c) P (nI K) v b (1 : Int32) (nI 1) x (nI e) = some (cb P v K x ^^^ (6 : Int32), nI (c + (20 :: cbl K).length), nts c b (20 :: cbl K)) := by
    intro dep c e b x hc he
    unfold f_X0_run f_X0_run_b
    rw [if_pos (le_yes (c := 20) (by show (e : Int) ≤ 20; omega) (by omega)), show f_X0_bodyFor (1 : Int32) (nI 1) = _ from bd_11, Option.bind_some, note_is (by omega), Option.bind_some]
    dsimp only [nm]
    rw [if_neg (by decide), if_neg (by decide), if_neg (by decide), if_pos rfl, n_s, show f_X0_run (dep + 4) (nI (c + 1)) P (nI K) v (nt c b 20) (1 : Int32) 0 x (nI (e + 1)) = _ from h0 dep (c + 1) (e + 1) _ x (by omega) (by omega), Option.bind_some]
    show some (cb P v K x ^^^ (6 : Int32), nI (c + 1 + (cbl K).length), nts (c + 1) (nt c b 20) (cbl K)) = some (cb P v K x ^^^ (6 : Int32), nI (c + ((cbl K).length + 1)), nts (c + 1) (nt c b 20) (cbl K))
    rw [show c + 1 + (cbl K).length = c + ((cbl K).length + 1) by omega]
  intro k hk dep c e b x hc he
  have h7 : k = 0 ∨ k = 1 ∨ k = 2 ∨ k = 3 ∨ k = 4 ∨ k = 5 ∨ k = 6 := by omega
  rcases h7 with rfl | rfl | rfl | rfl | rfl | rfl | rfl
  · exact h0 (dep + 4) c e b x (by omega) (by omega)
  · exact h1 (dep + 3) c e b x (by omega) (by omega)
  · exact h2 (dep + 4) c e b x (by omega) (by omega)
  · exact h3 (dep + 4) c e b x (by omega) (by omega)
  · unfold f_X0_run f_X0_run_b
    rw [if_pos (le_yes (c := 20) (by show (e : Int) ≤ 20; omega) (by omega)), show f_X0_bodyFor (1 : Int32) (nI 4) = _ from bd_14, Option.bind_some, note_is (by omega), Option.bind_some]
    dsimp only [nm]
    rw [if_neg (by decide), if_neg (by decide), if_neg (by decide), if_neg (by decide), if_neg (by decide), if_neg (by decide), if_neg (by decide), if_pos rfl, n_s, show f_X0_run (dep + 7) (nI (c + 1)) P (nI K) v (nt c b 51) (1 : Int32) 1 (x + (1 : Int32)) (nI (e + 1)) = _ from h1 (dep + 2) (c + 1) (e + 1) _ (x + (1 : Int32)) (by omega) (by omega), Option.bind_some]
    show some (cb P v K (x + (1 : Int32)) ^^^ (6 : Int32), nI (c + 1 + (20 :: cbl K).length), nts (c + 1) (nt c b 51) (20 :: cbl K)) = some (cb P v K (x + (1 : Int32)) ^^^ (6 : Int32), nI (c + ((20 :: cbl K).length + 1)), nts (c + 1) (nt c b 51) (20 :: cbl K))
    rw [show c + 1 + (20 :: cbl K).length = c + ((20 :: cbl K).length + 1) by omega]
  · exact h5 (dep + 4) c e b x (by omega) (by omega)
  · unfold f_X0_run f_X0_run_b
    rw [if_pos (le_yes (c := 20) (by show (e : Int) ≤ 20; omega) (by omega)), show f_X0_bodyFor (1 : Int32) (nI 6) = _ from bd_16, Option.bind_some, note_is (by omega), Option.bind_some]
    dsimp only [nm]
    rw [if_neg (by decide), if_neg (by decide), if_neg (by decide), if_neg (by decide), if_neg (by decide), if_neg (by decide), if_neg (by decide), if_neg (by decide), if_neg (by decide), if_pos rfl, n_s, show f_X0_run (dep + 7) (nI (c + 1)) P (nI K) v (nt c b 70) (1 : Int32) 3 x (nI (e + 1)) = _ from h3 (dep + 3) (c + 1) (e + 1) _ x (by omega) (by omega), Option.bind_some]
    dsimp only
    rw [show f_X0_run (dep + 7) (nI (c + 1 + (cbl K).length)) P (nI K) v (nts (c + 1) (nt c b 70) (cbl K)) (0 : Int32) 3 (2 : Int32) (nI (e + 1)) = _ from run7_d P v K 3 (by omega) (dep + 4) (c + 1 + (cbl K).length) (e + 1) _ 2 (by omega) (by omega), Option.bind_some]
    show some (cb P v K x + dg P v 3 2, nI (c + 1 + (cbl K).length + (dl 3).length), nts (c + 1 + (cbl K).length) (nts (c + 1) (nt c b 70) (cbl K)) (dl 3)) = some (cb P v K x + dg P v 3 2, nI (c + ((cbl K ++ dl 3).length + 1)), nts (c + 1) (nt c b 70) (cbl K ++ dl 3))
    rw [nts_app, List.length_append, show c + 1 + (cbl K).length + (dl 3).length = c + ((cbl K).length + (dl 3).length + 1) by omega]
theorem cl_len (K k : Nat) : (cl K k).length ≤ 5 := by
  have hdl : ∀ k, (dl k).length ≤ 2 := by intro k; unfold dl; split <;> decide
  have h := hdl K
  unfold cl cbl
  split <;> simp only [List.length_cons, List.length_append, show (dl 3).length = 1 from rfl] <;> omega
theorem run7_t (P v : Int32) {K : Nat} (hK : K < 7) : ∀ (k : Nat), k < 7 → ∀ (dep c e : Nat) (b : Nat → Int32) (x : Int32), c < 700 → e ≤ 10 → f_X0_run (dep + 12) (nI c) P (nI K) v b (2 : Int32) (nI k) x (nI e) = some (tl P v K k x, nI (c + (tll K k).length), nts c b (tll K k)) := by
  have hcl := cl_len K K
  have htb : (tbl K).length ≤ 6 := by show (cl K K).length + 1 ≤ 6; omega
  have h0 : ∀ (dep c e : Nat) (b : Nat → Int32) (x : Int32), c < 750 → e ≤ 13 → f_X0_run (dep + 9) (nI c) P (nI K) v b (2 : Int32) (nI 0) x (nI e) = some (tb P v K x, nI (c + (tbl K).length), nts c b (tbl K)) := by
    intro dep c e b x hc he
    unfold f_X0_run f_X0_run_b
    rw [if_pos (le_yes (c := 20) (by show (e : Int) ≤ 20; omega) (by omega)), show f_X0_bodyFor (2 : Int32) (nI 0) = _ from bd_20, Option.bind_some, note_is (by omega), Option.bind_some]
    dsimp only [nm]
    rw [if_neg (by decide), if_neg (by decide), if_pos rfl, n_s, run7_c P v hK K hK dep (c + 1) (e + 1) _ x (by omega) (by omega), Option.bind_some]
    show some (cs P v K K x * (2 : Int32), nI (c + 1 + (cl K K).length), nts (c + 1) (nt c b 12) (cl K K)) = some (cs P v K K x * (2 : Int32), nI (c + ((cl K K).length + 1)), nts (c + 1) (nt c b 12) (cl K K))
    rw [show c + 1 + (cl K K).length = c + ((cl K K).length + 1) by omega]
  have h1 : ∀ (dep c e : Nat) (b : Nat → Int32) (x : Int32), c < 750 → e ≤ 13 → f_X0_run (dep + 9) (nI c) P (nI K) v b (2 : Int32) (nI 1) x (nI e) = some (tb P v K x, nI (c + (tbl K).length), nts c b (tbl K)) := by
    intro dep c e b x hc he
    unfold f_X0_run f_X0_run_b
    rw [if_pos (le_yes (c := 20) (by show (e : Int) ≤ 20; omega) (by omega)), show f_X0_bodyFor (2 : Int32) (nI 1) = _ from bd_21, Option.bind_some, note_is (by omega), Option.bind_some]
    dsimp only [nm]
    rw [if_neg (by decide), if_neg (by decide), if_pos rfl, n_s, run7_c P v hK K hK dep (c + 1) (e + 1) _ x (by omega) (by omega), Option.bind_some]
    show some (cs P v K K x * (2 : Int32), nI (c + 1 + (cl K K).length), nts (c + 1) (nt c b 12) (cl K K)) = some (cs P v K K x * (2 : Int32), nI (c + ((cl K K).length + 1)), nts (c + 1) (nt c b 12) (cl K K))
    rw [show c + 1 + (cl K K).length = c + ((cl K K).length + 1) by omega]
  have h2 : ∀ (dep c e : Nat) (b : Nat → Int32) (x : Int32), c < 750 → e ≤ 13 → f_X0_run (dep + 9) (nI c) P (nI K) v b (2 : Int32) (nI 2) x (nI e) = some (tb P v K x, nI (c + (tbl K).length), nts c b (tbl K)) := by
    intro dep c e b x hc he
    unfold f_X0_run f_X0_run_b
    rw [if_pos (le_yes (c := 20) (by show (e : Int) ≤ 20; omega) (by omega)), show f_X0_bodyFor (2 : Int32) (nI 2) = _ from bd_22, Option.bind_some, note_is (by omega), Option.bind_some]
    dsimp only [nm]
    rw [if_neg (by decide), if_neg (by decide), if_pos rfl, n_s, run7_c P v hK K hK dep (c + 1) (e + 1) _ x (by omega) (by omega), Option.bind_some]
    show some (cs P v K K x * (2 : Int32), nI (c + 1 + (cl K K).length), nts (c + 1) (nt c b 12) (cl K K)) = some (cs P v K K x * (2 : Int32), nI (c + ((cl K K).length + 1)), nts (c + 1) (nt c b 12) (cl K K))
    rw [show c + 1 + (cl K K).length = c + ((cl K K).length + 1) by omega]
  have h4 : ∀ (dep c e : Nat) (b : Nat → Int32) (x : Int32), c < 750 → e ≤ 13 → f_X0_run (dep + 9) (nI c) P (nI K) v b (2 : Int32) (nI 4) x (nI e) = some (tb P v K x, nI (c + (tbl K).length), nts c b (tbl K)) := by
    intro dep c e b x hc he
    unfold f_X0_run f_X0_run_b
    rw [if_pos (le_yes (c := 20) (by show (e : Int) ≤ 20; omega) (by omega)), show f_X0_bodyFor (2 : Int32) (nI 4) = _ from bd_24, Option.bind_some, note_is (by omega), Option.bind_some]
    dsimp only [nm]
    rw [if_neg (by decide), if_neg (by decide), if_pos rfl, n_s, run7_c P v hK K hK dep (c + 1) (e + 1) _ x (by omega) (by omega), Option.bind_some]
    show some (cs P v K K x * (2 : Int32), nI (c + 1 + (cl K K).length), nts (c + 1) (nt c b 12) (cl K K)) = some (cs P v K K x * (2 : Int32), nI (c + ((cl K K).length + 1)), nts (c + 1) (nt c b 12) (cl K K))
    rw [show c + 1 + (cl K K).length = c + ((cl K K).length + 1) by omega]
  intro k hk dep c e b x hc he
  have h7 : k = 0 ∨ k = 1 ∨ k = 2 ∨ k = 3 ∨ k = 4 ∨ k = 5 ∨ k = 6 := by omega
  rcases h7 with rfl | rfl | rfl | rfl | rfl | rfl | rfl
  · exact h0 (dep + 3) c e b x (by omega) (by omega)
  · exact h1 (dep + 3) c e b x (by omega) (by omega)
  · exact h2 (dep + 3) c e b x (by omega) (by omega)
  · unfold f_X0_run f_X0_run_b
    rw [if_pos (le_yes (c := 20) (by show (e : Int) ≤ 20; omega) (by omega)), show f_X0_bodyFor (2 : Int32) (nI 3) = _ from bd_23, Option.bind_some, note_is (by omega), Option.bind_some]
    dsimp only [nm]
    rw [if_neg (by decide), if_neg (by decide), if_neg (by decide), if_neg (by decide), if_neg (by decide), if_pos rfl, n_s, show f_X0_run (dep + 11) (nI (c + 1)) P (nI K) v (nt c b 40) (2 : Int32) 0 x (nI (e + 1)) = _ from h0 (dep + 2) (c + 1) (e + 1) _ x (by omega) (by omega), Option.bind_some]
    dsimp only
    rw [run7_c P v hK K hK (dep + 3) (c + 1 + (tbl K).length) (e + 1) _ 1 (by omega) (by omega), Option.bind_some]
    show some (tb P v K x + cs P v K K 1, nI (c + 1 + (tbl K).length + (cl K K).length), nts (c + 1 + (tbl K).length) (nts (c + 1) (nt c b 40) (tbl K)) (cl K K)) = some (tb P v K x + cs P v K K 1, nI (c + ((tbl K ++ cl K K).length + 1)), nts (c + 1) (nt c b 40) (tbl K ++ cl K K))
    rw [nts_app, List.length_append, show c + 1 + (tbl K).length + (cl K K).length = c + ((tbl K).length + (cl K K).length + 1) by omega]
  · exact h4 (dep + 3) c e b x (by omega) (by omega)
  · unfold f_X0_run f_X0_run_b
    rw [if_pos (le_yes (c := 20) (by show (e : Int) ≤ 20; omega) (by omega)), show f_X0_bodyFor (2 : Int32) (nI 5) = _ from bd_25, Option.bind_some, note_is (by omega), Option.bind_some]
    dsimp only [nm]
    rw [if_neg (by decide), if_neg (by decide), if_neg (by decide), if_neg (by decide), if_neg (by decide), if_neg (by decide), if_neg (by decide), if_neg (by decide), if_pos rfl, n_s, show f_X0_run (dep + 11) (nI (c + 1)) P (nI K) v (nt c b 60) (2 : Int32) 2 (x - P) (nI (e + 1)) = _ from h2 (dep + 2) (c + 1) (e + 1) _ (x - P) (by omega) (by omega), Option.bind_some]
    show some (tb P v K (x - P), nI (c + 1 + (tbl K).length), nts (c + 1) (nt c b 60) (tbl K)) = some (tb P v K (x - P), nI (c + ((tbl K).length + 1)), nts (c + 1) (nt c b 60) (tbl K))
    rw [show c + 1 + (tbl K).length = c + ((tbl K).length + 1) by omega]
  · unfold f_X0_run f_X0_run_b
    rw [if_pos (le_yes (c := 20) (by show (e : Int) ≤ 20; omega) (by omega)), show f_X0_bodyFor (2 : Int32) (nI 6) = _ from bd_26, Option.bind_some, note_is (by omega), Option.bind_some]
    dsimp only [nm]
    rw [if_neg (by decide), if_neg (by decide), if_neg (by decide), if_neg (by decide), if_neg (by decide), if_pos rfl, n_s, show f_X0_run (dep + 11) (nI (c + 1)) P (nI K) v (nt c b 40) (2 : Int32) 0 x (nI (e + 1)) = _ from h0 (dep + 2) (c + 1) (e + 1) _ x (by omega) (by omega), Option.bind_some]
    dsimp only
    rw [run7_c P v hK K hK (dep + 3) (c + 1 + (tbl K).length) (e + 1) _ 1 (by omega) (by omega), Option.bind_some]
    show some (tb P v K x + cs P v K K 1, nI (c + 1 + (tbl K).length + (cl K K).length), nts (c + 1 + (tbl K).length) (nts (c + 1) (nt c b 40) (tbl K)) (cl K K)) = some (tb P v K x + cs P v K K 1, nI (c + ((tbl K ++ cl K K).length + 1)), nts (c + 1) (nt c b 40) (tbl K ++ cl K K))
    rw [nts_app, List.length_append, show c + 1 + (tbl K).length + (cl K K).length = c + ((tbl K).length + (cl K K).length + 1) by omega]
