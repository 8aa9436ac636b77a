-- the held parish, of both sides
theorem PM.none (clauses word number begins length code : Nat → Int32) : PM k_z 30 (-1) clauses word number begins length code := by
  refine ⟨?_, fun p q d ki v ha stack hp hq hd => ⟨stack, ?_⟩⟩
  · unfold f_X8_need
    show f_X8_need_5_b _ _ _ _ _ _ _ = _
    unfold f_X8_need_5_b
    rw [if_pos rfl]
  · unfold f_X8_sum
    rw [n_mulL, n_gd (by omega) (by omega), n_cl (by omega)]
    dsimp only [nm]
    show f_X8_sum_16_b _ _ _ _ _ _ _ _ _ _ _ _ _ _ _ _ _ = _
    unfold f_X8_sum_16_b
    rw [if_pos rfl]
    show some (ha (6 * p + q), stack) = some (ha (6 * p + q) + 0, stack)
    rw [Int32.add_zero]
theorem held {pa : Nat → Nat} {cnt nh : Nat} {w : Nat → (Nat → Int32) → Int32} {nd : Nat → Int32} {σ : Nat → Int32} {φ : Nat → Nat → Int32} {μ : Nat → Int32} {α : Nat → Nat → Int32} (hH : HR pa cnt nh (μ 16)) (hP : IPar cnt w nd σ φ μ α) : ∃ k W N, k < 7 ∧ nh = pa k ∧ PC W N (σ (39 + 2 * k)) (σ (40 + 2 * k)) (φ (33 + 2 * k)) (φ (34 + 2 * k)) ∧ PM W N (μ 16) (α 17) (α 18) (α 19) (α 20) (α 21) (α 22) := by
  obtain ⟨⟨-, -, -, cd, -, -, hp⟩, h6, hk⟩ := hP
  rcases hH with ⟨e, h⟩ | ⟨k, h1, h2, e, h⟩
  · rw [h]
    exact ⟨6, k_z, 30, by omega, e, h6, PM.none _ _ _ _ _ _⟩
  · rw [h]
    exact ⟨k, w k, nd k, by omega, e, hk k h1, hp k h1 _ _ _ _ _ _ (fun _ _ => rfl) (fun _ _ => ⟨rfl, rfl, rfl, rfl⟩) (fun _ _ => rfl)⟩
theorem r_2 {d : Nat} (h : d < 2 ^ 31) : nI d - nI d / (2 : Int32) * (2 : Int32) = nI (d % 2) := pk_rem (d := 2) h (by omega) (by omega)
theorem r_4 {d : Nat} (h : d < 2 ^ 31) : nI d - nI d / (4 : Int32) * (4 : Int32) = nI (d % 4) := pk_rem (d := 4) h (by omega) (by omega)
theorem x_xor (a b : Nat) : nI a ^^^ nI b = nI (a ^^^ b) := by
  apply Int32.toBitVec_inj.mp
  exact BitVec.ofNat_xor.symm
theorem fm_4 {d : Nat} (h : d < 2 ^ 31) : f_J9_floorMod_7cf53 (nI d) (4 : Int32) = some (nI (d % 4)) := by
  unfold f_J9_floorMod_7cf53 gz
  rw [if_neg (by decide : ¬ (4 : Int32) = 0)]
  dsimp only [nm]
  rw [r_4 h, if_pos]
  rw [show (4 : Int32) = nI 4 from rfl, x_xor]
  exact n_nneg (Nat.xor_lt_two_pow h (by omega))
/-- the spite of p against q on day d, of a sum X -/
def spv (X : Int32) (k p q d : Nat) (v row : Int32) : Int32 :=
  if k = 1 then X - (nI d - nI d / (7 : Int32) * (7 : Int32)) else if k = 2 then (if d % 2 = 0 then X else X / 2) else if k = 3 then X + v else if k = 4 then (X - (nI d - nI d / (7 : Int32) * (7 : Int32))) - (2 : Int32) * v else if k = 5 then (if q ≤ p then (if d % 2 = 0 then X else X / 2) else (if d % 2 = 0 then X else X / 2) + 20) else if k = 6 then X + v + row else X
theorem spite_eq {W : (Nat → Int32) → Int32} {N len need : Int32} {steps numbers : Nat → Int32} {holds : Int32} {clauses word number begins length code : Nat → Int32} (hC : PC W N len need steps numbers) (hM : PM W N holds clauses word number begins length code) {bd n dd : Nat} {pe da de bu pe' da' : Int32} {ki vs th ha ro ki' vs' de' bu' th' ro' ha' : Nat → Int32} (hV : VR bd n dd pe da de bu ki vs th ha ro pe' da' ki' vs' de' bu' th' ro' ha') {p q d : Nat} (hp : p < n) (hq : q < n) (hd : d ≤ 20000) : ∃ r, ∀ fa stack : Nat → Int32, ∃ fa2 st2, f_X6_spite (nI n) ki fa len steps numbers ro (nI p) (nI q) (nI d) (ha' (6 * p + q)) (vs' p) = some (r, fa2) ∧ f_X8_spite holds ha' clauses word begins length stack code ki' vs' number ro' (nI p) (nI q) (nI d) = some (r, st2) := by
  obtain ⟨⟨hn, -⟩, h1, -, ⟨h3, -⟩, -⟩ := hV
  obtain ⟨x1, -, -, ⟨k, hk, x4⟩, -⟩ := h1 p hp
  refine ⟨spv (ha' (6 * p + q) + W (k_fa p q ki' vs' ha' d)) k p q d (vs' p) (ro' (4 * p + d % 4)), fun fa stack => ?_⟩
  obtain ⟨st2, hs⟩ := hM.2 p q d ki' vs' ha' stack (by omega) (by omega) hd
  have hw : ∀ fb : Nat → Int32, (∀ j, j < 6 → fb j = k_fa p q ki' vs' ha' d j) → f_X2_weigh len fb steps numbers = some (W (k_fa p q ki' vs' ha' d)) := fun fb h => hC.2 fb _ h
  unfold f_X6_spite f_X8_spite
  rw [has_yes hp hn, Option.bind_some, if_neg i_10, hs, Option.bind_some]
  simp only [n_gd (show p < 6 by omega) (by omega : 6 < 2 ^ 31), n_cl (show p < 2 ^ 31 by omega), nm, x1, x4]
  rw [hw _ (fun j hj => by
    have h6 : j = 0 ∨ j = 1 ∨ j = 2 ∨ j = 3 ∨ j = 4 ∨ j = 5 := by omega
    rcases h6 with rfl | rfl | rfl | rfl | rfl | rfl
    · rfl
    · rfl
    · exact x4.symm
    · rfl
    · rfl
    · rfl), Option.bind_some]
  generalize ha' (6 * p + q) + W (k_fa p q ki' vs' ha' d) = X
  generalize (upd (upd (upd (upd (upd (upd fa (0 : Int32).toNatClampNeg (nI p)) (1 : Int32).toNatClampNeg (nI q)) (2 : Int32).toNatClampNeg (nI k)) (3 : Int32).toNatClampNeg (vs' p)) (4 : Int32).toNatClampNeg (ha' (6 * p + q) / (10 : Int32))) (5 : Int32).toNatClampNeg (nI d - nI d / (10 : Int32) * (10 : Int32))) = fb
  unfold f_X6_spite_100
  simp only [r_2 (show d < 2 ^ 31 by omega), fm_4 (show d < 2 ^ 31 by omega), r_4 (show d < 2 ^ 31 by omega), n_4R, n_4L, n_gd (show 4 * p + d % 4 < 24 by omega) (by omega : 24 < 2 ^ 31), n_cl (show 4 * p + d % 4 < 2 ^ 31 by omega), (h3 p (d % 4) hp (by omega)).1, Option.bind_some, Int32.add_zero]
  have h7 : k = 0 ∨ k = 1 ∨ k = 2 ∨ k = 3 ∨ k = 4 ∨ k = 5 ∨ k = 6 := by omega
  have h2 : d % 2 = 0 ∨ d % 2 = 1 := by omega
  unfold spv
  by_cases hqp : q ≤ p
  · have hqi : nI q ≤ nI p := by rw [n_le (by omega) (by omega)]; exact hqp
    simp only [if_pos hqp, if_pos hqi]
    rcases h2 with h2 | h2 <;> rw [h2] <;> rcases h7 with rfl | rfl | rfl | rfl | rfl | rfl | rfl <;> exact ⟨_, _, rfl, rfl⟩
  · have hqi : ¬ nI q ≤ nI p := by rw [n_le (by omega) (by omega)]; exact hqp
    simp only [if_neg hqp, if_neg hqi]
    rcases h2 with h2 | h2 <;> rw [h2] <;> rcases h7 with rfl | rfl | rfl | rfl | rfl | rfl | rfl <;> exact ⟨_, _, rfl, rfl⟩
