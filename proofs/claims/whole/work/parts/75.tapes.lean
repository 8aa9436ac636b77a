theorem k_t6_lt (i : Nat) : k_t6 i < 6 := by
  unfold k_t6
  split
  · assumption
  · omega
theorem k_t6_of {t : Nat} (h : t < 6) : k_t6 (nI t).toNatClampNeg = t := by
  rw [n_cl (by omega)]
  exact if_pos h
set_option maxRecDepth 20000 in
theorem LX_tape (G : Gx) (xa : Nat) (R : Nat → Nat → Nat) (pa ta : Nat → Nat) (σ : Nat → Int32) (φ : Nat → Nat → Int32) (τ : Nat → Nat → Int64) (nh kh ah : Nat) (l : Launch) (p1 : Int32) (p2 : Int32) (p3 : Int32) (q : Int32 × Int32 × Int32 × (Nat → Int64)) (t : Nat) (ht6 : t < 6) (ht : k_t6 p1.toNatClampNeg = t) (hf : f_X7_tape (σ (53 + 2 * t)) (σ (54 + 2 * t)) (τ t) p1 p2 p3 = some q) : MI G l yX7_tape cX7_tape 4 .int 3 [.ref xa, .int p1, .int p2, .int p3] (XW G xa R pa ta σ φ τ nh kh ah) (XW G xa R pa ta (upd (upd σ (53 + 2 * t) q.2.1) (54 + 2 * t) q.2.2.1) φ (va_up τ t q.2.2.2) nh kh ah) q.1 := by
  have h6 : t = 0 ∨ t = 1 ∨ t = 2 ∨ t = 3 ∨ t = 4 ∨ t = 5 := by omega
  rcases h6 with rfl | rfl | rfl | rfl | rfl | rfl
  · exact L_X_tape_0 G xa R pa ta σ φ τ nh kh ah l p1 p2 p3 q ht hf
  · exact L_X_tape_1 G xa R pa ta σ φ τ nh kh ah l p1 p2 p3 q ht hf
  · exact L_X_tape_2 G xa R pa ta σ φ τ nh kh ah l p1 p2 p3 q ht hf
  · exact L_X_tape_3 G xa R pa ta σ φ τ nh kh ah l p1 p2 p3 q ht hf
  · exact L_X_tape_4 G xa R pa ta σ φ τ nh kh ah l p1 p2 p3 q ht hf
  · exact L_X_tape_5 G xa R pa ta σ φ τ nh kh ah l p1 p2 p3 q ht hf
set_option maxRecDepth 20000 in
theorem LX_item (G : Gx) (xa : Nat) (R : Nat → Nat → Nat) (pa ta : Nat → Nat) (σ : Nat → Int32) (φ : Nat → Nat → Int32) (τ : Nat → Nat → Int64) (nh kh ah : Nat) (l : Launch) (p1 : Int32) (p2 : Int32) (p3 : Int64) (q : Int32 × (Nat → Int64)) (t : Nat) (ht6 : t < 6) (ht : k_t6 p1.toNatClampNeg = t) (hf : f_X7_item (σ (53 + 2 * t)) (σ (54 + 2 * t)) (τ t) p1 p2 p3 = some q) : MI G l yX7_item cX7_item 5 .int 2 [.ref xa, .int p1, .int p2, .long p3] (XW G xa R pa ta σ φ τ nh kh ah) (XW G xa R pa ta σ φ (va_up τ t q.2) nh kh ah) q.1 := by
  have h6 : t = 0 ∨ t = 1 ∨ t = 2 ∨ t = 3 ∨ t = 4 ∨ t = 5 := by omega
  rcases h6 with rfl | rfl | rfl | rfl | rfl | rfl
  · exact L_X_item_0 G xa R pa ta σ φ τ nh kh ah l p1 p2 p3 q ht hf
  · exact L_X_item_1 G xa R pa ta σ φ τ nh kh ah l p1 p2 p3 q ht hf
  · exact L_X_item_2 G xa R pa ta σ φ τ nh kh ah l p1 p2 p3 q ht hf
  · exact L_X_item_3 G xa R pa ta σ φ τ nh kh ah l p1 p2 p3 q ht hf
  · exact L_X_item_4 G xa R pa ta σ φ τ nh kh ah l p1 p2 p3 q ht hf
  · exact L_X_item_5 G xa R pa ta σ φ τ nh kh ah l p1 p2 p3 q ht hf
set_option maxRecDepth 20000 in
theorem LX_read (G : Gx) (xa : Nat) (R : Nat → Nat → Nat) (pa ta : Nat → Nat) (σ : Nat → Int32) (φ : Nat → Nat → Int32) (τ : Nat → Nat → Int64) (nh kh ah : Nat) (l : Launch) (p1 : Int32) (p2 : Int32) (q : Int64) (t : Nat) (ht6 : t < 6) (ht : k_t6 p1.toNatClampNeg = t) (hf : f_X7_read (σ (54 + 2 * t)) (τ t) p1 p2 = some q) : ML G l yX7_read cX7_read 3 .long 2 [.ref xa, .int p1, .int p2] (XW G xa R pa ta σ φ τ nh kh ah) (XW G xa R pa ta σ φ τ nh kh ah) q := by
  have h6 : t = 0 ∨ t = 1 ∨ t = 2 ∨ t = 3 ∨ t = 4 ∨ t = 5 := by omega
  rcases h6 with rfl | rfl | rfl | rfl | rfl | rfl
  · exact L_X_read_0 G xa R pa ta σ φ τ nh kh ah l p1 p2 q ht hf
  · exact L_X_read_1 G xa R pa ta σ φ τ nh kh ah l p1 p2 q ht hf
  · exact L_X_read_2 G xa R pa ta σ φ τ nh kh ah l p1 p2 q ht hf
  · exact L_X_read_3 G xa R pa ta σ φ τ nh kh ah l p1 p2 q ht hf
  · exact L_X_read_4 G xa R pa ta σ φ τ nh kh ah l p1 p2 q ht hf
  · exact L_X_read_5 G xa R pa ta σ φ τ nh kh ah l p1 p2 q ht hf
set_option maxRecDepth 20000 in
theorem LX_judge (G : Gx) (xa : Nat) (R : Nat → Nat → Nat) (pa ta : Nat → Nat) (σ : Nat → Int32) (φ : Nat → Nat → Int32) (τ : Nat → Nat → Int64) (nh kh ah : Nat) (l : Launch) (p1 : Int32) (p2 : Int32) (q : Int32) (t : Nat) (ht6 : t < 6) (ht : k_t6 p1.toNatClampNeg = t) (hf : f_X7_judge (σ (53 + 2 * t)) (σ (54 + 2 * t)) (σ 2) (σ 4) (τ t) p1 p2 = some q) : MI G l yX7_judge cX7_judge 5 .int 2 [.ref xa, .int p1, .int p2] (XW G xa R pa ta σ φ τ nh kh ah) (XW G xa R pa ta σ φ τ nh kh ah) q := by
  have h6 : t = 0 ∨ t = 1 ∨ t = 2 ∨ t = 3 ∨ t = 4 ∨ t = 5 := by omega
  rcases h6 with rfl | rfl | rfl | rfl | rfl | rfl
  · exact L_X_judge_0 G xa R pa ta σ φ τ nh kh ah l p1 p2 q ht hf
  · exact L_X_judge_1 G xa R pa ta σ φ τ nh kh ah l p1 p2 q ht hf
  · exact L_X_judge_2 G xa R pa ta σ φ τ nh kh ah l p1 p2 q ht hf
  · exact L_X_judge_3 G xa R pa ta σ φ τ nh kh ah l p1 p2 q ht hf
  · exact L_X_judge_4 G xa R pa ta σ φ τ nh kh ah l p1 p2 q ht hf
  · exact L_X_judge_5 G xa R pa ta σ φ τ nh kh ah l p1 p2 q ht hf
set_option maxRecDepth 20000 in
theorem LX_shift (G : Gx) (xa : Nat) (R : Nat → Nat → Nat) (pa ta : Nat → Nat) (σ : Nat → Int32) (φ : Nat → Nat → Int32) (τ : Nat → Nat → Int64) (nh kh ah : Nat) (l : Launch) (p1 : Int32) (p2 : Int32) (p3 : Int32) (p4 : Int32) (p5 : Int32) (q : Int32 × (Nat → Int64)) (t : Nat) (ht6 : t < 6) (ht : k_t6 p1.toNatClampNeg = t) (u : Nat) (hu6 : u < 6) (hu : k_t6 p3.toNatClampNeg = u) (hf : f_X7_shift (σ (53 + 2 * t)) (σ (54 + 2 * t)) (σ (53 + 2 * u)) (σ (54 + 2 * u)) (τ t) (τ u) p1 p2 p3 p4 p5 = some q) : MI G l yX7_shift cX7_shift 8 .int 2 [.ref xa, .int p1, .int p2, .int p3, .int p4, .int p5] (XW G xa R pa ta σ φ τ nh kh ah) (XW G xa R pa ta σ φ (va_up τ u q.2) nh kh ah) q.1 := by
  have h6 : t = 0 ∨ t = 1 ∨ t = 2 ∨ t = 3 ∨ t = 4 ∨ t = 5 := by omega
  have h7 : u = 0 ∨ u = 1 ∨ u = 2 ∨ u = 3 ∨ u = 4 ∨ u = 5 := by omega
  rcases h6 with rfl | rfl | rfl | rfl | rfl | rfl
  · rcases h7 with rfl | rfl | rfl | rfl | rfl | rfl
    · exact L_X_shift_0_0 G xa R pa ta σ φ τ nh kh ah l p1 p2 p3 p4 p5 q ht hu hf
    · exact L_X_shift_0_1 G xa R pa ta σ φ τ nh kh ah l p1 p2 p3 p4 p5 q ht hu hf
    · exact L_X_shift_0_2 G xa R pa ta σ φ τ nh kh ah l p1 p2 p3 p4 p5 q ht hu hf
    · exact L_X_shift_0_3 G xa R pa ta σ φ τ nh kh ah l p1 p2 p3 p4 p5 q ht hu hf
    · exact L_X_shift_0_4 G xa R pa ta σ φ τ nh kh ah l p1 p2 p3 p4 p5 q ht hu hf
    · exact L_X_shift_0_5 G xa R pa ta σ φ τ nh kh ah l p1 p2 p3 p4 p5 q ht hu hf
  · rcases h7 with rfl | rfl | rfl | rfl | rfl | rfl
    · exact L_X_shift_1_0 G xa R pa ta σ φ τ nh kh ah l p1 p2 p3 p4 p5 q ht hu hf
    · exact L_X_shift_1_1 G xa R pa ta σ φ τ nh kh ah l p1 p2 p3 p4 p5 q ht hu hf
    · exact L_X_shift_1_2 G xa R pa ta σ φ τ nh kh ah l p1 p2 p3 p4 p5 q ht hu hf
    · exact L_X_shift_1_3 G xa R pa ta σ φ τ nh kh ah l p1 p2 p3 p4 p5 q ht hu hf
    · exact L_X_shift_1_4 G xa R pa ta σ φ τ nh kh ah l p1 p2 p3 p4 p5 q ht hu hf
    · exact L_X_shift_1_5 G xa R pa ta σ φ τ nh kh ah l p1 p2 p3 p4 p5 q ht hu hf
  · rcases h7 with rfl | rfl | rfl | rfl | rfl | rfl
    · exact L_X_shift_2_0 G xa R pa ta σ φ τ nh kh ah l p1 p2 p3 p4 p5 q ht hu hf
    · exact L_X_shift_2_1 G xa R pa ta σ φ τ nh kh ah l p1 p2 p3 p4 p5 q ht hu hf
    · exact L_X_shift_2_2 G xa R pa ta σ φ τ nh kh ah l p1 p2 p3 p4 p5 q ht hu hf
    · exact L_X_shift_2_3 G xa R pa ta σ φ τ nh kh ah l p1 p2 p3 p4 p5 q ht hu hf
    · exact L_X_shift_2_4 G xa R pa ta σ φ τ nh kh ah l p1 p2 p3 p4 p5 q ht hu hf
    · exact L_X_shift_2_5 G xa R pa ta σ φ τ nh kh ah l p1 p2 p3 p4 p5 q ht hu hf
  · rcases h7 with rfl | rfl | rfl | rfl | rfl | rfl
    · exact L_X_shift_3_0 G xa R pa ta σ φ τ nh kh ah l p1 p2 p3 p4 p5 q ht hu hf
    · exact L_X_shift_3_1 G xa R pa ta σ φ τ nh kh ah l p1 p2 p3 p4 p5 q ht hu hf
    · exact L_X_shift_3_2 G xa R pa ta σ φ τ nh kh ah l p1 p2 p3 p4 p5 q ht hu hf
    · exact L_X_shift_3_3 G xa R pa ta σ φ τ nh kh ah l p1 p2 p3 p4 p5 q ht hu hf
    · exact L_X_shift_3_4 G xa R pa ta σ φ τ nh kh ah l p1 p2 p3 p4 p5 q ht hu hf
    · exact L_X_shift_3_5 G xa R pa ta σ φ τ nh kh ah l p1 p2 p3 p4 p5 q ht hu hf
  · rcases h7 with rfl | rfl | rfl | rfl | rfl | rfl
    · exact L_X_shift_4_0 G xa R pa ta σ φ τ nh kh ah l p1 p2 p3 p4 p5 q ht hu hf
    · exact L_X_shift_4_1 G xa R pa ta σ φ τ nh kh ah l p1 p2 p3 p4 p5 q ht hu hf
    · exact L_X_shift_4_2 G xa R pa ta σ φ τ nh kh ah l p1 p2 p3 p4 p5 q ht hu hf
    · exact L_X_shift_4_3 G xa R pa ta σ φ τ nh kh ah l p1 p2 p3 p4 p5 q ht hu hf
    · exact L_X_shift_4_4 G xa R pa ta σ φ τ nh kh ah l p1 p2 p3 p4 p5 q ht hu hf
    · exact L_X_shift_4_5 G xa R pa ta σ φ τ nh kh ah l p1 p2 p3 p4 p5 q ht hu hf
  · rcases h7 with rfl | rfl | rfl | rfl | rfl | rfl
    · exact L_X_shift_5_0 G xa R pa ta σ φ τ nh kh ah l p1 p2 p3 p4 p5 q ht hu hf
    · exact L_X_shift_5_1 G xa R pa ta σ φ τ nh kh ah l p1 p2 p3 p4 p5 q ht hu hf
    · exact L_X_shift_5_2 G xa R pa ta σ φ τ nh kh ah l p1 p2 p3 p4 p5 q ht hu hf
    · exact L_X_shift_5_3 G xa R pa ta σ φ τ nh kh ah l p1 p2 p3 p4 p5 q ht hu hf
    · exact L_X_shift_5_4 G xa R pa ta σ φ τ nh kh ah l p1 p2 p3 p4 p5 q ht hu hf
    · exact L_X_shift_5_5 G xa R pa ta σ φ τ nh kh ah l p1 p2 p3 p4 p5 q ht hu hf
