set_option maxRecDepth 20000 in
theorem LX_of (G : Gx) (xa : Nat) (R : Nat → Nat → Nat) (pa ta : Nat → Nat) (σ : Nat → Int32) (φ : Nat → Nat → Int32) (τ : Nat → Nat → Int64) (kh ah : Nat) (l : Launch) (p1 : Int32) (p2 : Int32) (q : Int32 × (Nat → Int32) × Int32 × Int32 × Int32 × Int32 × (Nat → Int32) × (Nat → Int32) × (Nat → Int32) × (Nat → Int32) × (Nat → Int32) × Int32 × (Nat → Int32) × Int32 × (Nat → Int32) × Int32 × (Nat → Int32) × Nat × (Nat → Int32)) (k : Nat) (hk7 : k < 7) (hf : f_X7_of (σ 2) (σ 3) (σ 4) (σ 5) (pa k) (φ 0) (φ 1) (φ 2) (φ 3) (φ 5) (σ (39 + 2 * k)) (σ (40 + 2 * k)) (φ (33 + 2 * k)) (φ (34 + 2 * k)) (φ 4) (σ 10) (σ 11) (σ 12) (σ 13) ah (φ 12) (φ 13) (φ 14) (φ 15) (φ 16) (σ 34) (σ 22) (φ 24) (φ 30) (σ 36) (σ 24) (φ 25) (φ 31) (σ 38) (σ 26) (φ 26) (φ 32) (φ 17) p1 p2 = some q) : MI G l yX7_of cX7_of 3 .int 7 [.ref xa, .int p1, .int p2] (XW G xa R pa ta σ φ τ (pa k) kh ah) (XW G xa R pa ta (upd (upd (upd (upd (upd (upd (upd σ 10 q.2.2.1) 11 q.2.2.2.1) 12 q.2.2.2.2.1) 13 q.2.2.2.2.2.1) 34 q.2.2.2.2.2.2.2.2.2.2.2.1) 36 q.2.2.2.2.2.2.2.2.2.2.2.2.2.1) 38 q.2.2.2.2.2.2.2.2.2.2.2.2.2.2.2.1) (va_up (va_up (va_up (va_up (va_up (va_up (va_up (va_up (va_up (va_up φ 5 q.2.1) 12 q.2.2.2.2.2.2.1) 13 q.2.2.2.2.2.2.2.1) 14 q.2.2.2.2.2.2.2.2.1) 15 q.2.2.2.2.2.2.2.2.2.1) 16 q.2.2.2.2.2.2.2.2.2.2.1) 30 q.2.2.2.2.2.2.2.2.2.2.2.2.1) 31 q.2.2.2.2.2.2.2.2.2.2.2.2.2.2.1) 32 q.2.2.2.2.2.2.2.2.2.2.2.2.2.2.2.2.1) 17 q.2.2.2.2.2.2.2.2.2.2.2.2.2.2.2.2.2.2) τ (pa k) kh q.2.2.2.2.2.2.2.2.2.2.2.2.2.2.2.2.2.1) q.1 := by
  have h7 : k = 0 ∨ k = 1 ∨ k = 2 ∨ k = 3 ∨ k = 4 ∨ k = 5 ∨ k = 6 := by omega
  rcases h7 with rfl | rfl | rfl | rfl | rfl | rfl | rfl
  · exact L_X_of_0 G xa R pa ta σ φ τ kh ah l p1 p2 q hf
  · exact L_X_of_1 G xa R pa ta σ φ τ kh ah l p1 p2 q hf
  · exact L_X_of_2 G xa R pa ta σ φ τ kh ah l p1 p2 q hf
  · exact L_X_of_3 G xa R pa ta σ φ τ kh ah l p1 p2 q hf
  · exact L_X_of_4 G xa R pa ta σ φ τ kh ah l p1 p2 q hf
  · exact L_X_of_5 G xa R pa ta σ φ τ kh ah l p1 p2 q hf
  · exact L_X_of_6 G xa R pa ta σ φ τ kh ah l p1 p2 q hf
set_option maxRecDepth 20000 in
theorem LX_between (G : Gx) (xa : Nat) (R : Nat → Nat → Nat) (pa ta : Nat → Nat) (σ : Nat → Int32) (φ : Nat → Nat → Int32) (τ : Nat → Nat → Int64) (kh ah : Nat) (l : Launch) (p1 : Int32) (p2 : Int32) (p3 : Int32) (q : Int32 × (Nat → Int32)) (k : Nat) (hk7 : k < 7) (hf : f_X7_between (σ 2) (σ 3) (σ 4) (φ 3) (φ 1) (φ 0) (φ 5) (σ (39 + 2 * k)) (σ (40 + 2 * k)) (φ (33 + 2 * k)) (φ (34 + 2 * k)) (φ 4) p1 p2 p3 = some q) : MI G l yX7_between cX7_between 4 .int 5 [.ref xa, .int p1, .int p2, .int p3] (XW G xa R pa ta σ φ τ (pa k) kh ah) (XW G xa R pa ta σ (va_up φ 5 q.2) τ (pa k) kh ah) q.1 := by
  have h7 : k = 0 ∨ k = 1 ∨ k = 2 ∨ k = 3 ∨ k = 4 ∨ k = 5 ∨ k = 6 := by omega
  rcases h7 with rfl | rfl | rfl | rfl | rfl | rfl | rfl
  · exact L_X_between_0 G xa R pa ta σ φ τ kh ah l p1 p2 p3 q hf
  · exact L_X_between_1 G xa R pa ta σ φ τ kh ah l p1 p2 p3 q hf
  · exact L_X_between_2 G xa R pa ta σ φ τ kh ah l p1 p2 p3 q hf
  · exact L_X_between_3 G xa R pa ta σ φ τ kh ah l p1 p2 p3 q hf
  · exact L_X_between_4 G xa R pa ta σ φ τ kh ah l p1 p2 p3 q hf
  · exact L_X_between_5 G xa R pa ta σ φ τ kh ah l p1 p2 p3 q hf
  · exact L_X_between_6 G xa R pa ta σ φ τ kh ah l p1 p2 p3 q hf
set_option maxRecDepth 20000 in
theorem LX_told (G : Gx) (xa : Nat) (R : Nat → Nat → Nat) (pa ta : Nat → Nat) (σ : Nat → Int32) (φ : Nat → Nat → Int32) (τ : Nat → Nat → Int64) (kh ah : Nat) (l : Launch) (p1 : Int32) (q : Int32 × (Nat → Int32) × (Nat → Int32) × (Nat → Int32) × (Nat → Int32)) (k : Nat) (hk7 : k < 7) (hf : f_X7_told (σ 2) (σ 3) (σ 4) (σ 5) (σ (39 + 2 * k)) (σ (40 + 2 * k)) (φ 3) (φ 19) (φ 1) (φ 0) (φ 5) (φ (33 + 2 * k)) (φ (34 + 2 * k)) (φ 4) (φ 21) (φ 22) p1 = some q) : MI G l yX7_told cX7_told 2 .int 7 [.ref xa, .int p1] (XW G xa R pa ta σ φ τ (pa k) kh ah) (XW G xa R pa ta σ (va_up (va_up (va_up (va_up φ 19 q.2.1) 5 q.2.2.1) 21 q.2.2.2.1) 22 q.2.2.2.2) τ (pa k) kh ah) q.1 := by
  have h7 : k = 0 ∨ k = 1 ∨ k = 2 ∨ k = 3 ∨ k = 4 ∨ k = 5 ∨ k = 6 := by omega
  rcases h7 with rfl | rfl | rfl | rfl | rfl | rfl | rfl
  · exact L_X_told_0 G xa R pa ta σ φ τ kh ah l p1 q hf
  · exact L_X_told_1 G xa R pa ta σ φ τ kh ah l p1 q hf
  · exact L_X_told_2 G xa R pa ta σ φ τ kh ah l p1 q hf
  · exact L_X_told_3 G xa R pa ta σ φ τ kh ah l p1 q hf
  · exact L_X_told_4 G xa R pa ta σ φ τ kh ah l p1 q hf
  · exact L_X_told_5 G xa R pa ta σ φ τ kh ah l p1 q hf
  · exact L_X_told_6 G xa R pa ta σ φ τ kh ah l p1 q hf
set_option maxRecDepth 20000 in
theorem LX_pass (G : Gx) (xa : Nat) (R : Nat → Nat → Nat) (pa ta : Nat → Nat) (σ : Nat → Int32) (φ : Nat → Nat → Int32) (τ : Nat → Nat → Int64) (kh ah : Nat) (l : Launch) (p1 : Int32) (q : Int32 × Int32 × (Nat → Int32) × Int32 × (Nat → Int32) × (Nat → Int32)) (k : Nat) (hk7 : k < 7) (hf : f_X7_pass (σ 2) (σ 3) (σ 4) (σ 5) (φ 3) (φ 1) (φ 0) (φ 5) (σ (39 + 2 * k)) (σ (40 + 2 * k)) (φ (33 + 2 * k)) (φ (34 + 2 * k)) (φ 4) (φ 2) p1 = some q) : MI G l yX7_pass cX7_pass 3 .int 6 [.ref xa, .int p1] (XW G xa R pa ta σ φ τ (pa k) kh ah) (XW G xa R pa ta (upd (upd σ 3 q.2.1) 5 q.2.2.2.1) (va_up (va_up (va_up φ 5 q.2.2.1) 2 q.2.2.2.2.1) 3 q.2.2.2.2.2) τ (pa k) kh ah) q.1 := by
  have h7 : k = 0 ∨ k = 1 ∨ k = 2 ∨ k = 3 ∨ k = 4 ∨ k = 5 ∨ k = 6 := by omega
  rcases h7 with rfl | rfl | rfl | rfl | rfl | rfl | rfl
  · exact L_X_pass_0 G xa R pa ta σ φ τ kh ah l p1 q hf
  · exact L_X_pass_1 G xa R pa ta σ φ τ kh ah l p1 q hf
  · exact L_X_pass_2 G xa R pa ta σ φ τ kh ah l p1 q hf
  · exact L_X_pass_3 G xa R pa ta σ φ τ kh ah l p1 q hf
  · exact L_X_pass_4 G xa R pa ta σ φ τ kh ah l p1 q hf
  · exact L_X_pass_5 G xa R pa ta σ φ τ kh ah l p1 q hf
  · exact L_X_pass_6 G xa R pa ta σ φ τ kh ah l p1 q hf
set_option maxRecDepth 20000 in
theorem LX_on (G : Gx) (xa : Nat) (R : Nat → Nat → Nat) (pa ta : Nat → Nat) (σ : Nat → Int32) (φ : Nat → Nat → Int32) (τ : Nat → Nat → Int64) (kh ah : Nat) (l : Launch) (p1 : Int32) (p2 : Int32) (q : Int32 × Int32 × Int32 × Int32 × Int32 × (Nat → Int32) × (Nat → Int32) × (Nat → Int32) × (Nat → Int32) × (Nat → Int32) × Int32 × (Nat → Int32) × Int32 × (Nat → Int32) × Int32 × (Nat → Int32) × Nat × (Nat → Int32)) (k : Nat) (hk7 : k < 7) (hf : f_X7_on (σ 2) (σ 3) (σ 4) (σ 5) (pa k) (σ 10) (σ 11) (σ 12) (σ 13) ah (φ 0) (φ 12) (φ 1) (φ 13) (φ 2) (φ 14) (φ 3) (φ 15) (φ 4) (φ 16) (σ 34) (σ 22) (φ 24) (φ 30) (σ 36) (σ 24) (φ 25) (φ 31) (σ 38) (σ 26) (φ 26) (φ 32) (φ 17) (σ (39 + 2 * k)) (σ (40 + 2 * k)) (φ (33 + 2 * k)) (φ (34 + 2 * k)) p1 p2 = some q) : MI G l yX7_on cX7_on 9 .int 6 [.ref xa, .int p1, .int p2] (XW G xa R pa ta σ φ τ (pa k) kh ah) (XW G xa R pa ta (upd (upd (upd (upd (upd (upd (upd σ 10 q.2.1) 11 q.2.2.1) 12 q.2.2.2.1) 13 q.2.2.2.2.1) 34 q.2.2.2.2.2.2.2.2.2.2.1) 36 q.2.2.2.2.2.2.2.2.2.2.2.2.1) 38 q.2.2.2.2.2.2.2.2.2.2.2.2.2.2.1) (va_up (va_up (va_up (va_up (va_up (va_up (va_up (va_up (va_up φ 12 q.2.2.2.2.2.1) 13 q.2.2.2.2.2.2.1) 14 q.2.2.2.2.2.2.2.1) 15 q.2.2.2.2.2.2.2.2.1) 16 q.2.2.2.2.2.2.2.2.2.1) 30 q.2.2.2.2.2.2.2.2.2.2.2.1) 31 q.2.2.2.2.2.2.2.2.2.2.2.2.2.1) 32 q.2.2.2.2.2.2.2.2.2.2.2.2.2.2.2.1) 17 q.2.2.2.2.2.2.2.2.2.2.2.2.2.2.2.2.2) τ (pa k) kh q.2.2.2.2.2.2.2.2.2.2.2.2.2.2.2.2.1) q.1 := by
  have h7 : k = 0 ∨ k = 1 ∨ k = 2 ∨ k = 3 ∨ k = 4 ∨ k = 5 ∨ k = 6 := by omega
  rcases h7 with rfl | rfl | rfl | rfl | rfl | rfl | rfl
  · exact L_X_on_0 G xa R pa ta σ φ τ kh ah l p1 p2 q hf
  · exact L_X_on_1 G xa R pa ta σ φ τ kh ah l p1 p2 q hf
  · exact L_X_on_2 G xa R pa ta σ φ τ kh ah l p1 p2 q hf
  · exact L_X_on_3 G xa R pa ta σ φ τ kh ah l p1 p2 q hf
  · exact L_X_on_4 G xa R pa ta σ φ τ kh ah l p1 p2 q hf
  · exact L_X_on_5 G xa R pa ta σ φ τ kh ah l p1 p2 q hf
  · exact L_X_on_6 G xa R pa ta σ φ τ kh ah l p1 p2 q hf
set_option maxRecDepth 20000 in
theorem LX_handful (G : Gx) (xa : Nat) (R : Nat → Nat → Nat) (pa ta : Nat → Nat) (σ : Nat → Int32) (φ : Nat → Nat → Int32) (τ : Nat → Nat → Int64) (kh ah : Nat) (l : Launch) (p1 : Int32) (q : Int32 × (Nat → Int32) × (Nat → Int32) × (Nat → Int32)) (k : Nat) (hk7 : k < 7) (hf : f_X7_handful (σ 2) (σ 3) (σ 4) (σ 5) (φ 19) (φ 3) (φ 1) (φ 0) (φ 5) (σ (39 + 2 * k)) (σ (40 + 2 * k)) (φ (33 + 2 * k)) (φ (34 + 2 * k)) (φ 4) (φ 20) p1 = some q) : MI G l yX7_handful cX7_handful 4 .int 14 [.ref xa, .int p1] (XW G xa R pa ta σ φ τ (pa k) kh ah) (XW G xa R pa ta σ (va_up (va_up (va_up φ 19 q.2.1) 5 q.2.2.1) 20 q.2.2.2) τ (pa k) kh ah) q.1 := by
  have h7 : k = 0 ∨ k = 1 ∨ k = 2 ∨ k = 3 ∨ k = 4 ∨ k = 5 ∨ k = 6 := by omega
  rcases h7 with rfl | rfl | rfl | rfl | rfl | rfl | rfl
  · exact L_X_handful_0 G xa R pa ta σ φ τ kh ah l p1 q hf
  · exact L_X_handful_1 G xa R pa ta σ φ τ kh ah l p1 q hf
  · exact L_X_handful_2 G xa R pa ta σ φ τ kh ah l p1 q hf
  · exact L_X_handful_3 G xa R pa ta σ φ τ kh ah l p1 q hf
  · exact L_X_handful_4 G xa R pa ta σ φ τ kh ah l p1 q hf
  · exact L_X_handful_5 G xa R pa ta σ φ τ kh ah l p1 q hf
  · exact L_X_handful_6 G xa R pa ta σ φ τ kh ah l p1 q hf
set_option maxRecDepth 20000 in
theorem LX_orders (G : Gx) (xa : Nat) (R : Nat → Nat → Nat) (pa ta : Nat → Nat) (σ : Nat → Int32) (φ : Nat → Nat → Int32) (τ : Nat → Nat → Int64) (kh ah : Nat) (l : Launch) (p1 : Int32) (q : Int32 × (Nat → Int32) × (Nat → Int32) × (Nat → Int32)) (k : Nat) (hk7 : k < 7) (hf : f_X7_orders (σ 2) (σ 3) (σ 4) (φ 21) (φ 3) (φ 1) (φ 0) (φ 5) (σ (39 + 2 * k)) (σ (40 + 2 * k)) (φ (33 + 2 * k)) (φ (34 + 2 * k)) (φ 4) (φ 22) p1 = some q) : MI G l yX7_orders cX7_orders 2 .int 7 [.ref xa, .int p1] (XW G xa R pa ta σ φ τ (pa k) kh ah) (XW G xa R pa ta σ (va_up (va_up (va_up φ 21 q.2.1) 5 q.2.2.1) 22 q.2.2.2) τ (pa k) kh ah) q.1 := by
  have h7 : k = 0 ∨ k = 1 ∨ k = 2 ∨ k = 3 ∨ k = 4 ∨ k = 5 ∨ k = 6 := by omega
  rcases h7 with rfl | rfl | rfl | rfl | rfl | rfl | rfl
  · exact L_X_orders_0 G xa R pa ta σ φ τ kh ah l p1 q hf
  · exact L_X_orders_1 G xa R pa ta σ φ τ kh ah l p1 q hf
  · exact L_X_orders_2 G xa R pa ta σ φ τ kh ah l p1 q hf
  · exact L_X_orders_3 G xa R pa ta σ φ τ kh ah l p1 q hf
  · exact L_X_orders_4 G xa R pa ta σ φ τ kh ah l p1 q hf
  · exact L_X_orders_5 G xa R pa ta σ φ τ kh ah l p1 q hf
  · exact L_X_orders_6 G xa R pa ta σ φ τ kh ah l p1 q hf
set_option maxRecDepth 20000 in
theorem LX_hates (G : Gx) (xa : Nat) (R : Nat → Nat → Nat) (pa ta : Nat → Nat) (σ : Nat → Int32) (φ : Nat → Nat → Int32) (τ : Nat → Nat → Int64) (kh ah : Nat) (l : Launch) (p1 : Int32) (p2 : Int32) (p3 : Int32) (q : Int32 × (Nat → Int32)) (k : Nat) (hk7 : k < 7) (hf : f_X7_hates (σ 2) (σ 3) (σ 22) (φ 24) (φ 1) (φ 0) (φ 5) (σ (39 + 2 * k)) (σ (40 + 2 * k)) (φ (33 + 2 * k)) (φ (34 + 2 * k)) (φ 4) p1 p2 p3 = some q) : MI G l yX7_hates cX7_hates 7 .int 4 [.ref xa, .int p1, .int p2, .int p3] (XW G xa R pa ta σ φ τ (pa k) kh ah) (XW G xa R pa ta σ (va_up φ 5 q.2) τ (pa k) kh ah) q.1 := by
  have h7 : k = 0 ∨ k = 1 ∨ k = 2 ∨ k = 3 ∨ k = 4 ∨ k = 5 ∨ k = 6 := by omega
  rcases h7 with rfl | rfl | rfl | rfl | rfl | rfl | rfl
  · exact L_X_hates_0 G xa R pa ta σ φ τ kh ah l p1 p2 p3 q hf
  · exact L_X_hates_1 G xa R pa ta σ φ τ kh ah l p1 p2 p3 q hf
  · exact L_X_hates_2 G xa R pa ta σ φ τ kh ah l p1 p2 p3 q hf
  · exact L_X_hates_3 G xa R pa ta σ φ τ kh ah l p1 p2 p3 q hf
  · exact L_X_hates_4 G xa R pa ta σ φ τ kh ah l p1 p2 p3 q hf
  · exact L_X_hates_5 G xa R pa ta σ φ τ kh ah l p1 p2 p3 q hf
  · exact L_X_hates_6 G xa R pa ta σ φ τ kh ah l p1 p2 p3 q hf
set_option maxRecDepth 20000 in
theorem LX_can (G : Gx) (xa : Nat) (R : Nat → Nat → Nat) (pa ta : Nat → Nat) (σ : Nat → Int32) (φ : Nat → Nat → Int32) (τ : Nat → Nat → Int64) (kh ah : Nat) (l : Launch) (p1 : Int32) (p2 : Int32) (q : Int32 × (Nat → Int32)) (k : Nat) (hk7 : k < 7) (hf : f_X7_can (σ 2) (σ 3) (σ 22) (φ 24) (φ 3) (φ 0) (φ 5) (σ (39 + 2 * k)) (σ (40 + 2 * k)) (φ (33 + 2 * k)) (φ (34 + 2 * k)) (φ 4) p1 p2 = some q) : MI G l yX7_can cX7_can 6 .int 4 [.ref xa, .int p1, .int p2] (XW G xa R pa ta σ φ τ (pa k) kh ah) (XW G xa R pa ta σ (va_up φ 5 q.2) τ (pa k) kh ah) q.1 := by
  have h7 : k = 0 ∨ k = 1 ∨ k = 2 ∨ k = 3 ∨ k = 4 ∨ k = 5 ∨ k = 6 := by omega
  rcases h7 with rfl | rfl | rfl | rfl | rfl | rfl | rfl
  · exact L_X_can_0 G xa R pa ta σ φ τ kh ah l p1 p2 q hf
  · exact L_X_can_1 G xa R pa ta σ φ τ kh ah l p1 p2 q hf
  · exact L_X_can_2 G xa R pa ta σ φ τ kh ah l p1 p2 q hf
  · exact L_X_can_3 G xa R pa ta σ φ τ kh ah l p1 p2 q hf
  · exact L_X_can_4 G xa R pa ta σ φ τ kh ah l p1 p2 q hf
  · exact L_X_can_5 G xa R pa ta σ φ τ kh ah l p1 p2 q hf
  · exact L_X_can_6 G xa R pa ta σ φ τ kh ah l p1 p2 q hf
set_option maxRecDepth 20000 in
theorem LX_odds (G : Gx) (xa : Nat) (R : Nat → Nat → Nat) (pa ta : Nat → Nat) (σ : Nat → Int32) (φ : Nat → Nat → Int32) (τ : Nat → Nat → Int64) (kh ah : Nat) (l : Launch) (p1 : Int32) (p2 : Int32) (q : Int64 × (Nat → Int32)) (k : Nat) (hk7 : k < 7) (hf : f_X7_odds (σ 2) (σ 3) (σ 4) (φ 3) (φ 1) (φ 0) (φ 5) (σ (39 + 2 * k)) (σ (40 + 2 * k)) (φ (33 + 2 * k)) (φ (34 + 2 * k)) (φ 4) p1 p2 = some q) : ML G l yX7_odds cX7_odds 6 .long 5 [.ref xa, .int p1, .int p2] (XW G xa R pa ta σ φ τ (pa k) kh ah) (XW G xa R pa ta σ (va_up φ 5 q.2) τ (pa k) kh ah) q.1 := by
  have h7 : k = 0 ∨ k = 1 ∨ k = 2 ∨ k = 3 ∨ k = 4 ∨ k = 5 ∨ k = 6 := by omega
  rcases h7 with rfl | rfl | rfl | rfl | rfl | rfl | rfl
  · exact L_X_odds_0 G xa R pa ta σ φ τ kh ah l p1 p2 q hf
  · exact L_X_odds_1 G xa R pa ta σ φ τ kh ah l p1 p2 q hf
  · exact L_X_odds_2 G xa R pa ta σ φ τ kh ah l p1 p2 q hf
  · exact L_X_odds_3 G xa R pa ta σ φ τ kh ah l p1 p2 q hf
  · exact L_X_odds_4 G xa R pa ta σ φ τ kh ah l p1 p2 q hf
  · exact L_X_odds_5 G xa R pa ta σ φ τ kh ah l p1 p2 q hf
  · exact L_X_odds_6 G xa R pa ta σ φ τ kh ah l p1 p2 q hf
set_option maxRecDepth 20000 in
theorem LX_ends (G : Gx) (xa : Nat) (R : Nat → Nat → Nat) (pa ta : Nat → Nat) (σ : Nat → Int32) (φ : Nat → Nat → Int32) (τ : Nat → Nat → Int64) (kh ah : Nat) (l : Launch) (p1 : Int32) (q : Int32 × Int32 × Int32 × Int32 × Int32 × (Nat → Int32) × (Nat → Int32) × (Nat → Int32) × (Nat → Int32) × (Nat → Int32) × Int32 × (Nat → Int32) × Int32 × (Nat → Int32) × Int32 × (Nat → Int32) × Nat × (Nat → Int32)) (k : Nat) (hk7 : k < 7) (hf : f_X7_ends (σ 10) (σ 11) (σ 12) (σ 13) ah (σ 2) (σ 3) (σ 4) (σ 5) (pa k) (φ 0) (φ 12) (φ 1) (φ 13) (φ 2) (φ 14) (φ 3) (φ 15) (φ 4) (φ 16) (σ 34) (σ 22) (φ 24) (φ 30) (σ 36) (σ 24) (φ 25) (φ 31) (σ 38) (σ 26) (φ 26) (φ 32) (φ 17) (σ (39 + 2 * k)) (σ (40 + 2 * k)) (φ (33 + 2 * k)) (φ (34 + 2 * k)) p1 = some q) : MI G l yX7_ends cX7_ends 4 .int 6 [.ref xa, .int p1] (XW G xa R pa ta σ φ τ (pa k) kh ah) (XW G xa R pa ta (upd (upd (upd (upd (upd (upd (upd σ 10 q.2.1) 11 q.2.2.1) 12 q.2.2.2.1) 13 q.2.2.2.2.1) 34 q.2.2.2.2.2.2.2.2.2.2.1) 36 q.2.2.2.2.2.2.2.2.2.2.2.2.1) 38 q.2.2.2.2.2.2.2.2.2.2.2.2.2.2.1) (va_up (va_up (va_up (va_up (va_up (va_up (va_up (va_up (va_up φ 12 q.2.2.2.2.2.1) 13 q.2.2.2.2.2.2.1) 14 q.2.2.2.2.2.2.2.1) 15 q.2.2.2.2.2.2.2.2.1) 16 q.2.2.2.2.2.2.2.2.2.1) 30 q.2.2.2.2.2.2.2.2.2.2.2.1) 31 q.2.2.2.2.2.2.2.2.2.2.2.2.2.1) 32 q.2.2.2.2.2.2.2.2.2.2.2.2.2.2.2.1) 17 q.2.2.2.2.2.2.2.2.2.2.2.2.2.2.2.2.2) τ (pa k) kh q.2.2.2.2.2.2.2.2.2.2.2.2.2.2.2.2.1) q.1 := by
  have h7 : k = 0 ∨ k = 1 ∨ k = 2 ∨ k = 3 ∨ k = 4 ∨ k = 5 ∨ k = 6 := by omega
  rcases h7 with rfl | rfl | rfl | rfl | rfl | rfl | rfl
  · exact L_X_ends_0 G xa R pa ta σ φ τ kh ah l p1 q hf
  · exact L_X_ends_1 G xa R pa ta σ φ τ kh ah l p1 q hf
  · exact L_X_ends_2 G xa R pa ta σ φ τ kh ah l p1 q hf
  · exact L_X_ends_3 G xa R pa ta σ φ τ kh ah l p1 q hf
  · exact L_X_ends_4 G xa R pa ta σ φ τ kh ah l p1 q hf
  · exact L_X_ends_5 G xa R pa ta σ φ τ kh ah l p1 q hf
  · exact L_X_ends_6 G xa R pa ta σ φ τ kh ah l p1 q hf
