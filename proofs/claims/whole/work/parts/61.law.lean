def Fact_one (G : Gx) (l : Launch) (A : Lx) (Iv : Sx → Sm → Prop) : Prop := ∀ (S : Sx) (T : Sm), Iv S T → ∀ (p1 : Int32) (p2 : Int32), ∃ (r : Int32) (S' : Sx) (T' : Sm), MI G l yX7_one cX7_one 3 .int 2 [.ref A.1, .int p1, .int p2] (XWs G A S) (XWs G A S') r ∧ MI G l yX8_one cX8_one 5 .int 2 [.ref A.2.2.2.2.1, .int p1, .int p2] (MWs G A T) (MWs G A T') r ∧ Iv S' T'
def Fact_of (G : Gx) (l : Launch) (A : Lx) (Iv : Sx → Sm → Prop) : Prop := ∀ (S : Sx) (T : Sm), Iv S T → ∀ (p1 : Int32) (p2 : Int32), ∃ (r : Int32) (S' : Sx) (T' : Sm), MI G l yX7_of cX7_of 3 .int 7 [.ref A.1, .int p1, .int p2] (XWs G A S) (XWs G A S') r ∧ MI G l yX8_of cX8_of 3 .int 10 [.ref A.2.2.2.2.1, .int p1, .int p2] (MWs G A T) (MWs G A T') r ∧ Iv S' T'
def Fact_hate (G : Gx) (l : Launch) (A : Lx) (Iv : Sx → Sm → Prop) : Prop := ∀ (S : Sx) (T : Sm), Iv S T → ∀ (p1 : Int32) (p2 : Int32) (p3 : Int32), ∃ (r : Int32) (S' : Sx) (T' : Sm), MI G l yX7_hate cX7_hate 5 .int 3 [.ref A.1, .int p1, .int p2, .int p3] (XWs G A S) (XWs G A S') r ∧ MI G l yX8_hate cX8_hate 5 .int 4 [.ref A.2.2.2.2.1, .int p1, .int p2, .int p3] (MWs G A T) (MWs G A T') r ∧ Iv S' T'
def Fact_between (G : Gx) (l : Launch) (A : Lx) (Iv : Sx → Sm → Prop) : Prop := ∀ (S : Sx) (T : Sm), Iv S T → ∀ (p1 : Int32) (p2 : Int32) (p3 : Int32), ∃ (r : Int32) (S' : Sx) (T' : Sm), MI G l yX7_between cX7_between 4 .int 5 [.ref A.1, .int p1, .int p2, .int p3] (XWs G A S) (XWs G A S') r ∧ MI G l yX8_between cX8_between 4 .int 8 [.ref A.2.2.2.2.1, .int p1, .int p2, .int p3] (MWs G A T) (MWs G A T') r ∧ Iv S' T'
def Fact_die (G : Gx) (l : Launch) (A : Lx) (Iv : Sx → Sm → Prop) : Prop := ∀ (S : Sx) (T : Sm), Iv S T → ∀ (p1 : Int32) (p2 : Int32), ∃ (r : Int32) (S' : Sx) (T' : Sm), MI G l yX7_die cX7_die 4 .int 2 [.ref A.1, .int p1, .int p2] (XWs G A S) (XWs G A S') r ∧ MI G l yX8_die cX8_die 4 .int 3 [.ref A.2.2.2.2.1, .int p1, .int p2] (MWs G A T) (MWs G A T') r ∧ Iv S' T'
def Fact_row (G : Gx) (l : Launch) (A : Lx) (Iv : Sx → Sm → Prop) : Prop := ∀ (S : Sx) (T : Sm), Iv S T → ∀ (p1 : Int32) (p2 : Int32) (p3 : Int32), ∃ (r : Int32) (S' : Sx) (T' : Sm), MI G l yX7_row cX7_row 5 .int 2 [.ref A.1, .int p1, .int p2, .int p3] (XWs G A S) (XWs G A S') r ∧ MI G l yX8_row cX8_row 5 .int 3 [.ref A.2.2.2.2.1, .int p1, .int p2, .int p3] (MWs G A T) (MWs G A T') r ∧ Iv S' T'
def Fact_feed (G : Gx) (l : Launch) (A : Lx) (Iv : Sx → Sm → Prop) : Prop := ∀ (S : Sx) (T : Sm), Iv S T → ∀ (p1 : Int32), ∃ (r : Int32) (S' : Sx) (T' : Sm), MI G l yX7_feed cX7_feed 2 .int 2 [.ref A.1, .int p1] (XWs G A S) (XWs G A S') r ∧ MI G l yX8_feed cX8_feed 2 .int 2 [.ref A.2.2.2.2.1, .int p1] (MWs G A T) (MWs G A T') r ∧ Iv S' T'
def Fact_parish (G : Gx) (l : Launch) (A : Lx) (Iv : Sx → Sm → Prop) : Prop := ∀ (S : Sx) (T : Sm), Iv S T → ∃ (r : Int32) (S' : Sx) (T' : Sm), MI G l yX7_parish cX7_parish 4 .int 69 [.ref A.1] (XWs G A S) (XWs G A S') r ∧ MI G l yX8_parish cX8_parish 5 .int 408 [.ref A.2.2.2.2.1] (MWs G A T) (MWs G A T') r ∧ Iv S' T'
def Fact_told (G : Gx) (l : Launch) (A : Lx) (Iv : Sx → Sm → Prop) : Prop := ∀ (S : Sx) (T : Sm), Iv S T → ∀ (p1 : Int32), ∃ (r : Int32) (S' : Sx) (T' : Sm), MI G l yX7_told cX7_told 2 .int 7 [.ref A.1, .int p1] (XWs G A S) (XWs G A S') r ∧ MI G l yX8_told cX8_told 2 .int 20 [.ref A.2.2.2.2.1, .int p1] (MWs G A T) (MWs G A T') r ∧ Iv S' T'
def Fact_pass (G : Gx) (l : Launch) (A : Lx) (Iv : Sx → Sm → Prop) : Prop := ∀ (S : Sx) (T : Sm), Iv S T → ∀ (p1 : Int32), ∃ (r : Int32) (S' : Sx) (T' : Sm), MI G l yX7_pass cX7_pass 3 .int 6 [.ref A.1, .int p1] (XWs G A S) (XWs G A S') r ∧ MI G l yX8_pass cX8_pass 4 .int 9 [.ref A.2.2.2.2.1, .int p1] (MWs G A T) (MWs G A T') r ∧ Iv S' T'
def Fact_on (G : Gx) (l : Launch) (A : Lx) (Iv : Sx → Sm → Prop) : Prop := ∀ (S : Sx) (T : Sm), Iv S T → ∀ (p1 : Int32) (p2 : Int32), ∃ (r : Int32) (S' : Sx) (T' : Sm), MI G l yX7_on cX7_on 9 .int 6 [.ref A.1, .int p1, .int p2] (XWs G A S) (XWs G A S') r ∧ MI G l yX8_on cX8_on 4 .int 9 [.ref A.2.2.2.2.1, .int p1, .int p2] (MWs G A T) (MWs G A T') r ∧ Iv S' T'
def Fact_handful (G : Gx) (l : Launch) (A : Lx) (Iv : Sx → Sm → Prop) : Prop := ∀ (S : Sx) (T : Sm), Iv S T → ∀ (p1 : Int32), ∃ (r : Int32) (S' : Sx) (T' : Sm), MI G l yX7_handful cX7_handful 4 .int 14 [.ref A.1, .int p1] (XWs G A S) (XWs G A S') r ∧ MI G l yX8_handful cX8_handful 2 .int 19 [.ref A.2.2.2.2.1, .int p1] (MWs G A T) (MWs G A T') r ∧ Iv S' T'
def Fact_orders (G : Gx) (l : Launch) (A : Lx) (Iv : Sx → Sm → Prop) : Prop := ∀ (S : Sx) (T : Sm), Iv S T → ∀ (p1 : Int32), ∃ (r : Int32) (S' : Sx) (T' : Sm), MI G l yX7_orders cX7_orders 2 .int 7 [.ref A.1, .int p1] (XWs G A S) (XWs G A S') r ∧ MI G l yX8_orders cX8_orders 2 .int 19 [.ref A.2.2.2.2.1, .int p1] (MWs G A T) (MWs G A T') r ∧ Iv S' T'
def Fact_see (G : Gx) (l : Launch) (A : Lx) (Iv : Sx → Sm → Prop) : Prop := ∀ (S : Sx) (T : Sm), Iv S T → ∀ (p1 : Int32) (p2 : Int32) (p3 : Int32) (p4 : Int32), ∃ (r : Int32) (S' : Sx) (T' : Sm), MI G l yX7_see cX7_see 5 .int 2 [.ref A.1, .int p1, .int p2, .int p3, .int p4] (XWs G A S) (XWs G A S') r ∧ MI G l yX8_see cX8_see 5 .int 4 [.ref A.2.2.2.2.1, .int p1, .int p2, .int p3, .int p4] (MWs G A T) (MWs G A T') r ∧ Iv S' T'
def Fact_hates (G : Gx) (l : Launch) (A : Lx) (Iv : Sx → Sm → Prop) : Prop := ∀ (S : Sx) (T : Sm), Iv S T → ∀ (p1 : Int32) (p2 : Int32) (p3 : Int32), ∃ (r : Int32) (S' : Sx) (T' : Sm), MI G l yX7_hates cX7_hates 7 .int 4 [.ref A.1, .int p1, .int p2, .int p3] (XWs G A S) (XWs G A S') r ∧ MI G l yX8_hates cX8_hates 9 .int 7 [.ref A.2.2.2.2.1, .int p1, .int p2, .int p3] (MWs G A T) (MWs G A T') r ∧ Iv S' T'
def Fact_can (G : Gx) (l : Launch) (A : Lx) (Iv : Sx → Sm → Prop) : Prop := ∀ (S : Sx) (T : Sm), Iv S T → ∀ (p1 : Int32) (p2 : Int32), ∃ (r : Int32) (S' : Sx) (T' : Sm), MI G l yX7_can cX7_can 6 .int 4 [.ref A.1, .int p1, .int p2] (XWs G A S) (XWs G A S') r ∧ MI G l yX8_can cX8_can 7 .int 7 [.ref A.2.2.2.2.1, .int p1, .int p2] (MWs G A T) (MWs G A T') r ∧ Iv S' T'
def Fact_odds (G : Gx) (l : Launch) (A : Lx) (Iv : Sx → Sm → Prop) : Prop := ∀ (S : Sx) (T : Sm), Iv S T → ∀ (p1 : Int32) (p2 : Int32), ∃ (r : Int64) (S' : Sx) (T' : Sm), ML G l yX7_odds cX7_odds 6 .long 5 [.ref A.1, .int p1, .int p2] (XWs G A S) (XWs G A S') r ∧ ML G l yX8_odds cX8_odds 6 .long 8 [.ref A.2.2.2.2.1, .int p1, .int p2] (MWs G A T) (MWs G A T') r ∧ Iv S' T'
def Fact_mean (G : Gx) (l : Launch) (A : Lx) (Iv : Sx → Sm → Prop) : Prop := ∀ (S : Sx) (T : Sm), Iv S T → ∀ (p1 : Int32), ∃ (r : Int64) (S' : Sx) (T' : Sm), ML G l yX7_mean cX7_mean 2 .long 3 [.ref A.1, .int p1] (XWs G A S) (XWs G A S') r ∧ ML G l yX8_mean cX8_mean 2 .long 2 [.ref A.2.2.2.2.1, .int p1] (MWs G A T) (MWs G A T') r ∧ Iv S' T'
def Fact_plan (G : Gx) (l : Launch) (A : Lx) (Iv : Sx → Sm → Prop) : Prop := ∀ (S : Sx) (T : Sm), Iv S T → ∀ (p1 : Int32) (p2 : Int32), ∃ (r : Int32) (S' : Sx) (T' : Sm), MI G l yX7_plan cX7_plan 3 .int 2 [.ref A.1, .int p1, .int p2] (XWs G A S) (XWs G A S') r ∧ MI G l yX8_plan cX8_plan 3 .int 3 [.ref A.2.2.2.2.1, .int p1, .int p2] (MWs G A T) (MWs G A T') r ∧ Iv S' T'
def Fact_ends (G : Gx) (l : Launch) (A : Lx) (Iv : Sx → Sm → Prop) : Prop := ∀ (S : Sx) (T : Sm), Iv S T → ∀ (p1 : Int32), ∃ (r : Int32) (S' : Sx) (T' : Sm), MI G l yX7_ends cX7_ends 4 .int 6 [.ref A.1, .int p1] (XWs G A S) (XWs G A S') r ∧ MI G l yX8_ends cX8_ends 5 .int 9 [.ref A.2.2.2.2.1, .int p1] (MWs G A T) (MWs G A T') r ∧ Iv S' T'
def Fact_book (G : Gx) (l : Launch) (A : Lx) (Iv : Sx → Sm → Prop) : Prop := ∀ (S : Sx) (T : Sm), Iv S T → ∀ (p1 : Int32) (p2 : Int32) (p3 : Int32), ∃ (r : Int32) (S' : Sx) (T' : Sm), MI G l yX7_book cX7_book 4 .int 2 [.ref A.1, .int p1, .int p2, .int p3] (XWs G A S) (XWs G A S') r ∧ MI G l yX8_book cX8_book 4 .int 4 [.ref A.2.2.2.2.1, .int p1, .int p2, .int p3] (MWs G A T) (MWs G A T') r ∧ Iv S' T'
def Fact_looked (G : Gx) (l : Launch) (A : Lx) (Iv : Sx → Sm → Prop) : Prop := ∀ (S : Sx) (T : Sm), Iv S T → ∃ (r : Int32) (S' : Sx) (T' : Sm), MI G l yX7_looked cX7_looked 2 .int 3 [.ref A.1] (XWs G A S) (XWs G A S') r ∧ MI G l yX8_looked cX8_looked 2 .int 1 [.ref A.2.2.2.2.1] (MWs G A T) (MWs G A T') r ∧ Iv S' T'
def Fact_judge (G : Gx) (l : Launch) (A : Lx) (Iv : Sx → Sm → Prop) : Prop := ∀ (S : Sx) (T : Sm), Iv S T → ∀ (p1 : Int32) (p2 : Int32), ∃ (r : Int32) (S' : Sx) (T' : Sm), MI G l yX7_judge cX7_judge 5 .int 2 [.ref A.1, .int p1, .int p2] (XWs G A S) (XWs G A S') r ∧ MI G l yX8_judge cX8_judge 4 .int 2 [.ref A.2.2.2.2.1, .int p1, .int p2] (MWs G A T) (MWs G A T') r ∧ Iv S' T'
def Fact_image (G : Gx) (l : Launch) (A : Lx) (Iv : Sx → Sm → Prop) : Prop := ∀ (S : Sx) (T : Sm), Iv S T → ∃ (r : Int32) (S' : Sx) (T' : Sm), MI G l yX7_image cX7_image 1 .int 3 [.ref A.1] (XWs G A S) (XWs G A S') r ∧ MI G l yX8_image cX8_image 1 .int 2 [.ref A.2.2.2.2.1] (MWs G A T) (MWs G A T') r ∧ Iv S' T'
def Fact_undo (G : Gx) (l : Launch) (A : Lx) (Iv : Sx → Sm → Prop) : Prop := ∀ (S : Sx) (T : Sm), Iv S T → ∃ (r : Int32) (S' : Sx) (T' : Sm), MI G l yX7_undo cX7_undo 1 .int 3 [.ref A.1] (XWs G A S) (XWs G A S') r ∧ MI G l yX8_undo cX8_undo 1 .int 2 [.ref A.2.2.2.2.1] (MWs G A T) (MWs G A T') r ∧ Iv S' T'
def Fact_act (G : Gx) (l : Launch) (A : Lx) (Iv : Sx → Sm → Prop) : Prop := ∀ (S : Sx) (T : Sm), Iv S T → ∀ (p1 : Int32) (p2 : Int32) (p3 : Int32), ∃ (r : Int32) (S' : Sx) (T' : Sm), MI G l yX7_act cX7_act 4 .int 43 [.ref A.1, .int p1, .int p2, .int p3] (XWs G A S) (XWs G A S') r ∧ MI G l yX8_act cX8_act 5 .int 185 [.ref A.2.2.2.2.1, .int p1, .int p2, .int p3] (MWs G A T) (MWs G A T') r ∧ Iv S' T'
def Fact_trace (G : Gx) (l : Launch) (A : Lx) (Iv : Sx → Sm → Prop) : Prop := ∀ (S : Sx) (T : Sm), Iv S T → ∀ (p1 : Int32), ∃ (r : Int32) (S' : Sx) (T' : Sm), MI G l yX7_trace cX7_trace 2 .int 1 [.ref A.1, .int p1] (XWs G A S) (XWs G A S') r ∧ MI G l yX8_trace cX8_trace 2 .int 2 [.ref A.2.2.2.2.1, .int p1] (MWs G A T) (MWs G A T') r ∧ Iv S' T'
def Fact_taken (G : Gx) (l : Launch) (A : Lx) (Iv : Sx → Sm → Prop) : Prop := ∀ (S : Sx) (T : Sm), Iv S T → ∀ (p1 : Int32) (p2 : Int32), ∃ (r : Int32) (S' : Sx) (T' : Sm), MI G l yX7_taken cX7_taken 6 .int 2 [.ref A.1, .int p1, .int p2] (XWs G A S) (XWs G A S') r ∧ MI G l yX8_taken cX8_taken 4 .int 3 [.ref A.2.2.2.2.1, .int p1, .int p2] (MWs G A T) (MWs G A T') r ∧ Iv S' T'
def Fact_count (G : Gx) (l : Launch) (A : Lx) (Iv : Sx → Sm → Prop) : Prop := ∀ (S : Sx) (T : Sm), Iv S T → ∀ (p1 : Int32), ∃ (r : Int32) (S' : Sx) (T' : Sm), MI G l yX7_count cX7_count 2 .int 1 [.ref A.1, .int p1] (XWs G A S) (XWs G A S') r ∧ MI G l yX8_count cX8_count 2 .int 1 [.ref A.2.2.2.2.1, .int p1] (MWs G A T) (MWs G A T') r ∧ Iv S' T'
def Fact_tape (G : Gx) (l : Launch) (A : Lx) (Iv : Sx → Sm → Prop) : Prop := ∀ (S : Sx) (T : Sm), Iv S T → ∀ (p1 : Int32) (p2 : Int32) (p3 : Int32), ∃ (r : Int32) (S' : Sx) (T' : Sm), MI G l yX7_tape cX7_tape 4 .int 3 [.ref A.1, .int p1, .int p2, .int p3] (XWs G A S) (XWs G A S') r ∧ MI G l yX8_tape cX8_tape 5 .int 3 [.ref A.2.2.2.2.1, .int p1, .int p2, .int p3] (MWs G A T) (MWs G A T') r ∧ Iv S' T'
def Fact_item (G : Gx) (l : Launch) (A : Lx) (Iv : Sx → Sm → Prop) : Prop := ∀ (S : Sx) (T : Sm), Iv S T → ∀ (p1 : Int32) (p2 : Int32) (p3 : Int64), ∃ (r : Int32) (S' : Sx) (T' : Sm), MI G l yX7_item cX7_item 5 .int 2 [.ref A.1, .int p1, .int p2, .long p3] (XWs G A S) (XWs G A S') r ∧ MI G l yX8_item cX8_item 5 .int 3 [.ref A.2.2.2.2.1, .int p1, .int p2, .long p3] (MWs G A T) (MWs G A T') r ∧ Iv S' T'
def Fact_read (G : Gx) (l : Launch) (A : Lx) (Iv : Sx → Sm → Prop) : Prop := ∀ (S : Sx) (T : Sm), Iv S T → ∀ (p1 : Int32) (p2 : Int32), ∃ (r : Int64) (S' : Sx) (T' : Sm), ML G l yX7_read cX7_read 3 .long 2 [.ref A.1, .int p1, .int p2] (XWs G A S) (XWs G A S') r ∧ ML G l yX8_read cX8_read 3 .long 3 [.ref A.2.2.2.2.1, .int p1, .int p2] (MWs G A T) (MWs G A T') r ∧ Iv S' T'
def Fact_shift (G : Gx) (l : Launch) (A : Lx) (Iv : Sx → Sm → Prop) : Prop := ∀ (S : Sx) (T : Sm), Iv S T → ∀ (p1 : Int32) (p2 : Int32) (p3 : Int32) (p4 : Int32) (p5 : Int32), ∃ (r : Int32) (S' : Sx) (T' : Sm), MI G l yX7_shift cX7_shift 8 .int 2 [.ref A.1, .int p1, .int p2, .int p3, .int p4, .int p5] (XWs G A S) (XWs G A S') r ∧ MI G l yX8_shift cX8_shift 7 .int 3 [.ref A.2.2.2.2.1, .int p1, .int p2, .int p3, .int p4, .int p5] (MWs G A T) (MWs G A T') r ∧ Iv S' T'
set_option maxRecDepth 20000 in
set_option maxHeartbeats 2000000 in
theorem law_c0 {G : Gx} {K : Kx} (C : Cx G K cL_law RL 4 1000) {b N : Nat} {xs : Nat → Int32} (hL : Lsc K b N xs) (hR0 : 600000 ≤ K.2.2.2.1.cells ∧ 7302249 ≤ K.2.2.2.1.slots) {A : Lx} {Iv : Sx → Sm → Prop} (F : Fact_one G K.2.1 A Iv) {x3 : Int32} (hv1 : vp_in (x3 + 1) N) (hv2 : vp_in (x3 + 2) N) (hv3 : vp_in (x3 + 3) N) (hv4 : vp_in (x3 + 4) N) (hv5 : vp_in (x3 + 5) N) {S : Sx} {T : Sm} (hI : Iv S T) (hn : ∀ (S' : Sx) (T' : Sm), Iv S' T' → J G K 4 600000 7302249 (WW G A S' T') [(0, .ref b), (1, .ref A.1), (2, .ref A.2.2.2.2.1), (3, .int x3)] 1294 []) : J G K 4 600000 7302249 (WW G A S T) [(0, .ref b), (1, .ref A.1), (2, .ref A.2.2.2.2.1), (3, .int x3)] 180 [] := by
  refine j_aload_n C (pc := 180) 1 rfl rfl dL_law_180 ?_
  refine j_aload_n C (pc := 181) 0 rfl rfl dL_law_181 ?_
  refine j_iload_n C (pc := 182) 3 rfl rfl dL_law_182 ?_
  refine j_iconst C (pc := 183) (v := 1) (by decide) dL_law_183 ?_
  refine j_iadd C (pc := 184) dL_law_184 ?_
  refine j_sld C (pc := 185) hL hv1 dL_law_185 ?_
  refine j_aload_n C (pc := 186) 0 rfl rfl dL_law_186 ?_
  refine j_iload_n C (pc := 187) 3 rfl rfl dL_law_187 ?_
  refine j_iconst C (pc := 188) (v := 2) (by decide) dL_law_188 ?_
  refine j_iadd C (pc := 189) dL_law_189 ?_
  refine j_sld C (pc := 190) hL hv2 dL_law_190 ?_
  obtain ⟨r, S', T', hX, hM, hI2⟩ := F S T hI (xs (x3 + (1 : Int32)).toNatClampNeg) (xs (x3 + (2 : Int32)).toNatClampNeg)
  refine l_XI C (pc := 191) (As := [.int (xs (x3 + (1 : Int32)).toNatClampNeg), .int (xs (x3 + (2 : Int32)).toNatClampNeg)]) (st := []) ml_L_13 ms_X7_one hX rfl rfl rfl rfl rfl hR0 dL_law_191 ?_
  refine j_aload_n C (pc := 194) 2 rfl rfl dL_law_194 ?_
  refine j_aload_n C (pc := 195) 0 rfl rfl dL_law_195 ?_
  refine j_iload_n C (pc := 196) 3 rfl rfl dL_law_196 ?_
  refine j_iconst C (pc := 197) (v := 1) (by decide) dL_law_197 ?_
  refine j_iadd C (pc := 198) dL_law_198 ?_
  refine j_sld C (pc := 199) hL hv1 dL_law_199 ?_
  refine j_aload_n C (pc := 200) 0 rfl rfl dL_law_200 ?_
  refine j_iload_n C (pc := 201) 3 rfl rfl dL_law_201 ?_
  refine j_iconst C (pc := 202) (v := 2) (by decide) dL_law_202 ?_
  refine j_iadd C (pc := 203) dL_law_203 ?_
  refine j_sld C (pc := 204) hL hv2 dL_law_204 ?_
  refine l_MI C (pc := 205) (As := [.int (xs (x3 + (1 : Int32)).toNatClampNeg), .int (xs (x3 + (2 : Int32)).toNatClampNeg)]) (st := [.int r]) ml_L_17 ms_X8_one hM rfl rfl rfl rfl rfl hR0 dL_law_205 ?_
  refine j_h_same C (pc := 208) 1294 dL_law_208 (by decide) ?_
  exact hn S' T' hI2
set_option maxRecDepth 20000 in
set_option maxHeartbeats 2000000 in
theorem law_c1 {G : Gx} {K : Kx} (C : Cx G K cL_law RL 4 1000) {b N : Nat} {xs : Nat → Int32} (hL : Lsc K b N xs) (hR0 : 600000 ≤ K.2.2.2.1.cells ∧ 7302249 ≤ K.2.2.2.1.slots) {A : Lx} {Iv : Sx → Sm → Prop} (F : Fact_of G K.2.1 A Iv) {x3 : Int32} (hv1 : vp_in (x3 + 1) N) (hv2 : vp_in (x3 + 2) N) (hv3 : vp_in (x3 + 3) N) (hv4 : vp_in (x3 + 4) N) (hv5 : vp_in (x3 + 5) N) {S : Sx} {T : Sm} (hI : Iv S T) (hn : ∀ (S' : Sx) (T' : Sm), Iv S' T' → J G K 4 600000 7302249 (WW G A S' T') [(0, .ref b), (1, .ref A.1), (2, .ref A.2.2.2.2.1), (3, .int x3)] 1294 []) : J G K 4 600000 7302249 (WW G A S T) [(0, .ref b), (1, .ref A.1), (2, .ref A.2.2.2.2.1), (3, .int x3)] 213 [] := by
  refine j_aload_n C (pc := 213) 1 rfl rfl dL_law_213 ?_
  refine j_aload_n C (pc := 214) 0 rfl rfl dL_law_214 ?_
  refine j_iload_n C (pc := 215) 3 rfl rfl dL_law_215 ?_
  refine j_iconst C (pc := 216) (v := 1) (by decide) dL_law_216 ?_
  refine j_iadd C (pc := 217) dL_law_217 ?_
  refine j_sld C (pc := 218) hL hv1 dL_law_218 ?_
  refine j_aload_n C (pc := 219) 0 rfl rfl dL_law_219 ?_
  refine j_iload_n C (pc := 220) 3 rfl rfl dL_law_220 ?_
  refine j_iconst C (pc := 221) (v := 2) (by decide) dL_law_221 ?_
  refine j_iadd C (pc := 222) dL_law_222 ?_
  refine j_sld C (pc := 223) hL hv2 dL_law_223 ?_
  obtain ⟨r, S', T', hX, hM, hI2⟩ := F S T hI (xs (x3 + (1 : Int32)).toNatClampNeg) (xs (x3 + (2 : Int32)).toNatClampNeg)
  refine l_XI C (pc := 224) (As := [.int (xs (x3 + (1 : Int32)).toNatClampNeg), .int (xs (x3 + (2 : Int32)).toNatClampNeg)]) (st := []) ml_L_18 ms_X7_of hX rfl rfl rfl rfl rfl hR0 dL_law_224 ?_
  refine j_aload_n C (pc := 227) 2 rfl rfl dL_law_227 ?_
  refine j_aload_n C (pc := 228) 0 rfl rfl dL_law_228 ?_
  refine j_iload_n C (pc := 229) 3 rfl rfl dL_law_229 ?_
  refine j_iconst C (pc := 230) (v := 1) (by decide) dL_law_230 ?_
  refine j_iadd C (pc := 231) dL_law_231 ?_
  refine j_sld C (pc := 232) hL hv1 dL_law_232 ?_
  refine j_aload_n C (pc := 233) 0 rfl rfl dL_law_233 ?_
  refine j_iload_n C (pc := 234) 3 rfl rfl dL_law_234 ?_
  refine j_iconst C (pc := 235) (v := 2) (by decide) dL_law_235 ?_
  refine j_iadd C (pc := 236) dL_law_236 ?_
  refine j_sld C (pc := 237) hL hv2 dL_law_237 ?_
  refine l_MI C (pc := 238) (As := [.int (xs (x3 + (1 : Int32)).toNatClampNeg), .int (xs (x3 + (2 : Int32)).toNatClampNeg)]) (st := [.int r]) ml_L_21 ms_X8_of hM rfl rfl rfl rfl rfl hR0 dL_law_238 ?_
  refine j_h_same C (pc := 241) 1294 dL_law_241 (by decide) ?_
  exact hn S' T' hI2
set_option maxRecDepth 20000 in
set_option maxHeartbeats 2000000 in
theorem law_c2 {G : Gx} {K : Kx} (C : Cx G K cL_law RL 4 1000) {b N : Nat} {xs : Nat → Int32} (hL : Lsc K b N xs) (hR0 : 600000 ≤ K.2.2.2.1.cells ∧ 7302249 ≤ K.2.2.2.1.slots) {A : Lx} {Iv : Sx → Sm → Prop} (F : Fact_hate G K.2.1 A Iv) {x3 : Int32} (hv1 : vp_in (x3 + 1) N) (hv2 : vp_in (x3 + 2) N) (hv3 : vp_in (x3 + 3) N) (hv4 : vp_in (x3 + 4) N) (hv5 : vp_in (x3 + 5) N) {S : Sx} {T : Sm} (hI : Iv S T) (hn : ∀ (S' : Sx) (T' : Sm), Iv S' T' → J G K 4 600000 7302249 (WW G A S' T') [(0, .ref b), (1, .ref A.1), (2, .ref A.2.2.2.2.1), (3, .int x3)] 1294 []) : J G K 4 600000 7302249 (WW G A S T) [(0, .ref b), (1, .ref A.1), (2, .ref A.2.2.2.2.1), (3, .int x3)] 246 [] := by
  refine j_aload_n C (pc := 246) 1 rfl rfl dL_law_246 ?_
  refine j_aload_n C (pc := 247) 0 rfl rfl dL_law_247 ?_
  refine j_iload_n C (pc := 248) 3 rfl rfl dL_law_248 ?_
  refine j_iconst C (pc := 249) (v := 1) (by decide) dL_law_249 ?_
  refine j_iadd C (pc := 250) dL_law_250 ?_
  refine j_sld C (pc := 251) hL hv1 dL_law_251 ?_
  refine j_aload_n C (pc := 252) 0 rfl rfl dL_law_252 ?_
  refine j_iload_n C (pc := 253) 3 rfl rfl dL_law_253 ?_
  refine j_iconst C (pc := 254) (v := 2) (by decide) dL_law_254 ?_
  refine j_iadd C (pc := 255) dL_law_255 ?_
  refine j_sld C (pc := 256) hL hv2 dL_law_256 ?_
  refine j_aload_n C (pc := 257) 0 rfl rfl dL_law_257 ?_
  refine j_iload_n C (pc := 258) 3 rfl rfl dL_law_258 ?_
  refine j_iconst C (pc := 259) (v := 3) (by decide) dL_law_259 ?_
  refine j_iadd C (pc := 260) dL_law_260 ?_
  refine j_sld C (pc := 261) hL hv3 dL_law_261 ?_
  obtain ⟨r, S', T', hX, hM, hI2⟩ := F S T hI (xs (x3 + (1 : Int32)).toNatClampNeg) (xs (x3 + (2 : Int32)).toNatClampNeg) (xs (x3 + (3 : Int32)).toNatClampNeg)
  refine l_XI C (pc := 262) (As := [.int (xs (x3 + (1 : Int32)).toNatClampNeg), .int (xs (x3 + (2 : Int32)).toNatClampNeg), .int (xs (x3 + (3 : Int32)).toNatClampNeg)]) (st := []) ml_L_22 ms_X7_hate hX rfl rfl rfl rfl rfl hR0 dL_law_262 ?_
  refine j_aload_n C (pc := 265) 2 rfl rfl dL_law_265 ?_
  refine j_aload_n C (pc := 266) 0 rfl rfl dL_law_266 ?_
  refine j_iload_n C (pc := 267) 3 rfl rfl dL_law_267 ?_
  refine j_iconst C (pc := 268) (v := 1) (by decide) dL_law_268 ?_
  refine j_iadd C (pc := 269) dL_law_269 ?_
  refine j_sld C (pc := 270) hL hv1 dL_law_270 ?_
  refine j_aload_n C (pc := 271) 0 rfl rfl dL_law_271 ?_
  refine j_iload_n C (pc := 272) 3 rfl rfl dL_law_272 ?_
  refine j_iconst C (pc := 273) (v := 2) (by decide) dL_law_273 ?_
  refine j_iadd C (pc := 274) dL_law_274 ?_
  refine j_sld C (pc := 275) hL hv2 dL_law_275 ?_
  refine j_aload_n C (pc := 276) 0 rfl rfl dL_law_276 ?_
  refine j_iload_n C (pc := 277) 3 rfl rfl dL_law_277 ?_
  refine j_iconst C (pc := 278) (v := 3) (by decide) dL_law_278 ?_
  refine j_iadd C (pc := 279) dL_law_279 ?_
  refine j_sld C (pc := 280) hL hv3 dL_law_280 ?_
  refine l_MI C (pc := 281) (As := [.int (xs (x3 + (1 : Int32)).toNatClampNeg), .int (xs (x3 + (2 : Int32)).toNatClampNeg), .int (xs (x3 + (3 : Int32)).toNatClampNeg)]) (st := [.int r]) ml_L_26 ms_X8_hate hM rfl rfl rfl rfl rfl hR0 dL_law_281 ?_
  refine j_h_same C (pc := 284) 1294 dL_law_284 (by decide) ?_
  exact hn S' T' hI2
set_option maxRecDepth 20000 in
set_option maxHeartbeats 2000000 in
theorem law_c3 {G : Gx} {K : Kx} (C : Cx G K cL_law RL 4 1000) {b N : Nat} {xs : Nat → Int32} (hL : Lsc K b N xs) (hR0 : 600000 ≤ K.2.2.2.1.cells ∧ 7302249 ≤ K.2.2.2.1.slots) {A : Lx} {Iv : Sx → Sm → Prop} (F : Fact_between G K.2.1 A Iv) {x3 : Int32} (hv1 : vp_in (x3 + 1) N) (hv2 : vp_in (x3 + 2) N) (hv3 : vp_in (x3 + 3) N) (hv4 : vp_in (x3 + 4) N) (hv5 : vp_in (x3 + 5) N) {S : Sx} {T : Sm} (hI : Iv S T) (hn : ∀ (S' : Sx) (T' : Sm), Iv S' T' → J G K 4 600000 7302249 (WW G A S' T') [(0, .ref b), (1, .ref A.1), (2, .ref A.2.2.2.2.1), (3, .int x3)] 1294 []) : J G K 4 600000 7302249 (WW G A S T) [(0, .ref b), (1, .ref A.1), (2, .ref A.2.2.2.2.1), (3, .int x3)] 289 [] := by
  refine j_aload_n C (pc := 289) 1 rfl rfl dL_law_289 ?_
  refine j_aload_n C (pc := 290) 0 rfl rfl dL_law_290 ?_
  refine j_iload_n C (pc := 291) 3 rfl rfl dL_law_291 ?_
  refine j_iconst C (pc := 292) (v := 1) (by decide) dL_law_292 ?_
  refine j_iadd C (pc := 293) dL_law_293 ?_
  refine j_sld C (pc := 294) hL hv1 dL_law_294 ?_
  refine j_aload_n C (pc := 295) 0 rfl rfl dL_law_295 ?_
  refine j_iload_n C (pc := 296) 3 rfl rfl dL_law_296 ?_
  refine j_iconst C (pc := 297) (v := 2) (by decide) dL_law_297 ?_
  refine j_iadd C (pc := 298) dL_law_298 ?_
  refine j_sld C (pc := 299) hL hv2 dL_law_299 ?_
  refine j_aload_n C (pc := 300) 0 rfl rfl dL_law_300 ?_
  refine j_iload_n C (pc := 301) 3 rfl rfl dL_law_301 ?_
  refine j_iconst C (pc := 302) (v := 3) (by decide) dL_law_302 ?_
  refine j_iadd C (pc := 303) dL_law_303 ?_
  refine j_sld C (pc := 304) hL hv3 dL_law_304 ?_
  obtain ⟨r, S', T', hX, hM, hI2⟩ := F S T hI (xs (x3 + (1 : Int32)).toNatClampNeg) (xs (x3 + (2 : Int32)).toNatClampNeg) (xs (x3 + (3 : Int32)).toNatClampNeg)
  refine l_XI C (pc := 305) (As := [.int (xs (x3 + (1 : Int32)).toNatClampNeg), .int (xs (x3 + (2 : Int32)).toNatClampNeg), .int (xs (x3 + (3 : Int32)).toNatClampNeg)]) (st := []) ml_L_27 ms_X7_between hX rfl rfl rfl rfl rfl hR0 dL_law_305 ?_
  refine j_aload_n C (pc := 308) 2 rfl rfl dL_law_308 ?_
  refine j_aload_n C (pc := 309) 0 rfl rfl dL_law_309 ?_
  refine j_iload_n C (pc := 310) 3 rfl rfl dL_law_310 ?_
  refine j_iconst C (pc := 311) (v := 1) (by decide) dL_law_311 ?_
  refine j_iadd C (pc := 312) dL_law_312 ?_
  refine j_sld C (pc := 313) hL hv1 dL_law_313 ?_
  refine j_aload_n C (pc := 314) 0 rfl rfl dL_law_314 ?_
  refine j_iload_n C (pc := 315) 3 rfl rfl dL_law_315 ?_
  refine j_iconst C (pc := 316) (v := 2) (by decide) dL_law_316 ?_
  refine j_iadd C (pc := 317) dL_law_317 ?_
  refine j_sld C (pc := 318) hL hv2 dL_law_318 ?_
  refine j_aload_n C (pc := 319) 0 rfl rfl dL_law_319 ?_
  refine j_iload_n C (pc := 320) 3 rfl rfl dL_law_320 ?_
  refine j_iconst C (pc := 321) (v := 3) (by decide) dL_law_321 ?_
  refine j_iadd C (pc := 322) dL_law_322 ?_
  refine j_sld C (pc := 323) hL hv3 dL_law_323 ?_
  refine l_MI C (pc := 324) (As := [.int (xs (x3 + (1 : Int32)).toNatClampNeg), .int (xs (x3 + (2 : Int32)).toNatClampNeg), .int (xs (x3 + (3 : Int32)).toNatClampNeg)]) (st := [.int r]) ml_L_30 ms_X8_between hM rfl rfl rfl rfl rfl hR0 dL_law_324 ?_
  refine j_h_same C (pc := 327) 1294 dL_law_327 (by decide) ?_
  exact hn S' T' hI2
set_option maxRecDepth 20000 in
set_option maxHeartbeats 2000000 in
theorem law_c4 {G : Gx} {K : Kx} (C : Cx G K cL_law RL 4 1000) {b N : Nat} {xs : Nat → Int32} (hL : Lsc K b N xs) (hR0 : 600000 ≤ K.2.2.2.1.cells ∧ 7302249 ≤ K.2.2.2.1.slots) {A : Lx} {Iv : Sx → Sm → Prop} (F : Fact_die G K.2.1 A Iv) {x3 : Int32} (hv1 : vp_in (x3 + 1) N) (hv2 : vp_in (x3 + 2) N) (hv3 : vp_in (x3 + 3) N) (hv4 : vp_in (x3 + 4) N) (hv5 : vp_in (x3 + 5) N) {S : Sx} {T : Sm} (hI : Iv S T) (hn : ∀ (S' : Sx) (T' : Sm), Iv S' T' → J G K 4 600000 7302249 (WW G A S' T') [(0, .ref b), (1, .ref A.1), (2, .ref A.2.2.2.2.1), (3, .int x3)] 1294 []) : J G K 4 600000 7302249 (WW G A S T) [(0, .ref b), (1, .ref A.1), (2, .ref A.2.2.2.2.1), (3, .int x3)] 332 [] := by
  refine j_aload_n C (pc := 332) 1 rfl rfl dL_law_332 ?_
  refine j_aload_n C (pc := 333) 0 rfl rfl dL_law_333 ?_
  refine j_iload_n C (pc := 334) 3 rfl rfl dL_law_334 ?_
  refine j_iconst C (pc := 335) (v := 1) (by decide) dL_law_335 ?_
  refine j_iadd C (pc := 336) dL_law_336 ?_
  refine j_sld C (pc := 337) hL hv1 dL_law_337 ?_
  refine j_aload_n C (pc := 338) 0 rfl rfl dL_law_338 ?_
  refine j_iload_n C (pc := 339) 3 rfl rfl dL_law_339 ?_
  refine j_iconst C (pc := 340) (v := 2) (by decide) dL_law_340 ?_
  refine j_iadd C (pc := 341) dL_law_341 ?_
  refine j_sld C (pc := 342) hL hv2 dL_law_342 ?_
  refine j_h_if_eq C (pc := 343) 350 dL_law_343 (by decide) (fun c1 => ?_) (fun c1 => ?_)
  · skip
    refine j_iconst C (pc := 350) (v := 0) (by decide) dL_law_350 ?_
    obtain ⟨r, S', T', hX, hM, hI2⟩ := F S T hI (xs (x3 + (1 : Int32)).toNatClampNeg) (0 : Int32)
    refine l_XI C (pc := 351) (As := [.int (xs (x3 + (1 : Int32)).toNatClampNeg), .int (0 : Int32)]) (st := []) ml_L_31 ms_X7_die hX rfl rfl rfl rfl rfl hR0 dL_law_351 ?_
    refine j_aload_n C (pc := 354) 2 rfl rfl dL_law_354 ?_
    refine j_aload_n C (pc := 355) 0 rfl rfl dL_law_355 ?_
    refine j_iload_n C (pc := 356) 3 rfl rfl dL_law_356 ?_
    refine j_iconst C (pc := 357) (v := 1) (by decide) dL_law_357 ?_
    refine j_iadd C (pc := 358) dL_law_358 ?_
    refine j_sld C (pc := 359) hL hv1 dL_law_359 ?_
    refine j_aload_n C (pc := 360) 0 rfl rfl dL_law_360 ?_
    refine j_iload_n C (pc := 361) 3 rfl rfl dL_law_361 ?_
    refine j_iconst C (pc := 362) (v := 2) (by decide) dL_law_362 ?_
    refine j_iadd C (pc := 363) dL_law_363 ?_
    refine j_sld C (pc := 364) hL hv2 dL_law_364 ?_
    refine j_h_if_eq C (pc := 365) 372 dL_law_365 (by decide) (fun c2 => ?_) (fun c2 => ?_)
    · skip
      refine j_iconst C (pc := 372) (v := 0) (by decide) dL_law_372 ?_
      refine l_MI C (pc := 373) (As := [.int (xs (x3 + (1 : Int32)).toNatClampNeg), .int (0 : Int32)]) (st := [.int r]) ml_L_35 ms_X8_die hM rfl rfl rfl rfl rfl hR0 dL_law_373 ?_
      refine j_h_same C (pc := 376) 1294 dL_law_376 (by decide) ?_
      exact hn S' T' hI2
    · exact absurd c1 c2
  · skip
    refine j_iconst C (pc := 346) (v := 1) (by decide) dL_law_346 ?_
    refine j_goto C (pc := 347) 351 dL_law_347 (by decide) ?_
    obtain ⟨r, S', T', hX, hM, hI2⟩ := F S T hI (xs (x3 + (1 : Int32)).toNatClampNeg) (1 : Int32)
    refine l_XI C (pc := 351) (As := [.int (xs (x3 + (1 : Int32)).toNatClampNeg), .int (1 : Int32)]) (st := []) ml_L_31 ms_X7_die hX rfl rfl rfl rfl rfl hR0 dL_law_351 ?_
    refine j_aload_n C (pc := 354) 2 rfl rfl dL_law_354 ?_
    refine j_aload_n C (pc := 355) 0 rfl rfl dL_law_355 ?_
    refine j_iload_n C (pc := 356) 3 rfl rfl dL_law_356 ?_
    refine j_iconst C (pc := 357) (v := 1) (by decide) dL_law_357 ?_
    refine j_iadd C (pc := 358) dL_law_358 ?_
    refine j_sld C (pc := 359) hL hv1 dL_law_359 ?_
    refine j_aload_n C (pc := 360) 0 rfl rfl dL_law_360 ?_
    refine j_iload_n C (pc := 361) 3 rfl rfl dL_law_361 ?_
    refine j_iconst C (pc := 362) (v := 2) (by decide) dL_law_362 ?_
    refine j_iadd C (pc := 363) dL_law_363 ?_
    refine j_sld C (pc := 364) hL hv2 dL_law_364 ?_
    refine j_h_if_eq C (pc := 365) 372 dL_law_365 (by decide) (fun c2 => ?_) (fun c2 => ?_)
    · exact absurd c2 c1
    · skip
      refine j_iconst C (pc := 368) (v := 1) (by decide) dL_law_368 ?_
      refine j_goto C (pc := 369) 373 dL_law_369 (by decide) ?_
      refine l_MI C (pc := 373) (As := [.int (xs (x3 + (1 : Int32)).toNatClampNeg), .int (1 : Int32)]) (st := [.int r]) ml_L_35 ms_X8_die hM rfl rfl rfl rfl rfl hR0 dL_law_373 ?_
      refine j_h_same C (pc := 376) 1294 dL_law_376 (by decide) ?_
      exact hn S' T' hI2
set_option maxRecDepth 20000 in
set_option maxHeartbeats 2000000 in
theorem law_c5 {G : Gx} {K : Kx} (C : Cx G K cL_law RL 4 1000) {b N : Nat} {xs : Nat → Int32} (hL : Lsc K b N xs) (hR0 : 600000 ≤ K.2.2.2.1.cells ∧ 7302249 ≤ K.2.2.2.1.slots) {A : Lx} {Iv : Sx → Sm → Prop} (F : Fact_row G K.2.1 A Iv) {x3 : Int32} (hv1 : vp_in (x3 + 1) N) (hv2 : vp_in (x3 + 2) N) (hv3 : vp_in (x3 + 3) N) (hv4 : vp_in (x3 + 4) N) (hv5 : vp_in (x3 + 5) N) {S : Sx} {T : Sm} (hI : Iv S T) (hn : ∀ (S' : Sx) (T' : Sm), Iv S' T' → J G K 4 600000 7302249 (WW G A S' T') [(0, .ref b), (1, .ref A.1), (2, .ref A.2.2.2.2.1), (3, .int x3)] 1294 []) : J G K 4 600000 7302249 (WW G A S T) [(0, .ref b), (1, .ref A.1), (2, .ref A.2.2.2.2.1), (3, .int x3)] 381 [] := by
  refine j_aload_n C (pc := 381) 1 rfl rfl dL_law_381 ?_
  refine j_aload_n C (pc := 382) 0 rfl rfl dL_law_382 ?_
  refine j_iload_n C (pc := 383) 3 rfl rfl dL_law_383 ?_
  refine j_iconst C (pc := 384) (v := 1) (by decide) dL_law_384 ?_
  refine j_iadd C (pc := 385) dL_law_385 ?_
  refine j_sld C (pc := 386) hL hv1 dL_law_386 ?_
  refine j_aload_n C (pc := 387) 0 rfl rfl dL_law_387 ?_
  refine j_iload_n C (pc := 388) 3 rfl rfl dL_law_388 ?_
  refine j_iconst C (pc := 389) (v := 2) (by decide) dL_law_389 ?_
  refine j_iadd C (pc := 390) dL_law_390 ?_
  refine j_sld C (pc := 391) hL hv2 dL_law_391 ?_
  refine j_aload_n C (pc := 392) 0 rfl rfl dL_law_392 ?_
  refine j_iload_n C (pc := 393) 3 rfl rfl dL_law_393 ?_
  refine j_iconst C (pc := 394) (v := 3) (by decide) dL_law_394 ?_
  refine j_iadd C (pc := 395) dL_law_395 ?_
  refine j_sld C (pc := 396) hL hv3 dL_law_396 ?_
  obtain ⟨r, S', T', hX, hM, hI2⟩ := F S T hI (xs (x3 + (1 : Int32)).toNatClampNeg) (xs (x3 + (2 : Int32)).toNatClampNeg) (xs (x3 + (3 : Int32)).toNatClampNeg)
  refine l_XI C (pc := 397) (As := [.int (xs (x3 + (1 : Int32)).toNatClampNeg), .int (xs (x3 + (2 : Int32)).toNatClampNeg), .int (xs (x3 + (3 : Int32)).toNatClampNeg)]) (st := []) ml_L_36 ms_X7_row hX rfl rfl rfl rfl rfl hR0 dL_law_397 ?_
  refine j_aload_n C (pc := 400) 2 rfl rfl dL_law_400 ?_
  refine j_aload_n C (pc := 401) 0 rfl rfl dL_law_401 ?_
  refine j_iload_n C (pc := 402) 3 rfl rfl dL_law_402 ?_
  refine j_iconst C (pc := 403) (v := 1) (by decide) dL_law_403 ?_
  refine j_iadd C (pc := 404) dL_law_404 ?_
  refine j_sld C (pc := 405) hL hv1 dL_law_405 ?_
  refine j_aload_n C (pc := 406) 0 rfl rfl dL_law_406 ?_
  refine j_iload_n C (pc := 407) 3 rfl rfl dL_law_407 ?_
  refine j_iconst C (pc := 408) (v := 2) (by decide) dL_law_408 ?_
  refine j_iadd C (pc := 409) dL_law_409 ?_
  refine j_sld C (pc := 410) hL hv2 dL_law_410 ?_
  refine j_aload_n C (pc := 411) 0 rfl rfl dL_law_411 ?_
  refine j_iload_n C (pc := 412) 3 rfl rfl dL_law_412 ?_
  refine j_iconst C (pc := 413) (v := 3) (by decide) dL_law_413 ?_
  refine j_iadd C (pc := 414) dL_law_414 ?_
  refine j_sld C (pc := 415) hL hv3 dL_law_415 ?_
  refine l_MI C (pc := 416) (As := [.int (xs (x3 + (1 : Int32)).toNatClampNeg), .int (xs (x3 + (2 : Int32)).toNatClampNeg), .int (xs (x3 + (3 : Int32)).toNatClampNeg)]) (st := [.int r]) ml_L_39 ms_X8_row hM rfl rfl rfl rfl rfl hR0 dL_law_416 ?_
  refine j_h_same C (pc := 419) 1294 dL_law_419 (by decide) ?_
  exact hn S' T' hI2
set_option maxRecDepth 20000 in
set_option maxHeartbeats 2000000 in
theorem law_c6 {G : Gx} {K : Kx} (C : Cx G K cL_law RL 4 1000) {b N : Nat} {xs : Nat → Int32} (hL : Lsc K b N xs) (hR0 : 600000 ≤ K.2.2.2.1.cells ∧ 7302249 ≤ K.2.2.2.1.slots) {A : Lx} {Iv : Sx → Sm → Prop} (F : Fact_feed G K.2.1 A Iv) {x3 : Int32} (hv1 : vp_in (x3 + 1) N) (hv2 : vp_in (x3 + 2) N) (hv3 : vp_in (x3 + 3) N) (hv4 : vp_in (x3 + 4) N) (hv5 : vp_in (x3 + 5) N) {S : Sx} {T : Sm} (hI : Iv S T) (hn : ∀ (S' : Sx) (T' : Sm), Iv S' T' → J G K 4 600000 7302249 (WW G A S' T') [(0, .ref b), (1, .ref A.1), (2, .ref A.2.2.2.2.1), (3, .int x3)] 1294 []) : J G K 4 600000 7302249 (WW G A S T) [(0, .ref b), (1, .ref A.1), (2, .ref A.2.2.2.2.1), (3, .int x3)] 424 [] := by
  refine j_aload_n C (pc := 424) 1 rfl rfl dL_law_424 ?_
  refine j_aload_n C (pc := 425) 0 rfl rfl dL_law_425 ?_
  refine j_iload_n C (pc := 426) 3 rfl rfl dL_law_426 ?_
  refine j_iconst C (pc := 427) (v := 1) (by decide) dL_law_427 ?_
  refine j_iadd C (pc := 428) dL_law_428 ?_
  refine j_sld C (pc := 429) hL hv1 dL_law_429 ?_
  obtain ⟨r, S', T', hX, hM, hI2⟩ := F S T hI (xs (x3 + (1 : Int32)).toNatClampNeg)
  refine l_XI C (pc := 430) (As := [.int (xs (x3 + (1 : Int32)).toNatClampNeg)]) (st := []) ml_L_40 ms_X7_feed hX rfl rfl rfl rfl rfl hR0 dL_law_430 ?_
  refine j_aload_n C (pc := 433) 2 rfl rfl dL_law_433 ?_
  refine j_aload_n C (pc := 434) 0 rfl rfl dL_law_434 ?_
  refine j_iload_n C (pc := 435) 3 rfl rfl dL_law_435 ?_
  refine j_iconst C (pc := 436) (v := 1) (by decide) dL_law_436 ?_
  refine j_iadd C (pc := 437) dL_law_437 ?_
  refine j_sld C (pc := 438) hL hv1 dL_law_438 ?_
  refine l_MI C (pc := 439) (As := [.int (xs (x3 + (1 : Int32)).toNatClampNeg)]) (st := [.int r]) ml_L_44 ms_X8_feed hM rfl rfl rfl rfl rfl hR0 dL_law_439 ?_
  refine j_h_same C (pc := 442) 1294 dL_law_442 (by decide) ?_
  exact hn S' T' hI2
set_option maxRecDepth 20000 in
set_option maxHeartbeats 2000000 in
theorem law_c7 {G : Gx} {K : Kx} (C : Cx G K cL_law RL 4 1000) {b N : Nat} {xs : Nat → Int32} (hL : Lsc K b N xs) (hR0 : 600000 ≤ K.2.2.2.1.cells ∧ 7302249 ≤ K.2.2.2.1.slots) {A : Lx} {Iv : Sx → Sm → Prop} (F : Fact_parish G K.2.1 A Iv) {x3 : Int32} (hv1 : vp_in (x3 + 1) N) (hv2 : vp_in (x3 + 2) N) (hv3 : vp_in (x3 + 3) N) (hv4 : vp_in (x3 + 4) N) (hv5 : vp_in (x3 + 5) N) {S : Sx} {T : Sm} (hI : Iv S T) (hn : ∀ (S' : Sx) (T' : Sm), Iv S' T' → J G K 4 600000 7302249 (WW G A S' T') [(0, .ref b), (1, .ref A.1), (2, .ref A.2.2.2.2.1), (3, .int x3)] 1294 []) : J G K 4 600000 7302249 (WW G A S T) [(0, .ref b), (1, .ref A.1), (2, .ref A.2.2.2.2.1), (3, .int x3)] 447 [] := by
  refine j_aload_n C (pc := 447) 1 rfl rfl dL_law_447 ?_
  obtain ⟨r, S', T', hX, hM, hI2⟩ := F S T hI
  refine l_XI C (pc := 448) (As := []) (st := []) ml_L_45 ms_X7_parish hX rfl rfl rfl rfl rfl hR0 dL_law_448 ?_
  refine j_aload_n C (pc := 451) 2 rfl rfl dL_law_451 ?_
  refine l_MI C (pc := 452) (As := []) (st := [.int r]) ml_L_49 ms_X8_parish hM rfl rfl rfl rfl rfl hR0 dL_law_452 ?_
  refine j_h_same C (pc := 455) 1294 dL_law_455 (by decide) ?_
  exact hn S' T' hI2
set_option maxRecDepth 20000 in
set_option maxHeartbeats 2000000 in
theorem law_c8 {G : Gx} {K : Kx} (C : Cx G K cL_law RL 4 1000) {b N : Nat} {xs : Nat → Int32} (hL : Lsc K b N xs) (hR0 : 600000 ≤ K.2.2.2.1.cells ∧ 7302249 ≤ K.2.2.2.1.slots) {A : Lx} {Iv : Sx → Sm → Prop} (F : Fact_told G K.2.1 A Iv) {x3 : Int32} (hv1 : vp_in (x3 + 1) N) (hv2 : vp_in (x3 + 2) N) (hv3 : vp_in (x3 + 3) N) (hv4 : vp_in (x3 + 4) N) (hv5 : vp_in (x3 + 5) N) {S : Sx} {T : Sm} (hI : Iv S T) (hn : ∀ (S' : Sx) (T' : Sm), Iv S' T' → J G K 4 600000 7302249 (WW G A S' T') [(0, .ref b), (1, .ref A.1), (2, .ref A.2.2.2.2.1), (3, .int x3)] 1294 []) : J G K 4 600000 7302249 (WW G A S T) [(0, .ref b), (1, .ref A.1), (2, .ref A.2.2.2.2.1), (3, .int x3)] 460 [] := by
  refine j_aload_n C (pc := 460) 1 rfl rfl dL_law_460 ?_
  refine j_aload_n C (pc := 461) 0 rfl rfl dL_law_461 ?_
  refine j_iload_n C (pc := 462) 3 rfl rfl dL_law_462 ?_
  refine j_iconst C (pc := 463) (v := 1) (by decide) dL_law_463 ?_
  refine j_iadd C (pc := 464) dL_law_464 ?_
  refine j_sld C (pc := 465) hL hv1 dL_law_465 ?_
  obtain ⟨r, S', T', hX, hM, hI2⟩ := F S T hI (xs (x3 + (1 : Int32)).toNatClampNeg)
  refine l_XI C (pc := 466) (As := [.int (xs (x3 + (1 : Int32)).toNatClampNeg)]) (st := []) ml_L_50 ms_X7_told hX rfl rfl rfl rfl rfl hR0 dL_law_466 ?_
  refine j_aload_n C (pc := 469) 2 rfl rfl dL_law_469 ?_
  refine j_aload_n C (pc := 470) 0 rfl rfl dL_law_470 ?_
  refine j_iload_n C (pc := 471) 3 rfl rfl dL_law_471 ?_
  refine j_iconst C (pc := 472) (v := 1) (by decide) dL_law_472 ?_
  refine j_iadd C (pc := 473) dL_law_473 ?_
  refine j_sld C (pc := 474) hL hv1 dL_law_474 ?_
  refine l_MI C (pc := 475) (As := [.int (xs (x3 + (1 : Int32)).toNatClampNeg)]) (st := [.int r]) ml_L_53 ms_X8_told hM rfl rfl rfl rfl rfl hR0 dL_law_475 ?_
  refine j_h_same C (pc := 478) 1294 dL_law_478 (by decide) ?_
  exact hn S' T' hI2
set_option maxRecDepth 20000 in
set_option maxHeartbeats 2000000 in
theorem law_c9 {G : Gx} {K : Kx} (C : Cx G K cL_law RL 4 1000) {b N : Nat} {xs : Nat → Int32} (hL : Lsc K b N xs) (hR0 : 600000 ≤ K.2.2.2.1.cells ∧ 7302249 ≤ K.2.2.2.1.slots) {A : Lx} {Iv : Sx → Sm → Prop} (F : Fact_pass G K.2.1 A Iv) {x3 : Int32} (hv1 : vp_in (x3 + 1) N) (hv2 : vp_in (x3 + 2) N) (hv3 : vp_in (x3 + 3) N) (hv4 : vp_in (x3 + 4) N) (hv5 : vp_in (x3 + 5) N) {S : Sx} {T : Sm} (hI : Iv S T) (hn : ∀ (S' : Sx) (T' : Sm), Iv S' T' → J G K 4 600000 7302249 (WW G A S' T') [(0, .ref b), (1, .ref A.1), (2, .ref A.2.2.2.2.1), (3, .int x3)] 1294 []) : J G K 4 600000 7302249 (WW G A S T) [(0, .ref b), (1, .ref A.1), (2, .ref A.2.2.2.2.1), (3, .int x3)] 483 [] := by
  refine j_aload_n C (pc := 483) 1 rfl rfl dL_law_483 ?_
  refine j_aload_n C (pc := 484) 0 rfl rfl dL_law_484 ?_
  refine j_iload_n C (pc := 485) 3 rfl rfl dL_law_485 ?_
  refine j_iconst C (pc := 486) (v := 1) (by decide) dL_law_486 ?_
  refine j_iadd C (pc := 487) dL_law_487 ?_
  refine j_sld C (pc := 488) hL hv1 dL_law_488 ?_
  obtain ⟨r, S', T', hX, hM, hI2⟩ := F S T hI (xs (x3 + (1 : Int32)).toNatClampNeg)
  refine l_XI C (pc := 489) (As := [.int (xs (x3 + (1 : Int32)).toNatClampNeg)]) (st := []) ml_L_54 ms_X7_pass hX rfl rfl rfl rfl rfl hR0 dL_law_489 ?_
  refine j_aload_n C (pc := 492) 2 rfl rfl dL_law_492 ?_
  refine j_aload_n C (pc := 493) 0 rfl rfl dL_law_493 ?_
  refine j_iload_n C (pc := 494) 3 rfl rfl dL_law_494 ?_
  refine j_iconst C (pc := 495) (v := 1) (by decide) dL_law_495 ?_
  refine j_iadd C (pc := 496) dL_law_496 ?_
  refine j_sld C (pc := 497) hL hv1 dL_law_497 ?_
  refine l_MI C (pc := 498) (As := [.int (xs (x3 + (1 : Int32)).toNatClampNeg)]) (st := [.int r]) ml_L_57 ms_X8_pass hM rfl rfl rfl rfl rfl hR0 dL_law_498 ?_
  refine j_h_same C (pc := 501) 1294 dL_law_501 (by decide) ?_
  exact hn S' T' hI2
set_option maxRecDepth 20000 in
set_option maxHeartbeats 2000000 in
theorem law_c10 {G : Gx} {K : Kx} (C : Cx G K cL_law RL 4 1000) {b N : Nat} {xs : Nat → Int32} (hL : Lsc K b N xs) (hR0 : 600000 ≤ K.2.2.2.1.cells ∧ 7302249 ≤ K.2.2.2.1.slots) {A : Lx} {Iv : Sx → Sm → Prop} (F : Fact_on G K.2.1 A Iv) {x3 : Int32} (hv1 : vp_in (x3 + 1) N) (hv2 : vp_in (x3 + 2) N) (hv3 : vp_in (x3 + 3) N) (hv4 : vp_in (x3 + 4) N) (hv5 : vp_in (x3 + 5) N) {S : Sx} {T : Sm} (hI : Iv S T) (hn : ∀ (S' : Sx) (T' : Sm), Iv S' T' → J G K 4 600000 7302249 (WW G A S' T') [(0, .ref b), (1, .ref A.1), (2, .ref A.2.2.2.2.1), (3, .int x3)] 1294 []) : J G K 4 600000 7302249 (WW G A S T) [(0, .ref b), (1, .ref A.1), (2, .ref A.2.2.2.2.1), (3, .int x3)] 506 [] := by
  refine j_aload_n C (pc := 506) 1 rfl rfl dL_law_506 ?_
  refine j_aload_n C (pc := 507) 0 rfl rfl dL_law_507 ?_
  refine j_iload_n C (pc := 508) 3 rfl rfl dL_law_508 ?_
  refine j_iconst C (pc := 509) (v := 1) (by decide) dL_law_509 ?_
  refine j_iadd C (pc := 510) dL_law_510 ?_
  refine j_sld C (pc := 511) hL hv1 dL_law_511 ?_
  refine j_aload_n C (pc := 512) 0 rfl rfl dL_law_512 ?_
  refine j_iload_n C (pc := 513) 3 rfl rfl dL_law_513 ?_
  refine j_iconst C (pc := 514) (v := 2) (by decide) dL_law_514 ?_
  refine j_iadd C (pc := 515) dL_law_515 ?_
  refine j_sld C (pc := 516) hL hv2 dL_law_516 ?_
  obtain ⟨r, S', T', hX, hM, hI2⟩ := F S T hI (xs (x3 + (1 : Int32)).toNatClampNeg) (xs (x3 + (2 : Int32)).toNatClampNeg)
  refine l_XI C (pc := 517) (As := [.int (xs (x3 + (1 : Int32)).toNatClampNeg), .int (xs (x3 + (2 : Int32)).toNatClampNeg)]) (st := []) ml_L_58 ms_X7_on hX rfl rfl rfl rfl rfl hR0 dL_law_517 ?_
  refine j_aload_n C (pc := 520) 2 rfl rfl dL_law_520 ?_
  refine j_aload_n C (pc := 521) 0 rfl rfl dL_law_521 ?_
  refine j_iload_n C (pc := 522) 3 rfl rfl dL_law_522 ?_
  refine j_iconst C (pc := 523) (v := 1) (by decide) dL_law_523 ?_
  refine j_iadd C (pc := 524) dL_law_524 ?_
  refine j_sld C (pc := 525) hL hv1 dL_law_525 ?_
  refine j_aload_n C (pc := 526) 0 rfl rfl dL_law_526 ?_
  refine j_iload_n C (pc := 527) 3 rfl rfl dL_law_527 ?_
  refine j_iconst C (pc := 528) (v := 2) (by decide) dL_law_528 ?_
  refine j_iadd C (pc := 529) dL_law_529 ?_
  refine j_sld C (pc := 530) hL hv2 dL_law_530 ?_
  refine l_MI C (pc := 531) (As := [.int (xs (x3 + (1 : Int32)).toNatClampNeg), .int (xs (x3 + (2 : Int32)).toNatClampNeg)]) (st := [.int r]) ml_L_61 ms_X8_on hM rfl rfl rfl rfl rfl hR0 dL_law_531 ?_
  refine j_h_same C (pc := 534) 1294 dL_law_534 (by decide) ?_
  exact hn S' T' hI2
set_option maxRecDepth 20000 in
set_option maxHeartbeats 2000000 in
theorem law_c11 {G : Gx} {K : Kx} (C : Cx G K cL_law RL 4 1000) {b N : Nat} {xs : Nat → Int32} (hL : Lsc K b N xs) (hR0 : 600000 ≤ K.2.2.2.1.cells ∧ 7302249 ≤ K.2.2.2.1.slots) {A : Lx} {Iv : Sx → Sm → Prop} (F : Fact_handful G K.2.1 A Iv) {x3 : Int32} (hv1 : vp_in (x3 + 1) N) (hv2 : vp_in (x3 + 2) N) (hv3 : vp_in (x3 + 3) N) (hv4 : vp_in (x3 + 4) N) (hv5 : vp_in (x3 + 5) N) {S : Sx} {T : Sm} (hI : Iv S T) (hn : ∀ (S' : Sx) (T' : Sm), Iv S' T' → J G K 4 600000 7302249 (WW G A S' T') [(0, .ref b), (1, .ref A.1), (2, .ref A.2.2.2.2.1), (3, .int x3)] 1294 []) : J G K 4 600000 7302249 (WW G A S T) [(0, .ref b), (1, .ref A.1), (2, .ref A.2.2.2.2.1), (3, .int x3)] 539 [] := by
  refine j_aload_n C (pc := 539) 1 rfl rfl dL_law_539 ?_
  refine j_aload_n C (pc := 540) 0 rfl rfl dL_law_540 ?_
  refine j_iload_n C (pc := 541) 3 rfl rfl dL_law_541 ?_
  refine j_iconst C (pc := 542) (v := 1) (by decide) dL_law_542 ?_
  refine j_iadd C (pc := 543) dL_law_543 ?_
  refine j_sld C (pc := 544) hL hv1 dL_law_544 ?_
  obtain ⟨r, S', T', hX, hM, hI2⟩ := F S T hI (xs (x3 + (1 : Int32)).toNatClampNeg)
  refine l_XI C (pc := 545) (As := [.int (xs (x3 + (1 : Int32)).toNatClampNeg)]) (st := []) ml_L_62 ms_X7_handful hX rfl rfl rfl rfl rfl hR0 dL_law_545 ?_
  refine j_aload_n C (pc := 548) 2 rfl rfl dL_law_548 ?_
  refine j_aload_n C (pc := 549) 0 rfl rfl dL_law_549 ?_
  refine j_iload_n C (pc := 550) 3 rfl rfl dL_law_550 ?_
  refine j_iconst C (pc := 551) (v := 1) (by decide) dL_law_551 ?_
  refine j_iadd C (pc := 552) dL_law_552 ?_
  refine j_sld C (pc := 553) hL hv1 dL_law_553 ?_
  refine l_MI C (pc := 554) (As := [.int (xs (x3 + (1 : Int32)).toNatClampNeg)]) (st := [.int r]) ml_L_65 ms_X8_handful hM rfl rfl rfl rfl rfl hR0 dL_law_554 ?_
  refine j_h_same C (pc := 557) 1294 dL_law_557 (by decide) ?_
  exact hn S' T' hI2
set_option maxRecDepth 20000 in
set_option maxHeartbeats 2000000 in
theorem law_c12 {G : Gx} {K : Kx} (C : Cx G K cL_law RL 4 1000) {b N : Nat} {xs : Nat → Int32} (hL : Lsc K b N xs) (hR0 : 600000 ≤ K.2.2.2.1.cells ∧ 7302249 ≤ K.2.2.2.1.slots) {A : Lx} {Iv : Sx → Sm → Prop} (F : Fact_orders G K.2.1 A Iv) {x3 : Int32} (hv1 : vp_in (x3 + 1) N) (hv2 : vp_in (x3 + 2) N) (hv3 : vp_in (x3 + 3) N) (hv4 : vp_in (x3 + 4) N) (hv5 : vp_in (x3 + 5) N) {S : Sx} {T : Sm} (hI : Iv S T) (hn : ∀ (S' : Sx) (T' : Sm), Iv S' T' → J G K 4 600000 7302249 (WW G A S' T') [(0, .ref b), (1, .ref A.1), (2, .ref A.2.2.2.2.1), (3, .int x3)] 1294 []) : J G K 4 600000 7302249 (WW G A S T) [(0, .ref b), (1, .ref A.1), (2, .ref A.2.2.2.2.1), (3, .int x3)] 562 [] := by
  refine j_aload_n C (pc := 562) 1 rfl rfl dL_law_562 ?_
  refine j_aload_n C (pc := 563) 0 rfl rfl dL_law_563 ?_
  refine j_iload_n C (pc := 564) 3 rfl rfl dL_law_564 ?_
  refine j_iconst C (pc := 565) (v := 1) (by decide) dL_law_565 ?_
  refine j_iadd C (pc := 566) dL_law_566 ?_
  refine j_sld C (pc := 567) hL hv1 dL_law_567 ?_
  obtain ⟨r, S', T', hX, hM, hI2⟩ := F S T hI (xs (x3 + (1 : Int32)).toNatClampNeg)
  refine l_XI C (pc := 568) (As := [.int (xs (x3 + (1 : Int32)).toNatClampNeg)]) (st := []) ml_L_66 ms_X7_orders hX rfl rfl rfl rfl rfl hR0 dL_law_568 ?_
  refine j_aload_n C (pc := 571) 2 rfl rfl dL_law_571 ?_
  refine j_aload_n C (pc := 572) 0 rfl rfl dL_law_572 ?_
  refine j_iload_n C (pc := 573) 3 rfl rfl dL_law_573 ?_
  refine j_iconst C (pc := 574) (v := 1) (by decide) dL_law_574 ?_
  refine j_iadd C (pc := 575) dL_law_575 ?_
  refine j_sld C (pc := 576) hL hv1 dL_law_576 ?_
  refine l_MI C (pc := 577) (As := [.int (xs (x3 + (1 : Int32)).toNatClampNeg)]) (st := [.int r]) ml_L_69 ms_X8_orders hM rfl rfl rfl rfl rfl hR0 dL_law_577 ?_
  refine j_h_same C (pc := 580) 1294 dL_law_580 (by decide) ?_
  exact hn S' T' hI2
set_option maxRecDepth 20000 in
set_option maxHeartbeats 2000000 in
theorem law_c13 {G : Gx} {K : Kx} (C : Cx G K cL_law RL 4 1000) {b N : Nat} {xs : Nat → Int32} (hL : Lsc K b N xs) (hR0 : 600000 ≤ K.2.2.2.1.cells ∧ 7302249 ≤ K.2.2.2.1.slots) {A : Lx} {Iv : Sx → Sm → Prop} (F : Fact_see G K.2.1 A Iv) {x3 : Int32} (hv1 : vp_in (x3 + 1) N) (hv2 : vp_in (x3 + 2) N) (hv3 : vp_in (x3 + 3) N) (hv4 : vp_in (x3 + 4) N) (hv5 : vp_in (x3 + 5) N) {S : Sx} {T : Sm} (hI : Iv S T) (hn : ∀ (S' : Sx) (T' : Sm), Iv S' T' → J G K 4 600000 7302249 (WW G A S' T') [(0, .ref b), (1, .ref A.1), (2, .ref A.2.2.2.2.1), (3, .int x3)] 1294 []) : J G K 4 600000 7302249 (WW G A S T) [(0, .ref b), (1, .ref A.1), (2, .ref A.2.2.2.2.1), (3, .int x3)] 585 [] := by
  refine j_aload_n C (pc := 585) 1 rfl rfl dL_law_585 ?_
  refine j_aload_n C (pc := 586) 0 rfl rfl dL_law_586 ?_
  refine j_iload_n C (pc := 587) 3 rfl rfl dL_law_587 ?_
  refine j_iconst C (pc := 588) (v := 1) (by decide) dL_law_588 ?_
  refine j_iadd C (pc := 589) dL_law_589 ?_
  refine j_sld C (pc := 590) hL hv1 dL_law_590 ?_
  refine j_aload_n C (pc := 591) 0 rfl rfl dL_law_591 ?_
  refine j_iload_n C (pc := 592) 3 rfl rfl dL_law_592 ?_
  refine j_iconst C (pc := 593) (v := 2) (by decide) dL_law_593 ?_
  refine j_iadd C (pc := 594) dL_law_594 ?_
  refine j_sld C (pc := 595) hL hv2 dL_law_595 ?_
  refine j_aload_n C (pc := 596) 0 rfl rfl dL_law_596 ?_
  refine j_iload_n C (pc := 597) 3 rfl rfl dL_law_597 ?_
  refine j_iconst C (pc := 598) (v := 3) (by decide) dL_law_598 ?_
  refine j_iadd C (pc := 599) dL_law_599 ?_
  refine j_sld C (pc := 600) hL hv3 dL_law_600 ?_
  refine j_aload_n C (pc := 601) 0 rfl rfl dL_law_601 ?_
  refine j_iload_n C (pc := 602) 3 rfl rfl dL_law_602 ?_
  refine j_iconst C (pc := 603) (v := 4) (by decide) dL_law_603 ?_
  refine j_iadd C (pc := 604) dL_law_604 ?_
  refine j_sld C (pc := 605) hL hv4 dL_law_605 ?_
  refine j_h_if_eq C (pc := 606) 613 dL_law_606 (by decide) (fun c1 => ?_) (fun c1 => ?_)
  · skip
    refine j_iconst C (pc := 613) (v := 0) (by decide) dL_law_613 ?_
    obtain ⟨r, S', T', hX, hM, hI2⟩ := F S T hI (xs (x3 + (1 : Int32)).toNatClampNeg) (xs (x3 + (2 : Int32)).toNatClampNeg) (xs (x3 + (3 : Int32)).toNatClampNeg) (0 : Int32)
    refine l_XI C (pc := 614) (As := [.int (xs (x3 + (1 : Int32)).toNatClampNeg), .int (xs (x3 + (2 : Int32)).toNatClampNeg), .int (xs (x3 + (3 : Int32)).toNatClampNeg), .int (0 : Int32)]) (st := []) ml_L_70 ms_X7_see hX rfl rfl rfl rfl rfl hR0 dL_law_614 ?_
    refine j_aload_n C (pc := 617) 2 rfl rfl dL_law_617 ?_
    refine j_aload_n C (pc := 618) 0 rfl rfl dL_law_618 ?_
    refine j_iload_n C (pc := 619) 3 rfl rfl dL_law_619 ?_
    refine j_iconst C (pc := 620) (v := 1) (by decide) dL_law_620 ?_
    refine j_iadd C (pc := 621) dL_law_621 ?_
    refine j_sld C (pc := 622) hL hv1 dL_law_622 ?_
    refine j_aload_n C (pc := 623) 0 rfl rfl dL_law_623 ?_
    refine j_iload_n C (pc := 624) 3 rfl rfl dL_law_624 ?_
    refine j_iconst C (pc := 625) (v := 2) (by decide) dL_law_625 ?_
    refine j_iadd C (pc := 626) dL_law_626 ?_
    refine j_sld C (pc := 627) hL hv2 dL_law_627 ?_
    refine j_aload_n C (pc := 628) 0 rfl rfl dL_law_628 ?_
    refine j_iload_n C (pc := 629) 3 rfl rfl dL_law_629 ?_
    refine j_iconst C (pc := 630) (v := 3) (by decide) dL_law_630 ?_
    refine j_iadd C (pc := 631) dL_law_631 ?_
    refine j_sld C (pc := 632) hL hv3 dL_law_632 ?_
    refine j_aload_n C (pc := 633) 0 rfl rfl dL_law_633 ?_
    refine j_iload_n C (pc := 634) 3 rfl rfl dL_law_634 ?_
    refine j_iconst C (pc := 635) (v := 4) (by decide) dL_law_635 ?_
    refine j_iadd C (pc := 636) dL_law_636 ?_
    refine j_sld C (pc := 637) hL hv4 dL_law_637 ?_
    refine j_h_if_eq C (pc := 638) 645 dL_law_638 (by decide) (fun c2 => ?_) (fun c2 => ?_)
    · skip
      refine j_iconst C (pc := 645) (v := 0) (by decide) dL_law_645 ?_
      refine l_MI C (pc := 646) (As := [.int (xs (x3 + (1 : Int32)).toNatClampNeg), .int (xs (x3 + (2 : Int32)).toNatClampNeg), .int (xs (x3 + (3 : Int32)).toNatClampNeg), .int (0 : Int32)]) (st := [.int r]) ml_L_74 ms_X8_see hM rfl rfl rfl rfl rfl hR0 dL_law_646 ?_
      refine j_h_same C (pc := 649) 1294 dL_law_649 (by decide) ?_
      exact hn S' T' hI2
    · exact absurd c1 c2
  · skip
    refine j_iconst C (pc := 609) (v := 1) (by decide) dL_law_609 ?_
    refine j_goto C (pc := 610) 614 dL_law_610 (by decide) ?_
    obtain ⟨r, S', T', hX, hM, hI2⟩ := F S T hI (xs (x3 + (1 : Int32)).toNatClampNeg) (xs (x3 + (2 : Int32)).toNatClampNeg) (xs (x3 + (3 : Int32)).toNatClampNeg) (1 : Int32)
    refine l_XI C (pc := 614) (As := [.int (xs (x3 + (1 : Int32)).toNatClampNeg), .int (xs (x3 + (2 : Int32)).toNatClampNeg), .int (xs (x3 + (3 : Int32)).toNatClampNeg), .int (1 : Int32)]) (st := []) ml_L_70 ms_X7_see hX rfl rfl rfl rfl rfl hR0 dL_law_614 ?_
    refine j_aload_n C (pc := 617) 2 rfl rfl dL_law_617 ?_
    refine j_aload_n C (pc := 618) 0 rfl rfl dL_law_618 ?_
    refine j_iload_n C (pc := 619) 3 rfl rfl dL_law_619 ?_
    refine j_iconst C (pc := 620) (v := 1) (by decide) dL_law_620 ?_
    refine j_iadd C (pc := 621) dL_law_621 ?_
    refine j_sld C (pc := 622) hL hv1 dL_law_622 ?_
    refine j_aload_n C (pc := 623) 0 rfl rfl dL_law_623 ?_
    refine j_iload_n C (pc := 624) 3 rfl rfl dL_law_624 ?_
    refine j_iconst C (pc := 625) (v := 2) (by decide) dL_law_625 ?_
    refine j_iadd C (pc := 626) dL_law_626 ?_
    refine j_sld C (pc := 627) hL hv2 dL_law_627 ?_
    refine j_aload_n C (pc := 628) 0 rfl rfl dL_law_628 ?_
    refine j_iload_n C (pc := 629) 3 rfl rfl dL_law_629 ?_
    refine j_iconst C (pc := 630) (v := 3) (by decide) dL_law_630 ?_
    refine j_iadd C (pc := 631) dL_law_631 ?_
    refine j_sld C (pc := 632) hL hv3 dL_law_632 ?_
    refine j_aload_n C (pc := 633) 0 rfl rfl dL_law_633 ?_
    refine j_iload_n C (pc := 634) 3 rfl rfl dL_law_634 ?_
    refine j_iconst C (pc := 635) (v := 4) (by decide) dL_law_635 ?_
    refine j_iadd C (pc := 636) dL_law_636 ?_
    refine j_sld C (pc := 637) hL hv4 dL_law_637 ?_
    refine j_h_if_eq C (pc := 638) 645 dL_law_638 (by decide) (fun c2 => ?_) (fun c2 => ?_)
    · exact absurd c2 c1
    · skip
      refine j_iconst C (pc := 641) (v := 1) (by decide) dL_law_641 ?_
      refine j_goto C (pc := 642) 646 dL_law_642 (by decide) ?_
      refine l_MI C (pc := 646) (As := [.int (xs (x3 + (1 : Int32)).toNatClampNeg), .int (xs (x3 + (2 : Int32)).toNatClampNeg), .int (xs (x3 + (3 : Int32)).toNatClampNeg), .int (1 : Int32)]) (st := [.int r]) ml_L_74 ms_X8_see hM rfl rfl rfl rfl rfl hR0 dL_law_646 ?_
      refine j_h_same C (pc := 649) 1294 dL_law_649 (by decide) ?_
      exact hn S' T' hI2
set_option maxRecDepth 20000 in
set_option maxHeartbeats 2000000 in
theorem law_c14 {G : Gx} {K : Kx} (C : Cx G K cL_law RL 4 1000) {b N : Nat} {xs : Nat → Int32} (hL : Lsc K b N xs) (hR0 : 600000 ≤ K.2.2.2.1.cells ∧ 7302249 ≤ K.2.2.2.1.slots) {A : Lx} {Iv : Sx → Sm → Prop} (F : Fact_hates G K.2.1 A Iv) {x3 : Int32} (hv1 : vp_in (x3 + 1) N) (hv2 : vp_in (x3 + 2) N) (hv3 : vp_in (x3 + 3) N) (hv4 : vp_in (x3 + 4) N) (hv5 : vp_in (x3 + 5) N) {S : Sx} {T : Sm} (hI : Iv S T) (hn : ∀ (S' : Sx) (T' : Sm), Iv S' T' → J G K 4 600000 7302249 (WW G A S' T') [(0, .ref b), (1, .ref A.1), (2, .ref A.2.2.2.2.1), (3, .int x3)] 1294 []) : J G K 4 600000 7302249 (WW G A S T) [(0, .ref b), (1, .ref A.1), (2, .ref A.2.2.2.2.1), (3, .int x3)] 654 [] := by
  refine j_aload_n C (pc := 654) 1 rfl rfl dL_law_654 ?_
  refine j_aload_n C (pc := 655) 0 rfl rfl dL_law_655 ?_
  refine j_iload_n C (pc := 656) 3 rfl rfl dL_law_656 ?_
  refine j_iconst C (pc := 657) (v := 1) (by decide) dL_law_657 ?_
  refine j_iadd C (pc := 658) dL_law_658 ?_
  refine j_sld C (pc := 659) hL hv1 dL_law_659 ?_
  refine j_aload_n C (pc := 660) 0 rfl rfl dL_law_660 ?_
  refine j_iload_n C (pc := 661) 3 rfl rfl dL_law_661 ?_
  refine j_iconst C (pc := 662) (v := 2) (by decide) dL_law_662 ?_
  refine j_iadd C (pc := 663) dL_law_663 ?_
  refine j_sld C (pc := 664) hL hv2 dL_law_664 ?_
  refine j_aload_n C (pc := 665) 0 rfl rfl dL_law_665 ?_
  refine j_iload_n C (pc := 666) 3 rfl rfl dL_law_666 ?_
  refine j_iconst C (pc := 667) (v := 3) (by decide) dL_law_667 ?_
  refine j_iadd C (pc := 668) dL_law_668 ?_
  refine j_sld C (pc := 669) hL hv3 dL_law_669 ?_
  obtain ⟨r, S', T', hX, hM, hI2⟩ := F S T hI (xs (x3 + (1 : Int32)).toNatClampNeg) (xs (x3 + (2 : Int32)).toNatClampNeg) (xs (x3 + (3 : Int32)).toNatClampNeg)
  refine l_XI C (pc := 670) (As := [.int (xs (x3 + (1 : Int32)).toNatClampNeg), .int (xs (x3 + (2 : Int32)).toNatClampNeg), .int (xs (x3 + (3 : Int32)).toNatClampNeg)]) (st := []) ml_L_75 ms_X7_hates hX rfl rfl rfl rfl rfl hR0 dL_law_670 ?_
  refine j_aload_n C (pc := 673) 2 rfl rfl dL_law_673 ?_
  refine j_aload_n C (pc := 674) 0 rfl rfl dL_law_674 ?_
  refine j_iload_n C (pc := 675) 3 rfl rfl dL_law_675 ?_
  refine j_iconst C (pc := 676) (v := 1) (by decide) dL_law_676 ?_
  refine j_iadd C (pc := 677) dL_law_677 ?_
  refine j_sld C (pc := 678) hL hv1 dL_law_678 ?_
  refine j_aload_n C (pc := 679) 0 rfl rfl dL_law_679 ?_
  refine j_iload_n C (pc := 680) 3 rfl rfl dL_law_680 ?_
  refine j_iconst C (pc := 681) (v := 2) (by decide) dL_law_681 ?_
  refine j_iadd C (pc := 682) dL_law_682 ?_
  refine j_sld C (pc := 683) hL hv2 dL_law_683 ?_
  refine j_aload_n C (pc := 684) 0 rfl rfl dL_law_684 ?_
  refine j_iload_n C (pc := 685) 3 rfl rfl dL_law_685 ?_
  refine j_iconst C (pc := 686) (v := 3) (by decide) dL_law_686 ?_
  refine j_iadd C (pc := 687) dL_law_687 ?_
  refine j_sld C (pc := 688) hL hv3 dL_law_688 ?_
  refine l_MI C (pc := 689) (As := [.int (xs (x3 + (1 : Int32)).toNatClampNeg), .int (xs (x3 + (2 : Int32)).toNatClampNeg), .int (xs (x3 + (3 : Int32)).toNatClampNeg)]) (st := [.int r]) ml_L_78 ms_X8_hates hM rfl rfl rfl rfl rfl hR0 dL_law_689 ?_
  refine j_h_same C (pc := 692) 1294 dL_law_692 (by decide) ?_
  exact hn S' T' hI2
set_option maxRecDepth 20000 in
set_option maxHeartbeats 2000000 in
theorem law_c15 {G : Gx} {K : Kx} (C : Cx G K cL_law RL 4 1000) {b N : Nat} {xs : Nat → Int32} (hL : Lsc K b N xs) (hR0 : 600000 ≤ K.2.2.2.1.cells ∧ 7302249 ≤ K.2.2.2.1.slots) {A : Lx} {Iv : Sx → Sm → Prop} (F : Fact_can G K.2.1 A Iv) {x3 : Int32} (hv1 : vp_in (x3 + 1) N) (hv2 : vp_in (x3 + 2) N) (hv3 : vp_in (x3 + 3) N) (hv4 : vp_in (x3 + 4) N) (hv5 : vp_in (x3 + 5) N) {S : Sx} {T : Sm} (hI : Iv S T) (hn : ∀ (S' : Sx) (T' : Sm), Iv S' T' → J G K 4 600000 7302249 (WW G A S' T') [(0, .ref b), (1, .ref A.1), (2, .ref A.2.2.2.2.1), (3, .int x3)] 1294 []) : J G K 4 600000 7302249 (WW G A S T) [(0, .ref b), (1, .ref A.1), (2, .ref A.2.2.2.2.1), (3, .int x3)] 697 [] := by
  refine j_aload_n C (pc := 697) 1 rfl rfl dL_law_697 ?_
  refine j_aload_n C (pc := 698) 0 rfl rfl dL_law_698 ?_
  refine j_iload_n C (pc := 699) 3 rfl rfl dL_law_699 ?_
  refine j_iconst C (pc := 700) (v := 1) (by decide) dL_law_700 ?_
  refine j_iadd C (pc := 701) dL_law_701 ?_
  refine j_sld C (pc := 702) hL hv1 dL_law_702 ?_
  refine j_aload_n C (pc := 703) 0 rfl rfl dL_law_703 ?_
  refine j_iload_n C (pc := 704) 3 rfl rfl dL_law_704 ?_
  refine j_iconst C (pc := 705) (v := 2) (by decide) dL_law_705 ?_
  refine j_iadd C (pc := 706) dL_law_706 ?_
  refine j_sld C (pc := 707) hL hv2 dL_law_707 ?_
  obtain ⟨r, S', T', hX, hM, hI2⟩ := F S T hI (xs (x3 + (1 : Int32)).toNatClampNeg) (xs (x3 + (2 : Int32)).toNatClampNeg)
  refine l_XI C (pc := 708) (As := [.int (xs (x3 + (1 : Int32)).toNatClampNeg), .int (xs (x3 + (2 : Int32)).toNatClampNeg)]) (st := []) ml_L_79 ms_X7_can hX rfl rfl rfl rfl rfl hR0 dL_law_708 ?_
  refine j_aload_n C (pc := 711) 2 rfl rfl dL_law_711 ?_
  refine j_aload_n C (pc := 712) 0 rfl rfl dL_law_712 ?_
  refine j_iload_n C (pc := 713) 3 rfl rfl dL_law_713 ?_
  refine j_iconst C (pc := 714) (v := 1) (by decide) dL_law_714 ?_
  refine j_iadd C (pc := 715) dL_law_715 ?_
  refine j_sld C (pc := 716) hL hv1 dL_law_716 ?_
  refine j_aload_n C (pc := 717) 0 rfl rfl dL_law_717 ?_
  refine j_iload_n C (pc := 718) 3 rfl rfl dL_law_718 ?_
  refine j_iconst C (pc := 719) (v := 2) (by decide) dL_law_719 ?_
  refine j_iadd C (pc := 720) dL_law_720 ?_
  refine j_sld C (pc := 721) hL hv2 dL_law_721 ?_
  refine l_MI C (pc := 722) (As := [.int (xs (x3 + (1 : Int32)).toNatClampNeg), .int (xs (x3 + (2 : Int32)).toNatClampNeg)]) (st := [.int r]) ml_L_82 ms_X8_can hM rfl rfl rfl rfl rfl hR0 dL_law_722 ?_
  refine j_h_same C (pc := 725) 1294 dL_law_725 (by decide) ?_
  exact hn S' T' hI2
set_option maxRecDepth 20000 in
set_option maxHeartbeats 2000000 in
theorem law_c16 {G : Gx} {K : Kx} (C : Cx G K cL_law RL 4 1000) {b N : Nat} {xs : Nat → Int32} (hL : Lsc K b N xs) (hR0 : 600000 ≤ K.2.2.2.1.cells ∧ 7302249 ≤ K.2.2.2.1.slots) {A : Lx} {Iv : Sx → Sm → Prop} (F : Fact_odds G K.2.1 A Iv) {x3 : Int32} (hv1 : vp_in (x3 + 1) N) (hv2 : vp_in (x3 + 2) N) (hv3 : vp_in (x3 + 3) N) (hv4 : vp_in (x3 + 4) N) (hv5 : vp_in (x3 + 5) N) {S : Sx} {T : Sm} (hI : Iv S T) (hn : ∀ (S' : Sx) (T' : Sm), Iv S' T' → J G K 4 600000 7302249 (WW G A S' T') [(0, .ref b), (1, .ref A.1), (2, .ref A.2.2.2.2.1), (3, .int x3)] 1294 []) : J G K 4 600000 7302249 (WW G A S T) [(0, .ref b), (1, .ref A.1), (2, .ref A.2.2.2.2.1), (3, .int x3)] 730 [] := by
  refine j_aload_n C (pc := 730) 1 rfl rfl dL_law_730 ?_
  refine j_aload_n C (pc := 731) 0 rfl rfl dL_law_731 ?_
  refine j_iload_n C (pc := 732) 3 rfl rfl dL_law_732 ?_
  refine j_iconst C (pc := 733) (v := 1) (by decide) dL_law_733 ?_
  refine j_iadd C (pc := 734) dL_law_734 ?_
  refine j_sld C (pc := 735) hL hv1 dL_law_735 ?_
  refine j_aload_n C (pc := 736) 0 rfl rfl dL_law_736 ?_
  refine j_iload_n C (pc := 737) 3 rfl rfl dL_law_737 ?_
  refine j_iconst C (pc := 738) (v := 2) (by decide) dL_law_738 ?_
  refine j_iadd C (pc := 739) dL_law_739 ?_
  refine j_sld C (pc := 740) hL hv2 dL_law_740 ?_
  obtain ⟨r, S', T', hX, hM, hI2⟩ := F S T hI (xs (x3 + (1 : Int32)).toNatClampNeg) (xs (x3 + (2 : Int32)).toNatClampNeg)
  refine l_XL C (pc := 741) (As := [.int (xs (x3 + (1 : Int32)).toNatClampNeg), .int (xs (x3 + (2 : Int32)).toNatClampNeg)]) (st := []) ml_L_83 ms_X7_odds hX rfl rfl rfl rfl rfl hR0 dL_law_741 ?_
  refine j_aload_n C (pc := 744) 2 rfl rfl dL_law_744 ?_
  refine j_aload_n C (pc := 745) 0 rfl rfl dL_law_745 ?_
  refine j_iload_n C (pc := 746) 3 rfl rfl dL_law_746 ?_
  refine j_iconst C (pc := 747) (v := 1) (by decide) dL_law_747 ?_
  refine j_iadd C (pc := 748) dL_law_748 ?_
  refine j_sld C (pc := 749) hL hv1 dL_law_749 ?_
  refine j_aload_n C (pc := 750) 0 rfl rfl dL_law_750 ?_
  refine j_iload_n C (pc := 751) 3 rfl rfl dL_law_751 ?_
  refine j_iconst C (pc := 752) (v := 2) (by decide) dL_law_752 ?_
  refine j_iadd C (pc := 753) dL_law_753 ?_
  refine j_sld C (pc := 754) hL hv2 dL_law_754 ?_
  refine l_ML C (pc := 755) (As := [.int (xs (x3 + (1 : Int32)).toNatClampNeg), .int (xs (x3 + (2 : Int32)).toNatClampNeg)]) (st := [.long r]) ml_L_87 ms_X8_odds hM rfl rfl rfl rfl rfl hR0 dL_law_755 ?_
  refine j_h_sameL C (pc := 758) 1294 dL_law_758 dL_law_759 (by decide) ?_
  exact hn S' T' hI2
set_option maxRecDepth 20000 in
set_option maxHeartbeats 2000000 in
theorem law_c17 {G : Gx} {K : Kx} (C : Cx G K cL_law RL 4 1000) {b N : Nat} {xs : Nat → Int32} (hL : Lsc K b N xs) (hR0 : 600000 ≤ K.2.2.2.1.cells ∧ 7302249 ≤ K.2.2.2.1.slots) {A : Lx} {Iv : Sx → Sm → Prop} (F : Fact_mean G K.2.1 A Iv) {x3 : Int32} (hv1 : vp_in (x3 + 1) N) (hv2 : vp_in (x3 + 2) N) (hv3 : vp_in (x3 + 3) N) (hv4 : vp_in (x3 + 4) N) (hv5 : vp_in (x3 + 5) N) {S : Sx} {T : Sm} (hI : Iv S T) (hn : ∀ (S' : Sx) (T' : Sm), Iv S' T' → J G K 4 600000 7302249 (WW G A S' T') [(0, .ref b), (1, .ref A.1), (2, .ref A.2.2.2.2.1), (3, .int x3)] 1294 []) : J G K 4 600000 7302249 (WW G A S T) [(0, .ref b), (1, .ref A.1), (2, .ref A.2.2.2.2.1), (3, .int x3)] 764 [] := by
  refine j_aload_n C (pc := 764) 1 rfl rfl dL_law_764 ?_
  refine j_aload_n C (pc := 765) 0 rfl rfl dL_law_765 ?_
  refine j_iload_n C (pc := 766) 3 rfl rfl dL_law_766 ?_
  refine j_iconst C (pc := 767) (v := 1) (by decide) dL_law_767 ?_
  refine j_iadd C (pc := 768) dL_law_768 ?_
  refine j_sld C (pc := 769) hL hv1 dL_law_769 ?_
  obtain ⟨r, S', T', hX, hM, hI2⟩ := F S T hI (xs (x3 + (1 : Int32)).toNatClampNeg)
  refine l_XL C (pc := 770) (As := [.int (xs (x3 + (1 : Int32)).toNatClampNeg)]) (st := []) ml_L_88 ms_X7_mean hX rfl rfl rfl rfl rfl hR0 dL_law_770 ?_
  refine j_aload_n C (pc := 773) 2 rfl rfl dL_law_773 ?_
  refine j_aload_n C (pc := 774) 0 rfl rfl dL_law_774 ?_
  refine j_iload_n C (pc := 775) 3 rfl rfl dL_law_775 ?_
  refine j_iconst C (pc := 776) (v := 1) (by decide) dL_law_776 ?_
  refine j_iadd C (pc := 777) dL_law_777 ?_
  refine j_sld C (pc := 778) hL hv1 dL_law_778 ?_
  refine l_ML C (pc := 779) (As := [.int (xs (x3 + (1 : Int32)).toNatClampNeg)]) (st := [.long r]) ml_L_92 ms_X8_mean hM rfl rfl rfl rfl rfl hR0 dL_law_779 ?_
  refine j_h_sameL C (pc := 782) 1294 dL_law_782 dL_law_783 (by decide) ?_
  exact hn S' T' hI2
set_option maxRecDepth 20000 in
set_option maxHeartbeats 2000000 in
theorem law_c18 {G : Gx} {K : Kx} (C : Cx G K cL_law RL 4 1000) {b N : Nat} {xs : Nat → Int32} (hL : Lsc K b N xs) (hR0 : 600000 ≤ K.2.2.2.1.cells ∧ 7302249 ≤ K.2.2.2.1.slots) {A : Lx} {Iv : Sx → Sm → Prop} (F : Fact_plan G K.2.1 A Iv) {x3 : Int32} (hv1 : vp_in (x3 + 1) N) (hv2 : vp_in (x3 + 2) N) (hv3 : vp_in (x3 + 3) N) (hv4 : vp_in (x3 + 4) N) (hv5 : vp_in (x3 + 5) N) {S : Sx} {T : Sm} (hI : Iv S T) (hn : ∀ (S' : Sx) (T' : Sm), Iv S' T' → J G K 4 600000 7302249 (WW G A S' T') [(0, .ref b), (1, .ref A.1), (2, .ref A.2.2.2.2.1), (3, .int x3)] 1294 []) : J G K 4 600000 7302249 (WW G A S T) [(0, .ref b), (1, .ref A.1), (2, .ref A.2.2.2.2.1), (3, .int x3)] 788 [] := by
  refine j_aload_n C (pc := 788) 1 rfl rfl dL_law_788 ?_
  refine j_aload_n C (pc := 789) 0 rfl rfl dL_law_789 ?_
  refine j_iload_n C (pc := 790) 3 rfl rfl dL_law_790 ?_
  refine j_iconst C (pc := 791) (v := 1) (by decide) dL_law_791 ?_
  refine j_iadd C (pc := 792) dL_law_792 ?_
  refine j_sld C (pc := 793) hL hv1 dL_law_793 ?_
  refine j_aload_n C (pc := 794) 0 rfl rfl dL_law_794 ?_
  refine j_iload_n C (pc := 795) 3 rfl rfl dL_law_795 ?_
  refine j_iconst C (pc := 796) (v := 2) (by decide) dL_law_796 ?_
  refine j_iadd C (pc := 797) dL_law_797 ?_
  refine j_sld C (pc := 798) hL hv2 dL_law_798 ?_
  obtain ⟨r, S', T', hX, hM, hI2⟩ := F S T hI (xs (x3 + (1 : Int32)).toNatClampNeg) (xs (x3 + (2 : Int32)).toNatClampNeg)
  refine l_XI C (pc := 799) (As := [.int (xs (x3 + (1 : Int32)).toNatClampNeg), .int (xs (x3 + (2 : Int32)).toNatClampNeg)]) (st := []) ml_L_93 ms_X7_plan hX rfl rfl rfl rfl rfl hR0 dL_law_799 ?_
  refine j_aload_n C (pc := 802) 2 rfl rfl dL_law_802 ?_
  refine j_aload_n C (pc := 803) 0 rfl rfl dL_law_803 ?_
  refine j_iload_n C (pc := 804) 3 rfl rfl dL_law_804 ?_
  refine j_iconst C (pc := 805) (v := 1) (by decide) dL_law_805 ?_
  refine j_iadd C (pc := 806) dL_law_806 ?_
  refine j_sld C (pc := 807) hL hv1 dL_law_807 ?_
  refine j_aload_n C (pc := 808) 0 rfl rfl dL_law_808 ?_
  refine j_iload_n C (pc := 809) 3 rfl rfl dL_law_809 ?_
  refine j_iconst C (pc := 810) (v := 2) (by decide) dL_law_810 ?_
  refine j_iadd C (pc := 811) dL_law_811 ?_
  refine j_sld C (pc := 812) hL hv2 dL_law_812 ?_
  refine l_MI C (pc := 813) (As := [.int (xs (x3 + (1 : Int32)).toNatClampNeg), .int (xs (x3 + (2 : Int32)).toNatClampNeg)]) (st := [.int r]) ml_L_96 ms_X8_plan hM rfl rfl rfl rfl rfl hR0 dL_law_813 ?_
  refine j_h_same C (pc := 816) 1294 dL_law_816 (by decide) ?_
  exact hn S' T' hI2
set_option maxRecDepth 20000 in
set_option maxHeartbeats 2000000 in
theorem law_c19 {G : Gx} {K : Kx} (C : Cx G K cL_law RL 4 1000) {b N : Nat} {xs : Nat → Int32} (hL : Lsc K b N xs) (hR0 : 600000 ≤ K.2.2.2.1.cells ∧ 7302249 ≤ K.2.2.2.1.slots) {A : Lx} {Iv : Sx → Sm → Prop} (F : Fact_ends G K.2.1 A Iv) {x3 : Int32} (hv1 : vp_in (x3 + 1) N) (hv2 : vp_in (x3 + 2) N) (hv3 : vp_in (x3 + 3) N) (hv4 : vp_in (x3 + 4) N) (hv5 : vp_in (x3 + 5) N) {S : Sx} {T : Sm} (hI : Iv S T) (hn : ∀ (S' : Sx) (T' : Sm), Iv S' T' → J G K 4 600000 7302249 (WW G A S' T') [(0, .ref b), (1, .ref A.1), (2, .ref A.2.2.2.2.1), (3, .int x3)] 1294 []) : J G K 4 600000 7302249 (WW G A S T) [(0, .ref b), (1, .ref A.1), (2, .ref A.2.2.2.2.1), (3, .int x3)] 821 [] := by
  refine j_aload_n C (pc := 821) 1 rfl rfl dL_law_821 ?_
  refine j_aload_n C (pc := 822) 0 rfl rfl dL_law_822 ?_
  refine j_iload_n C (pc := 823) 3 rfl rfl dL_law_823 ?_
  refine j_iconst C (pc := 824) (v := 1) (by decide) dL_law_824 ?_
  refine j_iadd C (pc := 825) dL_law_825 ?_
  refine j_sld C (pc := 826) hL hv1 dL_law_826 ?_
  obtain ⟨r, S', T', hX, hM, hI2⟩ := F S T hI (xs (x3 + (1 : Int32)).toNatClampNeg)
  refine l_XI C (pc := 827) (As := [.int (xs (x3 + (1 : Int32)).toNatClampNeg)]) (st := []) ml_L_97 ms_X7_ends hX rfl rfl rfl rfl rfl hR0 dL_law_827 ?_
  refine j_aload_n C (pc := 830) 2 rfl rfl dL_law_830 ?_
  refine j_aload_n C (pc := 831) 0 rfl rfl dL_law_831 ?_
  refine j_iload_n C (pc := 832) 3 rfl rfl dL_law_832 ?_
  refine j_iconst C (pc := 833) (v := 1) (by decide) dL_law_833 ?_
  refine j_iadd C (pc := 834) dL_law_834 ?_
  refine j_sld C (pc := 835) hL hv1 dL_law_835 ?_
  refine l_MI C (pc := 836) (As := [.int (xs (x3 + (1 : Int32)).toNatClampNeg)]) (st := [.int r]) ml_L_100 ms_X8_ends hM rfl rfl rfl rfl rfl hR0 dL_law_836 ?_
  refine j_h_same C (pc := 839) 1294 dL_law_839 (by decide) ?_
  exact hn S' T' hI2
set_option maxRecDepth 20000 in
set_option maxHeartbeats 2000000 in
theorem law_c20 {G : Gx} {K : Kx} (C : Cx G K cL_law RL 4 1000) {b N : Nat} {xs : Nat → Int32} (hL : Lsc K b N xs) (hR0 : 600000 ≤ K.2.2.2.1.cells ∧ 7302249 ≤ K.2.2.2.1.slots) {A : Lx} {Iv : Sx → Sm → Prop} (F : Fact_book G K.2.1 A Iv) {x3 : Int32} (hv1 : vp_in (x3 + 1) N) (hv2 : vp_in (x3 + 2) N) (hv3 : vp_in (x3 + 3) N) (hv4 : vp_in (x3 + 4) N) (hv5 : vp_in (x3 + 5) N) {S : Sx} {T : Sm} (hI : Iv S T) (hn : ∀ (S' : Sx) (T' : Sm), Iv S' T' → J G K 4 600000 7302249 (WW G A S' T') [(0, .ref b), (1, .ref A.1), (2, .ref A.2.2.2.2.1), (3, .int x3)] 1294 []) : J G K 4 600000 7302249 (WW G A S T) [(0, .ref b), (1, .ref A.1), (2, .ref A.2.2.2.2.1), (3, .int x3)] 844 [] := by
  refine j_aload_n C (pc := 844) 1 rfl rfl dL_law_844 ?_
  refine j_aload_n C (pc := 845) 0 rfl rfl dL_law_845 ?_
  refine j_iload_n C (pc := 846) 3 rfl rfl dL_law_846 ?_
  refine j_iconst C (pc := 847) (v := 1) (by decide) dL_law_847 ?_
  refine j_iadd C (pc := 848) dL_law_848 ?_
  refine j_sld C (pc := 849) hL hv1 dL_law_849 ?_
  refine j_aload_n C (pc := 850) 0 rfl rfl dL_law_850 ?_
  refine j_iload_n C (pc := 851) 3 rfl rfl dL_law_851 ?_
  refine j_iconst C (pc := 852) (v := 2) (by decide) dL_law_852 ?_
  refine j_iadd C (pc := 853) dL_law_853 ?_
  refine j_sld C (pc := 854) hL hv2 dL_law_854 ?_
  refine j_aload_n C (pc := 855) 0 rfl rfl dL_law_855 ?_
  refine j_iload_n C (pc := 856) 3 rfl rfl dL_law_856 ?_
  refine j_iconst C (pc := 857) (v := 3) (by decide) dL_law_857 ?_
  refine j_iadd C (pc := 858) dL_law_858 ?_
  refine j_sld C (pc := 859) hL hv3 dL_law_859 ?_
  obtain ⟨r, S', T', hX, hM, hI2⟩ := F S T hI (xs (x3 + (1 : Int32)).toNatClampNeg) (xs (x3 + (2 : Int32)).toNatClampNeg) (xs (x3 + (3 : Int32)).toNatClampNeg)
  refine l_XI C (pc := 860) (As := [.int (xs (x3 + (1 : Int32)).toNatClampNeg), .int (xs (x3 + (2 : Int32)).toNatClampNeg), .int (xs (x3 + (3 : Int32)).toNatClampNeg)]) (st := []) ml_L_101 ms_X7_book hX rfl rfl rfl rfl rfl hR0 dL_law_860 ?_
  refine j_aload_n C (pc := 863) 2 rfl rfl dL_law_863 ?_
  refine j_aload_n C (pc := 864) 0 rfl rfl dL_law_864 ?_
  refine j_iload_n C (pc := 865) 3 rfl rfl dL_law_865 ?_
  refine j_iconst C (pc := 866) (v := 1) (by decide) dL_law_866 ?_
  refine j_iadd C (pc := 867) dL_law_867 ?_
  refine j_sld C (pc := 868) hL hv1 dL_law_868 ?_
  refine j_aload_n C (pc := 869) 0 rfl rfl dL_law_869 ?_
  refine j_iload_n C (pc := 870) 3 rfl rfl dL_law_870 ?_
  refine j_iconst C (pc := 871) (v := 2) (by decide) dL_law_871 ?_
  refine j_iadd C (pc := 872) dL_law_872 ?_
  refine j_sld C (pc := 873) hL hv2 dL_law_873 ?_
  refine j_aload_n C (pc := 874) 0 rfl rfl dL_law_874 ?_
  refine j_iload_n C (pc := 875) 3 rfl rfl dL_law_875 ?_
  refine j_iconst C (pc := 876) (v := 3) (by decide) dL_law_876 ?_
  refine j_iadd C (pc := 877) dL_law_877 ?_
  refine j_sld C (pc := 878) hL hv3 dL_law_878 ?_
  refine l_MI C (pc := 879) (As := [.int (xs (x3 + (1 : Int32)).toNatClampNeg), .int (xs (x3 + (2 : Int32)).toNatClampNeg), .int (xs (x3 + (3 : Int32)).toNatClampNeg)]) (st := [.int r]) ml_L_104 ms_X8_book hM rfl rfl rfl rfl rfl hR0 dL_law_879 ?_
  refine j_h_same C (pc := 882) 1294 dL_law_882 (by decide) ?_
  exact hn S' T' hI2
set_option maxRecDepth 20000 in
set_option maxHeartbeats 2000000 in
theorem law_c21 {G : Gx} {K : Kx} (C : Cx G K cL_law RL 4 1000) {b N : Nat} {xs : Nat → Int32} (hL : Lsc K b N xs) (hR0 : 600000 ≤ K.2.2.2.1.cells ∧ 7302249 ≤ K.2.2.2.1.slots) {A : Lx} {Iv : Sx → Sm → Prop} (F : Fact_looked G K.2.1 A Iv) {x3 : Int32} (hv1 : vp_in (x3 + 1) N) (hv2 : vp_in (x3 + 2) N) (hv3 : vp_in (x3 + 3) N) (hv4 : vp_in (x3 + 4) N) (hv5 : vp_in (x3 + 5) N) {S : Sx} {T : Sm} (hI : Iv S T) (hn : ∀ (S' : Sx) (T' : Sm), Iv S' T' → J G K 4 600000 7302249 (WW G A S' T') [(0, .ref b), (1, .ref A.1), (2, .ref A.2.2.2.2.1), (3, .int x3)] 1294 []) : J G K 4 600000 7302249 (WW G A S T) [(0, .ref b), (1, .ref A.1), (2, .ref A.2.2.2.2.1), (3, .int x3)] 887 [] := by
  refine j_aload_n C (pc := 887) 1 rfl rfl dL_law_887 ?_
  obtain ⟨r, S', T', hX, hM, hI2⟩ := F S T hI
  refine l_XI C (pc := 888) (As := []) (st := []) ml_L_105 ms_X7_looked hX rfl rfl rfl rfl rfl hR0 dL_law_888 ?_
  refine j_aload_n C (pc := 891) 2 rfl rfl dL_law_891 ?_
  refine l_MI C (pc := 892) (As := []) (st := [.int r]) ml_L_108 ms_X8_looked hM rfl rfl rfl rfl rfl hR0 dL_law_892 ?_
  refine j_h_same C (pc := 895) 1294 dL_law_895 (by decide) ?_
  exact hn S' T' hI2
set_option maxRecDepth 20000 in
set_option maxHeartbeats 2000000 in
theorem law_c22 {G : Gx} {K : Kx} (C : Cx G K cL_law RL 4 1000) {b N : Nat} {xs : Nat → Int32} (hL : Lsc K b N xs) (hR0 : 600000 ≤ K.2.2.2.1.cells ∧ 7302249 ≤ K.2.2.2.1.slots) {A : Lx} {Iv : Sx → Sm → Prop} (F : Fact_judge G K.2.1 A Iv) {x3 : Int32} (hv1 : vp_in (x3 + 1) N) (hv2 : vp_in (x3 + 2) N) (hv3 : vp_in (x3 + 3) N) (hv4 : vp_in (x3 + 4) N) (hv5 : vp_in (x3 + 5) N) {S : Sx} {T : Sm} (hI : Iv S T) (hn : ∀ (S' : Sx) (T' : Sm), Iv S' T' → J G K 4 600000 7302249 (WW G A S' T') [(0, .ref b), (1, .ref A.1), (2, .ref A.2.2.2.2.1), (3, .int x3)] 1294 []) : J G K 4 600000 7302249 (WW G A S T) [(0, .ref b), (1, .ref A.1), (2, .ref A.2.2.2.2.1), (3, .int x3)] 900 [] := by
  refine j_aload_n C (pc := 900) 1 rfl rfl dL_law_900 ?_
  refine j_aload_n C (pc := 901) 0 rfl rfl dL_law_901 ?_
  refine j_iload_n C (pc := 902) 3 rfl rfl dL_law_902 ?_
  refine j_iconst C (pc := 903) (v := 1) (by decide) dL_law_903 ?_
  refine j_iadd C (pc := 904) dL_law_904 ?_
  refine j_sld C (pc := 905) hL hv1 dL_law_905 ?_
  refine j_aload_n C (pc := 906) 0 rfl rfl dL_law_906 ?_
  refine j_iload_n C (pc := 907) 3 rfl rfl dL_law_907 ?_
  refine j_iconst C (pc := 908) (v := 2) (by decide) dL_law_908 ?_
  refine j_iadd C (pc := 909) dL_law_909 ?_
  refine j_sld C (pc := 910) hL hv2 dL_law_910 ?_
  obtain ⟨r, S', T', hX, hM, hI2⟩ := F S T hI (xs (x3 + (1 : Int32)).toNatClampNeg) (xs (x3 + (2 : Int32)).toNatClampNeg)
  refine l_XI C (pc := 911) (As := [.int (xs (x3 + (1 : Int32)).toNatClampNeg), .int (xs (x3 + (2 : Int32)).toNatClampNeg)]) (st := []) ml_L_109 ms_X7_judge hX rfl rfl rfl rfl rfl hR0 dL_law_911 ?_
  refine j_aload_n C (pc := 914) 2 rfl rfl dL_law_914 ?_
  refine j_aload_n C (pc := 915) 0 rfl rfl dL_law_915 ?_
  refine j_iload_n C (pc := 916) 3 rfl rfl dL_law_916 ?_
  refine j_iconst C (pc := 917) (v := 1) (by decide) dL_law_917 ?_
  refine j_iadd C (pc := 918) dL_law_918 ?_
  refine j_sld C (pc := 919) hL hv1 dL_law_919 ?_
  refine j_aload_n C (pc := 920) 0 rfl rfl dL_law_920 ?_
  refine j_iload_n C (pc := 921) 3 rfl rfl dL_law_921 ?_
  refine j_iconst C (pc := 922) (v := 2) (by decide) dL_law_922 ?_
  refine j_iadd C (pc := 923) dL_law_923 ?_
  refine j_sld C (pc := 924) hL hv2 dL_law_924 ?_
  refine l_MI C (pc := 925) (As := [.int (xs (x3 + (1 : Int32)).toNatClampNeg), .int (xs (x3 + (2 : Int32)).toNatClampNeg)]) (st := [.int r]) ml_L_112 ms_X8_judge hM rfl rfl rfl rfl rfl hR0 dL_law_925 ?_
  refine j_h_same C (pc := 928) 1294 dL_law_928 (by decide) ?_
  exact hn S' T' hI2
set_option maxRecDepth 20000 in
set_option maxHeartbeats 2000000 in
theorem law_c23 {G : Gx} {K : Kx} (C : Cx G K cL_law RL 4 1000) {b N : Nat} {xs : Nat → Int32} (hL : Lsc K b N xs) (hR0 : 600000 ≤ K.2.2.2.1.cells ∧ 7302249 ≤ K.2.2.2.1.slots) {A : Lx} {Iv : Sx → Sm → Prop} (F : Fact_image G K.2.1 A Iv) {x3 : Int32} (hv1 : vp_in (x3 + 1) N) (hv2 : vp_in (x3 + 2) N) (hv3 : vp_in (x3 + 3) N) (hv4 : vp_in (x3 + 4) N) (hv5 : vp_in (x3 + 5) N) {S : Sx} {T : Sm} (hI : Iv S T) (hn : ∀ (S' : Sx) (T' : Sm), Iv S' T' → J G K 4 600000 7302249 (WW G A S' T') [(0, .ref b), (1, .ref A.1), (2, .ref A.2.2.2.2.1), (3, .int x3)] 1294 []) : J G K 4 600000 7302249 (WW G A S T) [(0, .ref b), (1, .ref A.1), (2, .ref A.2.2.2.2.1), (3, .int x3)] 933 [] := by
  refine j_aload_n C (pc := 933) 1 rfl rfl dL_law_933 ?_
  obtain ⟨r, S', T', hX, hM, hI2⟩ := F S T hI
  refine l_XI C (pc := 934) (As := []) (st := []) ml_L_113 ms_X7_image hX rfl rfl rfl rfl rfl hR0 dL_law_934 ?_
  refine j_aload_n C (pc := 937) 2 rfl rfl dL_law_937 ?_
  refine l_MI C (pc := 938) (As := []) (st := [.int r]) ml_L_116 ms_X8_image hM rfl rfl rfl rfl rfl hR0 dL_law_938 ?_
  refine j_h_same C (pc := 941) 1294 dL_law_941 (by decide) ?_
  exact hn S' T' hI2
set_option maxRecDepth 20000 in
set_option maxHeartbeats 2000000 in
theorem law_c24 {G : Gx} {K : Kx} (C : Cx G K cL_law RL 4 1000) {b N : Nat} {xs : Nat → Int32} (hL : Lsc K b N xs) (hR0 : 600000 ≤ K.2.2.2.1.cells ∧ 7302249 ≤ K.2.2.2.1.slots) {A : Lx} {Iv : Sx → Sm → Prop} (F : Fact_undo G K.2.1 A Iv) {x3 : Int32} (hv1 : vp_in (x3 + 1) N) (hv2 : vp_in (x3 + 2) N) (hv3 : vp_in (x3 + 3) N) (hv4 : vp_in (x3 + 4) N) (hv5 : vp_in (x3 + 5) N) {S : Sx} {T : Sm} (hI : Iv S T) (hn : ∀ (S' : Sx) (T' : Sm), Iv S' T' → J G K 4 600000 7302249 (WW G A S' T') [(0, .ref b), (1, .ref A.1), (2, .ref A.2.2.2.2.1), (3, .int x3)] 1294 []) : J G K 4 600000 7302249 (WW G A S T) [(0, .ref b), (1, .ref A.1), (2, .ref A.2.2.2.2.1), (3, .int x3)] 946 [] := by
  refine j_aload_n C (pc := 946) 1 rfl rfl dL_law_946 ?_
  obtain ⟨r, S', T', hX, hM, hI2⟩ := F S T hI
  refine l_XI C (pc := 947) (As := []) (st := []) ml_L_117 ms_X7_undo hX rfl rfl rfl rfl rfl hR0 dL_law_947 ?_
  refine j_aload_n C (pc := 950) 2 rfl rfl dL_law_950 ?_
  refine l_MI C (pc := 951) (As := []) (st := [.int r]) ml_L_120 ms_X8_undo hM rfl rfl rfl rfl rfl hR0 dL_law_951 ?_
  refine j_h_same C (pc := 954) 1294 dL_law_954 (by decide) ?_
  exact hn S' T' hI2
set_option maxRecDepth 20000 in
set_option maxHeartbeats 2000000 in
theorem law_c25 {G : Gx} {K : Kx} (C : Cx G K cL_law RL 4 1000) {b N : Nat} {xs : Nat → Int32} (hL : Lsc K b N xs) (hR0 : 600000 ≤ K.2.2.2.1.cells ∧ 7302249 ≤ K.2.2.2.1.slots) {A : Lx} {Iv : Sx → Sm → Prop} (F : Fact_act G K.2.1 A Iv) {x3 : Int32} (hv1 : vp_in (x3 + 1) N) (hv2 : vp_in (x3 + 2) N) (hv3 : vp_in (x3 + 3) N) (hv4 : vp_in (x3 + 4) N) (hv5 : vp_in (x3 + 5) N) {S : Sx} {T : Sm} (hI : Iv S T) (hn : ∀ (S' : Sx) (T' : Sm), Iv S' T' → J G K 4 600000 7302249 (WW G A S' T') [(0, .ref b), (1, .ref A.1), (2, .ref A.2.2.2.2.1), (3, .int x3)] 1294 []) : J G K 4 600000 7302249 (WW G A S T) [(0, .ref b), (1, .ref A.1), (2, .ref A.2.2.2.2.1), (3, .int x3)] 959 [] := by
  refine j_aload_n C (pc := 959) 1 rfl rfl dL_law_959 ?_
  refine j_aload_n C (pc := 960) 0 rfl rfl dL_law_960 ?_
  refine j_iload_n C (pc := 961) 3 rfl rfl dL_law_961 ?_
  refine j_iconst C (pc := 962) (v := 1) (by decide) dL_law_962 ?_
  refine j_iadd C (pc := 963) dL_law_963 ?_
  refine j_sld C (pc := 964) hL hv1 dL_law_964 ?_
  refine j_aload_n C (pc := 965) 0 rfl rfl dL_law_965 ?_
  refine j_iload_n C (pc := 966) 3 rfl rfl dL_law_966 ?_
  refine j_iconst C (pc := 967) (v := 2) (by decide) dL_law_967 ?_
  refine j_iadd C (pc := 968) dL_law_968 ?_
  refine j_sld C (pc := 969) hL hv2 dL_law_969 ?_
  refine j_aload_n C (pc := 970) 0 rfl rfl dL_law_970 ?_
  refine j_iload_n C (pc := 971) 3 rfl rfl dL_law_971 ?_
  refine j_iconst C (pc := 972) (v := 3) (by decide) dL_law_972 ?_
  refine j_iadd C (pc := 973) dL_law_973 ?_
  refine j_sld C (pc := 974) hL hv3 dL_law_974 ?_
  obtain ⟨r, S', T', hX, hM, hI2⟩ := F S T hI (xs (x3 + (1 : Int32)).toNatClampNeg) (xs (x3 + (2 : Int32)).toNatClampNeg) (xs (x3 + (3 : Int32)).toNatClampNeg)
  refine l_XI C (pc := 975) (As := [.int (xs (x3 + (1 : Int32)).toNatClampNeg), .int (xs (x3 + (2 : Int32)).toNatClampNeg), .int (xs (x3 + (3 : Int32)).toNatClampNeg)]) (st := []) ml_L_121 ms_X7_act hX rfl rfl rfl rfl rfl hR0 dL_law_975 ?_
  refine j_aload_n C (pc := 978) 2 rfl rfl dL_law_978 ?_
  refine j_aload_n C (pc := 979) 0 rfl rfl dL_law_979 ?_
  refine j_iload_n C (pc := 980) 3 rfl rfl dL_law_980 ?_
  refine j_iconst C (pc := 981) (v := 1) (by decide) dL_law_981 ?_
  refine j_iadd C (pc := 982) dL_law_982 ?_
  refine j_sld C (pc := 983) hL hv1 dL_law_983 ?_
  refine j_aload_n C (pc := 984) 0 rfl rfl dL_law_984 ?_
  refine j_iload_n C (pc := 985) 3 rfl rfl dL_law_985 ?_
  refine j_iconst C (pc := 986) (v := 2) (by decide) dL_law_986 ?_
  refine j_iadd C (pc := 987) dL_law_987 ?_
  refine j_sld C (pc := 988) hL hv2 dL_law_988 ?_
  refine j_aload_n C (pc := 989) 0 rfl rfl dL_law_989 ?_
  refine j_iload_n C (pc := 990) 3 rfl rfl dL_law_990 ?_
  refine j_iconst C (pc := 991) (v := 3) (by decide) dL_law_991 ?_
  refine j_iadd C (pc := 992) dL_law_992 ?_
  refine j_sld C (pc := 993) hL hv3 dL_law_993 ?_
  refine l_MI C (pc := 994) (As := [.int (xs (x3 + (1 : Int32)).toNatClampNeg), .int (xs (x3 + (2 : Int32)).toNatClampNeg), .int (xs (x3 + (3 : Int32)).toNatClampNeg)]) (st := [.int r]) ml_L_124 ms_X8_act hM rfl rfl rfl rfl rfl hR0 dL_law_994 ?_
  refine j_h_same C (pc := 997) 1294 dL_law_997 (by decide) ?_
  exact hn S' T' hI2
set_option maxRecDepth 20000 in
set_option maxHeartbeats 2000000 in
theorem law_c26 {G : Gx} {K : Kx} (C : Cx G K cL_law RL 4 1000) {b N : Nat} {xs : Nat → Int32} (hL : Lsc K b N xs) (hR0 : 600000 ≤ K.2.2.2.1.cells ∧ 7302249 ≤ K.2.2.2.1.slots) {A : Lx} {Iv : Sx → Sm → Prop} (F : Fact_trace G K.2.1 A Iv) {x3 : Int32} (hv1 : vp_in (x3 + 1) N) (hv2 : vp_in (x3 + 2) N) (hv3 : vp_in (x3 + 3) N) (hv4 : vp_in (x3 + 4) N) (hv5 : vp_in (x3 + 5) N) {S : Sx} {T : Sm} (hI : Iv S T) (hn : ∀ (S' : Sx) (T' : Sm), Iv S' T' → J G K 4 600000 7302249 (WW G A S' T') [(0, .ref b), (1, .ref A.1), (2, .ref A.2.2.2.2.1), (3, .int x3)] 1294 []) : J G K 4 600000 7302249 (WW G A S T) [(0, .ref b), (1, .ref A.1), (2, .ref A.2.2.2.2.1), (3, .int x3)] 1002 [] := by
  refine j_aload_n C (pc := 1002) 1 rfl rfl dL_law_1002 ?_
  refine j_aload_n C (pc := 1003) 0 rfl rfl dL_law_1003 ?_
  refine j_iload_n C (pc := 1004) 3 rfl rfl dL_law_1004 ?_
  refine j_iconst C (pc := 1005) (v := 1) (by decide) dL_law_1005 ?_
  refine j_iadd C (pc := 1006) dL_law_1006 ?_
  refine j_sld C (pc := 1007) hL hv1 dL_law_1007 ?_
  obtain ⟨r, S', T', hX, hM, hI2⟩ := F S T hI (xs (x3 + (1 : Int32)).toNatClampNeg)
  refine l_XI C (pc := 1008) (As := [.int (xs (x3 + (1 : Int32)).toNatClampNeg)]) (st := []) ml_L_125 ms_X7_trace hX rfl rfl rfl rfl rfl hR0 dL_law_1008 ?_
  refine j_aload_n C (pc := 1011) 2 rfl rfl dL_law_1011 ?_
  refine j_aload_n C (pc := 1012) 0 rfl rfl dL_law_1012 ?_
  refine j_iload_n C (pc := 1013) 3 rfl rfl dL_law_1013 ?_
  refine j_iconst C (pc := 1014) (v := 1) (by decide) dL_law_1014 ?_
  refine j_iadd C (pc := 1015) dL_law_1015 ?_
  refine j_sld C (pc := 1016) hL hv1 dL_law_1016 ?_
  refine l_MI C (pc := 1017) (As := [.int (xs (x3 + (1 : Int32)).toNatClampNeg)]) (st := [.int r]) ml_L_128 ms_X8_trace hM rfl rfl rfl rfl rfl hR0 dL_law_1017 ?_
  refine j_h_same C (pc := 1020) 1294 dL_law_1020 (by decide) ?_
  exact hn S' T' hI2
set_option maxRecDepth 20000 in
set_option maxHeartbeats 2000000 in
theorem law_c27 {G : Gx} {K : Kx} (C : Cx G K cL_law RL 4 1000) {b N : Nat} {xs : Nat → Int32} (hL : Lsc K b N xs) (hR0 : 600000 ≤ K.2.2.2.1.cells ∧ 7302249 ≤ K.2.2.2.1.slots) {A : Lx} {Iv : Sx → Sm → Prop} (F : Fact_taken G K.2.1 A Iv) {x3 : Int32} (hv1 : vp_in (x3 + 1) N) (hv2 : vp_in (x3 + 2) N) (hv3 : vp_in (x3 + 3) N) (hv4 : vp_in (x3 + 4) N) (hv5 : vp_in (x3 + 5) N) {S : Sx} {T : Sm} (hI : Iv S T) (hn : ∀ (S' : Sx) (T' : Sm), Iv S' T' → J G K 4 600000 7302249 (WW G A S' T') [(0, .ref b), (1, .ref A.1), (2, .ref A.2.2.2.2.1), (3, .int x3)] 1294 []) : J G K 4 600000 7302249 (WW G A S T) [(0, .ref b), (1, .ref A.1), (2, .ref A.2.2.2.2.1), (3, .int x3)] 1025 [] := by
  refine j_aload_n C (pc := 1025) 1 rfl rfl dL_law_1025 ?_
  refine j_aload_n C (pc := 1026) 0 rfl rfl dL_law_1026 ?_
  refine j_iload_n C (pc := 1027) 3 rfl rfl dL_law_1027 ?_
  refine j_iconst C (pc := 1028) (v := 1) (by decide) dL_law_1028 ?_
  refine j_iadd C (pc := 1029) dL_law_1029 ?_
  refine j_sld C (pc := 1030) hL hv1 dL_law_1030 ?_
  refine j_aload_n C (pc := 1031) 0 rfl rfl dL_law_1031 ?_
  refine j_iload_n C (pc := 1032) 3 rfl rfl dL_law_1032 ?_
  refine j_iconst C (pc := 1033) (v := 2) (by decide) dL_law_1033 ?_
  refine j_iadd C (pc := 1034) dL_law_1034 ?_
  refine j_sld C (pc := 1035) hL hv2 dL_law_1035 ?_
  obtain ⟨r, S', T', hX, hM, hI2⟩ := F S T hI (xs (x3 + (1 : Int32)).toNatClampNeg) (xs (x3 + (2 : Int32)).toNatClampNeg)
  refine l_XI C (pc := 1036) (As := [.int (xs (x3 + (1 : Int32)).toNatClampNeg), .int (xs (x3 + (2 : Int32)).toNatClampNeg)]) (st := []) ml_L_129 ms_X7_taken hX rfl rfl rfl rfl rfl hR0 dL_law_1036 ?_
  refine j_aload_n C (pc := 1039) 2 rfl rfl dL_law_1039 ?_
  refine j_aload_n C (pc := 1040) 0 rfl rfl dL_law_1040 ?_
  refine j_iload_n C (pc := 1041) 3 rfl rfl dL_law_1041 ?_
  refine j_iconst C (pc := 1042) (v := 1) (by decide) dL_law_1042 ?_
  refine j_iadd C (pc := 1043) dL_law_1043 ?_
  refine j_sld C (pc := 1044) hL hv1 dL_law_1044 ?_
  refine j_aload_n C (pc := 1045) 0 rfl rfl dL_law_1045 ?_
  refine j_iload_n C (pc := 1046) 3 rfl rfl dL_law_1046 ?_
  refine j_iconst C (pc := 1047) (v := 2) (by decide) dL_law_1047 ?_
  refine j_iadd C (pc := 1048) dL_law_1048 ?_
  refine j_sld C (pc := 1049) hL hv2 dL_law_1049 ?_
  refine l_MI C (pc := 1050) (As := [.int (xs (x3 + (1 : Int32)).toNatClampNeg), .int (xs (x3 + (2 : Int32)).toNatClampNeg)]) (st := [.int r]) ml_L_132 ms_X8_taken hM rfl rfl rfl rfl rfl hR0 dL_law_1050 ?_
  refine j_h_same C (pc := 1053) 1294 dL_law_1053 (by decide) ?_
  exact hn S' T' hI2
set_option maxRecDepth 20000 in
set_option maxHeartbeats 2000000 in
theorem law_c28 {G : Gx} {K : Kx} (C : Cx G K cL_law RL 4 1000) {b N : Nat} {xs : Nat → Int32} (hL : Lsc K b N xs) (hR0 : 600000 ≤ K.2.2.2.1.cells ∧ 7302249 ≤ K.2.2.2.1.slots) {A : Lx} {Iv : Sx → Sm → Prop} (F : Fact_count G K.2.1 A Iv) {x3 : Int32} (hv1 : vp_in (x3 + 1) N) (hv2 : vp_in (x3 + 2) N) (hv3 : vp_in (x3 + 3) N) (hv4 : vp_in (x3 + 4) N) (hv5 : vp_in (x3 + 5) N) {S : Sx} {T : Sm} (hI : Iv S T) (hn : ∀ (S' : Sx) (T' : Sm), Iv S' T' → J G K 4 600000 7302249 (WW G A S' T') [(0, .ref b), (1, .ref A.1), (2, .ref A.2.2.2.2.1), (3, .int x3)] 1294 []) : J G K 4 600000 7302249 (WW G A S T) [(0, .ref b), (1, .ref A.1), (2, .ref A.2.2.2.2.1), (3, .int x3)] 1058 [] := by
  refine j_aload_n C (pc := 1058) 1 rfl rfl dL_law_1058 ?_
  refine j_aload_n C (pc := 1059) 0 rfl rfl dL_law_1059 ?_
  refine j_iload_n C (pc := 1060) 3 rfl rfl dL_law_1060 ?_
  refine j_iconst C (pc := 1061) (v := 1) (by decide) dL_law_1061 ?_
  refine j_iadd C (pc := 1062) dL_law_1062 ?_
  refine j_sld C (pc := 1063) hL hv1 dL_law_1063 ?_
  obtain ⟨r, S', T', hX, hM, hI2⟩ := F S T hI (xs (x3 + (1 : Int32)).toNatClampNeg)
  refine l_XI C (pc := 1064) (As := [.int (xs (x3 + (1 : Int32)).toNatClampNeg)]) (st := []) ml_L_133 ms_X7_count hX rfl rfl rfl rfl rfl hR0 dL_law_1064 ?_
  refine j_aload_n C (pc := 1067) 2 rfl rfl dL_law_1067 ?_
  refine j_aload_n C (pc := 1068) 0 rfl rfl dL_law_1068 ?_
  refine j_iload_n C (pc := 1069) 3 rfl rfl dL_law_1069 ?_
  refine j_iconst C (pc := 1070) (v := 1) (by decide) dL_law_1070 ?_
  refine j_iadd C (pc := 1071) dL_law_1071 ?_
  refine j_sld C (pc := 1072) hL hv1 dL_law_1072 ?_
  refine l_MI C (pc := 1073) (As := [.int (xs (x3 + (1 : Int32)).toNatClampNeg)]) (st := [.int r]) ml_L_136 ms_X8_count hM rfl rfl rfl rfl rfl hR0 dL_law_1073 ?_
  refine j_h_same C (pc := 1076) 1294 dL_law_1076 (by decide) ?_
  exact hn S' T' hI2
set_option maxRecDepth 20000 in
set_option maxHeartbeats 2000000 in
theorem law_c29 {G : Gx} {K : Kx} (C : Cx G K cL_law RL 4 1000) {b N : Nat} {xs : Nat → Int32} (hL : Lsc K b N xs) (hR0 : 600000 ≤ K.2.2.2.1.cells ∧ 7302249 ≤ K.2.2.2.1.slots) {A : Lx} {Iv : Sx → Sm → Prop} (F : Fact_tape G K.2.1 A Iv) {x3 : Int32} (hv1 : vp_in (x3 + 1) N) (hv2 : vp_in (x3 + 2) N) (hv3 : vp_in (x3 + 3) N) (hv4 : vp_in (x3 + 4) N) (hv5 : vp_in (x3 + 5) N) {S : Sx} {T : Sm} (hI : Iv S T) (hn : ∀ (S' : Sx) (T' : Sm), Iv S' T' → J G K 4 600000 7302249 (WW G A S' T') [(0, .ref b), (1, .ref A.1), (2, .ref A.2.2.2.2.1), (3, .int x3)] 1294 []) : J G K 4 600000 7302249 (WW G A S T) [(0, .ref b), (1, .ref A.1), (2, .ref A.2.2.2.2.1), (3, .int x3)] 1081 [] := by
  refine j_aload_n C (pc := 1081) 1 rfl rfl dL_law_1081 ?_
  refine j_aload_n C (pc := 1082) 0 rfl rfl dL_law_1082 ?_
  refine j_iload_n C (pc := 1083) 3 rfl rfl dL_law_1083 ?_
  refine j_iconst C (pc := 1084) (v := 1) (by decide) dL_law_1084 ?_
  refine j_iadd C (pc := 1085) dL_law_1085 ?_
  refine j_sld C (pc := 1086) hL hv1 dL_law_1086 ?_
  refine j_aload_n C (pc := 1087) 0 rfl rfl dL_law_1087 ?_
  refine j_iload_n C (pc := 1088) 3 rfl rfl dL_law_1088 ?_
  refine j_iconst C (pc := 1089) (v := 2) (by decide) dL_law_1089 ?_
  refine j_iadd C (pc := 1090) dL_law_1090 ?_
  refine j_sld C (pc := 1091) hL hv2 dL_law_1091 ?_
  refine j_aload_n C (pc := 1092) 0 rfl rfl dL_law_1092 ?_
  refine j_iload_n C (pc := 1093) 3 rfl rfl dL_law_1093 ?_
  refine j_iconst C (pc := 1094) (v := 3) (by decide) dL_law_1094 ?_
  refine j_iadd C (pc := 1095) dL_law_1095 ?_
  refine j_sld C (pc := 1096) hL hv3 dL_law_1096 ?_
  obtain ⟨r, S', T', hX, hM, hI2⟩ := F S T hI (xs (x3 + (1 : Int32)).toNatClampNeg) (xs (x3 + (2 : Int32)).toNatClampNeg) (xs (x3 + (3 : Int32)).toNatClampNeg)
  refine l_XI C (pc := 1097) (As := [.int (xs (x3 + (1 : Int32)).toNatClampNeg), .int (xs (x3 + (2 : Int32)).toNatClampNeg), .int (xs (x3 + (3 : Int32)).toNatClampNeg)]) (st := []) ml_L_137 ms_X7_tape hX rfl rfl rfl rfl rfl hR0 dL_law_1097 ?_
  refine j_aload_n C (pc := 1100) 2 rfl rfl dL_law_1100 ?_
  refine j_aload_n C (pc := 1101) 0 rfl rfl dL_law_1101 ?_
  refine j_iload_n C (pc := 1102) 3 rfl rfl dL_law_1102 ?_
  refine j_iconst C (pc := 1103) (v := 1) (by decide) dL_law_1103 ?_
  refine j_iadd C (pc := 1104) dL_law_1104 ?_
  refine j_sld C (pc := 1105) hL hv1 dL_law_1105 ?_
  refine j_aload_n C (pc := 1106) 0 rfl rfl dL_law_1106 ?_
  refine j_iload_n C (pc := 1107) 3 rfl rfl dL_law_1107 ?_
  refine j_iconst C (pc := 1108) (v := 2) (by decide) dL_law_1108 ?_
  refine j_iadd C (pc := 1109) dL_law_1109 ?_
  refine j_sld C (pc := 1110) hL hv2 dL_law_1110 ?_
  refine j_aload_n C (pc := 1111) 0 rfl rfl dL_law_1111 ?_
  refine j_iload_n C (pc := 1112) 3 rfl rfl dL_law_1112 ?_
  refine j_iconst C (pc := 1113) (v := 3) (by decide) dL_law_1113 ?_
  refine j_iadd C (pc := 1114) dL_law_1114 ?_
  refine j_sld C (pc := 1115) hL hv3 dL_law_1115 ?_
  refine l_MI C (pc := 1116) (As := [.int (xs (x3 + (1 : Int32)).toNatClampNeg), .int (xs (x3 + (2 : Int32)).toNatClampNeg), .int (xs (x3 + (3 : Int32)).toNatClampNeg)]) (st := [.int r]) ml_L_140 ms_X8_tape hM rfl rfl rfl rfl rfl hR0 dL_law_1116 ?_
  refine j_h_same C (pc := 1119) 1294 dL_law_1119 (by decide) ?_
  exact hn S' T' hI2
set_option maxRecDepth 20000 in
set_option maxHeartbeats 2000000 in
theorem law_c30 {G : Gx} {K : Kx} (C : Cx G K cL_law RL 4 1000) {b N : Nat} {xs : Nat → Int32} (hL : Lsc K b N xs) (hR0 : 600000 ≤ K.2.2.2.1.cells ∧ 7302249 ≤ K.2.2.2.1.slots) {A : Lx} {Iv : Sx → Sm → Prop} (F : Fact_item G K.2.1 A Iv) {x3 : Int32} (hv1 : vp_in (x3 + 1) N) (hv2 : vp_in (x3 + 2) N) (hv3 : vp_in (x3 + 3) N) (hv4 : vp_in (x3 + 4) N) (hv5 : vp_in (x3 + 5) N) {S : Sx} {T : Sm} (hI : Iv S T) (hn : ∀ (S' : Sx) (T' : Sm), Iv S' T' → J G K 4 600000 7302249 (WW G A S' T') [(0, .ref b), (1, .ref A.1), (2, .ref A.2.2.2.2.1), (3, .int x3)] 1294 []) : J G K 4 600000 7302249 (WW G A S T) [(0, .ref b), (1, .ref A.1), (2, .ref A.2.2.2.2.1), (3, .int x3)] 1124 [] := by
  refine j_aload_n C (pc := 1124) 1 rfl rfl dL_law_1124 ?_
  refine j_aload_n C (pc := 1125) 0 rfl rfl dL_law_1125 ?_
  refine j_iload_n C (pc := 1126) 3 rfl rfl dL_law_1126 ?_
  refine j_iconst C (pc := 1127) (v := 1) (by decide) dL_law_1127 ?_
  refine j_iadd C (pc := 1128) dL_law_1128 ?_
  refine j_sld C (pc := 1129) hL hv1 dL_law_1129 ?_
  refine j_aload_n C (pc := 1130) 0 rfl rfl dL_law_1130 ?_
  refine j_iload_n C (pc := 1131) 3 rfl rfl dL_law_1131 ?_
  refine j_iconst C (pc := 1132) (v := 2) (by decide) dL_law_1132 ?_
  refine j_iadd C (pc := 1133) dL_law_1133 ?_
  refine j_sld C (pc := 1134) hL hv2 dL_law_1134 ?_
  refine j_aload_n C (pc := 1135) 0 rfl rfl dL_law_1135 ?_
  refine j_iload_n C (pc := 1136) 3 rfl rfl dL_law_1136 ?_
  refine j_iconst C (pc := 1137) (v := 3) (by decide) dL_law_1137 ?_
  refine j_iadd C (pc := 1138) dL_law_1138 ?_
  refine j_sld C (pc := 1139) hL hv3 dL_law_1139 ?_
  refine j_i2l C (pc := 1140) dL_law_1140 ?_
  refine j_bipush C (pc := 1141) (v := 32) (by decide) dL_law_1141 ?_
  refine j_lshl C (pc := 1143) dL_law_1143 ?_
  refine j_aload_n C (pc := 1144) 0 rfl rfl dL_law_1144 ?_
  refine j_iload_n C (pc := 1145) 3 rfl rfl dL_law_1145 ?_
  refine j_iconst C (pc := 1146) (v := 4) (by decide) dL_law_1146 ?_
  refine j_iadd C (pc := 1147) dL_law_1147 ?_
  refine j_sld C (pc := 1148) hL hv4 dL_law_1148 ?_
  refine j_i2l C (pc := 1149) dL_law_1149 ?_
  refine j_ldc2 C (pc := 1150) kk_L_141 dL_law_1150 ?_
  refine j_land C (pc := 1153) dL_law_1153 ?_
  refine j_lor C (pc := 1154) dL_law_1154 ?_
  obtain ⟨r, S', T', hX, hM, hI2⟩ := F S T hI (xs (x3 + (1 : Int32)).toNatClampNeg) (xs (x3 + (2 : Int32)).toNatClampNeg) ((((xs (x3 + (3 : Int32)).toNatClampNeg)).toInt64 <<< (((32 : Int32)).toInt64 &&& 63)) ||| (((xs (x3 + (4 : Int32)).toNatClampNeg)).toInt64 &&& (4294967295 : Int64)))
  refine l_XI C (pc := 1155) (As := [.int (xs (x3 + (1 : Int32)).toNatClampNeg), .int (xs (x3 + (2 : Int32)).toNatClampNeg), .long ((((xs (x3 + (3 : Int32)).toNatClampNeg)).toInt64 <<< (((32 : Int32)).toInt64 &&& 63)) ||| (((xs (x3 + (4 : Int32)).toNatClampNeg)).toInt64 &&& (4294967295 : Int64)))]) (st := []) ml_L_143 ms_X7_item hX rfl rfl rfl rfl rfl hR0 dL_law_1155 ?_
  refine j_aload_n C (pc := 1158) 2 rfl rfl dL_law_1158 ?_
  refine j_aload_n C (pc := 1159) 0 rfl rfl dL_law_1159 ?_
  refine j_iload_n C (pc := 1160) 3 rfl rfl dL_law_1160 ?_
  refine j_iconst C (pc := 1161) (v := 1) (by decide) dL_law_1161 ?_
  refine j_iadd C (pc := 1162) dL_law_1162 ?_
  refine j_sld C (pc := 1163) hL hv1 dL_law_1163 ?_
  refine j_aload_n C (pc := 1164) 0 rfl rfl dL_law_1164 ?_
  refine j_iload_n C (pc := 1165) 3 rfl rfl dL_law_1165 ?_
  refine j_iconst C (pc := 1166) (v := 2) (by decide) dL_law_1166 ?_
  refine j_iadd C (pc := 1167) dL_law_1167 ?_
  refine j_sld C (pc := 1168) hL hv2 dL_law_1168 ?_
  refine j_aload_n C (pc := 1169) 0 rfl rfl dL_law_1169 ?_
  refine j_iload_n C (pc := 1170) 3 rfl rfl dL_law_1170 ?_
  refine j_iconst C (pc := 1171) (v := 3) (by decide) dL_law_1171 ?_
  refine j_iadd C (pc := 1172) dL_law_1172 ?_
  refine j_sld C (pc := 1173) hL hv3 dL_law_1173 ?_
  refine j_i2l C (pc := 1174) dL_law_1174 ?_
  refine j_bipush C (pc := 1175) (v := 32) (by decide) dL_law_1175 ?_
  refine j_lshl C (pc := 1177) dL_law_1177 ?_
  refine j_aload_n C (pc := 1178) 0 rfl rfl dL_law_1178 ?_
  refine j_iload_n C (pc := 1179) 3 rfl rfl dL_law_1179 ?_
  refine j_iconst C (pc := 1180) (v := 4) (by decide) dL_law_1180 ?_
  refine j_iadd C (pc := 1181) dL_law_1181 ?_
  refine j_sld C (pc := 1182) hL hv4 dL_law_1182 ?_
  refine j_i2l C (pc := 1183) dL_law_1183 ?_
  refine j_ldc2 C (pc := 1184) kk_L_141 dL_law_1184 ?_
  refine j_land C (pc := 1187) dL_law_1187 ?_
  refine j_lor C (pc := 1188) dL_law_1188 ?_
  refine l_MI C (pc := 1189) (As := [.int (xs (x3 + (1 : Int32)).toNatClampNeg), .int (xs (x3 + (2 : Int32)).toNatClampNeg), .long ((((xs (x3 + (3 : Int32)).toNatClampNeg)).toInt64 <<< (((32 : Int32)).toInt64 &&& 63)) ||| (((xs (x3 + (4 : Int32)).toNatClampNeg)).toInt64 &&& (4294967295 : Int64)))]) (st := [.int r]) ml_L_147 ms_X8_item hM rfl rfl rfl rfl rfl hR0 dL_law_1189 ?_
  refine j_h_same C (pc := 1192) 1294 dL_law_1192 (by decide) ?_
  exact hn S' T' hI2
set_option maxRecDepth 20000 in
set_option maxHeartbeats 2000000 in
theorem law_c31 {G : Gx} {K : Kx} (C : Cx G K cL_law RL 4 1000) {b N : Nat} {xs : Nat → Int32} (hL : Lsc K b N xs) (hR0 : 600000 ≤ K.2.2.2.1.cells ∧ 7302249 ≤ K.2.2.2.1.slots) {A : Lx} {Iv : Sx → Sm → Prop} (F : Fact_read G K.2.1 A Iv) {x3 : Int32} (hv1 : vp_in (x3 + 1) N) (hv2 : vp_in (x3 + 2) N) (hv3 : vp_in (x3 + 3) N) (hv4 : vp_in (x3 + 4) N) (hv5 : vp_in (x3 + 5) N) {S : Sx} {T : Sm} (hI : Iv S T) (hn : ∀ (S' : Sx) (T' : Sm), Iv S' T' → J G K 4 600000 7302249 (WW G A S' T') [(0, .ref b), (1, .ref A.1), (2, .ref A.2.2.2.2.1), (3, .int x3)] 1294 []) : J G K 4 600000 7302249 (WW G A S T) [(0, .ref b), (1, .ref A.1), (2, .ref A.2.2.2.2.1), (3, .int x3)] 1197 [] := by
  refine j_aload_n C (pc := 1197) 1 rfl rfl dL_law_1197 ?_
  refine j_aload_n C (pc := 1198) 0 rfl rfl dL_law_1198 ?_
  refine j_iload_n C (pc := 1199) 3 rfl rfl dL_law_1199 ?_
  refine j_iconst C (pc := 1200) (v := 1) (by decide) dL_law_1200 ?_
  refine j_iadd C (pc := 1201) dL_law_1201 ?_
  refine j_sld C (pc := 1202) hL hv1 dL_law_1202 ?_
  refine j_aload_n C (pc := 1203) 0 rfl rfl dL_law_1203 ?_
  refine j_iload_n C (pc := 1204) 3 rfl rfl dL_law_1204 ?_
  refine j_iconst C (pc := 1205) (v := 2) (by decide) dL_law_1205 ?_
  refine j_iadd C (pc := 1206) dL_law_1206 ?_
  refine j_sld C (pc := 1207) hL hv2 dL_law_1207 ?_
  obtain ⟨r, S', T', hX, hM, hI2⟩ := F S T hI (xs (x3 + (1 : Int32)).toNatClampNeg) (xs (x3 + (2 : Int32)).toNatClampNeg)
  refine l_XL C (pc := 1208) (As := [.int (xs (x3 + (1 : Int32)).toNatClampNeg), .int (xs (x3 + (2 : Int32)).toNatClampNeg)]) (st := []) ml_L_148 ms_X7_read hX rfl rfl rfl rfl rfl hR0 dL_law_1208 ?_
  refine j_aload_n C (pc := 1211) 2 rfl rfl dL_law_1211 ?_
  refine j_aload_n C (pc := 1212) 0 rfl rfl dL_law_1212 ?_
  refine j_iload_n C (pc := 1213) 3 rfl rfl dL_law_1213 ?_
  refine j_iconst C (pc := 1214) (v := 1) (by decide) dL_law_1214 ?_
  refine j_iadd C (pc := 1215) dL_law_1215 ?_
  refine j_sld C (pc := 1216) hL hv1 dL_law_1216 ?_
  refine j_aload_n C (pc := 1217) 0 rfl rfl dL_law_1217 ?_
  refine j_iload_n C (pc := 1218) 3 rfl rfl dL_law_1218 ?_
  refine j_iconst C (pc := 1219) (v := 2) (by decide) dL_law_1219 ?_
  refine j_iadd C (pc := 1220) dL_law_1220 ?_
  refine j_sld C (pc := 1221) hL hv2 dL_law_1221 ?_
  refine l_ML C (pc := 1222) (As := [.int (xs (x3 + (1 : Int32)).toNatClampNeg), .int (xs (x3 + (2 : Int32)).toNatClampNeg)]) (st := [.long r]) ml_L_151 ms_X8_read hM rfl rfl rfl rfl rfl hR0 dL_law_1222 ?_
  refine j_h_sameL C (pc := 1225) 1294 dL_law_1225 dL_law_1226 (by decide) ?_
  exact hn S' T' hI2
set_option maxRecDepth 20000 in
set_option maxHeartbeats 2000000 in
theorem law_c32 {G : Gx} {K : Kx} (C : Cx G K cL_law RL 4 1000) {b N : Nat} {xs : Nat → Int32} (hL : Lsc K b N xs) (hR0 : 600000 ≤ K.2.2.2.1.cells ∧ 7302249 ≤ K.2.2.2.1.slots) {A : Lx} {Iv : Sx → Sm → Prop} (F : Fact_shift G K.2.1 A Iv) {x3 : Int32} (hv1 : vp_in (x3 + 1) N) (hv2 : vp_in (x3 + 2) N) (hv3 : vp_in (x3 + 3) N) (hv4 : vp_in (x3 + 4) N) (hv5 : vp_in (x3 + 5) N) {S : Sx} {T : Sm} (hI : Iv S T) (hn : ∀ (S' : Sx) (T' : Sm), Iv S' T' → J G K 4 600000 7302249 (WW G A S' T') [(0, .ref b), (1, .ref A.1), (2, .ref A.2.2.2.2.1), (3, .int x3)] 1294 []) : J G K 4 600000 7302249 (WW G A S T) [(0, .ref b), (1, .ref A.1), (2, .ref A.2.2.2.2.1), (3, .int x3)] 1231 [] := by
  refine j_aload_n C (pc := 1231) 1 rfl rfl dL_law_1231 ?_
  refine j_aload_n C (pc := 1232) 0 rfl rfl dL_law_1232 ?_
  refine j_iload_n C (pc := 1233) 3 rfl rfl dL_law_1233 ?_
  refine j_iconst C (pc := 1234) (v := 1) (by decide) dL_law_1234 ?_
  refine j_iadd C (pc := 1235) dL_law_1235 ?_
  refine j_sld C (pc := 1236) hL hv1 dL_law_1236 ?_
  refine j_aload_n C (pc := 1237) 0 rfl rfl dL_law_1237 ?_
  refine j_iload_n C (pc := 1238) 3 rfl rfl dL_law_1238 ?_
  refine j_iconst C (pc := 1239) (v := 2) (by decide) dL_law_1239 ?_
  refine j_iadd C (pc := 1240) dL_law_1240 ?_
  refine j_sld C (pc := 1241) hL hv2 dL_law_1241 ?_
  refine j_aload_n C (pc := 1242) 0 rfl rfl dL_law_1242 ?_
  refine j_iload_n C (pc := 1243) 3 rfl rfl dL_law_1243 ?_
  refine j_iconst C (pc := 1244) (v := 3) (by decide) dL_law_1244 ?_
  refine j_iadd C (pc := 1245) dL_law_1245 ?_
  refine j_sld C (pc := 1246) hL hv3 dL_law_1246 ?_
  refine j_aload_n C (pc := 1247) 0 rfl rfl dL_law_1247 ?_
  refine j_iload_n C (pc := 1248) 3 rfl rfl dL_law_1248 ?_
  refine j_iconst C (pc := 1249) (v := 4) (by decide) dL_law_1249 ?_
  refine j_iadd C (pc := 1250) dL_law_1250 ?_
  refine j_sld C (pc := 1251) hL hv4 dL_law_1251 ?_
  refine j_aload_n C (pc := 1252) 0 rfl rfl dL_law_1252 ?_
  refine j_iload_n C (pc := 1253) 3 rfl rfl dL_law_1253 ?_
  refine j_iconst C (pc := 1254) (v := 5) (by decide) dL_law_1254 ?_
  refine j_iadd C (pc := 1255) dL_law_1255 ?_
  refine j_sld C (pc := 1256) hL hv5 dL_law_1256 ?_
  obtain ⟨r, S', T', hX, hM, hI2⟩ := F S T hI (xs (x3 + (1 : Int32)).toNatClampNeg) (xs (x3 + (2 : Int32)).toNatClampNeg) (xs (x3 + (3 : Int32)).toNatClampNeg) (xs (x3 + (4 : Int32)).toNatClampNeg) (xs (x3 + (5 : Int32)).toNatClampNeg)
  refine l_XI C (pc := 1257) (As := [.int (xs (x3 + (1 : Int32)).toNatClampNeg), .int (xs (x3 + (2 : Int32)).toNatClampNeg), .int (xs (x3 + (3 : Int32)).toNatClampNeg), .int (xs (x3 + (4 : Int32)).toNatClampNeg), .int (xs (x3 + (5 : Int32)).toNatClampNeg)]) (st := []) ml_L_152 ms_X7_shift hX rfl rfl rfl rfl rfl hR0 dL_law_1257 ?_
  refine j_aload_n C (pc := 1260) 2 rfl rfl dL_law_1260 ?_
  refine j_aload_n C (pc := 1261) 0 rfl rfl dL_law_1261 ?_
  refine j_iload_n C (pc := 1262) 3 rfl rfl dL_law_1262 ?_
  refine j_iconst C (pc := 1263) (v := 1) (by decide) dL_law_1263 ?_
  refine j_iadd C (pc := 1264) dL_law_1264 ?_
  refine j_sld C (pc := 1265) hL hv1 dL_law_1265 ?_
  refine j_aload_n C (pc := 1266) 0 rfl rfl dL_law_1266 ?_
  refine j_iload_n C (pc := 1267) 3 rfl rfl dL_law_1267 ?_
  refine j_iconst C (pc := 1268) (v := 2) (by decide) dL_law_1268 ?_
  refine j_iadd C (pc := 1269) dL_law_1269 ?_
  refine j_sld C (pc := 1270) hL hv2 dL_law_1270 ?_
  refine j_aload_n C (pc := 1271) 0 rfl rfl dL_law_1271 ?_
  refine j_iload_n C (pc := 1272) 3 rfl rfl dL_law_1272 ?_
  refine j_iconst C (pc := 1273) (v := 3) (by decide) dL_law_1273 ?_
  refine j_iadd C (pc := 1274) dL_law_1274 ?_
  refine j_sld C (pc := 1275) hL hv3 dL_law_1275 ?_
  refine j_aload_n C (pc := 1276) 0 rfl rfl dL_law_1276 ?_
  refine j_iload_n C (pc := 1277) 3 rfl rfl dL_law_1277 ?_
  refine j_iconst C (pc := 1278) (v := 4) (by decide) dL_law_1278 ?_
  refine j_iadd C (pc := 1279) dL_law_1279 ?_
  refine j_sld C (pc := 1280) hL hv4 dL_law_1280 ?_
  refine j_aload_n C (pc := 1281) 0 rfl rfl dL_law_1281 ?_
  refine j_iload_n C (pc := 1282) 3 rfl rfl dL_law_1282 ?_
  refine j_iconst C (pc := 1283) (v := 5) (by decide) dL_law_1283 ?_
  refine j_iadd C (pc := 1284) dL_law_1284 ?_
  refine j_sld C (pc := 1285) hL hv5 dL_law_1285 ?_
  refine l_MI C (pc := 1286) (As := [.int (xs (x3 + (1 : Int32)).toNatClampNeg), .int (xs (x3 + (2 : Int32)).toNatClampNeg), .int (xs (x3 + (3 : Int32)).toNatClampNeg), .int (xs (x3 + (4 : Int32)).toNatClampNeg), .int (xs (x3 + (5 : Int32)).toNatClampNeg)]) (st := [.int r]) ml_L_156 ms_X8_shift hM rfl rfl rfl rfl rfl hR0 dL_law_1286 ?_
  refine j_h_same C (pc := 1289) 1294 dL_law_1289 (by decide) ?_
  exact hn S' T' hI2
def Facts (G : Gx) (l : Launch) (A : Lx) (Iv : Sx → Sm → Prop) : Prop := Fact_one G l A Iv ∧ Fact_of G l A Iv ∧ Fact_hate G l A Iv ∧ Fact_between G l A Iv ∧ Fact_die G l A Iv ∧ Fact_row G l A Iv ∧ Fact_feed G l A Iv ∧ Fact_parish G l A Iv ∧ Fact_told G l A Iv ∧ Fact_pass G l A Iv ∧ Fact_on G l A Iv ∧ Fact_handful G l A Iv ∧ Fact_orders G l A Iv ∧ Fact_see G l A Iv ∧ Fact_hates G l A Iv ∧ Fact_can G l A Iv ∧ Fact_odds G l A Iv ∧ Fact_mean G l A Iv ∧ Fact_plan G l A Iv ∧ Fact_ends G l A Iv ∧ Fact_book G l A Iv ∧ Fact_looked G l A Iv ∧ Fact_judge G l A Iv ∧ Fact_image G l A Iv ∧ Fact_undo G l A Iv ∧ Fact_act G l A Iv ∧ Fact_trace G l A Iv ∧ Fact_taken G l A Iv ∧ Fact_count G l A Iv ∧ Fact_tape G l A Iv ∧ Fact_item G l A Iv ∧ Fact_read G l A Iv ∧ Fact_shift G l A Iv
set_option maxRecDepth 20000 in
set_option maxHeartbeats 4000000 in
theorem law_switch {G : Gx} {K : Kx} (C : Cx G K cL_law RL 4 1000) {b N : Nat} {xs : Nat → Int32} (hL : Lsc K b N xs) (hR0 : 600000 ≤ K.2.2.2.1.cells ∧ 7302249 ≤ K.2.2.2.1.slots) {A : Lx} {Iv : Sx → Sm → Prop} (F : Facts G K.2.1 A Iv) {x3 v : Int32} (hv1 : vp_in (x3 + 1) N) (hv2 : vp_in (x3 + 2) N) (hv3 : vp_in (x3 + 3) N) (hv4 : vp_in (x3 + 4) N) (hv5 : vp_in (x3 + 5) N) {S : Sx} {T : Sm} (hI : Iv S T) (hn : ∀ (S' : Sx) (T' : Sm), Iv S' T' → J G K 4 600000 7302249 (WW G A S' T') [(0, .ref b), (1, .ref A.1), (2, .ref A.2.2.2.2.1), (3, .int x3)] 1294 []) : J G K 4 600000 7302249 (WW G A S T) [(0, .ref b), (1, .ref A.1), (2, .ref A.2.2.2.2.1), (3, .int x3)] 33 [.int v] := by
  by_cases h0 : v = 0
  · exact j_tabIn C (pc := 33) 180 dL_law_33 (by rw [h0]; decide) (by rw [h0]; decide) (by rw [h0] <;> rfl) (by decide) (law_c0 C hL hR0 F.1 hv1 hv2 hv3 hv4 hv5 hI hn)
  by_cases h1 : v = 1
  · exact j_tabIn C (pc := 33) 213 dL_law_33 (by rw [h1]; decide) (by rw [h1]; decide) (by rw [h1] <;> rfl) (by decide) (law_c1 C hL hR0 F.2.1 hv1 hv2 hv3 hv4 hv5 hI hn)
  by_cases h2 : v = 2
  · exact j_tabIn C (pc := 33) 246 dL_law_33 (by rw [h2]; decide) (by rw [h2]; decide) (by rw [h2] <;> rfl) (by decide) (law_c2 C hL hR0 F.2.2.1 hv1 hv2 hv3 hv4 hv5 hI hn)
  by_cases h3 : v = 3
  · exact j_tabIn C (pc := 33) 289 dL_law_33 (by rw [h3]; decide) (by rw [h3]; decide) (by rw [h3] <;> rfl) (by decide) (law_c3 C hL hR0 F.2.2.2.1 hv1 hv2 hv3 hv4 hv5 hI hn)
  by_cases h4 : v = 4
  · exact j_tabIn C (pc := 33) 332 dL_law_33 (by rw [h4]; decide) (by rw [h4]; decide) (by rw [h4] <;> rfl) (by decide) (law_c4 C hL hR0 F.2.2.2.2.1 hv1 hv2 hv3 hv4 hv5 hI hn)
  by_cases h5 : v = 5
  · exact j_tabIn C (pc := 33) 381 dL_law_33 (by rw [h5]; decide) (by rw [h5]; decide) (by rw [h5] <;> rfl) (by decide) (law_c5 C hL hR0 F.2.2.2.2.2.1 hv1 hv2 hv3 hv4 hv5 hI hn)
  by_cases h6 : v = 6
  · exact j_tabIn C (pc := 33) 424 dL_law_33 (by rw [h6]; decide) (by rw [h6]; decide) (by rw [h6] <;> rfl) (by decide) (law_c6 C hL hR0 F.2.2.2.2.2.2.1 hv1 hv2 hv3 hv4 hv5 hI hn)
  by_cases h7 : v = 7
  · exact j_tabIn C (pc := 33) 447 dL_law_33 (by rw [h7]; decide) (by rw [h7]; decide) (by rw [h7] <;> rfl) (by decide) (law_c7 C hL hR0 F.2.2.2.2.2.2.2.1 hv1 hv2 hv3 hv4 hv5 hI hn)
  by_cases h8 : v = 8
  · exact j_tabIn C (pc := 33) 460 dL_law_33 (by rw [h8]; decide) (by rw [h8]; decide) (by rw [h8] <;> rfl) (by decide) (law_c8 C hL hR0 F.2.2.2.2.2.2.2.2.1 hv1 hv2 hv3 hv4 hv5 hI hn)
  by_cases h9 : v = 9
  · exact j_tabIn C (pc := 33) 483 dL_law_33 (by rw [h9]; decide) (by rw [h9]; decide) (by rw [h9] <;> rfl) (by decide) (law_c9 C hL hR0 F.2.2.2.2.2.2.2.2.2.1 hv1 hv2 hv3 hv4 hv5 hI hn)
  by_cases h10 : v = 10
  · exact j_tabIn C (pc := 33) 506 dL_law_33 (by rw [h10]; decide) (by rw [h10]; decide) (by rw [h10] <;> rfl) (by decide) (law_c10 C hL hR0 F.2.2.2.2.2.2.2.2.2.2.1 hv1 hv2 hv3 hv4 hv5 hI hn)
  by_cases h11 : v = 11
  · exact j_tabIn C (pc := 33) 539 dL_law_33 (by rw [h11]; decide) (by rw [h11]; decide) (by rw [h11] <;> rfl) (by decide) (law_c11 C hL hR0 F.2.2.2.2.2.2.2.2.2.2.2.1 hv1 hv2 hv3 hv4 hv5 hI hn)
  by_cases h12 : v = 12
  · exact j_tabIn C (pc := 33) 562 dL_law_33 (by rw [h12]; decide) (by rw [h12]; decide) (by rw [h12] <;> rfl) (by decide) (law_c12 C hL hR0 F.2.2.2.2.2.2.2.2.2.2.2.2.1 hv1 hv2 hv3 hv4 hv5 hI hn)
  by_cases h13 : v = 13
  · exact j_tabIn C (pc := 33) 585 dL_law_33 (by rw [h13]; decide) (by rw [h13]; decide) (by rw [h13] <;> rfl) (by decide) (law_c13 C hL hR0 F.2.2.2.2.2.2.2.2.2.2.2.2.2.1 hv1 hv2 hv3 hv4 hv5 hI hn)
  by_cases h14 : v = 14
  · exact j_tabIn C (pc := 33) 654 dL_law_33 (by rw [h14]; decide) (by rw [h14]; decide) (by rw [h14] <;> rfl) (by decide) (law_c14 C hL hR0 F.2.2.2.2.2.2.2.2.2.2.2.2.2.2.1 hv1 hv2 hv3 hv4 hv5 hI hn)
  by_cases h15 : v = 15
  · exact j_tabIn C (pc := 33) 697 dL_law_33 (by rw [h15]; decide) (by rw [h15]; decide) (by rw [h15] <;> rfl) (by decide) (law_c15 C hL hR0 F.2.2.2.2.2.2.2.2.2.2.2.2.2.2.2.1 hv1 hv2 hv3 hv4 hv5 hI hn)
  by_cases h16 : v = 16
  · exact j_tabIn C (pc := 33) 730 dL_law_33 (by rw [h16]; decide) (by rw [h16]; decide) (by rw [h16] <;> rfl) (by decide) (law_c16 C hL hR0 F.2.2.2.2.2.2.2.2.2.2.2.2.2.2.2.2.1 hv1 hv2 hv3 hv4 hv5 hI hn)
  by_cases h17 : v = 17
  · exact j_tabIn C (pc := 33) 764 dL_law_33 (by rw [h17]; decide) (by rw [h17]; decide) (by rw [h17] <;> rfl) (by decide) (law_c17 C hL hR0 F.2.2.2.2.2.2.2.2.2.2.2.2.2.2.2.2.2.1 hv1 hv2 hv3 hv4 hv5 hI hn)
  by_cases h18 : v = 18
  · exact j_tabIn C (pc := 33) 788 dL_law_33 (by rw [h18]; decide) (by rw [h18]; decide) (by rw [h18] <;> rfl) (by decide) (law_c18 C hL hR0 F.2.2.2.2.2.2.2.2.2.2.2.2.2.2.2.2.2.2.1 hv1 hv2 hv3 hv4 hv5 hI hn)
  by_cases h19 : v = 19
  · exact j_tabIn C (pc := 33) 821 dL_law_33 (by rw [h19]; decide) (by rw [h19]; decide) (by rw [h19] <;> rfl) (by decide) (law_c19 C hL hR0 F.2.2.2.2.2.2.2.2.2.2.2.2.2.2.2.2.2.2.2.1 hv1 hv2 hv3 hv4 hv5 hI hn)
  by_cases h20 : v = 20
  · exact j_tabIn C (pc := 33) 844 dL_law_33 (by rw [h20]; decide) (by rw [h20]; decide) (by rw [h20] <;> rfl) (by decide) (law_c20 C hL hR0 F.2.2.2.2.2.2.2.2.2.2.2.2.2.2.2.2.2.2.2.2.1 hv1 hv2 hv3 hv4 hv5 hI hn)
  by_cases h21 : v = 21
  · exact j_tabIn C (pc := 33) 887 dL_law_33 (by rw [h21]; decide) (by rw [h21]; decide) (by rw [h21] <;> rfl) (by decide) (law_c21 C hL hR0 F.2.2.2.2.2.2.2.2.2.2.2.2.2.2.2.2.2.2.2.2.2.1 hv1 hv2 hv3 hv4 hv5 hI hn)
  by_cases h22 : v = 22
  · exact j_tabIn C (pc := 33) 900 dL_law_33 (by rw [h22]; decide) (by rw [h22]; decide) (by rw [h22] <;> rfl) (by decide) (law_c22 C hL hR0 F.2.2.2.2.2.2.2.2.2.2.2.2.2.2.2.2.2.2.2.2.2.2.1 hv1 hv2 hv3 hv4 hv5 hI hn)
  by_cases h23 : v = 23
  · exact j_tabIn C (pc := 33) 933 dL_law_33 (by rw [h23]; decide) (by rw [h23]; decide) (by rw [h23] <;> rfl) (by decide) (law_c23 C hL hR0 F.2.2.2.2.2.2.2.2.2.2.2.2.2.2.2.2.2.2.2.2.2.2.2.1 hv1 hv2 hv3 hv4 hv5 hI hn)
  by_cases h24 : v = 24
  · exact j_tabIn C (pc := 33) 946 dL_law_33 (by rw [h24]; decide) (by rw [h24]; decide) (by rw [h24] <;> rfl) (by decide) (law_c24 C hL hR0 F.2.2.2.2.2.2.2.2.2.2.2.2.2.2.2.2.2.2.2.2.2.2.2.2.1 hv1 hv2 hv3 hv4 hv5 hI hn)
  by_cases h25 : v = 25
  · exact j_tabIn C (pc := 33) 959 dL_law_33 (by rw [h25]; decide) (by rw [h25]; decide) (by rw [h25] <;> rfl) (by decide) (law_c25 C hL hR0 F.2.2.2.2.2.2.2.2.2.2.2.2.2.2.2.2.2.2.2.2.2.2.2.2.2.1 hv1 hv2 hv3 hv4 hv5 hI hn)
  by_cases h26 : v = 26
  · exact j_tabIn C (pc := 33) 1002 dL_law_33 (by rw [h26]; decide) (by rw [h26]; decide) (by rw [h26] <;> rfl) (by decide) (law_c26 C hL hR0 F.2.2.2.2.2.2.2.2.2.2.2.2.2.2.2.2.2.2.2.2.2.2.2.2.2.2.1 hv1 hv2 hv3 hv4 hv5 hI hn)
  by_cases h27 : v = 27
  · exact j_tabIn C (pc := 33) 1025 dL_law_33 (by rw [h27]; decide) (by rw [h27]; decide) (by rw [h27] <;> rfl) (by decide) (law_c27 C hL hR0 F.2.2.2.2.2.2.2.2.2.2.2.2.2.2.2.2.2.2.2.2.2.2.2.2.2.2.2.1 hv1 hv2 hv3 hv4 hv5 hI hn)
  by_cases h28 : v = 28
  · exact j_tabIn C (pc := 33) 1058 dL_law_33 (by rw [h28]; decide) (by rw [h28]; decide) (by rw [h28] <;> rfl) (by decide) (law_c28 C hL hR0 F.2.2.2.2.2.2.2.2.2.2.2.2.2.2.2.2.2.2.2.2.2.2.2.2.2.2.2.2.1 hv1 hv2 hv3 hv4 hv5 hI hn)
  by_cases h29 : v = 29
  · exact j_tabIn C (pc := 33) 1081 dL_law_33 (by rw [h29]; decide) (by rw [h29]; decide) (by rw [h29] <;> rfl) (by decide) (law_c29 C hL hR0 F.2.2.2.2.2.2.2.2.2.2.2.2.2.2.2.2.2.2.2.2.2.2.2.2.2.2.2.2.2.1 hv1 hv2 hv3 hv4 hv5 hI hn)
  by_cases h30 : v = 30
  · exact j_tabIn C (pc := 33) 1124 dL_law_33 (by rw [h30]; decide) (by rw [h30]; decide) (by rw [h30] <;> rfl) (by decide) (law_c30 C hL hR0 F.2.2.2.2.2.2.2.2.2.2.2.2.2.2.2.2.2.2.2.2.2.2.2.2.2.2.2.2.2.2.1 hv1 hv2 hv3 hv4 hv5 hI hn)
  by_cases h31 : v = 31
  · exact j_tabIn C (pc := 33) 1197 dL_law_33 (by rw [h31]; decide) (by rw [h31]; decide) (by rw [h31] <;> rfl) (by decide) (law_c31 C hL hR0 F.2.2.2.2.2.2.2.2.2.2.2.2.2.2.2.2.2.2.2.2.2.2.2.2.2.2.2.2.2.2.2.1 hv1 hv2 hv3 hv4 hv5 hI hn)
  by_cases h32 : v = 32
  · exact j_tabIn C (pc := 33) 1231 dL_law_33 (by rw [h32]; decide) (by rw [h32]; decide) (by rw [h32] <;> rfl) (by decide) (law_c32 C hL hR0 F.2.2.2.2.2.2.2.2.2.2.2.2.2.2.2.2.2.2.2.2.2.2.2.2.2.2.2.2.2.2.2.2 hv1 hv2 hv3 hv4 hv5 hI hn)
  have g0 := lv_neT (a := 0) h0 rfl
  have g1 := lv_neT (a := 1) h1 rfl
  have g2 := lv_neT (a := 2) h2 rfl
  have g3 := lv_neT (a := 3) h3 rfl
  have g4 := lv_neT (a := 4) h4 rfl
  have g5 := lv_neT (a := 5) h5 rfl
  have g6 := lv_neT (a := 6) h6 rfl
  have g7 := lv_neT (a := 7) h7 rfl
  have g8 := lv_neT (a := 8) h8 rfl
  have g9 := lv_neT (a := 9) h9 rfl
  have g10 := lv_neT (a := 10) h10 rfl
  have g11 := lv_neT (a := 11) h11 rfl
  have g12 := lv_neT (a := 12) h12 rfl
  have g13 := lv_neT (a := 13) h13 rfl
  have g14 := lv_neT (a := 14) h14 rfl
  have g15 := lv_neT (a := 15) h15 rfl
  have g16 := lv_neT (a := 16) h16 rfl
  have g17 := lv_neT (a := 17) h17 rfl
  have g18 := lv_neT (a := 18) h18 rfl
  have g19 := lv_neT (a := 19) h19 rfl
  have g20 := lv_neT (a := 20) h20 rfl
  have g21 := lv_neT (a := 21) h21 rfl
  have g22 := lv_neT (a := 22) h22 rfl
  have g23 := lv_neT (a := 23) h23 rfl
  have g24 := lv_neT (a := 24) h24 rfl
  have g25 := lv_neT (a := 25) h25 rfl
  have g26 := lv_neT (a := 26) h26 rfl
  have g27 := lv_neT (a := 27) h27 rfl
  have g28 := lv_neT (a := 28) h28 rfl
  have g29 := lv_neT (a := 29) h29 rfl
  have g30 := lv_neT (a := 30) h30 rfl
  have g31 := lv_neT (a := 31) h31 rfl
  have g32 := lv_neT (a := 32) h32 rfl
  exact j_tabOut C (pc := 33) 1294 dL_law_33 (by omega) (by decide) (hn S T hI)
theorem law_gt {N j : Nat} (hN : N ≤ 3072) (hj : 6 * j ≤ N + 6) : (Int32.ofNat N - 6 < nI (6 * j)) ↔ N < 6 * j + 6 := by
  have h1 : (Int32.ofNat N).toInt = (N : Int) := nI_toInt (n := N) (by omega)
  have h2 : (nI (6 * j)).toInt = ((6 * j : Nat) : Int) := nI_toInt (by omega)
  rw [Int32.lt_iff_toInt_lt, Int32.toInt_sub, h1, h2, show (6 : Int32).toInt = 6 from rfl, Int.bmod_eq_of_le (by omega) (by omega)]
  omega
theorem law_loop {G : Gx} {K : Kx} (C : Cx G K cL_law RL 4 1000) {b N : Nat} {xs : Nat → Int32} (hL : Lsc K b N xs) (hR0 : 600000 ≤ K.2.2.2.1.cells ∧ 7302249 ≤ K.2.2.2.1.slots) {A : Lx} {Iv : Sx → Sm → Prop} (hN : N ≤ 3072) (F : Facts G K.2.1 A Iv) (hend : ∀ (S : Sx) (T : Sm) (L : List (Nat × Value)), J G K 4 600000 7302249 (WW G A S T) L 1301 [.int 1]) : ∀ (n j : Nat) (x3 : Int32), x3 = nI (6 * j) → 6 * j ≤ N + 6 → N + 7 ≤ 6 * j + n → ∀ (S : Sx) (T : Sm), Iv S T → J G K 4 600000 7302249 (WW G A S T) [(0, .ref b), (1, .ref A.1), (2, .ref A.2.2.2.2.1), (3, .int x3)] 18 [] := by
  intro n
  induction n with
  | zero => intro j x3 ex hj hn; exact absurd hn (by omega)
  | succ n ih =>
    intro j x3 ex hj hn S T hI
    refine j_iload_n C (pc := 18) 3 rfl rfl dL_law_18 ?_
    refine j_aload_n C (pc := 19) 0 rfl rfl dL_law_19 ?_
    refine j_slen C (pc := 20) hL dL_law_20 ?_
    refine j_bipush C (pc := 21) (v := 6) (by decide) dL_law_21 ?_
    refine j_isub C (pc := 23) dL_law_23 ?_
    refine j_h_icmp_gt C (pc := 24) 1300 dL_law_24 (by decide) (fun c => ?_) (fun c => ?_)
    · refine j_iconst C (pc := 1300) (v := 1) (by decide) dL_law_1300 ?_
      exact hend S T _
    · have hlt : 6 * j + 6 ≤ N := by
        rw [ex, law_gt hN hj] at c
        omega
      have hin : ∀ k : Nat, k < 6 → vp_in (nI (6 * j) + nI k) N := fun k hk => by rw [nI_add]; exact vp_in_nI (by omega) (by omega)
      have hv0 : vp_in x3 N := by rw [ex]; exact vp_in_nI (by omega) (by omega)
      refine j_aload_n C (pc := 27) 0 rfl rfl dL_law_27 ?_
      refine j_iload_n C (pc := 28) 3 rfl rfl dL_law_28 ?_
      refine j_sld C (pc := 29) hL hv0 dL_law_29 ?_
      refine j_bipush C (pc := 30) (v := 63) (by decide) dL_law_30 ?_
      refine j_iand C (pc := 32) dL_law_32 ?_
      refine law_switch C hL hR0 F (by rw [ex]; exact hin 1 (by omega)) (by rw [ex]; exact hin 2 (by omega)) (by rw [ex]; exact hin 3 (by omega)) (by rw [ex]; exact hin 4 (by omega)) (by rw [ex]; exact hin 5 (by omega)) hI (fun S' T' hI' => ?_)
      refine j_iinc C (pc := 1294) (L' := [(3, .int (x3 + 6)), (0, .ref b), (1, .ref A.1), (2, .ref A.2.2.2.2.1)]) (v := x3 + 6) dL_law_1294 (t := 3) rfl rfl (by decide) rfl ?_
      refine j_goto C (pc := 1297) 18 dL_law_1297 (by decide) ?_
      refine j_sub [1, 2, 3, 0] rfl ?_
      exact ih (j + 1) (x3 + 6) (by rw [ex, show (6 : Int32) = nI 6 from rfl, nI_add]; rfl) (by omega) (by omega) S' T' hI'
