-- X8_hates
def f_X8_hates_56_b (v_day : Int32) (v_holds : Int32) (v_seen : Int32) (v_seenBy : Nat → Int32) (v_seenOf : Nat → Int32) (v_seenIn : Nat → Int32) (v_clauses : Nat → Int32) (v_word : Nat → Int32) (v_begins : Nat → Int32) (v_length : Nat → Int32) (v_code : Nat → Int32) (v_kind : Nat → Int32) (v_v : Nat → Int32) (v_number : Nat → Int32) (v_rows : Nat → Int32) (v_seenSo : Nat → Int32) (p1 : Int32) (p2 : Int32) (p3 : Int32) (k56 : Int32 → Int32 → Int32 → Int32 → Int32 → (Nat → Int32) → (Nat → Int32) → Option (Int32 × (Nat → Int32) × (Nat → Int32))) (x4 : Int32) (x5 : Int32) (x6 : Int32) (x7 : Int32) (x8 : Int32) (w_hate : Nat → Int32) (w_stack : Nat → Int32) : Option (Int32 × (Nat → Int32) × (Nat → Int32)) := (if x8 < 0 then (gd x4 36 (if p3 = 0 then (some (x6, upd w_hate x4.toNatClampNeg x5, w_stack)) else (some (x7, upd w_hate x4.toNatClampNeg x5, w_stack)))) else (gd x4 36 ((f_X8_isSeen v_day v_holds v_seen v_seenBy v_seenOf v_seenIn (upd w_hate x4.toNatClampNeg x8) v_clauses v_word v_begins v_length w_stack v_code v_kind v_v v_number v_rows v_seenSo p1 p2).bind fun q1 => (if q1.1 = 0 then (k56 x4 x5 x6 x7 (x8 + (-1 : Int32)) (upd w_hate x4.toNatClampNeg x8) q1.2) else (k56 x4 x5 (x6 + (1 : Int32)) x8 (x8 + (-1 : Int32)) (upd w_hate x4.toNatClampNeg x8) q1.2)))))
def f_X8_hates_56 (v_day : Int32) (v_holds : Int32) (v_seen : Int32) (v_seenBy : Nat → Int32) (v_seenOf : Nat → Int32) (v_seenIn : Nat → Int32) (v_clauses : Nat → Int32) (v_word : Nat → Int32) (v_begins : Nat → Int32) (v_length : Nat → Int32) (v_code : Nat → Int32) (v_kind : Nat → Int32) (v_v : Nat → Int32) (v_number : Nat → Int32) (v_rows : Nat → Int32) (v_seenSo : Nat → Int32) (p1 : Int32) (p2 : Int32) (p3 : Int32) : Nat → Int32 → Int32 → Int32 → Int32 → Int32 → (Nat → Int32) → (Nat → Int32) → Option (Int32 × (Nat → Int32) × (Nat → Int32))
  | 0 => fun _ _ _ _ _ _ _ => none
  | n + 1 => f_X8_hates_56_b v_day v_holds v_seen v_seenBy v_seenOf v_seenIn v_clauses v_word v_begins v_length v_code v_kind v_v v_number v_rows v_seenSo p1 p2 p3 (f_X8_hates_56 v_day v_holds v_seen v_seenBy v_seenOf v_seenIn v_clauses v_word v_begins v_length v_code v_kind v_v v_number v_rows v_seenSo p1 p2 p3 n)
set_option maxRecDepth 20000 in
set_option maxHeartbeats 1000000 in
theorem t_X8_hates_56_b {G : Gx} {K : Kx} (C : Cx G K cX8_hates RX8 9 7) {a_t : Nat} {r_t : Nat → Nat} {v_people : Int32} {v_day : Int32} {v_texted : Int32} {v_at : Int32} {v_value : Int32} {v_digits : Int32} {v_open : Int32} {v_parishes : Int32} {v_holds : Int32} {v_coded : Int32} {v_seen : Int32} {v_inPlan : Int32} {v_inBook : Int32} {v_traced : Int32} {v_imaged : Int32} {v_most : Int32} {v_seenBy : Nat → Int32} {v_seenOf : Nat → Int32} {v_seenIn : Nat → Int32} {v_clauses : Nat → Int32} {v_word : Nat → Int32} {v_begins : Nat → Int32} {v_length : Nat → Int32} {v_code : Nat → Int32} {v_kind : Nat → Int32} {v_v : Nat → Int32} {v_number : Nat → Int32} {v_rows : Nat → Int32} {v_seenSo : Nat → Int32} {p1 : Int32} {p2 : Int32} {p3 : Int32} {q : Int32 × (Nat → Int32) × (Nat → Int32)} (hQ : k_retI G K cX8_hates 9 .int [oX8 a_t r_t v_people v_day v_texted v_at v_value v_digits v_open v_parishes v_holds v_coded v_seen v_inPlan v_inBook v_traced v_imaged v_most, aI G (r_t 7) 36 q.2.1, aI G (r_t 26) 5 v_seenBy, aI G (r_t 27) 5 v_seenOf, aI G (r_t 28) 5 v_seenIn, aI G (r_t 17) 6 v_clauses, aI G (r_t 18) 61 v_word, aI G (r_t 20) 61 v_begins, aI G (r_t 21) 61 v_length, aZ G (r_t 24) 110 q.2.2, aI G (r_t 22) 800 v_code, aI G (r_t 1) 6 v_kind, aI G (r_t 2) 6 v_v, aI G (r_t 19) 61 v_number, aI G (r_t 6) 24 v_rows, aI G (r_t 29) 5 v_seenSo] q.1) {k56 : Int32 → Int32 → Int32 → Int32 → Int32 → (Nat → Int32) → (Nat → Int32) → Option (Int32 × (Nat → Int32) × (Nat → Int32))} (hk56 : ∀ (x4 : Int32) (x5 : Int32) (x6 : Int32) (x7 : Int32) (x8 : Int32) (w_hate : Nat → Int32) (w_stack : Nat → Int32), k56 x4 x5 x6 x7 x8 w_hate w_stack = some q → J G K 9 0 0 [oX8 a_t r_t v_people v_day v_texted v_at v_value v_digits v_open v_parishes v_holds v_coded v_seen v_inPlan v_inBook v_traced v_imaged v_most, aI G (r_t 7) 36 w_hate, aI G (r_t 26) 5 v_seenBy, aI G (r_t 27) 5 v_seenOf, aI G (r_t 28) 5 v_seenIn, aI G (r_t 17) 6 v_clauses, aI G (r_t 18) 61 v_word, aI G (r_t 20) 61 v_begins, aI G (r_t 21) 61 v_length, aZ G (r_t 24) 110 w_stack, aI G (r_t 22) 800 v_code, aI G (r_t 1) 6 v_kind, aI G (r_t 2) 6 v_v, aI G (r_t 19) 61 v_number, aI G (r_t 6) 24 v_rows, aI G (r_t 29) 5 v_seenSo] [(0, .ref a_t), (1, .int p1), (2, .int p2), (3, .int p3), (4, .int x4), (5, .int x5), (6, .int x6), (7, .int x7), (8, .int x8)] 56 []) {x4 : Int32} {x5 : Int32} {x6 : Int32} {x7 : Int32} {x8 : Int32} {w_hate : Nat → Int32} {w_stack : Nat → Int32} (hf : f_X8_hates_56_b v_day v_holds v_seen v_seenBy v_seenOf v_seenIn v_clauses v_word v_begins v_length v_code v_kind v_v v_number v_rows v_seenSo p1 p2 p3 k56 x4 x5 x6 x7 x8 w_hate w_stack = some q) : J G K 9 0 0 [oX8 a_t r_t v_people v_day v_texted v_at v_value v_digits v_open v_parishes v_holds v_coded v_seen v_inPlan v_inBook v_traced v_imaged v_most, aI G (r_t 7) 36 w_hate, aI G (r_t 26) 5 v_seenBy, aI G (r_t 27) 5 v_seenOf, aI G (r_t 28) 5 v_seenIn, aI G (r_t 17) 6 v_clauses, aI G (r_t 18) 61 v_word, aI G (r_t 20) 61 v_begins, aI G (r_t 21) 61 v_length, aZ G (r_t 24) 110 w_stack, aI G (r_t 22) 800 v_code, aI G (r_t 1) 6 v_kind, aI G (r_t 2) 6 v_v, aI G (r_t 19) 61 v_number, aI G (r_t 6) 24 v_rows, aI G (r_t 29) 5 v_seenSo] [(0, .ref a_t), (1, .int p1), (2, .int p2), (3, .int p3), (4, .int x4), (5, .int x5), (6, .int x6), (7, .int x7), (8, .int x8)] 56 [] := by
  unfold f_X8_hates_56_b at hf
  refine j_iload C (pc := 56) 8 rfl dX8_hates_56 ?_
  refine j_if_lt C (pc := 58) 95 dX8_hates_58 (by decide) hf (fun hf => ?_) (fun hf => ?_)
  · refine j_aload_n C (pc := 95) 0 rfl rfl dX8_hates_95 ?_
    refine j_get C (pc := 96) kc_X8 fl_X8_30 0 rfl rfl dX8_hates_96 ?_
    refine j_iload C (pc := 99) 4 rfl dX8_hates_99 ?_
    refine j_iload C (pc := 101) 5 rfl dX8_hates_101 ?_
    refine j_iast C (pc := 103) (ws' := [oX8 a_t r_t v_people v_day v_texted v_at v_value v_digits v_open v_parishes v_holds v_coded v_seen v_inPlan v_inBook v_traced v_imaged v_most, aI G (r_t 7) 36 (upd w_hate x4.toNatClampNeg x5), aI G (r_t 26) 5 v_seenBy, aI G (r_t 27) 5 v_seenOf, aI G (r_t 28) 5 v_seenIn, aI G (r_t 17) 6 v_clauses, aI G (r_t 18) 61 v_word, aI G (r_t 20) 61 v_begins, aI G (r_t 21) 61 v_length, aZ G (r_t 24) 110 w_stack, aI G (r_t 22) 800 v_code, aI G (r_t 1) 6 v_kind, aI G (r_t 2) 6 v_v, aI G (r_t 19) 61 v_number, aI G (r_t 6) 24 v_rows, aI G (r_t 29) 5 v_seenSo]) 1 rfl hf rfl dX8_hates_103 (fun hf => ?_)
    refine j_iload_n C (pc := 104) 3 rfl rfl dX8_hates_104 ?_
    refine j_if_ne C (pc := 105) 113 dX8_hates_105 (by decide) hf (fun hf => ?_) (fun hf => ?_)
    · refine j_iload C (pc := 113) 7 rfl dX8_hates_113 ?_
      obtain rfl := Option.some.inj hf
      exact hQ _ _ dX8_hates_115 rfl
    · refine j_iload C (pc := 108) 6 rfl dX8_hates_108 ?_
      refine j_goto C (pc := 110) 115 dX8_hates_110 (by decide) ?_
      obtain rfl := Option.some.inj hf
      exact hQ _ _ dX8_hates_115 rfl
  · refine j_aload_n C (pc := 61) 0 rfl rfl dX8_hates_61 ?_
    refine j_get C (pc := 62) kc_X8 fl_X8_30 0 rfl rfl dX8_hates_62 ?_
    refine j_iload C (pc := 65) 4 rfl dX8_hates_65 ?_
    refine j_iload C (pc := 67) 8 rfl dX8_hates_67 ?_
    refine j_iast C (pc := 69) (ws' := [oX8 a_t r_t v_people v_day v_texted v_at v_value v_digits v_open v_parishes v_holds v_coded v_seen v_inPlan v_inBook v_traced v_imaged v_most, aI G (r_t 7) 36 (upd w_hate x4.toNatClampNeg x8), aI G (r_t 26) 5 v_seenBy, aI G (r_t 27) 5 v_seenOf, aI G (r_t 28) 5 v_seenIn, aI G (r_t 17) 6 v_clauses, aI G (r_t 18) 61 v_word, aI G (r_t 20) 61 v_begins, aI G (r_t 21) 61 v_length, aZ G (r_t 24) 110 w_stack, aI G (r_t 22) 800 v_code, aI G (r_t 1) 6 v_kind, aI G (r_t 2) 6 v_v, aI G (r_t 19) 61 v_number, aI G (r_t 6) 24 v_rows, aI G (r_t 29) 5 v_seenSo]) 1 rfl hf rfl dX8_hates_69 (fun hf => ?_)
    refine j_aload_n C (pc := 70) 0 rfl rfl dX8_hates_70 ?_
    refine j_iload_n C (pc := 71) 1 rfl rfl dX8_hates_71 ?_
    refine j_iload_n C (pc := 72) 2 rfl rfl dX8_hates_72 ?_
    refine j_cVI C (pc := 73) (As := [.int p1, .int p2]) (st := []) (ws' := fun q1 => [oX8 a_t r_t v_people v_day v_texted v_at v_value v_digits v_open v_parishes v_holds v_coded v_seen v_inPlan v_inBook v_traced v_imaged v_most, aI G (r_t 7) 36 (upd w_hate x4.toNatClampNeg x8), aI G (r_t 26) 5 v_seenBy, aI G (r_t 27) 5 v_seenOf, aI G (r_t 28) 5 v_seenIn, aI G (r_t 17) 6 v_clauses, aI G (r_t 18) 61 v_word, aI G (r_t 20) 61 v_begins, aI G (r_t 21) 61 v_length, aZ G (r_t 24) 110 q1.2, aI G (r_t 22) 800 v_code, aI G (r_t 1) 6 v_kind, aI G (r_t 2) 6 v_v, aI G (r_t 19) 61 v_number, aI G (r_t 6) 24 v_rows, aI G (r_t 29) 5 v_seenSo]) ml_X8_308 ms_X8_isSeen hf (fun q1 h => (c_X8_isSeen G K.2.1) a_t r_t v_people v_day v_texted v_at v_value v_digits v_open v_parishes v_holds v_coded v_seen v_inPlan v_inBook v_traced v_imaged v_most v_seenBy v_seenOf v_seenIn (upd w_hate x4.toNatClampNeg x8) v_clauses v_word v_begins v_length w_stack v_code v_kind v_v v_number v_rows v_seenSo p1 p2 q1 h) [0, 2, 3, 4, 1, 5, 6, 7, 8, 9, 10, 11, 12, 13, 14, 15] [some 0, some 4, some 1, some 2, some 3, some 5, some 6, some 7, some 8, some 9, some 10, some 11, some 12, some 13, some 14, some 15] 16 rfl (by decide +kernel) (by decide +kernel) (fun _ => rfl) (fun _ => rfl) rfl rfl rfl rfl ⟨Nat.zero_le _, Nat.zero_le _⟩ dX8_hates_73 kc_X8 0 rfl (fun q1 hf => ?_)
    refine j_if_ne C (pc := 76) 82 dX8_hates_76 (by decide) hf (fun hf => ?_) (fun hf => ?_)
    · refine j_iinc C (pc := 82) (L' := [(6, .int (x6 + (1 : Int32))), (0, .ref a_t), (1, .int p1), (2, .int p2), (3, .int p3), (4, .int x4), (5, .int x5), (7, .int x7), (8, .int x8)]) (v := x6 + (1 : Int32)) dX8_hates_82 (t := 6) rfl rfl (by decide) rfl ?_
      refine j_iload C (pc := 85) 8 rfl dX8_hates_85 ?_
      refine j_istore C (pc := 87) (L' := [(7, .int x8), (6, .int (x6 + (1 : Int32))), (0, .ref a_t), (1, .int p1), (2, .int p2), (3, .int p3), (4, .int x4), (5, .int x5), (8, .int x8)]) dX8_hates_87 (by decide) rfl ?_
      refine j_iinc C (pc := 89) (L' := [(8, .int (x8 + (-1 : Int32))), (7, .int x8), (6, .int (x6 + (1 : Int32))), (0, .ref a_t), (1, .int p1), (2, .int p2), (3, .int p3), (4, .int x4), (5, .int x5)]) (v := x8 + (-1 : Int32)) dX8_hates_89 (t := 8) rfl rfl (by decide) rfl ?_
      refine j_goto C (pc := 92) 56 dX8_hates_92 (by decide) ?_
      refine j_sub [3, 4, 5, 6, 7, 8, 2, 1, 0] rfl ?_
      exact hk56 _ _ _ _ _ _ _ hf
    · refine j_goto C (pc := 79) 89 dX8_hates_79 (by decide) ?_
      refine j_iinc C (pc := 89) (L' := [(8, .int (x8 + (-1 : Int32))), (0, .ref a_t), (1, .int p1), (2, .int p2), (3, .int p3), (4, .int x4), (5, .int x5), (6, .int x6), (7, .int x7)]) (v := x8 + (-1 : Int32)) dX8_hates_89 (t := 8) rfl rfl (by decide) rfl ?_
      refine j_goto C (pc := 92) 56 dX8_hates_92 (by decide) ?_
      refine j_sub [1, 2, 3, 4, 5, 6, 7, 8, 0] rfl ?_
      exact hk56 _ _ _ _ _ _ _ hf
theorem t_X8_hates_56 {G : Gx} {K : Kx} (C : Cx G K cX8_hates RX8 9 7) {a_t : Nat} {r_t : Nat → Nat} {v_people : Int32} {v_day : Int32} {v_texted : Int32} {v_at : Int32} {v_value : Int32} {v_digits : Int32} {v_open : Int32} {v_parishes : Int32} {v_holds : Int32} {v_coded : Int32} {v_seen : Int32} {v_inPlan : Int32} {v_inBook : Int32} {v_traced : Int32} {v_imaged : Int32} {v_most : Int32} {v_seenBy : Nat → Int32} {v_seenOf : Nat → Int32} {v_seenIn : Nat → Int32} {v_clauses : Nat → Int32} {v_word : Nat → Int32} {v_begins : Nat → Int32} {v_length : Nat → Int32} {v_code : Nat → Int32} {v_kind : Nat → Int32} {v_v : Nat → Int32} {v_number : Nat → Int32} {v_rows : Nat → Int32} {v_seenSo : Nat → Int32} {p1 : Int32} {p2 : Int32} {p3 : Int32} {q : Int32 × (Nat → Int32) × (Nat → Int32)} (hQ : k_retI G K cX8_hates 9 .int [oX8 a_t r_t v_people v_day v_texted v_at v_value v_digits v_open v_parishes v_holds v_coded v_seen v_inPlan v_inBook v_traced v_imaged v_most, aI G (r_t 7) 36 q.2.1, aI G (r_t 26) 5 v_seenBy, aI G (r_t 27) 5 v_seenOf, aI G (r_t 28) 5 v_seenIn, aI G (r_t 17) 6 v_clauses, aI G (r_t 18) 61 v_word, aI G (r_t 20) 61 v_begins, aI G (r_t 21) 61 v_length, aZ G (r_t 24) 110 q.2.2, aI G (r_t 22) 800 v_code, aI G (r_t 1) 6 v_kind, aI G (r_t 2) 6 v_v, aI G (r_t 19) 61 v_number, aI G (r_t 6) 24 v_rows, aI G (r_t 29) 5 v_seenSo] q.1) : ∀ (n : Nat) (x4 : Int32) (x5 : Int32) (x6 : Int32) (x7 : Int32) (x8 : Int32) (w_hate : Nat → Int32) (w_stack : Nat → Int32), f_X8_hates_56 v_day v_holds v_seen v_seenBy v_seenOf v_seenIn v_clauses v_word v_begins v_length v_code v_kind v_v v_number v_rows v_seenSo p1 p2 p3 n x4 x5 x6 x7 x8 w_hate w_stack = some q → J G K 9 0 0 [oX8 a_t r_t v_people v_day v_texted v_at v_value v_digits v_open v_parishes v_holds v_coded v_seen v_inPlan v_inBook v_traced v_imaged v_most, aI G (r_t 7) 36 w_hate, aI G (r_t 26) 5 v_seenBy, aI G (r_t 27) 5 v_seenOf, aI G (r_t 28) 5 v_seenIn, aI G (r_t 17) 6 v_clauses, aI G (r_t 18) 61 v_word, aI G (r_t 20) 61 v_begins, aI G (r_t 21) 61 v_length, aZ G (r_t 24) 110 w_stack, aI G (r_t 22) 800 v_code, aI G (r_t 1) 6 v_kind, aI G (r_t 2) 6 v_v, aI G (r_t 19) 61 v_number, aI G (r_t 6) 24 v_rows, aI G (r_t 29) 5 v_seenSo] [(0, .ref a_t), (1, .int p1), (2, .int p2), (3, .int p3), (4, .int x4), (5, .int x5), (6, .int x6), (7, .int x7), (8, .int x8)] 56 [] := by
  intro n
  induction n with
  | zero => intro x4 x5 x6 x7 x8 w_hate w_stack hf; cases hf
  | succ n ih => intro x4 x5 x6 x7 x8 w_hate w_stack hf; exact t_X8_hates_56_b C hQ ih hf
def f_X8_hates (v_people : Int32) (v_day : Int32) (v_holds : Int32) (v_seen : Int32) (v_hate : Nat → Int32) (v_seenBy : Nat → Int32) (v_seenOf : Nat → Int32) (v_seenIn : Nat → Int32) (v_clauses : Nat → Int32) (v_word : Nat → Int32) (v_begins : Nat → Int32) (v_length : Nat → Int32) (v_stack : Nat → Int32) (v_code : Nat → Int32) (v_kind : Nat → Int32) (v_v : Nat → Int32) (v_number : Nat → Int32) (v_rows : Nat → Int32) (v_seenSo : Nat → Int32) (p1 : Int32) (p2 : Int32) (p3 : Int32) : Option (Int32 × (Nat → Int32) × (Nat → Int32)) := ((f_X8_are v_people p1 p2).bind fun q1 => (if q1 = 0 then (some ((-1 : Int32), v_hate, v_stack)) else ((f_X8_within p3 (0 : Int32) (1 : Int32)).bind fun q2 => (if q2 = 0 then (some ((-1 : Int32), v_hate, v_stack)) else (if p1 = p2 then (some ((-2 : Int32), v_hate, v_stack)) else (nm (((6 : Int32) * p1) + p2) fun y3 => (gd y3 36 (nm (v_hate y3.toNatClampNeg) fun y4 => (f_X8_hates_56 v_day v_holds v_seen v_seenBy v_seenOf v_seenIn v_clauses v_word v_begins v_length v_code v_kind v_v v_number v_rows v_seenSo p1 p2 p3 1000 y3 y4 (0 : Int32) (-5 : Int32) (99 : Int32) v_hate v_stack)))))))))
set_option maxRecDepth 20000 in
set_option maxHeartbeats 1000000 in
theorem t_X8_hates {G : Gx} {K : Kx} (C : Cx G K cX8_hates RX8 9 7) {a_t : Nat} {r_t : Nat → Nat} {v_people : Int32} {v_day : Int32} {v_texted : Int32} {v_at : Int32} {v_value : Int32} {v_digits : Int32} {v_open : Int32} {v_parishes : Int32} {v_holds : Int32} {v_coded : Int32} {v_seen : Int32} {v_inPlan : Int32} {v_inBook : Int32} {v_traced : Int32} {v_imaged : Int32} {v_most : Int32} {v_hate : Nat → Int32} {v_seenBy : Nat → Int32} {v_seenOf : Nat → Int32} {v_seenIn : Nat → Int32} {v_clauses : Nat → Int32} {v_word : Nat → Int32} {v_begins : Nat → Int32} {v_length : Nat → Int32} {v_stack : Nat → Int32} {v_code : Nat → Int32} {v_kind : Nat → Int32} {v_v : Nat → Int32} {v_number : Nat → Int32} {v_rows : Nat → Int32} {v_seenSo : Nat → Int32} {p1 : Int32} {p2 : Int32} {p3 : Int32} {q : Int32 × (Nat → Int32) × (Nat → Int32)} (hQ : k_retI G K cX8_hates 9 .int [oX8 a_t r_t v_people v_day v_texted v_at v_value v_digits v_open v_parishes v_holds v_coded v_seen v_inPlan v_inBook v_traced v_imaged v_most, aI G (r_t 7) 36 q.2.1, aI G (r_t 26) 5 v_seenBy, aI G (r_t 27) 5 v_seenOf, aI G (r_t 28) 5 v_seenIn, aI G (r_t 17) 6 v_clauses, aI G (r_t 18) 61 v_word, aI G (r_t 20) 61 v_begins, aI G (r_t 21) 61 v_length, aZ G (r_t 24) 110 q.2.2, aI G (r_t 22) 800 v_code, aI G (r_t 1) 6 v_kind, aI G (r_t 2) 6 v_v, aI G (r_t 19) 61 v_number, aI G (r_t 6) 24 v_rows, aI G (r_t 29) 5 v_seenSo] q.1) (hf : f_X8_hates v_people v_day v_holds v_seen v_hate v_seenBy v_seenOf v_seenIn v_clauses v_word v_begins v_length v_stack v_code v_kind v_v v_number v_rows v_seenSo p1 p2 p3 = some q) : J G K 9 0 0 [oX8 a_t r_t v_people v_day v_texted v_at v_value v_digits v_open v_parishes v_holds v_coded v_seen v_inPlan v_inBook v_traced v_imaged v_most, aI G (r_t 7) 36 v_hate, aI G (r_t 26) 5 v_seenBy, aI G (r_t 27) 5 v_seenOf, aI G (r_t 28) 5 v_seenIn, aI G (r_t 17) 6 v_clauses, aI G (r_t 18) 61 v_word, aI G (r_t 20) 61 v_begins, aI G (r_t 21) 61 v_length, aZ G (r_t 24) 110 v_stack, aI G (r_t 22) 800 v_code, aI G (r_t 1) 6 v_kind, aI G (r_t 2) 6 v_v, aI G (r_t 19) 61 v_number, aI G (r_t 6) 24 v_rows, aI G (r_t 29) 5 v_seenSo] [(0, .ref a_t), (1, .int p1), (2, .int p2), (3, .int p3)] 0 [] := by
  unfold f_X8_hates at hf
  refine j_aload_n C (pc := 0) 0 rfl rfl dX8_hates_0 ?_
  refine j_iload_n C (pc := 1) 1 rfl rfl dX8_hates_1 ?_
  refine j_iload_n C (pc := 2) 2 rfl rfl dX8_hates_2 ?_
  refine j_cVI C (pc := 3) (As := [.int p1, .int p2]) (st := []) (ws' := fun q1 => [oX8 a_t r_t v_people v_day v_texted v_at v_value v_digits v_open v_parishes v_holds v_coded v_seen v_inPlan v_inBook v_traced v_imaged v_most, aI G (r_t 7) 36 v_hate, aI G (r_t 26) 5 v_seenBy, aI G (r_t 27) 5 v_seenOf, aI G (r_t 28) 5 v_seenIn, aI G (r_t 17) 6 v_clauses, aI G (r_t 18) 61 v_word, aI G (r_t 20) 61 v_begins, aI G (r_t 21) 61 v_length, aZ G (r_t 24) 110 v_stack, aI G (r_t 22) 800 v_code, aI G (r_t 1) 6 v_kind, aI G (r_t 2) 6 v_v, aI G (r_t 19) 61 v_number, aI G (r_t 6) 24 v_rows, aI G (r_t 29) 5 v_seenSo]) ml_X8_136 ms_X8_are hf (fun q1 h => (c_X8_are G K.2.1) a_t r_t v_people v_day v_texted v_at v_value v_digits v_open v_parishes v_holds v_coded v_seen v_inPlan v_inBook v_traced v_imaged v_most p1 p2 q1 h) [0] [some 0, none, none, none, none, none, none, none, none, none, none, none, none, none, none, none] 16 rfl (by decide +kernel) (by decide +kernel) (fun _ => rfl) (fun _ => rfl) rfl rfl rfl rfl ⟨Nat.zero_le _, Nat.zero_le _⟩ dX8_hates_3 kc_X8 0 rfl (fun q1 hf => ?_)
  refine j_if_eq C (pc := 6) 18 dX8_hates_6 (by decide) hf (fun hf => ?_) (fun hf => ?_)
  · refine j_iconst C (pc := 18) (v := -1) (by decide) dX8_hates_18 ?_
    obtain rfl := Option.some.inj hf
    exact hQ _ _ dX8_hates_19 rfl
  · refine j_iload_n C (pc := 9) 3 rfl rfl dX8_hates_9 ?_
    refine j_iconst C (pc := 10) (v := 0) (by decide) dX8_hates_10 ?_
    refine j_iconst C (pc := 11) (v := 1) (by decide) dX8_hates_11 ?_
    refine j_cSI C (pc := 12) (As := [.int p3, .int (0 : Int32), .int (1 : Int32)]) (st := []) (ws' := fun q2 => [oX8 a_t r_t v_people v_day v_texted v_at v_value v_digits v_open v_parishes v_holds v_coded v_seen v_inPlan v_inBook v_traced v_imaged v_most, aI G (r_t 7) 36 v_hate, aI G (r_t 26) 5 v_seenBy, aI G (r_t 27) 5 v_seenOf, aI G (r_t 28) 5 v_seenIn, aI G (r_t 17) 6 v_clauses, aI G (r_t 18) 61 v_word, aI G (r_t 20) 61 v_begins, aI G (r_t 21) 61 v_length, aZ G (r_t 24) 110 v_stack, aI G (r_t 22) 800 v_code, aI G (r_t 1) 6 v_kind, aI G (r_t 2) 6 v_v, aI G (r_t 19) 61 v_number, aI G (r_t 6) 24 v_rows, aI G (r_t 29) 5 v_seenSo]) ml_X8_117 ms_X8_within hf (fun q2 h => (c_X8_within G K.2.1) p3 (0 : Int32) (1 : Int32) q2 h) [] [none, none, none, none, none, none, none, none, none, none, none, none, none, none, none, none] 16 rfl (by decide +kernel) (by decide +kernel) (fun _ => rfl) (fun _ => rfl) rfl rfl rfl rfl ⟨Nat.zero_le _, Nat.zero_le _⟩ dX8_hates_12 (fun q2 hf => ?_)
    refine j_if_ne C (pc := 15) 20 dX8_hates_15 (by decide) hf (fun hf => ?_) (fun hf => ?_)
    · refine j_iload_n C (pc := 20) 1 rfl rfl dX8_hates_20 ?_
      refine j_iload_n C (pc := 21) 2 rfl rfl dX8_hates_21 ?_
      refine j_icmp_ne C (pc := 22) 28 dX8_hates_22 (by decide) hf (fun hf => ?_) (fun hf => ?_)
      · refine j_bipush C (pc := 28) (v := 6) (by decide) dX8_hates_28 ?_
        refine j_iload_n C (pc := 30) 1 rfl rfl dX8_hates_30 ?_
        refine j_imul C (pc := 31) dX8_hates_31 ?_
        refine j_iload_n C (pc := 32) 2 rfl rfl dX8_hates_32 ?_
        refine j_iadd C (pc := 33) dX8_hates_33 ?_
        refine j_nm hf (fun y3 hf => ?_)
        refine j_istore C (pc := 34) (L' := [(4, .int y3), (0, .ref a_t), (1, .int p1), (2, .int p2), (3, .int p3)]) dX8_hates_34 (by decide) rfl ?_
        refine j_aload_n C (pc := 36) 1 rfl rfl dX8_hates_36 ?_
        refine j_get C (pc := 37) kc_X8 fl_X8_30 0 rfl rfl dX8_hates_37 ?_
        refine j_iload C (pc := 40) 0 rfl dX8_hates_40 ?_
        refine j_iald C (pc := 42) 1 rfl hf dX8_hates_42 (fun hf => ?_)
        refine j_nm hf (fun y4 hf => ?_)
        refine j_istore C (pc := 43) (L' := [(5, .int y4), (4, .int y3), (0, .ref a_t), (1, .int p1), (2, .int p2), (3, .int p3)]) dX8_hates_43 (by decide) rfl ?_
        refine j_iconst C (pc := 45) (v := 0) (by decide) dX8_hates_45 ?_
        refine j_istore C (pc := 46) (L' := [(6, .int (0 : Int32)), (5, .int y4), (4, .int y3), (0, .ref a_t), (1, .int p1), (2, .int p2), (3, .int p3)]) dX8_hates_46 (by decide) rfl ?_
        refine j_bipush C (pc := 48) (v := -5) (by decide) dX8_hates_48 ?_
        refine j_istore C (pc := 50) (L' := [(7, .int (-5 : Int32)), (6, .int (0 : Int32)), (5, .int y4), (4, .int y3), (0, .ref a_t), (1, .int p1), (2, .int p2), (3, .int p3)]) dX8_hates_50 (by decide) rfl ?_
        refine j_bipush C (pc := 52) (v := 99) (by decide) dX8_hates_52 ?_
        refine j_istore C (pc := 54) (L' := [(8, .int (99 : Int32)), (7, .int (-5 : Int32)), (6, .int (0 : Int32)), (5, .int y4), (4, .int y3), (0, .ref a_t), (1, .int p1), (2, .int p2), (3, .int p3)]) dX8_hates_54 (by decide) rfl ?_
        refine j_sub [5, 6, 7, 8, 4, 3, 2, 1, 0] rfl ?_
        exact t_X8_hates_56 C hQ 1000 _ _ _ _ _ _ _ hf
      · refine j_bipush C (pc := 25) (v := -2) (by decide) dX8_hates_25 ?_
        obtain rfl := Option.some.inj hf
        exact hQ _ _ dX8_hates_27 rfl
    · refine j_iconst C (pc := 18) (v := -1) (by decide) dX8_hates_18 ?_
      obtain rfl := Option.some.inj hf
      exact hQ _ _ dX8_hates_19 rfl
def ct_X8_hates (G : Gx) (l : Launch) (F : Int32 → Int32 → Int32 → Int32 → (Nat → Int32) → (Nat → Int32) → (Nat → Int32) → (Nat → Int32) → (Nat → Int32) → (Nat → Int32) → (Nat → Int32) → (Nat → Int32) → (Nat → Int32) → (Nat → Int32) → (Nat → Int32) → (Nat → Int32) → (Nat → Int32) → (Nat → Int32) → (Nat → Int32) → Int32 → Int32 → Int32 → Option (Int32 × (Nat → Int32) × (Nat → Int32))) (lv : Nat) : Prop := ∀ (a_t : Nat) (r_t : Nat → Nat) (v_people : Int32) (v_day : Int32) (v_texted : Int32) (v_at : Int32) (v_value : Int32) (v_digits : Int32) (v_open : Int32) (v_parishes : Int32) (v_holds : Int32) (v_coded : Int32) (v_seen : Int32) (v_inPlan : Int32) (v_inBook : Int32) (v_traced : Int32) (v_imaged : Int32) (v_most : Int32) (v_hate : Nat → Int32) (v_seenBy : Nat → Int32) (v_seenOf : Nat → Int32) (v_seenIn : Nat → Int32) (v_clauses : Nat → Int32) (v_word : Nat → Int32) (v_begins : Nat → Int32) (v_length : Nat → Int32) (v_stack : Nat → Int32) (v_code : Nat → Int32) (v_kind : Nat → Int32) (v_v : Nat → Int32) (v_number : Nat → Int32) (v_rows : Nat → Int32) (v_seenSo : Nat → Int32) (p1 : Int32) (p2 : Int32) (p3 : Int32), ∀ (q : Int32 × (Nat → Int32) × (Nat → Int32)), F v_people v_day v_holds v_seen v_hate v_seenBy v_seenOf v_seenIn v_clauses v_word v_begins v_length v_stack v_code v_kind v_v v_number v_rows v_seenSo p1 p2 p3 = some q → MI G l yX8_hates cX8_hates 9 .int lv [.ref a_t, .int p1, .int p2, .int p3] [oX8 a_t r_t v_people v_day v_texted v_at v_value v_digits v_open v_parishes v_holds v_coded v_seen v_inPlan v_inBook v_traced v_imaged v_most, aI G (r_t 7) 36 v_hate, aI G (r_t 26) 5 v_seenBy, aI G (r_t 27) 5 v_seenOf, aI G (r_t 28) 5 v_seenIn, aI G (r_t 17) 6 v_clauses, aI G (r_t 18) 61 v_word, aI G (r_t 20) 61 v_begins, aI G (r_t 21) 61 v_length, aZ G (r_t 24) 110 v_stack, aI G (r_t 22) 800 v_code, aI G (r_t 1) 6 v_kind, aI G (r_t 2) 6 v_v, aI G (r_t 19) 61 v_number, aI G (r_t 6) 24 v_rows, aI G (r_t 29) 5 v_seenSo] [oX8 a_t r_t v_people v_day v_texted v_at v_value v_digits v_open v_parishes v_holds v_coded v_seen v_inPlan v_inBook v_traced v_imaged v_most, aI G (r_t 7) 36 q.2.1, aI G (r_t 26) 5 v_seenBy, aI G (r_t 27) 5 v_seenOf, aI G (r_t 28) 5 v_seenIn, aI G (r_t 17) 6 v_clauses, aI G (r_t 18) 61 v_word, aI G (r_t 20) 61 v_begins, aI G (r_t 21) 61 v_length, aZ G (r_t 24) 110 q.2.2, aI G (r_t 22) 800 v_code, aI G (r_t 1) 6 v_kind, aI G (r_t 2) 6 v_v, aI G (r_t 19) 61 v_number, aI G (r_t 6) 24 v_rows, aI G (r_t 29) 5 v_seenSo] q.1
theorem c_X8_hates (G : Gx) (l : Launch) : ct_X8_hates G l f_X8_hates 7 := by
  intro a_t r_t v_people v_day v_texted v_at v_value v_digits v_open v_parishes v_holds v_coded v_seen v_inPlan v_inBook v_traced v_imaged v_most v_hate v_seenBy v_seenOf v_seenIn v_clauses v_word v_begins v_length v_stack v_code v_kind v_v v_number v_rows v_seenSo p1 p2 p3 q hf
  exact mI_of (by decide +kernel) rfl (fun K hl C hQ => t_X8_hates C hQ hf)
-- X8_heldHate
def f_X8_heldHate (v_hate : Nat → Int32) (p1 : Int32) : Option (Int32) := (if (p1 / (6 : Int32)) = (p1 - p1 / (6 : Int32) * (6 : Int32)) then (some (0 : Int32)) else (gd p1 36 (some (v_hate p1.toNatClampNeg))))
set_option maxRecDepth 20000 in
set_option maxHeartbeats 1000000 in
theorem t_X8_heldHate {G : Gx} {K : Kx} (C : Cx G K cX8_heldHate RX8 2 1) {a_t : Nat} {r_t : Nat → Nat} {v_people : Int32} {v_day : Int32} {v_texted : Int32} {v_at : Int32} {v_value : Int32} {v_digits : Int32} {v_open : Int32} {v_parishes : Int32} {v_holds : Int32} {v_coded : Int32} {v_seen : Int32} {v_inPlan : Int32} {v_inBook : Int32} {v_traced : Int32} {v_imaged : Int32} {v_most : Int32} {v_hate : Nat → Int32} {p1 : Int32} {q : Int32} (hQ : k_retI G K cX8_heldHate 2 .int [oX8 a_t r_t v_people v_day v_texted v_at v_value v_digits v_open v_parishes v_holds v_coded v_seen v_inPlan v_inBook v_traced v_imaged v_most, aI G (r_t 7) 36 v_hate] q) (hf : f_X8_heldHate v_hate p1 = some q) : J G K 2 0 0 [oX8 a_t r_t v_people v_day v_texted v_at v_value v_digits v_open v_parishes v_holds v_coded v_seen v_inPlan v_inBook v_traced v_imaged v_most, aI G (r_t 7) 36 v_hate] [(0, .ref a_t), (1, .int p1)] 0 [] := by
  unfold f_X8_heldHate at hf
  refine j_iload_n C (pc := 0) 1 rfl rfl dX8_heldHate_0 ?_
  refine j_bipush C (pc := 1) (v := 6) (by decide) dX8_heldHate_1 ?_
  refine j_idiv C (pc := 3) dX8_heldHate_3 (gz_mk (by decide) hf) (fun hf => ?_)
  refine j_iload_n C (pc := 4) 1 rfl rfl dX8_heldHate_4 ?_
  refine j_bipush C (pc := 5) (v := 6) (by decide) dX8_heldHate_5 ?_
  refine j_irem C (pc := 7) dX8_heldHate_7 (gz_mk (by decide) hf) (fun hf => ?_)
  refine j_icmp_ne C (pc := 8) 15 dX8_heldHate_8 (by decide) hf (fun hf => ?_) (fun hf => ?_)
  · refine j_aload_n C (pc := 15) 0 rfl rfl dX8_heldHate_15 ?_
    refine j_get C (pc := 16) kc_X8 fl_X8_30 0 rfl rfl dX8_heldHate_16 ?_
    refine j_iload_n C (pc := 19) 1 rfl rfl dX8_heldHate_19 ?_
    refine j_iald C (pc := 20) 1 rfl hf dX8_heldHate_20 (fun hf => ?_)
    obtain rfl := Option.some.inj hf
    exact hQ _ _ dX8_heldHate_21 rfl
  · refine j_iconst C (pc := 11) (v := 0) (by decide) dX8_heldHate_11 ?_
    refine j_goto C (pc := 12) 21 dX8_heldHate_12 (by decide) ?_
    obtain rfl := Option.some.inj hf
    exact hQ _ _ dX8_heldHate_21 rfl
def ct_X8_heldHate (G : Gx) (l : Launch) (F : (Nat → Int32) → Int32 → Option (Int32)) (lv : Nat) : Prop := ∀ (a_t : Nat) (r_t : Nat → Nat) (v_people : Int32) (v_day : Int32) (v_texted : Int32) (v_at : Int32) (v_value : Int32) (v_digits : Int32) (v_open : Int32) (v_parishes : Int32) (v_holds : Int32) (v_coded : Int32) (v_seen : Int32) (v_inPlan : Int32) (v_inBook : Int32) (v_traced : Int32) (v_imaged : Int32) (v_most : Int32) (v_hate : Nat → Int32) (p1 : Int32), ∀ (q : Int32), F v_hate p1 = some q → MI G l yX8_heldHate cX8_heldHate 2 .int lv [.ref a_t, .int p1] [oX8 a_t r_t v_people v_day v_texted v_at v_value v_digits v_open v_parishes v_holds v_coded v_seen v_inPlan v_inBook v_traced v_imaged v_most, aI G (r_t 7) 36 v_hate] [oX8 a_t r_t v_people v_day v_texted v_at v_value v_digits v_open v_parishes v_holds v_coded v_seen v_inPlan v_inBook v_traced v_imaged v_most, aI G (r_t 7) 36 v_hate] q
theorem c_X8_heldHate (G : Gx) (l : Launch) : ct_X8_heldHate G l f_X8_heldHate 1 := by
  intro a_t r_t v_people v_day v_texted v_at v_value v_digits v_open v_parishes v_holds v_coded v_seen v_inPlan v_inBook v_traced v_imaged v_most v_hate p1 q hf
  exact mI_of (by decide +kernel) rfl (fun K hl C hQ => t_X8_heldHate C hQ hf)
-- X8_image
def f_X8_image (v_people : Int32) (v_day : Int32) (v_holds : Int32) (v_seen : Int32) (v_inPlan : Int32) (v_inBook : Int32) (v_image : Nat → Int32) (v_kind : Nat → Int32) (v_v : Nat → Int32) (v_dead : Nat → Int32) (v_buried : Nat → Int32) (v_thrown : Nat → Int32) (v_rows : Nat → Int32) (v_hate : Nat → Int32) (v_seenBy : Nat → Int32) (v_seenOf : Nat → Int32) (v_seenIn : Nat → Int32) (v_seenSo : Nat → Int32) (v_goes : Nat → Int32) (v_whose : Nat → Int32) (v_bookBy : Nat → Int32) (v_bookOf : Nat → Int32) (v_bookHate : Nat → Int32) : Option (Int32 × Int32 × (Nat → Int32)) := ((f_X8_keep v_people v_day v_holds v_seen v_inPlan v_inBook v_image v_kind v_v v_dead v_buried v_thrown v_rows v_hate v_seenBy v_seenOf v_seenIn v_seenSo v_goes v_whose v_bookBy v_bookOf v_bookHate).bind fun q1 => (some (v_people, (1 : Int32), q1)))
set_option maxRecDepth 20000 in
set_option maxHeartbeats 1000000 in
theorem t_X8_image {G : Gx} {K : Kx} (C : Cx G K cX8_image RX8 1 2) {a_t : Nat} {r_t : Nat → Nat} {v_people : Int32} {v_day : Int32} {v_texted : Int32} {v_at : Int32} {v_value : Int32} {v_digits : Int32} {v_open : Int32} {v_parishes : Int32} {v_holds : Int32} {v_coded : Int32} {v_seen : Int32} {v_inPlan : Int32} {v_inBook : Int32} {v_traced : Int32} {v_imaged : Int32} {v_most : Int32} {v_image : Nat → Int32} {v_kind : Nat → Int32} {v_v : Nat → Int32} {v_dead : Nat → Int32} {v_buried : Nat → Int32} {v_thrown : Nat → Int32} {v_rows : Nat → Int32} {v_hate : Nat → Int32} {v_seenBy : Nat → Int32} {v_seenOf : Nat → Int32} {v_seenIn : Nat → Int32} {v_seenSo : Nat → Int32} {v_goes : Nat → Int32} {v_whose : Nat → Int32} {v_bookBy : Nat → Int32} {v_bookOf : Nat → Int32} {v_bookHate : Nat → Int32} {q : Int32 × Int32 × (Nat → Int32)} (hQ : k_retI G K cX8_image 1 .int [oX8 a_t r_t v_people v_day v_texted v_at v_value v_digits v_open v_parishes v_holds v_coded v_seen v_inPlan v_inBook v_traced q.2.1 v_most, aI G (r_t 40) 163 q.2.2, aI G (r_t 1) 6 v_kind, aI G (r_t 2) 6 v_v, aI G (r_t 3) 6 v_dead, aI G (r_t 4) 6 v_buried, aI G (r_t 5) 6 v_thrown, aI G (r_t 6) 24 v_rows, aI G (r_t 7) 36 v_hate, aI G (r_t 26) 5 v_seenBy, aI G (r_t 27) 5 v_seenOf, aI G (r_t 28) 5 v_seenIn, aI G (r_t 29) 5 v_seenSo, aI G (r_t 31) 10 v_goes, aI G (r_t 32) 10 v_whose, aI G (r_t 34) 8 v_bookBy, aI G (r_t 35) 8 v_bookOf, aI G (r_t 36) 8 v_bookHate] q.1) (hf : f_X8_image v_people v_day v_holds v_seen v_inPlan v_inBook v_image v_kind v_v v_dead v_buried v_thrown v_rows v_hate v_seenBy v_seenOf v_seenIn v_seenSo v_goes v_whose v_bookBy v_bookOf v_bookHate = some q) : J G K 1 0 0 [oX8 a_t r_t v_people v_day v_texted v_at v_value v_digits v_open v_parishes v_holds v_coded v_seen v_inPlan v_inBook v_traced v_imaged v_most, aI G (r_t 40) 163 v_image, aI G (r_t 1) 6 v_kind, aI G (r_t 2) 6 v_v, aI G (r_t 3) 6 v_dead, aI G (r_t 4) 6 v_buried, aI G (r_t 5) 6 v_thrown, aI G (r_t 6) 24 v_rows, aI G (r_t 7) 36 v_hate, aI G (r_t 26) 5 v_seenBy, aI G (r_t 27) 5 v_seenOf, aI G (r_t 28) 5 v_seenIn, aI G (r_t 29) 5 v_seenSo, aI G (r_t 31) 10 v_goes, aI G (r_t 32) 10 v_whose, aI G (r_t 34) 8 v_bookBy, aI G (r_t 35) 8 v_bookOf, aI G (r_t 36) 8 v_bookHate] [(0, .ref a_t)] 0 [] := by
  unfold f_X8_image at hf
  refine j_aload_n C (pc := 0) 0 rfl rfl dX8_image_0 ?_
  refine j_iconst C (pc := 1) (v := 1) (by decide) dX8_image_1 ?_
  refine j_put C (pc := 2) (ws' := [oX8 a_t r_t v_people v_day v_texted v_at v_value v_digits v_open v_parishes v_holds v_coded v_seen v_inPlan v_inBook v_traced (1 : Int32) v_most, aI G (r_t 40) 163 v_image, aI G (r_t 1) 6 v_kind, aI G (r_t 2) 6 v_v, aI G (r_t 3) 6 v_dead, aI G (r_t 4) 6 v_buried, aI G (r_t 5) 6 v_thrown, aI G (r_t 6) 24 v_rows, aI G (r_t 7) 36 v_hate, aI G (r_t 26) 5 v_seenBy, aI G (r_t 27) 5 v_seenOf, aI G (r_t 28) 5 v_seenIn, aI G (r_t 29) 5 v_seenSo, aI G (r_t 31) 10 v_goes, aI G (r_t 32) 10 v_whose, aI G (r_t 34) 8 v_bookBy, aI G (r_t 35) 8 v_bookOf, aI G (r_t 36) 8 v_bookHate]) kc_X8 fl_X8_323 0 rfl rfl rfl rfl rfl rfl dX8_image_2 ?_
  refine j_aload_n C (pc := 5) 0 rfl rfl dX8_image_5 ?_
  refine j_aload_n C (pc := 6) 0 rfl rfl dX8_image_6 ?_
  refine j_get C (pc := 7) kc_X8 fl_X8_88 0 rfl rfl dX8_image_7 ?_
  refine j_cVZ C (pc := 10) (As := [.ref (r_t 40)]) (st := []) (ws' := fun q1 => [oX8 a_t r_t v_people v_day v_texted v_at v_value v_digits v_open v_parishes v_holds v_coded v_seen v_inPlan v_inBook v_traced (1 : Int32) v_most, aI G (r_t 40) 163 q1, aI G (r_t 1) 6 v_kind, aI G (r_t 2) 6 v_v, aI G (r_t 3) 6 v_dead, aI G (r_t 4) 6 v_buried, aI G (r_t 5) 6 v_thrown, aI G (r_t 6) 24 v_rows, aI G (r_t 7) 36 v_hate, aI G (r_t 26) 5 v_seenBy, aI G (r_t 27) 5 v_seenOf, aI G (r_t 28) 5 v_seenIn, aI G (r_t 29) 5 v_seenSo, aI G (r_t 31) 10 v_goes, aI G (r_t 32) 10 v_whose, aI G (r_t 34) 8 v_bookBy, aI G (r_t 35) 8 v_bookOf, aI G (r_t 36) 8 v_bookHate]) ml_X8_285 ms_X8_keep hf (fun q1 h => (c_X8_keep G K.2.1) a_t r_t (r_t 40) v_people v_day v_texted v_at v_value v_digits v_open v_parishes v_holds v_coded v_seen v_inPlan v_inBook v_traced (1 : Int32) v_most v_image v_kind v_v v_dead v_buried v_thrown v_rows v_hate v_seenBy v_seenOf v_seenIn v_seenSo v_goes v_whose v_bookBy v_bookOf v_bookHate q1 h) [0, 1, 2, 3, 4, 5, 6, 7, 8, 9, 10, 11, 12, 13, 14, 15, 16, 17] [some 0, some 1, some 2, some 3, some 4, some 5, some 6, some 7, some 8, some 9, some 10, some 11, some 12, some 13, some 14, some 15, some 16, some 17] 18 rfl (by decide +kernel) (by decide +kernel) (fun _ => rfl) (fun _ => rfl) rfl rfl rfl rfl ⟨Nat.zero_le _, Nat.zero_le _⟩ dX8_image_10 kc_X8 0 rfl (fun q1 hf => ?_)
  refine j_aload_n C (pc := 13) 0 rfl rfl dX8_image_13 ?_
  refine j_get C (pc := 14) kc_X8 fl_X8_114 0 rfl rfl dX8_image_14 ?_
  obtain rfl := Option.some.inj hf
  exact hQ _ _ dX8_image_17 rfl
def ct_X8_image (G : Gx) (l : Launch) (F : Int32 → Int32 → Int32 → Int32 → Int32 → Int32 → (Nat → Int32) → (Nat → Int32) → (Nat → Int32) → (Nat → Int32) → (Nat → Int32) → (Nat → Int32) → (Nat → Int32) → (Nat → Int32) → (Nat → Int32) → (Nat → Int32) → (Nat → Int32) → (Nat → Int32) → (Nat → Int32) → (Nat → Int32) → (Nat → Int32) → (Nat → Int32) → (Nat → Int32) → Option (Int32 × Int32 × (Nat → Int32))) (lv : Nat) : Prop := ∀ (a_t : Nat) (r_t : Nat → Nat) (v_people : Int32) (v_day : Int32) (v_texted : Int32) (v_at : Int32) (v_value : Int32) (v_digits : Int32) (v_open : Int32) (v_parishes : Int32) (v_holds : Int32) (v_coded : Int32) (v_seen : Int32) (v_inPlan : Int32) (v_inBook : Int32) (v_traced : Int32) (v_imaged : Int32) (v_most : Int32) (v_image : Nat → Int32) (v_kind : Nat → Int32) (v_v : Nat → Int32) (v_dead : Nat → Int32) (v_buried : Nat → Int32) (v_thrown : Nat → Int32) (v_rows : Nat → Int32) (v_hate : Nat → Int32) (v_seenBy : Nat → Int32) (v_seenOf : Nat → Int32) (v_seenIn : Nat → Int32) (v_seenSo : Nat → Int32) (v_goes : Nat → Int32) (v_whose : Nat → Int32) (v_bookBy : Nat → Int32) (v_bookOf : Nat → Int32) (v_bookHate : Nat → Int32), ∀ (q : Int32 × Int32 × (Nat → Int32)), F v_people v_day v_holds v_seen v_inPlan v_inBook v_image v_kind v_v v_dead v_buried v_thrown v_rows v_hate v_seenBy v_seenOf v_seenIn v_seenSo v_goes v_whose v_bookBy v_bookOf v_bookHate = some q → MI G l yX8_image cX8_image 1 .int lv [.ref a_t] [oX8 a_t r_t v_people v_day v_texted v_at v_value v_digits v_open v_parishes v_holds v_coded v_seen v_inPlan v_inBook v_traced v_imaged v_most, aI G (r_t 40) 163 v_image, aI G (r_t 1) 6 v_kind, aI G (r_t 2) 6 v_v, aI G (r_t 3) 6 v_dead, aI G (r_t 4) 6 v_buried, aI G (r_t 5) 6 v_thrown, aI G (r_t 6) 24 v_rows, aI G (r_t 7) 36 v_hate, aI G (r_t 26) 5 v_seenBy, aI G (r_t 27) 5 v_seenOf, aI G (r_t 28) 5 v_seenIn, aI G (r_t 29) 5 v_seenSo, aI G (r_t 31) 10 v_goes, aI G (r_t 32) 10 v_whose, aI G (r_t 34) 8 v_bookBy, aI G (r_t 35) 8 v_bookOf, aI G (r_t 36) 8 v_bookHate] [oX8 a_t r_t v_people v_day v_texted v_at v_value v_digits v_open v_parishes v_holds v_coded v_seen v_inPlan v_inBook v_traced q.2.1 v_most, aI G (r_t 40) 163 q.2.2, aI G (r_t 1) 6 v_kind, aI G (r_t 2) 6 v_v, aI G (r_t 3) 6 v_dead, aI G (r_t 4) 6 v_buried, aI G (r_t 5) 6 v_thrown, aI G (r_t 6) 24 v_rows, aI G (r_t 7) 36 v_hate, aI G (r_t 26) 5 v_seenBy, aI G (r_t 27) 5 v_seenOf, aI G (r_t 28) 5 v_seenIn, aI G (r_t 29) 5 v_seenSo, aI G (r_t 31) 10 v_goes, aI G (r_t 32) 10 v_whose, aI G (r_t 34) 8 v_bookBy, aI G (r_t 35) 8 v_bookOf, aI G (r_t 36) 8 v_bookHate] q.1
theorem c_X8_image (G : Gx) (l : Launch) : ct_X8_image G l f_X8_image 2 := by
  intro a_t r_t v_people v_day v_texted v_at v_value v_digits v_open v_parishes v_holds v_coded v_seen v_inPlan v_inBook v_traced v_imaged v_most v_image v_kind v_v v_dead v_buried v_thrown v_rows v_hate v_seenBy v_seenOf v_seenIn v_seenSo v_goes v_whose v_bookBy v_bookOf v_bookHate q hf
  exact mI_of (by decide +kernel) rfl (fun K hl C hQ => t_X8_image C hQ hf)
-- X8_is
def f_X8_is (v_texted : Int32) (v_at : Int32) (v_text : Nat → Int32) (p1 : Int32) : Option (Int32 × Int32) := (if v_at = v_texted then (some ((0 : Int32), v_at)) else (gd v_at 100 (if (v_text v_at.toNatClampNeg) = p1 then (some ((1 : Int32), v_at + (1 : Int32))) else (some ((0 : Int32), v_at)))))
set_option maxRecDepth 20000 in
set_option maxHeartbeats 1000000 in
theorem t_X8_is {G : Gx} {K : Kx} (C : Cx G K cX8_is RX8 2 1) {a_t : Nat} {r_t : Nat → Nat} {v_people : Int32} {v_day : Int32} {v_texted : Int32} {v_at : Int32} {v_value : Int32} {v_digits : Int32} {v_open : Int32} {v_parishes : Int32} {v_holds : Int32} {v_coded : Int32} {v_seen : Int32} {v_inPlan : Int32} {v_inBook : Int32} {v_traced : Int32} {v_imaged : Int32} {v_most : Int32} {v_text : Nat → Int32} {p1 : Int32} {q : Int32 × Int32} (hQ : k_retI G K cX8_is 2 .boolean [oX8 a_t r_t v_people v_day v_texted q.2 v_value v_digits v_open v_parishes v_holds v_coded v_seen v_inPlan v_inBook v_traced v_imaged v_most, aI G (r_t 10) 100 v_text] q.1) (hf : f_X8_is v_texted v_at v_text p1 = some q) : J G K 2 0 0 [oX8 a_t r_t v_people v_day v_texted v_at v_value v_digits v_open v_parishes v_holds v_coded v_seen v_inPlan v_inBook v_traced v_imaged v_most, aI G (r_t 10) 100 v_text] [(0, .ref a_t), (1, .int p1)] 0 [] := by
  unfold f_X8_is at hf
  refine j_aload_n C (pc := 0) 0 rfl rfl dX8_is_0 ?_
  refine j_get C (pc := 1) kc_X8 fl_X8_153 0 rfl rfl dX8_is_1 ?_
  refine j_aload_n C (pc := 4) 0 rfl rfl dX8_is_4 ?_
  refine j_get C (pc := 5) kc_X8 fl_X8_150 0 rfl rfl dX8_is_5 ?_
  refine j_icmp_eq C (pc := 8) 24 dX8_is_8 (by decide) hf (fun hf => ?_) (fun hf => ?_)
  · refine j_iconst C (pc := 24) (v := 0) (by decide) dX8_is_24 ?_
    obtain rfl := Option.some.inj hf
    exact hQ _ _ dX8_is_25 (show narrow .boolean (.int (0 : Int32)) = .int (0 : Int32) from rfl)
  · refine j_aload_n C (pc := 11) 0 rfl rfl dX8_is_11 ?_
    refine j_get C (pc := 12) kc_X8 fl_X8_33 0 rfl rfl dX8_is_12 ?_
    refine j_aload_n C (pc := 15) 0 rfl rfl dX8_is_15 ?_
    refine j_get C (pc := 16) kc_X8 fl_X8_153 0 rfl rfl dX8_is_16 ?_
    refine j_iald C (pc := 19) 1 rfl hf dX8_is_19 (fun hf => ?_)
    refine j_iload_n C (pc := 20) 1 rfl rfl dX8_is_20 ?_
    refine j_icmp_eq C (pc := 21) 26 dX8_is_21 (by decide) hf (fun hf => ?_) (fun hf => ?_)
    · refine j_aload_n C (pc := 26) 0 rfl rfl dX8_is_26 ?_
      refine j_dup C (pc := 27) rfl dX8_is_27 ?_
      refine j_get C (pc := 28) kc_X8 fl_X8_153 0 rfl rfl dX8_is_28 ?_
      refine j_iconst C (pc := 31) (v := 1) (by decide) dX8_is_31 ?_
      refine j_iadd C (pc := 32) dX8_is_32 ?_
      refine j_put C (pc := 33) (ws' := [oX8 a_t r_t v_people v_day v_texted (v_at + (1 : Int32)) v_value v_digits v_open v_parishes v_holds v_coded v_seen v_inPlan v_inBook v_traced v_imaged v_most, aI G (r_t 10) 100 v_text]) kc_X8 fl_X8_153 0 rfl rfl rfl rfl rfl rfl dX8_is_33 ?_
      refine j_iconst C (pc := 36) (v := 1) (by decide) dX8_is_36 ?_
      obtain rfl := Option.some.inj hf
      exact hQ _ _ dX8_is_37 (show narrow .boolean (.int (1 : Int32)) = .int (1 : Int32) from rfl)
    · refine j_iconst C (pc := 24) (v := 0) (by decide) dX8_is_24 ?_
      obtain rfl := Option.some.inj hf
      exact hQ _ _ dX8_is_25 (show narrow .boolean (.int (0 : Int32)) = .int (0 : Int32) from rfl)
def ct_X8_is (G : Gx) (l : Launch) (F : Int32 → Int32 → (Nat → Int32) → Int32 → Option (Int32 × Int32)) (lv : Nat) : Prop := ∀ (a_t : Nat) (r_t : Nat → Nat) (v_people : Int32) (v_day : Int32) (v_texted : Int32) (v_at : Int32) (v_value : Int32) (v_digits : Int32) (v_open : Int32) (v_parishes : Int32) (v_holds : Int32) (v_coded : Int32) (v_seen : Int32) (v_inPlan : Int32) (v_inBook : Int32) (v_traced : Int32) (v_imaged : Int32) (v_most : Int32) (v_text : Nat → Int32) (p1 : Int32), ∀ (q : Int32 × Int32), F v_texted v_at v_text p1 = some q → MI G l yX8_is cX8_is 2 .boolean lv [.ref a_t, .int p1] [oX8 a_t r_t v_people v_day v_texted v_at v_value v_digits v_open v_parishes v_holds v_coded v_seen v_inPlan v_inBook v_traced v_imaged v_most, aI G (r_t 10) 100 v_text] [oX8 a_t r_t v_people v_day v_texted q.2 v_value v_digits v_open v_parishes v_holds v_coded v_seen v_inPlan v_inBook v_traced v_imaged v_most, aI G (r_t 10) 100 v_text] q.1
theorem c_X8_is (G : Gx) (l : Launch) : ct_X8_is G l f_X8_is 1 := by
  intro a_t r_t v_people v_day v_texted v_at v_value v_digits v_open v_parishes v_holds v_coded v_seen v_inPlan v_inBook v_traced v_imaged v_most v_text p1 q hf
  exact mI_of (by decide +kernel) rfl (fun K hl C hQ => t_X8_is C hQ hf)
-- X8_isAll
def f_X8_isAll_2_b (v_texted : Int32) (v_text : Nat → Int32) (p1 : Nat) (k2 : Int32 → Int32 → Option (Int32 × Int32)) (x2 : Int32) (w_at : Int32) : Option (Int32 × Int32) := (gl p1 ((f_J0_length_8abf5 p1).bind fun q1 => (if q1 ≤ x2 then (some ((1 : Int32), w_at)) else (gl p1 ((f_J0_charAt_5068e p1 x2).bind fun q2 => ((f_X8_is v_texted w_at v_text q2).bind fun q3 => (if q3.1 = 0 then (some ((0 : Int32), q3.2)) else (k2 (x2 + (1 : Int32)) q3.2))))))))
def f_X8_isAll_2 (v_texted : Int32) (v_text : Nat → Int32) (p1 : Nat) : Nat → Int32 → Int32 → Option (Int32 × Int32)
  | 0 => fun _ _ => none
  | n + 1 => f_X8_isAll_2_b v_texted v_text p1 (f_X8_isAll_2 v_texted v_text p1 n)
set_option maxRecDepth 20000 in
set_option maxHeartbeats 1000000 in
theorem t_X8_isAll_2_b {G : Gx} {K : Kx} (C : Cx G K cX8_isAll RX8 3 5) {a_t : Nat} {r_t : Nat → Nat} {v_people : Int32} {v_day : Int32} {v_texted : Int32} {v_value : Int32} {v_digits : Int32} {v_open : Int32} {v_parishes : Int32} {v_holds : Int32} {v_coded : Int32} {v_seen : Int32} {v_inPlan : Int32} {v_inBook : Int32} {v_traced : Int32} {v_imaged : Int32} {v_most : Int32} {v_text : Nat → Int32} {p1 : Nat} {q : Int32 × Int32} (hQ : k_retI G K cX8_isAll 3 .boolean [oX8 a_t r_t v_people v_day v_texted q.2 v_value v_digits v_open v_parishes v_holds v_coded v_seen v_inPlan v_inBook v_traced v_imaged v_most, aI G (r_t 10) 100 v_text] q.1) {k2 : Int32 → Int32 → Option (Int32 × Int32)} (hk2 : ∀ (x2 : Int32) (w_at : Int32), k2 x2 w_at = some q → J G K 3 0 0 [oX8 a_t r_t v_people v_day v_texted w_at v_value v_digits v_open v_parishes v_holds v_coded v_seen v_inPlan v_inBook v_traced v_imaged v_most, aI G (r_t 10) 100 v_text] [(0, .ref a_t), (1, .ref (G.2.2 (10 + p1))), (2, .int x2)] 2 []) {x2 : Int32} {w_at : Int32} (hf : f_X8_isAll_2_b v_texted v_text p1 k2 x2 w_at = some q) : J G K 3 0 0 [oX8 a_t r_t v_people v_day v_texted w_at v_value v_digits v_open v_parishes v_holds v_coded v_seen v_inPlan v_inBook v_traced v_imaged v_most, aI G (r_t 10) 100 v_text] [(0, .ref a_t), (1, .ref (G.2.2 (10 + p1))), (2, .int x2)] 2 [] := by
  unfold f_X8_isAll_2_b at hf
  refine j_iload_n C (pc := 2) 2 rfl rfl dX8_isAll_2 ?_
  refine j_aload_n C (pc := 3) 1 rfl rfl dX8_isAll_3 ?_
  obtain ⟨hi, hf⟩ := gl_some hf
  refine j_cTI C (pc := 4) (As := []) (st := [.int x2]) (ws' := fun q1 => [oX8 a_t r_t v_people v_day v_texted w_at v_value v_digits v_open v_parishes v_holds v_coded v_seen v_inPlan v_inBook v_traced v_imaged v_most, aI G (r_t 10) 100 v_text]) ml_X8_166 ms_J0_length_8abf5 hf (fun q1 h => (c_J0_length_8abf5 G K.2.1) p1 q1 h) [] [none, none] 2 rfl (by decide +kernel) (by decide +kernel) (fun _ => rfl) (fun _ => rfl) rfl rfl rfl rfl ⟨Nat.zero_le _, Nat.zero_le _⟩ dX8_isAll_4 p1 hi rfl rfl (fun q1 hf => ?_)
  refine j_icmp_ge C (pc := 7) 30 dX8_isAll_7 (by decide) hf (fun hf => ?_) (fun hf => ?_)
  · refine j_iconst C (pc := 30) (v := 1) (by decide) dX8_isAll_30 ?_
    obtain rfl := Option.some.inj hf
    exact hQ _ _ dX8_isAll_31 (show narrow .boolean (.int (1 : Int32)) = .int (1 : Int32) from rfl)
  · refine j_aload_n C (pc := 10) 0 rfl rfl dX8_isAll_10 ?_
    refine j_aload_n C (pc := 11) 1 rfl rfl dX8_isAll_11 ?_
    refine j_iload_n C (pc := 12) 2 rfl rfl dX8_isAll_12 ?_
    obtain ⟨hi, hf⟩ := gl_some hf
    refine j_cTI C (pc := 13) (As := [.int x2]) (st := [.ref a_t]) (ws' := fun q2 => [oX8 a_t r_t v_people v_day v_texted w_at v_value v_digits v_open v_parishes v_holds v_coded v_seen v_inPlan v_inBook v_traced v_imaged v_most, aI G (r_t 10) 100 v_text]) ml_X8_171 ms_J0_charAt_5068e hf (fun q2 h => (c_J0_charAt_5068e G K.2.1) p1 x2 q2 h) [] [none, none] 2 rfl (by decide +kernel) (by decide +kernel) (fun _ => rfl) (fun _ => rfl) rfl rfl rfl rfl ⟨Nat.zero_le _, Nat.zero_le _⟩ dX8_isAll_13 p1 hi rfl rfl (fun q2 hf => ?_)
    refine j_cVI C (pc := 16) (As := [.int q2]) (st := []) (ws' := fun q3 => [oX8 a_t r_t v_people v_day v_texted q3.2 v_value v_digits v_open v_parishes v_holds v_coded v_seen v_inPlan v_inBook v_traced v_imaged v_most, aI G (r_t 10) 100 v_text]) ml_X8_175 ms_X8_is hf (fun q3 h => (c_X8_is G K.2.1) a_t r_t v_people v_day v_texted w_at v_value v_digits v_open v_parishes v_holds v_coded v_seen v_inPlan v_inBook v_traced v_imaged v_most v_text q2 q3 h) [0, 1] [some 0, some 1] 2 rfl (by decide +kernel) (by decide +kernel) (fun _ => rfl) (fun _ => rfl) rfl rfl rfl rfl ⟨Nat.zero_le _, Nat.zero_le _⟩ dX8_isAll_16 kc_X8 0 rfl (fun q3 hf => ?_)
    refine j_if_ne C (pc := 19) 24 dX8_isAll_19 (by decide) hf (fun hf => ?_) (fun hf => ?_)
    · refine j_iinc C (pc := 24) (L' := [(2, .int (x2 + (1 : Int32))), (0, .ref a_t), (1, .ref (G.2.2 (10 + p1)))]) (v := x2 + (1 : Int32)) dX8_isAll_24 (t := 2) rfl rfl (by decide) rfl ?_
      refine j_goto C (pc := 27) 2 dX8_isAll_27 (by decide) ?_
      refine j_sub [1, 2, 0] rfl ?_
      exact hk2 _ _ hf
    · refine j_iconst C (pc := 22) (v := 0) (by decide) dX8_isAll_22 ?_
      obtain rfl := Option.some.inj hf
      exact hQ _ _ dX8_isAll_23 (show narrow .boolean (.int (0 : Int32)) = .int (0 : Int32) from rfl)
theorem t_X8_isAll_2 {G : Gx} {K : Kx} (C : Cx G K cX8_isAll RX8 3 5) {a_t : Nat} {r_t : Nat → Nat} {v_people : Int32} {v_day : Int32} {v_texted : Int32} {v_value : Int32} {v_digits : Int32} {v_open : Int32} {v_parishes : Int32} {v_holds : Int32} {v_coded : Int32} {v_seen : Int32} {v_inPlan : Int32} {v_inBook : Int32} {v_traced : Int32} {v_imaged : Int32} {v_most : Int32} {v_text : Nat → Int32} {p1 : Nat} {q : Int32 × Int32} (hQ : k_retI G K cX8_isAll 3 .boolean [oX8 a_t r_t v_people v_day v_texted q.2 v_value v_digits v_open v_parishes v_holds v_coded v_seen v_inPlan v_inBook v_traced v_imaged v_most, aI G (r_t 10) 100 v_text] q.1) : ∀ (n : Nat) (x2 : Int32) (w_at : Int32), f_X8_isAll_2 v_texted v_text p1 n x2 w_at = some q → J G K 3 0 0 [oX8 a_t r_t v_people v_day v_texted w_at v_value v_digits v_open v_parishes v_holds v_coded v_seen v_inPlan v_inBook v_traced v_imaged v_most, aI G (r_t 10) 100 v_text] [(0, .ref a_t), (1, .ref (G.2.2 (10 + p1))), (2, .int x2)] 2 [] := by
  intro n
  induction n with
  | zero => intro x2 w_at hf; cases hf
  | succ n ih => intro x2 w_at hf; exact t_X8_isAll_2_b C hQ ih hf
def f_X8_isAll (v_texted : Int32) (v_at : Int32) (v_text : Nat → Int32) (p1 : Nat) : Option (Int32 × Int32) := (f_X8_isAll_2 v_texted v_text p1 1000 (0 : Int32) v_at)
set_option maxRecDepth 20000 in
set_option maxHeartbeats 1000000 in
theorem t_X8_isAll {G : Gx} {K : Kx} (C : Cx G K cX8_isAll RX8 3 5) {a_t : Nat} {r_t : Nat → Nat} {v_people : Int32} {v_day : Int32} {v_texted : Int32} {v_at : Int32} {v_value : Int32} {v_digits : Int32} {v_open : Int32} {v_parishes : Int32} {v_holds : Int32} {v_coded : Int32} {v_seen : Int32} {v_inPlan : Int32} {v_inBook : Int32} {v_traced : Int32} {v_imaged : Int32} {v_most : Int32} {v_text : Nat → Int32} {p1 : Nat} {q : Int32 × Int32} (hQ : k_retI G K cX8_isAll 3 .boolean [oX8 a_t r_t v_people v_day v_texted q.2 v_value v_digits v_open v_parishes v_holds v_coded v_seen v_inPlan v_inBook v_traced v_imaged v_most, aI G (r_t 10) 100 v_text] q.1) (hf : f_X8_isAll v_texted v_at v_text p1 = some q) : J G K 3 0 0 [oX8 a_t r_t v_people v_day v_texted v_at v_value v_digits v_open v_parishes v_holds v_coded v_seen v_inPlan v_inBook v_traced v_imaged v_most, aI G (r_t 10) 100 v_text] [(0, .ref a_t), (1, .ref (G.2.2 (10 + p1)))] 0 [] := by
  unfold f_X8_isAll at hf
  refine j_iconst C (pc := 0) (v := 0) (by decide) dX8_isAll_0 ?_
  refine j_istore_n C (pc := 1) (L' := [(2, .int (0 : Int32)), (0, .ref a_t), (1, .ref (G.2.2 (10 + p1)))]) dX8_isAll_1 rfl (by decide) rfl ?_
  refine j_sub [1, 2, 0] rfl ?_
  exact t_X8_isAll_2 C hQ 1000 _ _ hf
def ct_X8_isAll (G : Gx) (l : Launch) (F : Int32 → Int32 → (Nat → Int32) → Nat → Option (Int32 × Int32)) (lv : Nat) : Prop := ∀ (a_t : Nat) (r_t : Nat → Nat) (v_people : Int32) (v_day : Int32) (v_texted : Int32) (v_at : Int32) (v_value : Int32) (v_digits : Int32) (v_open : Int32) (v_parishes : Int32) (v_holds : Int32) (v_coded : Int32) (v_seen : Int32) (v_inPlan : Int32) (v_inBook : Int32) (v_traced : Int32) (v_imaged : Int32) (v_most : Int32) (v_text : Nat → Int32) (p1 : Nat), ∀ (q : Int32 × Int32), F v_texted v_at v_text p1 = some q → MI G l yX8_isAll cX8_isAll 3 .boolean lv [.ref a_t, .ref (G.2.2 (10 + p1))] [oX8 a_t r_t v_people v_day v_texted v_at v_value v_digits v_open v_parishes v_holds v_coded v_seen v_inPlan v_inBook v_traced v_imaged v_most, aI G (r_t 10) 100 v_text] [oX8 a_t r_t v_people v_day v_texted q.2 v_value v_digits v_open v_parishes v_holds v_coded v_seen v_inPlan v_inBook v_traced v_imaged v_most, aI G (r_t 10) 100 v_text] q.1
theorem c_X8_isAll (G : Gx) (l : Launch) : ct_X8_isAll G l f_X8_isAll 5 := by
  intro a_t r_t v_people v_day v_texted v_at v_value v_digits v_open v_parishes v_holds v_coded v_seen v_inPlan v_inBook v_traced v_imaged v_most v_text p1 q hf
  exact mI_of (by decide +kernel) rfl (fun K hl C hQ => t_X8_isAll C hQ hf)
-- X8_isAsked
def f_X8_isAsked_23 (v_people : Int32) (p1 : Int32) : Option (Int32) := ((f_X8_within p1 (20 : Int32) (55 : Int32)).bind fun q1 => (if q1 = 0 then (some (0 : Int32)) else ((f_X8_are v_people ((p1 - (20 : Int32)) / (6 : Int32)) ((p1 - (20 : Int32)) - (p1 - (20 : Int32)) / (6 : Int32) * (6 : Int32))).bind fun q2 => (if q2 = 0 then (some (0 : Int32)) else (some (1 : Int32))))))
set_option maxRecDepth 20000 in
set_option maxHeartbeats 1000000 in
theorem t_X8_isAsked_23 {G : Gx} {K : Kx} (C : Cx G K cX8_isAsked RX8 2 4) {a_t : Nat} {r_t : Nat → Nat} {v_people : Int32} {v_day : Int32} {v_texted : Int32} {v_at : Int32} {v_value : Int32} {v_digits : Int32} {v_open : Int32} {v_parishes : Int32} {v_holds : Int32} {v_coded : Int32} {v_seen : Int32} {v_inPlan : Int32} {v_inBook : Int32} {v_traced : Int32} {v_imaged : Int32} {v_most : Int32} {p1 : Int32} {q : Int32} (hQ : k_retI G K cX8_isAsked 2 .boolean [oX8 a_t r_t v_people v_day v_texted v_at v_value v_digits v_open v_parishes v_holds v_coded v_seen v_inPlan v_inBook v_traced v_imaged v_most] q) (hf : f_X8_isAsked_23 v_people p1 = some q) : J G K 2 0 0 [oX8 a_t r_t v_people v_day v_texted v_at v_value v_digits v_open v_parishes v_holds v_coded v_seen v_inPlan v_inBook v_traced v_imaged v_most] [(0, .ref a_t), (1, .int p1)] 23 [] := by
  unfold f_X8_isAsked_23 at hf
  refine j_iload_n C (pc := 23) 1 rfl rfl dX8_isAsked_23 ?_
  refine j_bipush C (pc := 24) (v := 20) (by decide) dX8_isAsked_24 ?_
  refine j_bipush C (pc := 26) (v := 55) (by decide) dX8_isAsked_26 ?_
  refine j_cSI C (pc := 28) (As := [.int p1, .int (20 : Int32), .int (55 : Int32)]) (st := []) (ws' := fun q1 => [oX8 a_t r_t v_people v_day v_texted v_at v_value v_digits v_open v_parishes v_holds v_coded v_seen v_inPlan v_inBook v_traced v_imaged v_most]) ml_X8_117 ms_X8_within hf (fun q1 h => (c_X8_within G K.2.1) p1 (20 : Int32) (55 : Int32) q1 h) [] [none] 1 rfl (by decide +kernel) (by decide +kernel) (fun _ => rfl) (fun _ => rfl) rfl rfl rfl rfl ⟨Nat.zero_le _, Nat.zero_le _⟩ dX8_isAsked_28 (fun q1 hf => ?_)
  refine j_if_eq C (pc := 31) 59 dX8_isAsked_31 (by decide) hf (fun hf => ?_) (fun hf => ?_)
  · refine j_iconst C (pc := 59) (v := 0) (by decide) dX8_isAsked_59 ?_
    obtain rfl := Option.some.inj hf
    exact hQ _ _ dX8_isAsked_60 (show narrow .boolean (.int (0 : Int32)) = .int (0 : Int32) from rfl)
  · refine j_aload_n C (pc := 34) 0 rfl rfl dX8_isAsked_34 ?_
    refine j_iload_n C (pc := 35) 1 rfl rfl dX8_isAsked_35 ?_
    refine j_bipush C (pc := 36) (v := 20) (by decide) dX8_isAsked_36 ?_
    refine j_isub C (pc := 38) dX8_isAsked_38 ?_
    refine j_bipush C (pc := 39) (v := 6) (by decide) dX8_isAsked_39 ?_
    refine j_idiv C (pc := 41) dX8_isAsked_41 (gz_mk (by decide) hf) (fun hf => ?_)
    refine j_iload_n C (pc := 42) 1 rfl rfl dX8_isAsked_42 ?_
    refine j_bipush C (pc := 43) (v := 20) (by decide) dX8_isAsked_43 ?_
    refine j_isub C (pc := 45) dX8_isAsked_45 ?_
    refine j_bipush C (pc := 46) (v := 6) (by decide) dX8_isAsked_46 ?_
    refine j_irem C (pc := 48) dX8_isAsked_48 (gz_mk (by decide) hf) (fun hf => ?_)
    refine j_cVI C (pc := 49) (As := [.int ((p1 - (20 : Int32)) / (6 : Int32)), .int ((p1 - (20 : Int32)) - (p1 - (20 : Int32)) / (6 : Int32) * (6 : Int32))]) (st := []) (ws' := fun q2 => [oX8 a_t r_t v_people v_day v_texted v_at v_value v_digits v_open v_parishes v_holds v_coded v_seen v_inPlan v_inBook v_traced v_imaged v_most]) ml_X8_136 ms_X8_are hf (fun q2 h => (c_X8_are G K.2.1) a_t r_t v_people v_day v_texted v_at v_value v_digits v_open v_parishes v_holds v_coded v_seen v_inPlan v_inBook v_traced v_imaged v_most ((p1 - (20 : Int32)) / (6 : Int32)) ((p1 - (20 : Int32)) - (p1 - (20 : Int32)) / (6 : Int32) * (6 : Int32)) q2 h) [0] [some 0] 1 rfl (by decide +kernel) (by decide +kernel) (fun _ => rfl) (fun _ => rfl) rfl rfl rfl rfl ⟨Nat.zero_le _, Nat.zero_le _⟩ dX8_isAsked_49 kc_X8 0 rfl (fun q2 hf => ?_)
    refine j_if_eq C (pc := 52) 59 dX8_isAsked_52 (by decide) hf (fun hf => ?_) (fun hf => ?_)
    · refine j_iconst C (pc := 59) (v := 0) (by decide) dX8_isAsked_59 ?_
      obtain rfl := Option.some.inj hf
      exact hQ _ _ dX8_isAsked_60 (show narrow .boolean (.int (0 : Int32)) = .int (0 : Int32) from rfl)
    · refine j_iconst C (pc := 55) (v := 1) (by decide) dX8_isAsked_55 ?_
      refine j_goto C (pc := 56) 60 dX8_isAsked_56 (by decide) ?_
      obtain rfl := Option.some.inj hf
      exact hQ _ _ dX8_isAsked_60 (show narrow .boolean (.int (1 : Int32)) = .int (1 : Int32) from rfl)
def f_X8_isAsked (v_people : Int32) (p1 : Int32) : Option (Int32) := (if p1 = 0 then (some (1 : Int32)) else ((f_X8_isOne v_people (p1 - (10 : Int32))).bind fun q1 => (if q1 = 0 then (f_X8_isAsked_23 v_people p1) else (if (16 : Int32) ≤ p1 then (f_X8_isAsked_23 v_people p1) else (some (1 : Int32))))))
set_option maxRecDepth 20000 in
set_option maxHeartbeats 1000000 in
theorem t_X8_isAsked {G : Gx} {K : Kx} (C : Cx G K cX8_isAsked RX8 2 4) {a_t : Nat} {r_t : Nat → Nat} {v_people : Int32} {v_day : Int32} {v_texted : Int32} {v_at : Int32} {v_value : Int32} {v_digits : Int32} {v_open : Int32} {v_parishes : Int32} {v_holds : Int32} {v_coded : Int32} {v_seen : Int32} {v_inPlan : Int32} {v_inBook : Int32} {v_traced : Int32} {v_imaged : Int32} {v_most : Int32} {p1 : Int32} {q : Int32} (hQ : k_retI G K cX8_isAsked 2 .boolean [oX8 a_t r_t v_people v_day v_texted v_at v_value v_digits v_open v_parishes v_holds v_coded v_seen v_inPlan v_inBook v_traced v_imaged v_most] q) (hf : f_X8_isAsked v_people p1 = some q) : J G K 2 0 0 [oX8 a_t r_t v_people v_day v_texted v_at v_value v_digits v_open v_parishes v_holds v_coded v_seen v_inPlan v_inBook v_traced v_imaged v_most] [(0, .ref a_t), (1, .int p1)] 0 [] := by
  unfold f_X8_isAsked at hf
  refine j_iload_n C (pc := 0) 1 rfl rfl dX8_isAsked_0 ?_
  refine j_if_eq C (pc := 1) 21 dX8_isAsked_1 (by decide) hf (fun hf => ?_) (fun hf => ?_)
  · refine j_iconst C (pc := 21) (v := 1) (by decide) dX8_isAsked_21 ?_
    obtain rfl := Option.some.inj hf
    exact hQ _ _ dX8_isAsked_22 (show narrow .boolean (.int (1 : Int32)) = .int (1 : Int32) from rfl)
  · refine j_aload_n C (pc := 4) 0 rfl rfl dX8_isAsked_4 ?_
    refine j_iload_n C (pc := 5) 1 rfl rfl dX8_isAsked_5 ?_
    refine j_bipush C (pc := 6) (v := 10) (by decide) dX8_isAsked_6 ?_
    refine j_isub C (pc := 8) dX8_isAsked_8 ?_
    refine j_cVI C (pc := 9) (As := [.int (p1 - (10 : Int32))]) (st := []) (ws' := fun q1 => [oX8 a_t r_t v_people v_day v_texted v_at v_value v_digits v_open v_parishes v_holds v_coded v_seen v_inPlan v_inBook v_traced v_imaged v_most]) ml_X8_121 ms_X8_isOne hf (fun q1 h => (c_X8_isOne G K.2.1) a_t r_t v_people v_day v_texted v_at v_value v_digits v_open v_parishes v_holds v_coded v_seen v_inPlan v_inBook v_traced v_imaged v_most (p1 - (10 : Int32)) q1 h) [0] [some 0] 1 rfl (by decide +kernel) (by decide +kernel) (fun _ => rfl) (fun _ => rfl) rfl rfl rfl rfl ⟨Nat.zero_le _, Nat.zero_le _⟩ dX8_isAsked_9 kc_X8 0 rfl (fun q1 hf => ?_)
    refine j_if_eq C (pc := 12) 23 dX8_isAsked_12 (by decide) hf (fun hf => ?_) (fun hf => ?_)
    · exact t_X8_isAsked_23 C hQ hf
    · refine j_iload_n C (pc := 15) 1 rfl rfl dX8_isAsked_15 ?_
      refine j_bipush C (pc := 16) (v := 16) (by decide) dX8_isAsked_16 ?_
      refine j_icmp_ge C (pc := 18) 23 dX8_isAsked_18 (by decide) hf (fun hf => ?_) (fun hf => ?_)
      · exact t_X8_isAsked_23 C hQ hf
      · refine j_iconst C (pc := 21) (v := 1) (by decide) dX8_isAsked_21 ?_
        obtain rfl := Option.some.inj hf
        exact hQ _ _ dX8_isAsked_22 (show narrow .boolean (.int (1 : Int32)) = .int (1 : Int32) from rfl)
def ct_X8_isAsked (G : Gx) (l : Launch) (F : Int32 → Int32 → Option (Int32)) (lv : Nat) : Prop := ∀ (a_t : Nat) (r_t : Nat → Nat) (v_people : Int32) (v_day : Int32) (v_texted : Int32) (v_at : Int32) (v_value : Int32) (v_digits : Int32) (v_open : Int32) (v_parishes : Int32) (v_holds : Int32) (v_coded : Int32) (v_seen : Int32) (v_inPlan : Int32) (v_inBook : Int32) (v_traced : Int32) (v_imaged : Int32) (v_most : Int32) (p1 : Int32), ∀ (q : Int32), F v_people p1 = some q → MI G l yX8_isAsked cX8_isAsked 2 .boolean lv [.ref a_t, .int p1] [oX8 a_t r_t v_people v_day v_texted v_at v_value v_digits v_open v_parishes v_holds v_coded v_seen v_inPlan v_inBook v_traced v_imaged v_most] [oX8 a_t r_t v_people v_day v_texted v_at v_value v_digits v_open v_parishes v_holds v_coded v_seen v_inPlan v_inBook v_traced v_imaged v_most] q
theorem c_X8_isAsked (G : Gx) (l : Launch) : ct_X8_isAsked G l f_X8_isAsked 4 := by
  intro a_t r_t v_people v_day v_texted v_at v_value v_digits v_open v_parishes v_holds v_coded v_seen v_inPlan v_inBook v_traced v_imaged v_most p1 q hf
  exact mI_of (by decide +kernel) rfl (fun K hl C hQ => t_X8_isAsked C hQ hf)
-- X8_isDigit
def f_X8_isDigit (v_texted : Int32) (v_at : Int32) (v_text : Nat → Int32) : Option (Int32) := (if v_texted ≤ v_at then (some (0 : Int32)) else (gd v_at 100 (if (v_text v_at.toNatClampNeg) < (48 : Int32) then (some (0 : Int32)) else (gd v_at 100 (if (57 : Int32) < (v_text v_at.toNatClampNeg) then (some (0 : Int32)) else (some (1 : Int32)))))))
set_option maxRecDepth 20000 in
set_option maxHeartbeats 1000000 in
theorem t_X8_isDigit {G : Gx} {K : Kx} (C : Cx G K cX8_isDigit RX8 1 1) {a_t : Nat} {r_t : Nat → Nat} {v_people : Int32} {v_day : Int32} {v_texted : Int32} {v_at : Int32} {v_value : Int32} {v_digits : Int32} {v_open : Int32} {v_parishes : Int32} {v_holds : Int32} {v_coded : Int32} {v_seen : Int32} {v_inPlan : Int32} {v_inBook : Int32} {v_traced : Int32} {v_imaged : Int32} {v_most : Int32} {v_text : Nat → Int32} {q : Int32} (hQ : k_retI G K cX8_isDigit 1 .boolean [oX8 a_t r_t v_people v_day v_texted v_at v_value v_digits v_open v_parishes v_holds v_coded v_seen v_inPlan v_inBook v_traced v_imaged v_most, aI G (r_t 10) 100 v_text] q) (hf : f_X8_isDigit v_texted v_at v_text = some q) : J G K 1 0 0 [oX8 a_t r_t v_people v_day v_texted v_at v_value v_digits v_open v_parishes v_holds v_coded v_seen v_inPlan v_inBook v_traced v_imaged v_most, aI G (r_t 10) 100 v_text] [(0, .ref a_t)] 0 [] := by
  unfold f_X8_isDigit at hf
  refine j_aload_n C (pc := 0) 0 rfl rfl dX8_isDigit_0 ?_
  refine j_get C (pc := 1) kc_X8 fl_X8_153 0 rfl rfl dX8_isDigit_1 ?_
  refine j_aload_n C (pc := 4) 0 rfl rfl dX8_isDigit_4 ?_
  refine j_get C (pc := 5) kc_X8 fl_X8_150 0 rfl rfl dX8_isDigit_5 ?_
  refine j_icmp_ge C (pc := 8) 43 dX8_isDigit_8 (by decide) hf (fun hf => ?_) (fun hf => ?_)
  · refine j_iconst C (pc := 43) (v := 0) (by decide) dX8_isDigit_43 ?_
    obtain rfl := Option.some.inj hf
    exact hQ _ _ dX8_isDigit_44 (show narrow .boolean (.int (0 : Int32)) = .int (0 : Int32) from rfl)
  · refine j_aload_n C (pc := 11) 0 rfl rfl dX8_isDigit_11 ?_
    refine j_get C (pc := 12) kc_X8 fl_X8_33 0 rfl rfl dX8_isDigit_12 ?_
    refine j_aload_n C (pc := 15) 0 rfl rfl dX8_isDigit_15 ?_
    refine j_get C (pc := 16) kc_X8 fl_X8_153 0 rfl rfl dX8_isDigit_16 ?_
    refine j_iald C (pc := 19) 1 rfl hf dX8_isDigit_19 (fun hf => ?_)
    refine j_bipush C (pc := 20) (v := 48) (by decide) dX8_isDigit_20 ?_
    refine j_icmp_lt C (pc := 22) 43 dX8_isDigit_22 (by decide) hf (fun hf => ?_) (fun hf => ?_)
    · refine j_iconst C (pc := 43) (v := 0) (by decide) dX8_isDigit_43 ?_
      obtain rfl := Option.some.inj hf
      exact hQ _ _ dX8_isDigit_44 (show narrow .boolean (.int (0 : Int32)) = .int (0 : Int32) from rfl)
    · refine j_aload_n C (pc := 25) 0 rfl rfl dX8_isDigit_25 ?_
      refine j_get C (pc := 26) kc_X8 fl_X8_33 0 rfl rfl dX8_isDigit_26 ?_
      refine j_aload_n C (pc := 29) 0 rfl rfl dX8_isDigit_29 ?_
      refine j_get C (pc := 30) kc_X8 fl_X8_153 0 rfl rfl dX8_isDigit_30 ?_
      refine j_iald C (pc := 33) 1 rfl hf dX8_isDigit_33 (fun hf => ?_)
      refine j_bipush C (pc := 34) (v := 57) (by decide) dX8_isDigit_34 ?_
      refine j_icmp_gt C (pc := 36) 43 dX8_isDigit_36 (by decide) hf (fun hf => ?_) (fun hf => ?_)
      · refine j_iconst C (pc := 43) (v := 0) (by decide) dX8_isDigit_43 ?_
        obtain rfl := Option.some.inj hf
        exact hQ _ _ dX8_isDigit_44 (show narrow .boolean (.int (0 : Int32)) = .int (0 : Int32) from rfl)
      · refine j_iconst C (pc := 39) (v := 1) (by decide) dX8_isDigit_39 ?_
        refine j_goto C (pc := 40) 44 dX8_isDigit_40 (by decide) ?_
        obtain rfl := Option.some.inj hf
        exact hQ _ _ dX8_isDigit_44 (show narrow .boolean (.int (1 : Int32)) = .int (1 : Int32) from rfl)
def ct_X8_isDigit (G : Gx) (l : Launch) (F : Int32 → Int32 → (Nat → Int32) → Option (Int32)) (lv : Nat) : Prop := ∀ (a_t : Nat) (r_t : Nat → Nat) (v_people : Int32) (v_day : Int32) (v_texted : Int32) (v_at : Int32) (v_value : Int32) (v_digits : Int32) (v_open : Int32) (v_parishes : Int32) (v_holds : Int32) (v_coded : Int32) (v_seen : Int32) (v_inPlan : Int32) (v_inBook : Int32) (v_traced : Int32) (v_imaged : Int32) (v_most : Int32) (v_text : Nat → Int32), ∀ (q : Int32), F v_texted v_at v_text = some q → MI G l yX8_isDigit cX8_isDigit 1 .boolean lv [.ref a_t] [oX8 a_t r_t v_people v_day v_texted v_at v_value v_digits v_open v_parishes v_holds v_coded v_seen v_inPlan v_inBook v_traced v_imaged v_most, aI G (r_t 10) 100 v_text] [oX8 a_t r_t v_people v_day v_texted v_at v_value v_digits v_open v_parishes v_holds v_coded v_seen v_inPlan v_inBook v_traced v_imaged v_most, aI G (r_t 10) 100 v_text] q
theorem c_X8_isDigit (G : Gx) (l : Launch) : ct_X8_isDigit G l f_X8_isDigit 1 := by
  intro a_t r_t v_people v_day v_texted v_at v_value v_digits v_open v_parishes v_holds v_coded v_seen v_inPlan v_inBook v_traced v_imaged v_most v_text q hf
  exact mI_of (by decide +kernel) rfl (fun K hl C hQ => t_X8_isDigit C hQ hf)
-- X8_isNumber
def f_X8_isNumber_10_b (v_texted : Int32) (v_text : Nat → Int32) (k10 : Int32 → Int32 → Int32 → Option (Int32 × Int32 × Int32 × Int32)) (w_value : Int32) (w_digits : Int32) (w_at : Int32) : Option (Int32 × Int32 × Int32 × Int32) := (if (2 : Int32) ≤ w_digits then (if w_digits ≤ 0 then (some ((0 : Int32), w_value, w_digits, w_at)) else (some ((1 : Int32), w_value, w_digits, w_at))) else ((f_X8_isDigit v_texted w_at v_text).bind fun q1 => (if q1 = 0 then (if w_digits ≤ 0 then (some ((0 : Int32), w_value, w_digits, w_at)) else (some ((1 : Int32), w_value, w_digits, w_at))) else (gd w_at 100 (k10 ((((10 : Int32) * w_value) + (v_text w_at.toNatClampNeg)) - (48 : Int32)) (w_digits + (1 : Int32)) (w_at + (1 : Int32)))))))
def f_X8_isNumber_10 (v_texted : Int32) (v_text : Nat → Int32) : Nat → Int32 → Int32 → Int32 → Option (Int32 × Int32 × Int32 × Int32)
  | 0 => fun _ _ _ => none
  | n + 1 => f_X8_isNumber_10_b v_texted v_text (f_X8_isNumber_10 v_texted v_text n)
set_option maxRecDepth 20000 in
set_option maxHeartbeats 1000000 in
theorem t_X8_isNumber_10_b {G : Gx} {K : Kx} (C : Cx G K cX8_isNumber RX8 1 2) {a_t : Nat} {r_t : Nat → Nat} {v_people : Int32} {v_day : Int32} {v_texted : Int32} {v_open : Int32} {v_parishes : Int32} {v_holds : Int32} {v_coded : Int32} {v_seen : Int32} {v_inPlan : Int32} {v_inBook : Int32} {v_traced : Int32} {v_imaged : Int32} {v_most : Int32} {v_text : Nat → Int32} {q : Int32 × Int32 × Int32 × Int32} (hQ : k_retI G K cX8_isNumber 1 .boolean [oX8 a_t r_t v_people v_day v_texted q.2.2.2 q.2.1 q.2.2.1 v_open v_parishes v_holds v_coded v_seen v_inPlan v_inBook v_traced v_imaged v_most, aI G (r_t 10) 100 v_text] q.1) {k10 : Int32 → Int32 → Int32 → Option (Int32 × Int32 × Int32 × Int32)} (hk10 : ∀ (w_value : Int32) (w_digits : Int32) (w_at : Int32), k10 w_value w_digits w_at = some q → J G K 1 0 0 [oX8 a_t r_t v_people v_day v_texted w_at w_value w_digits v_open v_parishes v_holds v_coded v_seen v_inPlan v_inBook v_traced v_imaged v_most, aI G (r_t 10) 100 v_text] [(0, .ref a_t)] 10 []) {w_value : Int32} {w_digits : Int32} {w_at : Int32} (hf : f_X8_isNumber_10_b v_texted v_text k10 w_value w_digits w_at = some q) : J G K 1 0 0 [oX8 a_t r_t v_people v_day v_texted w_at w_value w_digits v_open v_parishes v_holds v_coded v_seen v_inPlan v_inBook v_traced v_imaged v_most, aI G (r_t 10) 100 v_text] [(0, .ref a_t)] 10 [] := by
  unfold f_X8_isNumber_10_b at hf
  refine j_aload_n C (pc := 10) 0 rfl rfl dX8_isNumber_10 ?_
  refine j_get C (pc := 11) kc_X8 fl_X8_159 0 rfl rfl dX8_isNumber_11 ?_
  refine j_iconst C (pc := 14) (v := 2) (by decide) dX8_isNumber_14 ?_
  refine j_icmp_ge C (pc := 15) 72 dX8_isNumber_15 (by decide) hf (fun hf => ?_) (fun hf => ?_)
  · refine j_aload_n C (pc := 72) 0 rfl rfl dX8_isNumber_72 ?_
    refine j_get C (pc := 73) kc_X8 fl_X8_159 0 rfl rfl dX8_isNumber_73 ?_
    refine j_if_le C (pc := 76) 83 dX8_isNumber_76 (by decide) hf (fun hf => ?_) (fun hf => ?_)
    · refine j_iconst C (pc := 83) (v := 0) (by decide) dX8_isNumber_83 ?_
      obtain rfl := Option.some.inj hf
      exact hQ _ _ dX8_isNumber_84 (show narrow .boolean (.int (0 : Int32)) = .int (0 : Int32) from rfl)
    · refine j_iconst C (pc := 79) (v := 1) (by decide) dX8_isNumber_79 ?_
      refine j_goto C (pc := 80) 84 dX8_isNumber_80 (by decide) ?_
      obtain rfl := Option.some.inj hf
      exact hQ _ _ dX8_isNumber_84 (show narrow .boolean (.int (1 : Int32)) = .int (1 : Int32) from rfl)
  · refine j_aload_n C (pc := 18) 0 rfl rfl dX8_isNumber_18 ?_
    refine j_cVI C (pc := 19) (As := []) (st := []) (ws' := fun q1 => [oX8 a_t r_t v_people v_day v_texted w_at w_value w_digits v_open v_parishes v_holds v_coded v_seen v_inPlan v_inBook v_traced v_imaged v_most, aI G (r_t 10) 100 v_text]) ml_X8_162 ms_X8_isDigit hf (fun q1 h => (c_X8_isDigit G K.2.1) a_t r_t v_people v_day v_texted w_at w_value w_digits v_open v_parishes v_holds v_coded v_seen v_inPlan v_inBook v_traced v_imaged v_most v_text q1 h) [0, 1] [some 0, some 1] 2 rfl (by decide +kernel) (by decide +kernel) (fun _ => rfl) (fun _ => rfl) rfl rfl rfl rfl ⟨Nat.zero_le _, Nat.zero_le _⟩ dX8_isNumber_19 kc_X8 0 rfl (fun q1 hf => ?_)
    refine j_if_eq C (pc := 22) 72 dX8_isNumber_22 (by decide) hf (fun hf => ?_) (fun hf => ?_)
    · refine j_aload_n C (pc := 72) 0 rfl rfl dX8_isNumber_72 ?_
      refine j_get C (pc := 73) kc_X8 fl_X8_159 0 rfl rfl dX8_isNumber_73 ?_
      refine j_if_le C (pc := 76) 83 dX8_isNumber_76 (by decide) hf (fun hf => ?_) (fun hf => ?_)
      · refine j_iconst C (pc := 83) (v := 0) (by decide) dX8_isNumber_83 ?_
        obtain rfl := Option.some.inj hf
        exact hQ _ _ dX8_isNumber_84 (show narrow .boolean (.int (0 : Int32)) = .int (0 : Int32) from rfl)
      · refine j_iconst C (pc := 79) (v := 1) (by decide) dX8_isNumber_79 ?_
        refine j_goto C (pc := 80) 84 dX8_isNumber_80 (by decide) ?_
        obtain rfl := Option.some.inj hf
        exact hQ _ _ dX8_isNumber_84 (show narrow .boolean (.int (1 : Int32)) = .int (1 : Int32) from rfl)
    · refine j_aload_n C (pc := 25) 0 rfl rfl dX8_isNumber_25 ?_
      refine j_bipush C (pc := 26) (v := 10) (by decide) dX8_isNumber_26 ?_
      refine j_aload_n C (pc := 28) 0 rfl rfl dX8_isNumber_28 ?_
      refine j_get C (pc := 29) kc_X8 fl_X8_156 0 rfl rfl dX8_isNumber_29 ?_
      refine j_imul C (pc := 32) dX8_isNumber_32 ?_
      refine j_aload_n C (pc := 33) 0 rfl rfl dX8_isNumber_33 ?_
      refine j_get C (pc := 34) kc_X8 fl_X8_33 0 rfl rfl dX8_isNumber_34 ?_
      refine j_aload_n C (pc := 37) 0 rfl rfl dX8_isNumber_37 ?_
      refine j_get C (pc := 38) kc_X8 fl_X8_153 0 rfl rfl dX8_isNumber_38 ?_
      refine j_iald C (pc := 41) 1 rfl hf dX8_isNumber_41 (fun hf => ?_)
      refine j_iadd C (pc := 42) dX8_isNumber_42 ?_
      refine j_bipush C (pc := 43) (v := 48) (by decide) dX8_isNumber_43 ?_
      refine j_isub C (pc := 45) dX8_isNumber_45 ?_
      refine j_put C (pc := 46) (ws' := [oX8 a_t r_t v_people v_day v_texted w_at ((((10 : Int32) * w_value) + (v_text w_at.toNatClampNeg)) - (48 : Int32)) w_digits v_open v_parishes v_holds v_coded v_seen v_inPlan v_inBook v_traced v_imaged v_most, aI G (r_t 10) 100 v_text]) kc_X8 fl_X8_156 0 rfl rfl rfl rfl rfl rfl dX8_isNumber_46 ?_
      refine j_aload_n C (pc := 49) 0 rfl rfl dX8_isNumber_49 ?_
      refine j_dup C (pc := 50) rfl dX8_isNumber_50 ?_
      refine j_get C (pc := 51) kc_X8 fl_X8_153 0 rfl rfl dX8_isNumber_51 ?_
      refine j_iconst C (pc := 54) (v := 1) (by decide) dX8_isNumber_54 ?_
      refine j_iadd C (pc := 55) dX8_isNumber_55 ?_
      refine j_put C (pc := 56) (ws' := [oX8 a_t r_t v_people v_day v_texted (w_at + (1 : Int32)) ((((10 : Int32) * w_value) + (v_text w_at.toNatClampNeg)) - (48 : Int32)) w_digits v_open v_parishes v_holds v_coded v_seen v_inPlan v_inBook v_traced v_imaged v_most, aI G (r_t 10) 100 v_text]) kc_X8 fl_X8_153 0 rfl rfl rfl rfl rfl rfl dX8_isNumber_56 ?_
      refine j_aload_n C (pc := 59) 0 rfl rfl dX8_isNumber_59 ?_
      refine j_dup C (pc := 60) rfl dX8_isNumber_60 ?_
      refine j_get C (pc := 61) kc_X8 fl_X8_159 0 rfl rfl dX8_isNumber_61 ?_
      refine j_iconst C (pc := 64) (v := 1) (by decide) dX8_isNumber_64 ?_
      refine j_iadd C (pc := 65) dX8_isNumber_65 ?_
      refine j_put C (pc := 66) (ws' := [oX8 a_t r_t v_people v_day v_texted (w_at + (1 : Int32)) ((((10 : Int32) * w_value) + (v_text w_at.toNatClampNeg)) - (48 : Int32)) (w_digits + (1 : Int32)) v_open v_parishes v_holds v_coded v_seen v_inPlan v_inBook v_traced v_imaged v_most, aI G (r_t 10) 100 v_text]) kc_X8 fl_X8_159 0 rfl rfl rfl rfl rfl rfl dX8_isNumber_66 ?_
      refine j_goto C (pc := 69) 10 dX8_isNumber_69 (by decide) ?_
      exact hk10 _ _ _ hf
theorem t_X8_isNumber_10 {G : Gx} {K : Kx} (C : Cx G K cX8_isNumber RX8 1 2) {a_t : Nat} {r_t : Nat → Nat} {v_people : Int32} {v_day : Int32} {v_texted : Int32} {v_open : Int32} {v_parishes : Int32} {v_holds : Int32} {v_coded : Int32} {v_seen : Int32} {v_inPlan : Int32} {v_inBook : Int32} {v_traced : Int32} {v_imaged : Int32} {v_most : Int32} {v_text : Nat → Int32} {q : Int32 × Int32 × Int32 × Int32} (hQ : k_retI G K cX8_isNumber 1 .boolean [oX8 a_t r_t v_people v_day v_texted q.2.2.2 q.2.1 q.2.2.1 v_open v_parishes v_holds v_coded v_seen v_inPlan v_inBook v_traced v_imaged v_most, aI G (r_t 10) 100 v_text] q.1) : ∀ (n : Nat) (w_value : Int32) (w_digits : Int32) (w_at : Int32), f_X8_isNumber_10 v_texted v_text n w_value w_digits w_at = some q → J G K 1 0 0 [oX8 a_t r_t v_people v_day v_texted w_at w_value w_digits v_open v_parishes v_holds v_coded v_seen v_inPlan v_inBook v_traced v_imaged v_most, aI G (r_t 10) 100 v_text] [(0, .ref a_t)] 10 [] := by
  intro n
  induction n with
  | zero => intro w_value w_digits w_at hf; cases hf
  | succ n ih => intro w_value w_digits w_at hf; exact t_X8_isNumber_10_b C hQ ih hf
def f_X8_isNumber (v_texted : Int32) (v_at : Int32) (v_text : Nat → Int32) : Option (Int32 × Int32 × Int32 × Int32) := (f_X8_isNumber_10 v_texted v_text 1000 (0 : Int32) (0 : Int32) v_at)
set_option maxRecDepth 20000 in
set_option maxHeartbeats 1000000 in
theorem t_X8_isNumber {G : Gx} {K : Kx} (C : Cx G K cX8_isNumber RX8 1 2) {a_t : Nat} {r_t : Nat → Nat} {v_people : Int32} {v_day : Int32} {v_texted : Int32} {v_at : Int32} {v_value : Int32} {v_digits : Int32} {v_open : Int32} {v_parishes : Int32} {v_holds : Int32} {v_coded : Int32} {v_seen : Int32} {v_inPlan : Int32} {v_inBook : Int32} {v_traced : Int32} {v_imaged : Int32} {v_most : Int32} {v_text : Nat → Int32} {q : Int32 × Int32 × Int32 × Int32} (hQ : k_retI G K cX8_isNumber 1 .boolean [oX8 a_t r_t v_people v_day v_texted q.2.2.2 q.2.1 q.2.2.1 v_open v_parishes v_holds v_coded v_seen v_inPlan v_inBook v_traced v_imaged v_most, aI G (r_t 10) 100 v_text] q.1) (hf : f_X8_isNumber v_texted v_at v_text = some q) : J G K 1 0 0 [oX8 a_t r_t v_people v_day v_texted v_at v_value v_digits v_open v_parishes v_holds v_coded v_seen v_inPlan v_inBook v_traced v_imaged v_most, aI G (r_t 10) 100 v_text] [(0, .ref a_t)] 0 [] := by
  unfold f_X8_isNumber at hf
  refine j_aload_n C (pc := 0) 0 rfl rfl dX8_isNumber_0 ?_
  refine j_iconst C (pc := 1) (v := 0) (by decide) dX8_isNumber_1 ?_
  refine j_put C (pc := 2) (ws' := [oX8 a_t r_t v_people v_day v_texted v_at (0 : Int32) v_digits v_open v_parishes v_holds v_coded v_seen v_inPlan v_inBook v_traced v_imaged v_most, aI G (r_t 10) 100 v_text]) kc_X8 fl_X8_156 0 rfl rfl rfl rfl rfl rfl dX8_isNumber_2 ?_
  refine j_aload_n C (pc := 5) 0 rfl rfl dX8_isNumber_5 ?_
  refine j_iconst C (pc := 6) (v := 0) (by decide) dX8_isNumber_6 ?_
  refine j_put C (pc := 7) (ws' := [oX8 a_t r_t v_people v_day v_texted v_at (0 : Int32) (0 : Int32) v_open v_parishes v_holds v_coded v_seen v_inPlan v_inBook v_traced v_imaged v_most, aI G (r_t 10) 100 v_text]) kc_X8 fl_X8_159 0 rfl rfl rfl rfl rfl rfl dX8_isNumber_7 ?_
  exact t_X8_isNumber_10 C hQ 1000 _ _ _ hf
def ct_X8_isNumber (G : Gx) (l : Launch) (F : Int32 → Int32 → (Nat → Int32) → Option (Int32 × Int32 × Int32 × Int32)) (lv : Nat) : Prop := ∀ (a_t : Nat) (r_t : Nat → Nat) (v_people : Int32) (v_day : Int32) (v_texted : Int32) (v_at : Int32) (v_value : Int32) (v_digits : Int32) (v_open : Int32) (v_parishes : Int32) (v_holds : Int32) (v_coded : Int32) (v_seen : Int32) (v_inPlan : Int32) (v_inBook : Int32) (v_traced : Int32) (v_imaged : Int32) (v_most : Int32) (v_text : Nat → Int32), ∀ (q : Int32 × Int32 × Int32 × Int32), F v_texted v_at v_text = some q → MI G l yX8_isNumber cX8_isNumber 1 .boolean lv [.ref a_t] [oX8 a_t r_t v_people v_day v_texted v_at v_value v_digits v_open v_parishes v_holds v_coded v_seen v_inPlan v_inBook v_traced v_imaged v_most, aI G (r_t 10) 100 v_text] [oX8 a_t r_t v_people v_day v_texted q.2.2.2 q.2.1 q.2.2.1 v_open v_parishes v_holds v_coded v_seen v_inPlan v_inBook v_traced v_imaged v_most, aI G (r_t 10) 100 v_text] q.1
theorem c_X8_isNumber (G : Gx) (l : Launch) : ct_X8_isNumber G l f_X8_isNumber 2 := by
  intro a_t r_t v_people v_day v_texted v_at v_value v_digits v_open v_parishes v_holds v_coded v_seen v_inPlan v_inBook v_traced v_imaged v_most v_text q hf
  exact mI_of (by decide +kernel) rfl (fun K hl C hQ => t_X8_isNumber C hQ hf)
-- X8_isOpened
def f_X8_isOpened (v_texted : Int32) (v_at : Int32) (v_open : Int32) (v_text : Nat → Int32) (p1 : Int32) : Option (Int32 × Int32 × Int32) := (if v_open = (4 : Int32) then (some ((0 : Int32), v_at, v_open)) else ((f_X8_is v_texted v_at v_text p1).bind fun q1 => (if q1.1 = 0 then (some ((0 : Int32), q1.2, v_open)) else (some ((1 : Int32), q1.2, v_open + (1 : Int32))))))
set_option maxRecDepth 20000 in
set_option maxHeartbeats 1000000 in
theorem t_X8_isOpened {G : Gx} {K : Kx} (C : Cx G K cX8_isOpened RX8 2 2) {a_t : Nat} {r_t : Nat → Nat} {v_people : Int32} {v_day : Int32} {v_texted : Int32} {v_at : Int32} {v_value : Int32} {v_digits : Int32} {v_open : Int32} {v_parishes : Int32} {v_holds : Int32} {v_coded : Int32} {v_seen : Int32} {v_inPlan : Int32} {v_inBook : Int32} {v_traced : Int32} {v_imaged : Int32} {v_most : Int32} {v_text : Nat → Int32} {p1 : Int32} {q : Int32 × Int32 × Int32} (hQ : k_retI G K cX8_isOpened 2 .boolean [oX8 a_t r_t v_people v_day v_texted q.2.1 v_value v_digits q.2.2 v_parishes v_holds v_coded v_seen v_inPlan v_inBook v_traced v_imaged v_most, aI G (r_t 10) 100 v_text] q.1) (hf : f_X8_isOpened v_texted v_at v_open v_text p1 = some q) : J G K 2 0 0 [oX8 a_t r_t v_people v_day v_texted v_at v_value v_digits v_open v_parishes v_holds v_coded v_seen v_inPlan v_inBook v_traced v_imaged v_most, aI G (r_t 10) 100 v_text] [(0, .ref a_t), (1, .int p1)] 0 [] := by
  unfold f_X8_isOpened at hf
  refine j_aload_n C (pc := 0) 0 rfl rfl dX8_isOpened_0 ?_
  refine j_get C (pc := 1) kc_X8 fl_X8_194 0 rfl rfl dX8_isOpened_1 ?_
  refine j_iconst C (pc := 4) (v := 4) (by decide) dX8_isOpened_4 ?_
  refine j_icmp_eq C (pc := 5) 16 dX8_isOpened_5 (by decide) hf (fun hf => ?_) (fun hf => ?_)
  · refine j_iconst C (pc := 16) (v := 0) (by decide) dX8_isOpened_16 ?_
    obtain rfl := Option.some.inj hf
    exact hQ _ _ dX8_isOpened_17 (show narrow .boolean (.int (0 : Int32)) = .int (0 : Int32) from rfl)
  · refine j_aload_n C (pc := 8) 0 rfl rfl dX8_isOpened_8 ?_
    refine j_iload_n C (pc := 9) 1 rfl rfl dX8_isOpened_9 ?_
    refine j_cVI C (pc := 10) (As := [.int p1]) (st := []) (ws' := fun q1 => [oX8 a_t r_t v_people v_day v_texted q1.2 v_value v_digits v_open v_parishes v_holds v_coded v_seen v_inPlan v_inBook v_traced v_imaged v_most, aI G (r_t 10) 100 v_text]) ml_X8_175 ms_X8_is hf (fun q1 h => (c_X8_is G K.2.1) a_t r_t v_people v_day v_texted v_at v_value v_digits v_open v_parishes v_holds v_coded v_seen v_inPlan v_inBook v_traced v_imaged v_most v_text p1 q1 h) [0, 1] [some 0, some 1] 2 rfl (by decide +kernel) (by decide +kernel) (fun _ => rfl) (fun _ => rfl) rfl rfl rfl rfl ⟨Nat.zero_le _, Nat.zero_le _⟩ dX8_isOpened_10 kc_X8 0 rfl (fun q1 hf => ?_)
    refine j_if_ne C (pc := 13) 18 dX8_isOpened_13 (by decide) hf (fun hf => ?_) (fun hf => ?_)
    · refine j_aload_n C (pc := 18) 0 rfl rfl dX8_isOpened_18 ?_
      refine j_dup C (pc := 19) rfl dX8_isOpened_19 ?_
      refine j_get C (pc := 20) kc_X8 fl_X8_194 0 rfl rfl dX8_isOpened_20 ?_
      refine j_iconst C (pc := 23) (v := 1) (by decide) dX8_isOpened_23 ?_
      refine j_iadd C (pc := 24) dX8_isOpened_24 ?_
      refine j_put C (pc := 25) (ws' := [oX8 a_t r_t v_people v_day v_texted q1.2 v_value v_digits (v_open + (1 : Int32)) v_parishes v_holds v_coded v_seen v_inPlan v_inBook v_traced v_imaged v_most, aI G (r_t 10) 100 v_text]) kc_X8 fl_X8_194 0 rfl rfl rfl rfl rfl rfl dX8_isOpened_25 ?_
      refine j_iconst C (pc := 28) (v := 1) (by decide) dX8_isOpened_28 ?_
      obtain rfl := Option.some.inj hf
      exact hQ _ _ dX8_isOpened_29 (show narrow .boolean (.int (1 : Int32)) = .int (1 : Int32) from rfl)
    · refine j_iconst C (pc := 16) (v := 0) (by decide) dX8_isOpened_16 ?_
      obtain rfl := Option.some.inj hf
      exact hQ _ _ dX8_isOpened_17 (show narrow .boolean (.int (0 : Int32)) = .int (0 : Int32) from rfl)
def ct_X8_isOpened (G : Gx) (l : Launch) (F : Int32 → Int32 → Int32 → (Nat → Int32) → Int32 → Option (Int32 × Int32 × Int32)) (lv : Nat) : Prop := ∀ (a_t : Nat) (r_t : Nat → Nat) (v_people : Int32) (v_day : Int32) (v_texted : Int32) (v_at : Int32) (v_value : Int32) (v_digits : Int32) (v_open : Int32) (v_parishes : Int32) (v_holds : Int32) (v_coded : Int32) (v_seen : Int32) (v_inPlan : Int32) (v_inBook : Int32) (v_traced : Int32) (v_imaged : Int32) (v_most : Int32) (v_text : Nat → Int32) (p1 : Int32), ∀ (q : Int32 × Int32 × Int32), F v_texted v_at v_open v_text p1 = some q → MI G l yX8_isOpened cX8_isOpened 2 .boolean lv [.ref a_t, .int p1] [oX8 a_t r_t v_people v_day v_texted v_at v_value v_digits v_open v_parishes v_holds v_coded v_seen v_inPlan v_inBook v_traced v_imaged v_most, aI G (r_t 10) 100 v_text] [oX8 a_t r_t v_people v_day v_texted q.2.1 v_value v_digits q.2.2 v_parishes v_holds v_coded v_seen v_inPlan v_inBook v_traced v_imaged v_most, aI G (r_t 10) 100 v_text] q.1
theorem c_X8_isOpened (G : Gx) (l : Launch) : ct_X8_isOpened G l f_X8_isOpened 2 := by
  intro a_t r_t v_people v_day v_texted v_at v_value v_digits v_open v_parishes v_holds v_coded v_seen v_inPlan v_inBook v_traced v_imaged v_most v_text p1 q hf
  exact mI_of (by decide +kernel) rfl (fun K hl C hQ => t_X8_isOpened C hQ hf)
-- X8_isTest
def f_X8_isTest_99 (v_texted : Int32) (v_value : Int32) (v_digits : Int32) (v_coded : Int32) (v_text : Nat → Int32) (v_code : Nat → Int32) (k0 : Int32) (x1 : Int32) (w_at : Int32) : Option (Int32 × Int32 × Int32 × Int32 × Int32 × (Nat → Int32)) := (if 0 ≤ k0 then ((f_X8_isNumber v_texted (w_at + (1 : Int32)) v_text).bind fun q1 => (if q1.1 = 0 then (some ((0 : Int32), q1.2.2.2, q1.2.1, q1.2.2.1, v_coded, v_code)) else ((f_X8_codes v_coded v_code ((((3 : Int32) + ((300 : Int32) * x1)) + ((100 : Int32) * k0)) + q1.2.1)).bind fun q2 => (if q2.1 = 0 then (some ((0 : Int32), q1.2.2.2, q1.2.1, q1.2.2.1, q2.2.1, q2.2.2)) else (some ((1 : Int32), q1.2.2.2, q1.2.1, q1.2.2.1, q2.2.1, q2.2.2)))))) else (some ((0 : Int32), w_at, v_value, v_digits, v_coded, v_code)))
set_option maxRecDepth 20000 in
set_option maxHeartbeats 1000000 in
theorem t_X8_isTest_99 {G : Gx} {K : Kx} (C : Cx G K cX8_isTest RX8 3 5) {a_t : Nat} {r_t : Nat → Nat} {v_people : Int32} {v_day : Int32} {v_texted : Int32} {v_value : Int32} {v_digits : Int32} {v_open : Int32} {v_parishes : Int32} {v_holds : Int32} {v_coded : Int32} {v_seen : Int32} {v_inPlan : Int32} {v_inBook : Int32} {v_traced : Int32} {v_imaged : Int32} {v_most : Int32} {v_text : Nat → Int32} {v_code : Nat → Int32} {q : Int32 × Int32 × Int32 × Int32 × Int32 × (Nat → Int32)} (hQ : k_retI G K cX8_isTest 3 .boolean [oX8 a_t r_t v_people v_day v_texted q.2.1 q.2.2.1 q.2.2.2.1 v_open v_parishes v_holds q.2.2.2.2.1 v_seen v_inPlan v_inBook v_traced v_imaged v_most, aI G (r_t 10) 100 v_text, aI G (r_t 22) 800 q.2.2.2.2.2] q.1) {k0 : Int32} {x1 : Int32} {w_at : Int32} (hf : f_X8_isTest_99 v_texted v_value v_digits v_coded v_text v_code k0 x1 w_at = some q) : J G K 3 0 0 [oX8 a_t r_t v_people v_day v_texted w_at v_value v_digits v_open v_parishes v_holds v_coded v_seen v_inPlan v_inBook v_traced v_imaged v_most, aI G (r_t 10) 100 v_text, aI G (r_t 22) 800 v_code] [(0, .ref a_t), (1, .int x1)] 99 [.int k0] := by
  unfold f_X8_isTest_99 at hf
  refine j_istore_n C (pc := 99) (L' := [(2, .int k0), (0, .ref a_t), (1, .int x1)]) dX8_isTest_99 rfl (by decide) rfl ?_
  refine j_iload_n C (pc := 100) 0 rfl rfl dX8_isTest_100 ?_
  refine j_if_ge C (pc := 101) 106 dX8_isTest_101 (by decide) hf (fun hf => ?_) (fun hf => ?_)
  · refine j_aload_n C (pc := 106) 1 rfl rfl dX8_isTest_106 ?_
    refine j_dup C (pc := 107) rfl dX8_isTest_107 ?_
    refine j_get C (pc := 108) kc_X8 fl_X8_153 0 rfl rfl dX8_isTest_108 ?_
    refine j_iconst C (pc := 111) (v := 1) (by decide) dX8_isTest_111 ?_
    refine j_iadd C (pc := 112) dX8_isTest_112 ?_
    refine j_put C (pc := 113) (ws' := [oX8 a_t r_t v_people v_day v_texted (w_at + (1 : Int32)) v_value v_digits v_open v_parishes v_holds v_coded v_seen v_inPlan v_inBook v_traced v_imaged v_most, aI G (r_t 10) 100 v_text, aI G (r_t 22) 800 v_code]) kc_X8 fl_X8_153 0 rfl rfl rfl rfl rfl rfl dX8_isTest_113 ?_
    refine j_aload_n C (pc := 116) 1 rfl rfl dX8_isTest_116 ?_
    refine j_cVI C (pc := 117) (As := []) (st := []) (ws' := fun q1 => [oX8 a_t r_t v_people v_day v_texted q1.2.2.2 q1.2.1 q1.2.2.1 v_open v_parishes v_holds v_coded v_seen v_inPlan v_inBook v_traced v_imaged v_most, aI G (r_t 10) 100 v_text, aI G (r_t 22) 800 v_code]) ml_X8_188 ms_X8_isNumber hf (fun q1 h => (c_X8_isNumber G K.2.1) a_t r_t v_people v_day v_texted (w_at + (1 : Int32)) v_value v_digits v_open v_parishes v_holds v_coded v_seen v_inPlan v_inBook v_traced v_imaged v_most v_text q1 h) [0, 1] [some 0, some 1, none] 3 rfl (by decide +kernel) (by decide +kernel) (fun _ => rfl) (fun _ => rfl) rfl rfl rfl rfl ⟨Nat.zero_le _, Nat.zero_le _⟩ dX8_isTest_117 kc_X8 0 rfl (fun q1 hf => ?_)
    refine j_if_eq C (pc := 120) 151 dX8_isTest_120 (by decide) hf (fun hf => ?_) (fun hf => ?_)
    · refine j_iconst C (pc := 151) (v := 0) (by decide) dX8_isTest_151 ?_
      obtain rfl := Option.some.inj hf
      exact hQ _ _ dX8_isTest_152 (show narrow .boolean (.int (0 : Int32)) = .int (0 : Int32) from rfl)
    · refine j_aload_n C (pc := 123) 1 rfl rfl dX8_isTest_123 ?_
      refine j_iconst C (pc := 124) (v := 3) (by decide) dX8_isTest_124 ?_
      refine j_sipush C (pc := 125) (v := 300) (by decide) dX8_isTest_125 ?_
      refine j_iload_n C (pc := 128) 2 rfl rfl dX8_isTest_128 ?_
      refine j_imul C (pc := 129) dX8_isTest_129 ?_
      refine j_iadd C (pc := 130) dX8_isTest_130 ?_
      refine j_bipush C (pc := 131) (v := 100) (by decide) dX8_isTest_131 ?_
      refine j_iload_n C (pc := 133) 0 rfl rfl dX8_isTest_133 ?_
      refine j_imul C (pc := 134) dX8_isTest_134 ?_
      refine j_iadd C (pc := 135) dX8_isTest_135 ?_
      refine j_aload_n C (pc := 136) 1 rfl rfl dX8_isTest_136 ?_
      refine j_get C (pc := 137) kc_X8 fl_X8_156 0 rfl rfl dX8_isTest_137 ?_
      refine j_iadd C (pc := 140) dX8_isTest_140 ?_
      refine j_cVI C (pc := 141) (As := [.int ((((3 : Int32) + ((300 : Int32) * x1)) + ((100 : Int32) * k0)) + q1.2.1)]) (st := []) (ws' := fun q2 => [oX8 a_t r_t v_people v_day v_texted q1.2.2.2 q1.2.1 q1.2.2.1 v_open v_parishes v_holds q2.2.1 v_seen v_inPlan v_inBook v_traced v_imaged v_most, aI G (r_t 10) 100 v_text, aI G (r_t 22) 800 q2.2.2]) ml_X8_191 ms_X8_codes hf (fun q2 h => (c_X8_codes G K.2.1) a_t r_t v_people v_day v_texted q1.2.2.2 q1.2.1 q1.2.2.1 v_open v_parishes v_holds v_coded v_seen v_inPlan v_inBook v_traced v_imaged v_most v_code ((((3 : Int32) + ((300 : Int32) * x1)) + ((100 : Int32) * k0)) + q1.2.1) q2 h) [0, 2] [some 0, none, some 1] 3 rfl (by decide +kernel) (by decide +kernel) (fun _ => rfl) (fun _ => rfl) rfl rfl rfl rfl ⟨Nat.zero_le _, Nat.zero_le _⟩ dX8_isTest_141 kc_X8 0 rfl (fun q2 hf => ?_)
      refine j_if_eq C (pc := 144) 151 dX8_isTest_144 (by decide) hf (fun hf => ?_) (fun hf => ?_)
      · refine j_iconst C (pc := 151) (v := 0) (by decide) dX8_isTest_151 ?_
        obtain rfl := Option.some.inj hf
        exact hQ _ _ dX8_isTest_152 (show narrow .boolean (.int (0 : Int32)) = .int (0 : Int32) from rfl)
      · refine j_iconst C (pc := 147) (v := 1) (by decide) dX8_isTest_147 ?_
        refine j_goto C (pc := 148) 152 dX8_isTest_148 (by decide) ?_
        obtain rfl := Option.some.inj hf
        exact hQ _ _ dX8_isTest_152 (show narrow .boolean (.int (1 : Int32)) = .int (1 : Int32) from rfl)
  · refine j_iconst C (pc := 104) (v := 0) (by decide) dX8_isTest_104 ?_
    obtain rfl := Option.some.inj hf
    exact hQ _ _ dX8_isTest_105 (show narrow .boolean (.int (0 : Int32)) = .int (0 : Int32) from rfl)
def f_X8_isTest_41 (v_texted : Int32) (v_at : Int32) (v_value : Int32) (v_digits : Int32) (v_coded : Int32) (v_text : Nat → Int32) (v_code : Nat → Int32) (k0 : Int32) : Option (Int32 × Int32 × Int32 × Int32 × Int32 × (Nat → Int32)) := (if 0 ≤ k0 then (if v_texted ≤ (v_at + (1 : Int32)) then (f_X8_isTest_99 v_texted v_value v_digits v_coded v_text v_code (-1 : Int32) k0 (v_at + (1 : Int32))) else (gd (v_at + (1 : Int32)) 100 (if (v_text (v_at + (1 : Int32)).toNatClampNeg) ≤ 0 then (f_X8_isTest_99 v_texted v_value v_digits v_coded v_text v_code (-1 : Int32) k0 (v_at + (1 : Int32))) else (gd (v_at + (1 : Int32)) 100 ((f_J0_indexOf_0f7a4 4 (v_text (v_at + (1 : Int32)).toNatClampNeg)).bind fun q1 => (f_X8_isTest_99 v_texted v_value v_digits v_coded v_text v_code q1 k0 (v_at + (1 : Int32)))))))) else (some ((0 : Int32), v_at, v_value, v_digits, v_coded, v_code)))
set_option maxRecDepth 20000 in
set_option maxHeartbeats 1000000 in
theorem t_X8_isTest_41 {G : Gx} {K : Kx} (C : Cx G K cX8_isTest RX8 3 5) {a_t : Nat} {r_t : Nat → Nat} {v_people : Int32} {v_day : Int32} {v_texted : Int32} {v_at : Int32} {v_value : Int32} {v_digits : Int32} {v_open : Int32} {v_parishes : Int32} {v_holds : Int32} {v_coded : Int32} {v_seen : Int32} {v_inPlan : Int32} {v_inBook : Int32} {v_traced : Int32} {v_imaged : Int32} {v_most : Int32} {v_text : Nat → Int32} {v_code : Nat → Int32} {q : Int32 × Int32 × Int32 × Int32 × Int32 × (Nat → Int32)} (hQ : k_retI G K cX8_isTest 3 .boolean [oX8 a_t r_t v_people v_day v_texted q.2.1 q.2.2.1 q.2.2.2.1 v_open v_parishes v_holds q.2.2.2.2.1 v_seen v_inPlan v_inBook v_traced v_imaged v_most, aI G (r_t 10) 100 v_text, aI G (r_t 22) 800 q.2.2.2.2.2] q.1) {k0 : Int32} (hf : f_X8_isTest_41 v_texted v_at v_value v_digits v_coded v_text v_code k0 = some q) : J G K 3 0 0 [oX8 a_t r_t v_people v_day v_texted v_at v_value v_digits v_open v_parishes v_holds v_coded v_seen v_inPlan v_inBook v_traced v_imaged v_most, aI G (r_t 10) 100 v_text, aI G (r_t 22) 800 v_code] [(0, .ref a_t)] 41 [.int k0] := by
  unfold f_X8_isTest_41 at hf
  refine j_istore_n C (pc := 41) (L' := [(1, .int k0), (0, .ref a_t)]) dX8_isTest_41 rfl (by decide) rfl ?_
  refine j_iload_n C (pc := 42) 0 rfl rfl dX8_isTest_42 ?_
  refine j_if_ge C (pc := 43) 48 dX8_isTest_43 (by decide) hf (fun hf => ?_) (fun hf => ?_)
  · refine j_aload_n C (pc := 48) 1 rfl rfl dX8_isTest_48 ?_
    refine j_dup C (pc := 49) rfl dX8_isTest_49 ?_
    refine j_get C (pc := 50) kc_X8 fl_X8_153 0 rfl rfl dX8_isTest_50 ?_
    refine j_iconst C (pc := 53) (v := 1) (by decide) dX8_isTest_53 ?_
    refine j_iadd C (pc := 54) dX8_isTest_54 ?_
    refine j_put C (pc := 55) (ws' := [oX8 a_t r_t v_people v_day v_texted (v_at + (1 : Int32)) v_value v_digits v_open v_parishes v_holds v_coded v_seen v_inPlan v_inBook v_traced v_imaged v_most, aI G (r_t 10) 100 v_text, aI G (r_t 22) 800 v_code]) kc_X8 fl_X8_153 0 rfl rfl rfl rfl rfl rfl dX8_isTest_55 ?_
    refine j_aload_n C (pc := 58) 1 rfl rfl dX8_isTest_58 ?_
    refine j_get C (pc := 59) kc_X8 fl_X8_153 0 rfl rfl dX8_isTest_59 ?_
    refine j_aload_n C (pc := 62) 1 rfl rfl dX8_isTest_62 ?_
    refine j_get C (pc := 63) kc_X8 fl_X8_150 0 rfl rfl dX8_isTest_63 ?_
    refine j_icmp_ge C (pc := 66) 98 dX8_isTest_66 (by decide) hf (fun hf => ?_) (fun hf => ?_)
    · refine j_iconst C (pc := 98) (v := -1) (by decide) dX8_isTest_98 ?_
      refine j_sub [1, 0] rfl ?_
      exact t_X8_isTest_99 C hQ hf
    · refine j_aload_n C (pc := 69) 1 rfl rfl dX8_isTest_69 ?_
      refine j_get C (pc := 70) kc_X8 fl_X8_33 0 rfl rfl dX8_isTest_70 ?_
      refine j_aload_n C (pc := 73) 1 rfl rfl dX8_isTest_73 ?_
      refine j_get C (pc := 74) kc_X8 fl_X8_153 0 rfl rfl dX8_isTest_74 ?_
      refine j_iald C (pc := 77) 1 rfl hf dX8_isTest_77 (fun hf => ?_)
      refine j_if_le C (pc := 78) 98 dX8_isTest_78 (by decide) hf (fun hf => ?_) (fun hf => ?_)
      · refine j_iconst C (pc := 98) (v := -1) (by decide) dX8_isTest_98 ?_
        refine j_sub [1, 0] rfl ?_
        exact t_X8_isTest_99 C hQ hf
      · refine j_ldcS C (pc := 81) (tx := "<=>") (i := 4) (by decide) dX8_isTest_81 ?_
        refine j_aload_n C (pc := 83) 1 rfl rfl dX8_isTest_83 ?_
        refine j_get C (pc := 84) kc_X8 fl_X8_33 0 rfl rfl dX8_isTest_84 ?_
        refine j_aload_n C (pc := 87) 1 rfl rfl dX8_isTest_87 ?_
        refine j_get C (pc := 88) kc_X8 fl_X8_153 0 rfl rfl dX8_isTest_88 ?_
        refine j_iald C (pc := 91) 1 rfl hf dX8_isTest_91 (fun hf => ?_)
        refine j_cTI C (pc := 92) (As := [.int (v_text (v_at + (1 : Int32)).toNatClampNeg)]) (st := []) (ws' := fun q1 => [oX8 a_t r_t v_people v_day v_texted (v_at + (1 : Int32)) v_value v_digits v_open v_parishes v_holds v_coded v_seen v_inPlan v_inBook v_traced v_imaged v_most, aI G (r_t 10) 100 v_text, aI G (r_t 22) 800 v_code]) ml_X8_183 ms_J0_indexOf_0f7a4 hf (fun q1 h => (c_J0_indexOf_0f7a4 G K.2.1) 4 (v_text (v_at + (1 : Int32)).toNatClampNeg) q1 h) [] [none, none, none] 3 rfl (by decide +kernel) (by decide +kernel) (fun _ => rfl) (fun _ => rfl) rfl rfl rfl rfl ⟨Nat.zero_le _, Nat.zero_le _⟩ dX8_isTest_92 4 (by decide) rfl rfl (fun q1 hf => ?_)
        refine j_goto C (pc := 95) 99 dX8_isTest_95 (by decide) ?_
        refine j_sub [1, 0] rfl ?_
        exact t_X8_isTest_99 C hQ hf
  · refine j_iconst C (pc := 46) (v := 0) (by decide) dX8_isTest_46 ?_
    obtain rfl := Option.some.inj hf
    exact hQ _ _ dX8_isTest_47 (show narrow .boolean (.int (0 : Int32)) = .int (0 : Int32) from rfl)
def f_X8_isTest (v_texted : Int32) (v_at : Int32) (v_value : Int32) (v_digits : Int32) (v_coded : Int32) (v_text : Nat → Int32) (v_code : Nat → Int32) : Option (Int32 × Int32 × Int32 × Int32 × Int32 × (Nat → Int32)) := (if v_texted ≤ v_at then (f_X8_isTest_41 v_texted v_at v_value v_digits v_coded v_text v_code (-1 : Int32)) else (gd v_at 100 (if (v_text v_at.toNatClampNeg) ≤ 0 then (f_X8_isTest_41 v_texted v_at v_value v_digits v_coded v_text v_code (-1 : Int32)) else (gd v_at 100 ((f_J0_indexOf_0f7a4 3 (v_text v_at.toNatClampNeg)).bind fun q1 => (f_X8_isTest_41 v_texted v_at v_value v_digits v_coded v_text v_code q1))))))
set_option maxRecDepth 20000 in
set_option maxHeartbeats 1000000 in
theorem t_X8_isTest {G : Gx} {K : Kx} (C : Cx G K cX8_isTest RX8 3 5) {a_t : Nat} {r_t : Nat → Nat} {v_people : Int32} {v_day : Int32} {v_texted : Int32} {v_at : Int32} {v_value : Int32} {v_digits : Int32} {v_open : Int32} {v_parishes : Int32} {v_holds : Int32} {v_coded : Int32} {v_seen : Int32} {v_inPlan : Int32} {v_inBook : Int32} {v_traced : Int32} {v_imaged : Int32} {v_most : Int32} {v_text : Nat → Int32} {v_code : Nat → Int32} {q : Int32 × Int32 × Int32 × Int32 × Int32 × (Nat → Int32)} (hQ : k_retI G K cX8_isTest 3 .boolean [oX8 a_t r_t v_people v_day v_texted q.2.1 q.2.2.1 q.2.2.2.1 v_open v_parishes v_holds q.2.2.2.2.1 v_seen v_inPlan v_inBook v_traced v_imaged v_most, aI G (r_t 10) 100 v_text, aI G (r_t 22) 800 q.2.2.2.2.2] q.1) (hf : f_X8_isTest v_texted v_at v_value v_digits v_coded v_text v_code = some q) : J G K 3 0 0 [oX8 a_t r_t v_people v_day v_texted v_at v_value v_digits v_open v_parishes v_holds v_coded v_seen v_inPlan v_inBook v_traced v_imaged v_most, aI G (r_t 10) 100 v_text, aI G (r_t 22) 800 v_code] [(0, .ref a_t)] 0 [] := by
  unfold f_X8_isTest at hf
  refine j_aload_n C (pc := 0) 0 rfl rfl dX8_isTest_0 ?_
  refine j_get C (pc := 1) kc_X8 fl_X8_153 0 rfl rfl dX8_isTest_1 ?_
  refine j_aload_n C (pc := 4) 0 rfl rfl dX8_isTest_4 ?_
  refine j_get C (pc := 5) kc_X8 fl_X8_150 0 rfl rfl dX8_isTest_5 ?_
  refine j_icmp_ge C (pc := 8) 40 dX8_isTest_8 (by decide) hf (fun hf => ?_) (fun hf => ?_)
  · refine j_iconst C (pc := 40) (v := -1) (by decide) dX8_isTest_40 ?_
    exact t_X8_isTest_41 C hQ hf
  · refine j_aload_n C (pc := 11) 0 rfl rfl dX8_isTest_11 ?_
    refine j_get C (pc := 12) kc_X8 fl_X8_33 0 rfl rfl dX8_isTest_12 ?_
    refine j_aload_n C (pc := 15) 0 rfl rfl dX8_isTest_15 ?_
    refine j_get C (pc := 16) kc_X8 fl_X8_153 0 rfl rfl dX8_isTest_16 ?_
    refine j_iald C (pc := 19) 1 rfl hf dX8_isTest_19 (fun hf => ?_)
    refine j_if_le C (pc := 20) 40 dX8_isTest_20 (by decide) hf (fun hf => ?_) (fun hf => ?_)
    · refine j_iconst C (pc := 40) (v := -1) (by decide) dX8_isTest_40 ?_
      exact t_X8_isTest_41 C hQ hf
    · refine j_ldcS C (pc := 23) (tx := "pqkvhd") (i := 3) (by decide) dX8_isTest_23 ?_
      refine j_aload_n C (pc := 25) 0 rfl rfl dX8_isTest_25 ?_
      refine j_get C (pc := 26) kc_X8 fl_X8_33 0 rfl rfl dX8_isTest_26 ?_
      refine j_aload_n C (pc := 29) 0 rfl rfl dX8_isTest_29 ?_
      refine j_get C (pc := 30) kc_X8 fl_X8_153 0 rfl rfl dX8_isTest_30 ?_
      refine j_iald C (pc := 33) 1 rfl hf dX8_isTest_33 (fun hf => ?_)
      refine j_cTI C (pc := 34) (As := [.int (v_text v_at.toNatClampNeg)]) (st := []) (ws' := fun q1 => [oX8 a_t r_t v_people v_day v_texted v_at v_value v_digits v_open v_parishes v_holds v_coded v_seen v_inPlan v_inBook v_traced v_imaged v_most, aI G (r_t 10) 100 v_text, aI G (r_t 22) 800 v_code]) ml_X8_183 ms_J0_indexOf_0f7a4 hf (fun q1 h => (c_J0_indexOf_0f7a4 G K.2.1) 3 (v_text v_at.toNatClampNeg) q1 h) [] [none, none, none] 3 rfl (by decide +kernel) (by decide +kernel) (fun _ => rfl) (fun _ => rfl) rfl rfl rfl rfl ⟨Nat.zero_le _, Nat.zero_le _⟩ dX8_isTest_34 3 (by decide) rfl rfl (fun q1 hf => ?_)
      refine j_goto C (pc := 37) 41 dX8_isTest_37 (by decide) ?_
      exact t_X8_isTest_41 C hQ hf
def ct_X8_isTest (G : Gx) (l : Launch) (F : Int32 → Int32 → Int32 → Int32 → Int32 → (Nat → Int32) → (Nat → Int32) → Option (Int32 × Int32 × Int32 × Int32 × Int32 × (Nat → Int32))) (lv : Nat) : Prop := ∀ (a_t : Nat) (r_t : Nat → Nat) (v_people : Int32) (v_day : Int32) (v_texted : Int32) (v_at : Int32) (v_value : Int32) (v_digits : Int32) (v_open : Int32) (v_parishes : Int32) (v_holds : Int32) (v_coded : Int32) (v_seen : Int32) (v_inPlan : Int32) (v_inBook : Int32) (v_traced : Int32) (v_imaged : Int32) (v_most : Int32) (v_text : Nat → Int32) (v_code : Nat → Int32), ∀ (q : Int32 × Int32 × Int32 × Int32 × Int32 × (Nat → Int32)), F v_texted v_at v_value v_digits v_coded v_text v_code = some q → MI G l yX8_isTest cX8_isTest 3 .boolean lv [.ref a_t] [oX8 a_t r_t v_people v_day v_texted v_at v_value v_digits v_open v_parishes v_holds v_coded v_seen v_inPlan v_inBook v_traced v_imaged v_most, aI G (r_t 10) 100 v_text, aI G (r_t 22) 800 v_code] [oX8 a_t r_t v_people v_day v_texted q.2.1 q.2.2.1 q.2.2.2.1 v_open v_parishes v_holds q.2.2.2.2.1 v_seen v_inPlan v_inBook v_traced v_imaged v_most, aI G (r_t 10) 100 v_text, aI G (r_t 22) 800 q.2.2.2.2.2] q.1
theorem c_X8_isTest (G : Gx) (l : Launch) : ct_X8_isTest G l f_X8_isTest 5 := by
  intro a_t r_t v_people v_day v_texted v_at v_value v_digits v_open v_parishes v_holds v_coded v_seen v_inPlan v_inBook v_traced v_imaged v_most v_text v_code q hf
  exact mI_of (by decide +kernel) rfl (fun K hl C hQ => t_X8_isTest C hQ hf)
def ct_X8_isE (G : Gx) (l : Launch) (F : Int32 → Int32 → Int32 → Int32 → Int32 → Int32 → (Nat → Int32) → (Nat → Int32) → Option (Int32 × Int32 × Int32 × (Nat → Int32) × Int32 × Int32 × Int32)) (lv : Nat) : Prop := ∀ (a_t : Nat) (r_t : Nat → Nat) (v_people : Int32) (v_day : Int32) (v_texted : Int32) (v_at : Int32) (v_value : Int32) (v_digits : Int32) (v_open : Int32) (v_parishes : Int32) (v_holds : Int32) (v_coded : Int32) (v_seen : Int32) (v_inPlan : Int32) (v_inBook : Int32) (v_traced : Int32) (v_imaged : Int32) (v_most : Int32) (v_text : Nat → Int32) (v_code : Nat → Int32), ∀ (q : Int32 × Int32 × Int32 × (Nat → Int32) × Int32 × Int32 × Int32), F v_texted v_at v_value v_digits v_open v_coded v_text v_code = some q → MI G l yX8_isE cX8_isE 1 .boolean lv [.ref a_t] [oX8 a_t r_t v_people v_day v_texted v_at v_value v_digits v_open v_parishes v_holds v_coded v_seen v_inPlan v_inBook v_traced v_imaged v_most, aI G (r_t 10) 100 v_text, aI G (r_t 22) 800 v_code] [oX8 a_t r_t v_people v_day v_texted q.2.1 q.2.2.2.2.2.1 q.2.2.2.2.2.2 q.2.2.2.2.1 v_parishes v_holds q.2.2.1 v_seen v_inPlan v_inBook v_traced v_imaged v_most, aI G (r_t 10) 100 v_text, aI G (r_t 22) 800 q.2.2.2.1] q.1
def ct_X8_isT (G : Gx) (l : Launch) (F : Int32 → Int32 → Int32 → Int32 → Int32 → Int32 → (Nat → Int32) → (Nat → Int32) → Option (Int32 × Int32 × Int32 × (Nat → Int32) × Int32 × Int32 × Int32)) (lv : Nat) : Prop := ∀ (a_t : Nat) (r_t : Nat → Nat) (v_people : Int32) (v_day : Int32) (v_texted : Int32) (v_at : Int32) (v_value : Int32) (v_digits : Int32) (v_open : Int32) (v_parishes : Int32) (v_holds : Int32) (v_coded : Int32) (v_seen : Int32) (v_inPlan : Int32) (v_inBook : Int32) (v_traced : Int32) (v_imaged : Int32) (v_most : Int32) (v_text : Nat → Int32) (v_code : Nat → Int32), ∀ (q : Int32 × Int32 × Int32 × (Nat → Int32) × Int32 × Int32 × Int32), F v_texted v_at v_value v_digits v_open v_coded v_text v_code = some q → MI G l yX8_isT cX8_isT 1 .boolean lv [.ref a_t] [oX8 a_t r_t v_people v_day v_texted v_at v_value v_digits v_open v_parishes v_holds v_coded v_seen v_inPlan v_inBook v_traced v_imaged v_most, aI G (r_t 10) 100 v_text, aI G (r_t 22) 800 v_code] [oX8 a_t r_t v_people v_day v_texted q.2.1 q.2.2.2.2.2.1 q.2.2.2.2.2.2 q.2.2.2.2.1 v_parishes v_holds q.2.2.1 v_seen v_inPlan v_inBook v_traced v_imaged v_most, aI G (r_t 10) 100 v_text, aI G (r_t 22) 800 q.2.2.2.1] q.1
def ct_X8_isF (G : Gx) (l : Launch) (F : Int32 → Int32 → Int32 → Int32 → Int32 → Int32 → (Nat → Int32) → (Nat → Int32) → Option (Int32 × Int32 × Int32 × Int32 × Int32 × Int32 × (Nat → Int32))) (lv : Nat) : Prop := ∀ (a_t : Nat) (r_t : Nat → Nat) (v_people : Int32) (v_day : Int32) (v_texted : Int32) (v_at : Int32) (v_value : Int32) (v_digits : Int32) (v_open : Int32) (v_parishes : Int32) (v_holds : Int32) (v_coded : Int32) (v_seen : Int32) (v_inPlan : Int32) (v_inBook : Int32) (v_traced : Int32) (v_imaged : Int32) (v_most : Int32) (v_text : Nat → Int32) (v_code : Nat → Int32), ∀ (q : Int32 × Int32 × Int32 × Int32 × Int32 × Int32 × (Nat → Int32)), F v_texted v_at v_value v_digits v_open v_coded v_text v_code = some q → MI G l yX8_isF cX8_isF 2 .boolean lv [.ref a_t] [oX8 a_t r_t v_people v_day v_texted v_at v_value v_digits v_open v_parishes v_holds v_coded v_seen v_inPlan v_inBook v_traced v_imaged v_most, aI G (r_t 10) 100 v_text, aI G (r_t 22) 800 v_code] [oX8 a_t r_t v_people v_day v_texted q.2.1 q.2.2.2.1 q.2.2.2.2.1 q.2.2.1 v_parishes v_holds q.2.2.2.2.2.1 v_seen v_inPlan v_inBook v_traced v_imaged v_most, aI G (r_t 10) 100 v_text, aI G (r_t 22) 800 q.2.2.2.2.2.2] q.1
-- X8_isE
def f_X8_isE_b (rec_X8_isE : Int32 → Int32 → Int32 → Int32 → Int32 → Int32 → (Nat → Int32) → (Nat → Int32) → Option (Int32 × Int32 × Int32 × (Nat → Int32) × Int32 × Int32 × Int32)) (rec_X8_isT : Int32 → Int32 → Int32 → Int32 → Int32 → Int32 → (Nat → Int32) → (Nat → Int32) → Option (Int32 × Int32 × Int32 × (Nat → Int32) × Int32 × Int32 × Int32)) (rec_X8_isF : Int32 → Int32 → Int32 → Int32 → Int32 → Int32 → (Nat → Int32) → (Nat → Int32) → Option (Int32 × Int32 × Int32 × Int32 × Int32 × Int32 × (Nat → Int32))) (v_texted : Int32) (v_at : Int32) (v_value : Int32) (v_digits : Int32) (v_open : Int32) (v_coded : Int32) (v_text : Nat → Int32) (v_code : Nat → Int32) : Option (Int32 × Int32 × Int32 × (Nat → Int32) × Int32 × Int32 × Int32) := ((rec_X8_isT v_texted v_at v_value v_digits v_open v_coded v_text v_code).bind fun q1 => (if q1.1 = 0 then (some ((0 : Int32), q1.2.1, q1.2.2.1, q1.2.2.2.1, q1.2.2.2.2.1, q1.2.2.2.2.2.1, q1.2.2.2.2.2.2)) else ((f_X8_is v_texted q1.2.1 v_text (124 : Int32)).bind fun q2 => (if q2.1 = 0 then (some ((1 : Int32), q2.2, q1.2.2.1, q1.2.2.2.1, q1.2.2.2.2.1, q1.2.2.2.2.2.1, q1.2.2.2.2.2.2)) else ((rec_X8_isE v_texted q2.2 q1.2.2.2.2.2.1 q1.2.2.2.2.2.2 q1.2.2.2.2.1 q1.2.2.1 v_text q1.2.2.2.1).bind fun q3 => (if q3.1 = 0 then (some ((0 : Int32), q3.2.1, q3.2.2.1, q3.2.2.2.1, q3.2.2.2.2.1, q3.2.2.2.2.2.1, q3.2.2.2.2.2.2)) else ((f_X8_codes q3.2.2.1 q3.2.2.2.1 (2 : Int32)).bind fun q4 => (if q4.1 = 0 then (some ((0 : Int32), q3.2.1, q4.2.1, q4.2.2, q3.2.2.2.2.1, q3.2.2.2.2.2.1, q3.2.2.2.2.2.2)) else (some ((1 : Int32), q3.2.1, q4.2.1, q4.2.2, q3.2.2.2.2.1, q3.2.2.2.2.2.1, q3.2.2.2.2.2.2))))))))))
set_option maxRecDepth 20000 in
set_option maxHeartbeats 1000000 in
theorem t_X8_isE {G : Gx} {K : Kx} {d : Nat} {rec_X8_isE : Int32 → Int32 → Int32 → Int32 → Int32 → Int32 → (Nat → Int32) → (Nat → Int32) → Option (Int32 × Int32 × Int32 × (Nat → Int32) × Int32 × Int32 × Int32)} {rec_X8_isT : Int32 → Int32 → Int32 → Int32 → Int32 → Int32 → (Nat → Int32) → (Nat → Int32) → Option (Int32 × Int32 × Int32 × (Nat → Int32) × Int32 × Int32 × Int32)} {rec_X8_isF : Int32 → Int32 → Int32 → Int32 → Int32 → Int32 → (Nat → Int32) → (Nat → Int32) → Option (Int32 × Int32 × Int32 × Int32 × Int32 × Int32 × (Nat → Int32))} (C : Cx G K cX8_isE RX8 1 (6 + (d + 1))) {a_t : Nat} {r_t : Nat → Nat} {v_people : Int32} {v_day : Int32} {v_texted : Int32} {v_at : Int32} {v_value : Int32} {v_digits : Int32} {v_open : Int32} {v_parishes : Int32} {v_holds : Int32} {v_coded : Int32} {v_seen : Int32} {v_inPlan : Int32} {v_inBook : Int32} {v_traced : Int32} {v_imaged : Int32} {v_most : Int32} {v_text : Nat → Int32} {v_code : Nat → Int32} {q : Int32 × Int32 × Int32 × (Nat → Int32) × Int32 × Int32 × Int32} (hQ : k_retI G K cX8_isE 1 .boolean [oX8 a_t r_t v_people v_day v_texted q.2.1 q.2.2.2.2.2.1 q.2.2.2.2.2.2 q.2.2.2.2.1 v_parishes v_holds q.2.2.1 v_seen v_inPlan v_inBook v_traced v_imaged v_most, aI G (r_t 10) 100 v_text, aI G (r_t 22) 800 q.2.2.2.1] q.1) (ih_X8_isE : ct_X8_isE G K.2.1 rec_X8_isE (6 + d)) (ih_X8_isT : ct_X8_isT G K.2.1 rec_X8_isT (6 + d)) (ih_X8_isF : ct_X8_isF G K.2.1 rec_X8_isF (6 + d)) (hf : f_X8_isE_b rec_X8_isE rec_X8_isT rec_X8_isF v_texted v_at v_value v_digits v_open v_coded v_text v_code = some q) : J G K 1 0 0 [oX8 a_t r_t v_people v_day v_texted v_at v_value v_digits v_open v_parishes v_holds v_coded v_seen v_inPlan v_inBook v_traced v_imaged v_most, aI G (r_t 10) 100 v_text, aI G (r_t 22) 800 v_code] [(0, .ref a_t)] 0 [] := by
  unfold f_X8_isE_b at hf
  refine j_aload_n C (pc := 0) 0 rfl rfl dX8_isE_0 ?_
  refine j_cVI C (pc := 1) (As := []) (st := []) (ws' := fun q1 => [oX8 a_t r_t v_people v_day v_texted q1.2.1 q1.2.2.2.2.2.1 q1.2.2.2.2.2.2 q1.2.2.2.2.1 v_parishes v_holds q1.2.2.1 v_seen v_inPlan v_inBook v_traced v_imaged v_most, aI G (r_t 10) 100 v_text, aI G (r_t 22) 800 q1.2.2.2.1]) ml_X8_209 ms_X8_isT hf (fun q1 h => ih_X8_isT a_t r_t v_people v_day v_texted v_at v_value v_digits v_open v_parishes v_holds v_coded v_seen v_inPlan v_inBook v_traced v_imaged v_most v_text v_code q1 h) [0, 1, 2] [some 0, some 1, some 2] 3 rfl (by decide +kernel) (by decide +kernel) (fun _ => rfl) (fun _ => rfl) (Nat.ble_eq_true_of_le (by omega)) rfl rfl rfl ⟨Nat.zero_le _, Nat.zero_le _⟩ dX8_isE_1 kc_X8 0 rfl (fun q1 hf => ?_)
  refine j_if_ne C (pc := 4) 9 dX8_isE_4 (by decide) hf (fun hf => ?_) (fun hf => ?_)
  · refine j_aload_n C (pc := 9) 0 rfl rfl dX8_isE_9 ?_
    refine j_bipush C (pc := 10) (v := 124) (by decide) dX8_isE_10 ?_
    refine j_cVI C (pc := 12) (As := [.int (124 : Int32)]) (st := []) (ws' := fun q2 => [oX8 a_t r_t v_people v_day v_texted q2.2 q1.2.2.2.2.2.1 q1.2.2.2.2.2.2 q1.2.2.2.2.1 v_parishes v_holds q1.2.2.1 v_seen v_inPlan v_inBook v_traced v_imaged v_most, aI G (r_t 10) 100 v_text, aI G (r_t 22) 800 q1.2.2.2.1]) ml_X8_175 ms_X8_is hf (fun q2 h => (c_X8_is G K.2.1) a_t r_t v_people v_day v_texted q1.2.1 q1.2.2.2.2.2.1 q1.2.2.2.2.2.2 q1.2.2.2.2.1 v_parishes v_holds q1.2.2.1 v_seen v_inPlan v_inBook v_traced v_imaged v_most v_text (124 : Int32) q2 h) [0, 1] [some 0, some 1, none] 3 rfl (by decide +kernel) (by decide +kernel) (fun _ => rfl) (fun _ => rfl) (Nat.ble_eq_true_of_le (by omega)) rfl rfl rfl ⟨Nat.zero_le _, Nat.zero_le _⟩ dX8_isE_12 kc_X8 0 rfl (fun q2 hf => ?_)
    refine j_if_eq C (pc := 15) 33 dX8_isE_15 (by decide) hf (fun hf => ?_) (fun hf => ?_)
    · refine j_iconst C (pc := 33) (v := 1) (by decide) dX8_isE_33 ?_
      refine j_goto C (pc := 34) 38 dX8_isE_34 (by decide) ?_
      obtain rfl := Option.some.inj hf
      exact hQ _ _ dX8_isE_38 (show narrow .boolean (.int (1 : Int32)) = .int (1 : Int32) from rfl)
    · refine j_aload_n C (pc := 18) 0 rfl rfl dX8_isE_18 ?_
      refine j_cVI C (pc := 19) (As := []) (st := []) (ws' := fun q3 => [oX8 a_t r_t v_people v_day v_texted q3.2.1 q3.2.2.2.2.2.1 q3.2.2.2.2.2.2 q3.2.2.2.2.1 v_parishes v_holds q3.2.2.1 v_seen v_inPlan v_inBook v_traced v_imaged v_most, aI G (r_t 10) 100 v_text, aI G (r_t 22) 800 q3.2.2.2.1]) ml_X8_203 ms_X8_isE hf (fun q3 h => ih_X8_isE a_t r_t v_people v_day v_texted q2.2 q1.2.2.2.2.2.1 q1.2.2.2.2.2.2 q1.2.2.2.2.1 v_parishes v_holds q1.2.2.1 v_seen v_inPlan v_inBook v_traced v_imaged v_most v_text q1.2.2.2.1 q3 h) [0, 1, 2] [some 0, some 1, some 2] 3 rfl (by decide +kernel) (by decide +kernel) (fun _ => rfl) (fun _ => rfl) (Nat.ble_eq_true_of_le (by omega)) rfl rfl rfl ⟨Nat.zero_le _, Nat.zero_le _⟩ dX8_isE_19 kc_X8 0 rfl (fun q3 hf => ?_)
      refine j_if_eq C (pc := 22) 37 dX8_isE_22 (by decide) hf (fun hf => ?_) (fun hf => ?_)
      · refine j_iconst C (pc := 37) (v := 0) (by decide) dX8_isE_37 ?_
        obtain rfl := Option.some.inj hf
        exact hQ _ _ dX8_isE_38 (show narrow .boolean (.int (0 : Int32)) = .int (0 : Int32) from rfl)
      · refine j_aload_n C (pc := 25) 0 rfl rfl dX8_isE_25 ?_
        refine j_iconst C (pc := 26) (v := 2) (by decide) dX8_isE_26 ?_
        refine j_cVI C (pc := 27) (As := [.int (2 : Int32)]) (st := []) (ws' := fun q4 => [oX8 a_t r_t v_people v_day v_texted q3.2.1 q3.2.2.2.2.2.1 q3.2.2.2.2.2.2 q3.2.2.2.2.1 v_parishes v_holds q4.2.1 v_seen v_inPlan v_inBook v_traced v_imaged v_most, aI G (r_t 10) 100 v_text, aI G (r_t 22) 800 q4.2.2]) ml_X8_191 ms_X8_codes hf (fun q4 h => (c_X8_codes G K.2.1) a_t r_t v_people v_day v_texted q3.2.1 q3.2.2.2.2.2.1 q3.2.2.2.2.2.2 q3.2.2.2.2.1 v_parishes v_holds q3.2.2.1 v_seen v_inPlan v_inBook v_traced v_imaged v_most q3.2.2.2.1 (2 : Int32) q4 h) [0, 2] [some 0, none, some 1] 3 rfl (by decide +kernel) (by decide +kernel) (fun _ => rfl) (fun _ => rfl) (Nat.ble_eq_true_of_le (by omega)) rfl rfl rfl ⟨Nat.zero_le _, Nat.zero_le _⟩ dX8_isE_27 kc_X8 0 rfl (fun q4 hf => ?_)
        refine j_if_eq C (pc := 30) 37 dX8_isE_30 (by decide) hf (fun hf => ?_) (fun hf => ?_)
        · refine j_iconst C (pc := 37) (v := 0) (by decide) dX8_isE_37 ?_
          obtain rfl := Option.some.inj hf
          exact hQ _ _ dX8_isE_38 (show narrow .boolean (.int (0 : Int32)) = .int (0 : Int32) from rfl)
        · refine j_iconst C (pc := 33) (v := 1) (by decide) dX8_isE_33 ?_
          refine j_goto C (pc := 34) 38 dX8_isE_34 (by decide) ?_
          obtain rfl := Option.some.inj hf
          exact hQ _ _ dX8_isE_38 (show narrow .boolean (.int (1 : Int32)) = .int (1 : Int32) from rfl)
  · refine j_iconst C (pc := 7) (v := 0) (by decide) dX8_isE_7 ?_
    obtain rfl := Option.some.inj hf
    exact hQ _ _ dX8_isE_8 (show narrow .boolean (.int (0 : Int32)) = .int (0 : Int32) from rfl)
-- X8_isT
def f_X8_isT_b (rec_X8_isE : Int32 → Int32 → Int32 → Int32 → Int32 → Int32 → (Nat → Int32) → (Nat → Int32) → Option (Int32 × Int32 × Int32 × (Nat → Int32) × Int32 × Int32 × Int32)) (rec_X8_isT : Int32 → Int32 → Int32 → Int32 → Int32 → Int32 → (Nat → Int32) → (Nat → Int32) → Option (Int32 × Int32 × Int32 × (Nat → Int32) × Int32 × Int32 × Int32)) (rec_X8_isF : Int32 → Int32 → Int32 → Int32 → Int32 → Int32 → (Nat → Int32) → (Nat → Int32) → Option (Int32 × Int32 × Int32 × Int32 × Int32 × Int32 × (Nat → Int32))) (v_texted : Int32) (v_at : Int32) (v_value : Int32) (v_digits : Int32) (v_open : Int32) (v_coded : Int32) (v_text : Nat → Int32) (v_code : Nat → Int32) : Option (Int32 × Int32 × Int32 × (Nat → Int32) × Int32 × Int32 × Int32) := ((rec_X8_isF v_texted v_at v_value v_digits v_open v_coded v_text v_code).bind fun q1 => (if q1.1 = 0 then (some ((0 : Int32), q1.2.1, q1.2.2.2.2.2.1, q1.2.2.2.2.2.2, q1.2.2.1, q1.2.2.2.1, q1.2.2.2.2.1)) else ((f_X8_is v_texted q1.2.1 v_text (38 : Int32)).bind fun q2 => (if q2.1 = 0 then (some ((1 : Int32), q2.2, q1.2.2.2.2.2.1, q1.2.2.2.2.2.2, q1.2.2.1, q1.2.2.2.1, q1.2.2.2.2.1)) else ((rec_X8_isT v_texted q2.2 q1.2.2.2.1 q1.2.2.2.2.1 q1.2.2.1 q1.2.2.2.2.2.1 v_text q1.2.2.2.2.2.2).bind fun q3 => (if q3.1 = 0 then (some ((0 : Int32), q3.2.1, q3.2.2.1, q3.2.2.2.1, q3.2.2.2.2.1, q3.2.2.2.2.2.1, q3.2.2.2.2.2.2)) else ((f_X8_codes q3.2.2.1 q3.2.2.2.1 (1 : Int32)).bind fun q4 => (if q4.1 = 0 then (some ((0 : Int32), q3.2.1, q4.2.1, q4.2.2, q3.2.2.2.2.1, q3.2.2.2.2.2.1, q3.2.2.2.2.2.2)) else (some ((1 : Int32), q3.2.1, q4.2.1, q4.2.2, q3.2.2.2.2.1, q3.2.2.2.2.2.1, q3.2.2.2.2.2.2))))))))))
set_option maxRecDepth 20000 in
set_option maxHeartbeats 1000000 in
theorem t_X8_isT {G : Gx} {K : Kx} {d : Nat} {rec_X8_isE : Int32 → Int32 → Int32 → Int32 → Int32 → Int32 → (Nat → Int32) → (Nat → Int32) → Option (Int32 × Int32 × Int32 × (Nat → Int32) × Int32 × Int32 × Int32)} {rec_X8_isT : Int32 → Int32 → Int32 → Int32 → Int32 → Int32 → (Nat → Int32) → (Nat → Int32) → Option (Int32 × Int32 × Int32 × (Nat → Int32) × Int32 × Int32 × Int32)} {rec_X8_isF : Int32 → Int32 → Int32 → Int32 → Int32 → Int32 → (Nat → Int32) → (Nat → Int32) → Option (Int32 × Int32 × Int32 × Int32 × Int32 × Int32 × (Nat → Int32))} (C : Cx G K cX8_isT RX8 1 (6 + (d + 1))) {a_t : Nat} {r_t : Nat → Nat} {v_people : Int32} {v_day : Int32} {v_texted : Int32} {v_at : Int32} {v_value : Int32} {v_digits : Int32} {v_open : Int32} {v_parishes : Int32} {v_holds : Int32} {v_coded : Int32} {v_seen : Int32} {v_inPlan : Int32} {v_inBook : Int32} {v_traced : Int32} {v_imaged : Int32} {v_most : Int32} {v_text : Nat → Int32} {v_code : Nat → Int32} {q : Int32 × Int32 × Int32 × (Nat → Int32) × Int32 × Int32 × Int32} (hQ : k_retI G K cX8_isT 1 .boolean [oX8 a_t r_t v_people v_day v_texted q.2.1 q.2.2.2.2.2.1 q.2.2.2.2.2.2 q.2.2.2.2.1 v_parishes v_holds q.2.2.1 v_seen v_inPlan v_inBook v_traced v_imaged v_most, aI G (r_t 10) 100 v_text, aI G (r_t 22) 800 q.2.2.2.1] q.1) (ih_X8_isE : ct_X8_isE G K.2.1 rec_X8_isE (6 + d)) (ih_X8_isT : ct_X8_isT G K.2.1 rec_X8_isT (6 + d)) (ih_X8_isF : ct_X8_isF G K.2.1 rec_X8_isF (6 + d)) (hf : f_X8_isT_b rec_X8_isE rec_X8_isT rec_X8_isF v_texted v_at v_value v_digits v_open v_coded v_text v_code = some q) : J G K 1 0 0 [oX8 a_t r_t v_people v_day v_texted v_at v_value v_digits v_open v_parishes v_holds v_coded v_seen v_inPlan v_inBook v_traced v_imaged v_most, aI G (r_t 10) 100 v_text, aI G (r_t 22) 800 v_code] [(0, .ref a_t)] 0 [] := by
  unfold f_X8_isT_b at hf
  refine j_aload_n C (pc := 0) 0 rfl rfl dX8_isT_0 ?_
  refine j_cVI C (pc := 1) (As := []) (st := []) (ws' := fun q1 => [oX8 a_t r_t v_people v_day v_texted q1.2.1 q1.2.2.2.1 q1.2.2.2.2.1 q1.2.2.1 v_parishes v_holds q1.2.2.2.2.2.1 v_seen v_inPlan v_inBook v_traced v_imaged v_most, aI G (r_t 10) 100 v_text, aI G (r_t 22) 800 q1.2.2.2.2.2.2]) ml_X8_200 ms_X8_isF hf (fun q1 h => ih_X8_isF a_t r_t v_people v_day v_texted v_at v_value v_digits v_open v_parishes v_holds v_coded v_seen v_inPlan v_inBook v_traced v_imaged v_most v_text v_code q1 h) [0, 1, 2] [some 0, some 1, some 2] 3 rfl (by decide +kernel) (by decide +kernel) (fun _ => rfl) (fun _ => rfl) (Nat.ble_eq_true_of_le (by omega)) rfl rfl rfl ⟨Nat.zero_le _, Nat.zero_le _⟩ dX8_isT_1 kc_X8 0 rfl (fun q1 hf => ?_)
  refine j_if_ne C (pc := 4) 9 dX8_isT_4 (by decide) hf (fun hf => ?_) (fun hf => ?_)
  · refine j_aload_n C (pc := 9) 0 rfl rfl dX8_isT_9 ?_
    refine j_bipush C (pc := 10) (v := 38) (by decide) dX8_isT_10 ?_
    refine j_cVI C (pc := 12) (As := [.int (38 : Int32)]) (st := []) (ws' := fun q2 => [oX8 a_t r_t v_people v_day v_texted q2.2 q1.2.2.2.1 q1.2.2.2.2.1 q1.2.2.1 v_parishes v_holds q1.2.2.2.2.2.1 v_seen v_inPlan v_inBook v_traced v_imaged v_most, aI G (r_t 10) 100 v_text, aI G (r_t 22) 800 q1.2.2.2.2.2.2]) ml_X8_175 ms_X8_is hf (fun q2 h => (c_X8_is G K.2.1) a_t r_t v_people v_day v_texted q1.2.1 q1.2.2.2.1 q1.2.2.2.2.1 q1.2.2.1 v_parishes v_holds q1.2.2.2.2.2.1 v_seen v_inPlan v_inBook v_traced v_imaged v_most v_text (38 : Int32) q2 h) [0, 1] [some 0, some 1, none] 3 rfl (by decide +kernel) (by decide +kernel) (fun _ => rfl) (fun _ => rfl) (Nat.ble_eq_true_of_le (by omega)) rfl rfl rfl ⟨Nat.zero_le _, Nat.zero_le _⟩ dX8_isT_12 kc_X8 0 rfl (fun q2 hf => ?_)
    refine j_if_eq C (pc := 15) 33 dX8_isT_15 (by decide) hf (fun hf => ?_) (fun hf => ?_)
    · refine j_iconst C (pc := 33) (v := 1) (by decide) dX8_isT_33 ?_
      refine j_goto C (pc := 34) 38 dX8_isT_34 (by decide) ?_
      obtain rfl := Option.some.inj hf
      exact hQ _ _ dX8_isT_38 (show narrow .boolean (.int (1 : Int32)) = .int (1 : Int32) from rfl)
    · refine j_aload_n C (pc := 18) 0 rfl rfl dX8_isT_18 ?_
      refine j_cVI C (pc := 19) (As := []) (st := []) (ws' := fun q3 => [oX8 a_t r_t v_people v_day v_texted q3.2.1 q3.2.2.2.2.2.1 q3.2.2.2.2.2.2 q3.2.2.2.2.1 v_parishes v_holds q3.2.2.1 v_seen v_inPlan v_inBook v_traced v_imaged v_most, aI G (r_t 10) 100 v_text, aI G (r_t 22) 800 q3.2.2.2.1]) ml_X8_209 ms_X8_isT hf (fun q3 h => ih_X8_isT a_t r_t v_people v_day v_texted q2.2 q1.2.2.2.1 q1.2.2.2.2.1 q1.2.2.1 v_parishes v_holds q1.2.2.2.2.2.1 v_seen v_inPlan v_inBook v_traced v_imaged v_most v_text q1.2.2.2.2.2.2 q3 h) [0, 1, 2] [some 0, some 1, some 2] 3 rfl (by decide +kernel) (by decide +kernel) (fun _ => rfl) (fun _ => rfl) (Nat.ble_eq_true_of_le (by omega)) rfl rfl rfl ⟨Nat.zero_le _, Nat.zero_le _⟩ dX8_isT_19 kc_X8 0 rfl (fun q3 hf => ?_)
      refine j_if_eq C (pc := 22) 37 dX8_isT_22 (by decide) hf (fun hf => ?_) (fun hf => ?_)
      · refine j_iconst C (pc := 37) (v := 0) (by decide) dX8_isT_37 ?_
        obtain rfl := Option.some.inj hf
        exact hQ _ _ dX8_isT_38 (show narrow .boolean (.int (0 : Int32)) = .int (0 : Int32) from rfl)
      · refine j_aload_n C (pc := 25) 0 rfl rfl dX8_isT_25 ?_
        refine j_iconst C (pc := 26) (v := 1) (by decide) dX8_isT_26 ?_
        refine j_cVI C (pc := 27) (As := [.int (1 : Int32)]) (st := []) (ws' := fun q4 => [oX8 a_t r_t v_people v_day v_texted q3.2.1 q3.2.2.2.2.2.1 q3.2.2.2.2.2.2 q3.2.2.2.2.1 v_parishes v_holds q4.2.1 v_seen v_inPlan v_inBook v_traced v_imaged v_most, aI G (r_t 10) 100 v_text, aI G (r_t 22) 800 q4.2.2]) ml_X8_191 ms_X8_codes hf (fun q4 h => (c_X8_codes G K.2.1) a_t r_t v_people v_day v_texted q3.2.1 q3.2.2.2.2.2.1 q3.2.2.2.2.2.2 q3.2.2.2.2.1 v_parishes v_holds q3.2.2.1 v_seen v_inPlan v_inBook v_traced v_imaged v_most q3.2.2.2.1 (1 : Int32) q4 h) [0, 2] [some 0, none, some 1] 3 rfl (by decide +kernel) (by decide +kernel) (fun _ => rfl) (fun _ => rfl) (Nat.ble_eq_true_of_le (by omega)) rfl rfl rfl ⟨Nat.zero_le _, Nat.zero_le _⟩ dX8_isT_27 kc_X8 0 rfl (fun q4 hf => ?_)
        refine j_if_eq C (pc := 30) 37 dX8_isT_30 (by decide) hf (fun hf => ?_) (fun hf => ?_)
        · refine j_iconst C (pc := 37) (v := 0) (by decide) dX8_isT_37 ?_
          obtain rfl := Option.some.inj hf
          exact hQ _ _ dX8_isT_38 (show narrow .boolean (.int (0 : Int32)) = .int (0 : Int32) from rfl)
        · refine j_iconst C (pc := 33) (v := 1) (by decide) dX8_isT_33 ?_
          refine j_goto C (pc := 34) 38 dX8_isT_34 (by decide) ?_
          obtain rfl := Option.some.inj hf
          exact hQ _ _ dX8_isT_38 (show narrow .boolean (.int (1 : Int32)) = .int (1 : Int32) from rfl)
  · refine j_iconst C (pc := 7) (v := 0) (by decide) dX8_isT_7 ?_
    obtain rfl := Option.some.inj hf
    exact hQ _ _ dX8_isT_8 (show narrow .boolean (.int (0 : Int32)) = .int (0 : Int32) from rfl)
-- X8_isF
def f_X8_isF_b (rec_X8_isE : Int32 → Int32 → Int32 → Int32 → Int32 → Int32 → (Nat → Int32) → (Nat → Int32) → Option (Int32 × Int32 × Int32 × (Nat → Int32) × Int32 × Int32 × Int32)) (rec_X8_isT : Int32 → Int32 → Int32 → Int32 → Int32 → Int32 → (Nat → Int32) → (Nat → Int32) → Option (Int32 × Int32 × Int32 × (Nat → Int32) × Int32 × Int32 × Int32)) (rec_X8_isF : Int32 → Int32 → Int32 → Int32 → Int32 → Int32 → (Nat → Int32) → (Nat → Int32) → Option (Int32 × Int32 × Int32 × Int32 × Int32 × Int32 × (Nat → Int32))) (v_texted : Int32) (v_at : Int32) (v_value : Int32) (v_digits : Int32) (v_open : Int32) (v_coded : Int32) (v_text : Nat → Int32) (v_code : Nat → Int32) : Option (Int32 × Int32 × Int32 × Int32 × Int32 × Int32 × (Nat → Int32)) := ((f_X8_isOpened v_texted v_at v_open v_text (33 : Int32)).bind fun q1 => (if q1.1 = 0 then ((f_X8_isOpened v_texted q1.2.1 q1.2.2 v_text (40 : Int32)).bind fun q2 => (if q2.1 = 0 then ((f_X8_isTest v_texted q2.2.1 v_value v_digits v_coded v_text v_code).bind fun q3 => (gn .boolean q3.1 (some (q3.1, q3.2.1, q2.2.2, q3.2.2.1, q3.2.2.2.1, q3.2.2.2.2.1, q3.2.2.2.2.2)))) else ((rec_X8_isE v_texted q2.2.1 v_value v_digits q2.2.2 v_coded v_text v_code).bind fun q4 => (if q4.1 = 0 then (some ((0 : Int32), q4.2.1, q4.2.2.2.2.1 - (1 : Int32), q4.2.2.2.2.2.1, q4.2.2.2.2.2.2, q4.2.2.1, q4.2.2.2.1)) else ((f_X8_is v_texted q4.2.1 v_text (41 : Int32)).bind fun q5 => (if q5.1 = 0 then (some ((0 : Int32), q5.2, q4.2.2.2.2.1 - (1 : Int32), q4.2.2.2.2.2.1, q4.2.2.2.2.2.2, q4.2.2.1, q4.2.2.2.1)) else (some ((1 : Int32), q5.2, q4.2.2.2.2.1 - (1 : Int32), q4.2.2.2.2.2.1, q4.2.2.2.2.2.2, q4.2.2.1, q4.2.2.2.1)))))))) else ((rec_X8_isF v_texted q1.2.1 v_value v_digits q1.2.2 v_coded v_text v_code).bind fun q6 => (if q6.1 = 0 then (some ((0 : Int32), q6.2.1, q6.2.2.1 - (1 : Int32), q6.2.2.2.1, q6.2.2.2.2.1, q6.2.2.2.2.2.1, q6.2.2.2.2.2.2)) else ((f_X8_codes q6.2.2.2.2.2.1 q6.2.2.2.2.2.2 (0 : Int32)).bind fun q7 => (if q7.1 = 0 then (some ((0 : Int32), q6.2.1, q6.2.2.1 - (1 : Int32), q6.2.2.2.1, q6.2.2.2.2.1, q7.2.1, q7.2.2)) else (some ((1 : Int32), q6.2.1, q6.2.2.1 - (1 : Int32), q6.2.2.2.1, q6.2.2.2.2.1, q7.2.1, q7.2.2))))))))
set_option maxRecDepth 20000 in
set_option maxHeartbeats 1000000 in
theorem t_X8_isF {G : Gx} {K : Kx} {d : Nat} {rec_X8_isE : Int32 → Int32 → Int32 → Int32 → Int32 → Int32 → (Nat → Int32) → (Nat → Int32) → Option (Int32 × Int32 × Int32 × (Nat → Int32) × Int32 × Int32 × Int32)} {rec_X8_isT : Int32 → Int32 → Int32 → Int32 → Int32 → Int32 → (Nat → Int32) → (Nat → Int32) → Option (Int32 × Int32 × Int32 × (Nat → Int32) × Int32 × Int32 × Int32)} {rec_X8_isF : Int32 → Int32 → Int32 → Int32 → Int32 → Int32 → (Nat → Int32) → (Nat → Int32) → Option (Int32 × Int32 × Int32 × Int32 × Int32 × Int32 × (Nat → Int32))} (C : Cx G K cX8_isF RX8 2 (6 + (d + 1))) {a_t : Nat} {r_t : Nat → Nat} {v_people : Int32} {v_day : Int32} {v_texted : Int32} {v_at : Int32} {v_value : Int32} {v_digits : Int32} {v_open : Int32} {v_parishes : Int32} {v_holds : Int32} {v_coded : Int32} {v_seen : Int32} {v_inPlan : Int32} {v_inBook : Int32} {v_traced : Int32} {v_imaged : Int32} {v_most : Int32} {v_text : Nat → Int32} {v_code : Nat → Int32} {q : Int32 × Int32 × Int32 × Int32 × Int32 × Int32 × (Nat → Int32)} (hQ : k_retI G K cX8_isF 2 .boolean [oX8 a_t r_t v_people v_day v_texted q.2.1 q.2.2.2.1 q.2.2.2.2.1 q.2.2.1 v_parishes v_holds q.2.2.2.2.2.1 v_seen v_inPlan v_inBook v_traced v_imaged v_most, aI G (r_t 10) 100 v_text, aI G (r_t 22) 800 q.2.2.2.2.2.2] q.1) (ih_X8_isE : ct_X8_isE G K.2.1 rec_X8_isE (6 + d)) (ih_X8_isT : ct_X8_isT G K.2.1 rec_X8_isT (6 + d)) (ih_X8_isF : ct_X8_isF G K.2.1 rec_X8_isF (6 + d)) (hf : f_X8_isF_b rec_X8_isE rec_X8_isT rec_X8_isF v_texted v_at v_value v_digits v_open v_coded v_text v_code = some q) : J G K 2 0 0 [oX8 a_t r_t v_people v_day v_texted v_at v_value v_digits v_open v_parishes v_holds v_coded v_seen v_inPlan v_inBook v_traced v_imaged v_most, aI G (r_t 10) 100 v_text, aI G (r_t 22) 800 v_code] [(0, .ref a_t)] 0 [] := by
  unfold f_X8_isF_b at hf
  refine j_aload_n C (pc := 0) 0 rfl rfl dX8_isF_0 ?_
  refine j_bipush C (pc := 1) (v := 33) (by decide) dX8_isF_1 ?_
  refine j_cVI C (pc := 3) (As := [.int (33 : Int32)]) (st := []) (ws' := fun q1 => [oX8 a_t r_t v_people v_day v_texted q1.2.1 v_value v_digits q1.2.2 v_parishes v_holds v_coded v_seen v_inPlan v_inBook v_traced v_imaged v_most, aI G (r_t 10) 100 v_text, aI G (r_t 22) 800 v_code]) ml_X8_197 ms_X8_isOpened hf (fun q1 h => (c_X8_isOpened G K.2.1) a_t r_t v_people v_day v_texted v_at v_value v_digits v_open v_parishes v_holds v_coded v_seen v_inPlan v_inBook v_traced v_imaged v_most v_text (33 : Int32) q1 h) [0, 1] [some 0, some 1, none] 3 rfl (by decide +kernel) (by decide +kernel) (fun _ => rfl) (fun _ => rfl) (Nat.ble_eq_true_of_le (by omega)) rfl rfl rfl ⟨Nat.zero_le _, Nat.zero_le _⟩ dX8_isF_3 kc_X8 0 rfl (fun q1 hf => ?_)
  refine j_if_eq C (pc := 6) 33 dX8_isF_6 (by decide) hf (fun hf => ?_) (fun hf => ?_)
  · refine j_aload_n C (pc := 33) 0 rfl rfl dX8_isF_33 ?_
    refine j_bipush C (pc := 34) (v := 40) (by decide) dX8_isF_34 ?_
    refine j_cVI C (pc := 36) (As := [.int (40 : Int32)]) (st := []) (ws' := fun q2 => [oX8 a_t r_t v_people v_day v_texted q2.2.1 v_value v_digits q2.2.2 v_parishes v_holds v_coded v_seen v_inPlan v_inBook v_traced v_imaged v_most, aI G (r_t 10) 100 v_text, aI G (r_t 22) 800 v_code]) ml_X8_197 ms_X8_isOpened hf (fun q2 h => (c_X8_isOpened G K.2.1) a_t r_t v_people v_day v_texted q1.2.1 v_value v_digits q1.2.2 v_parishes v_holds v_coded v_seen v_inPlan v_inBook v_traced v_imaged v_most v_text (40 : Int32) q2 h) [0, 1] [some 0, some 1, none] 3 rfl (by decide +kernel) (by decide +kernel) (fun _ => rfl) (fun _ => rfl) (Nat.ble_eq_true_of_le (by omega)) rfl rfl rfl ⟨Nat.zero_le _, Nat.zero_le _⟩ dX8_isF_36 kc_X8 0 rfl (fun q2 hf => ?_)
    refine j_if_eq C (pc := 39) 67 dX8_isF_39 (by decide) hf (fun hf => ?_) (fun hf => ?_)
    · refine j_aload_n C (pc := 67) 0 rfl rfl dX8_isF_67 ?_
      refine j_cVI C (pc := 68) (As := []) (st := []) (ws' := fun q3 => [oX8 a_t r_t v_people v_day v_texted q3.2.1 q3.2.2.1 q3.2.2.2.1 q2.2.2 v_parishes v_holds q3.2.2.2.2.1 v_seen v_inPlan v_inBook v_traced v_imaged v_most, aI G (r_t 10) 100 v_text, aI G (r_t 22) 800 q3.2.2.2.2.2]) ml_X8_206 ms_X8_isTest hf (fun q3 h => (c_X8_isTest G K.2.1) a_t r_t v_people v_day v_texted q2.2.1 v_value v_digits q2.2.2 v_parishes v_holds v_coded v_seen v_inPlan v_inBook v_traced v_imaged v_most v_text v_code q3 h) [0, 1, 2] [some 0, some 1, some 2] 3 rfl (by decide +kernel) (by decide +kernel) (fun _ => rfl) (fun _ => rfl) (Nat.ble_eq_true_of_le (by omega)) rfl rfl rfl ⟨Nat.zero_le _, Nat.zero_le _⟩ dX8_isF_68 kc_X8 0 rfl (fun q3 hf => ?_)
      obtain ⟨hn, hf⟩ := gn_boolean hf
      obtain rfl := Option.some.inj hf
      exact hQ _ _ dX8_isF_71 hn
    · refine j_aload_n C (pc := 42) 0 rfl rfl dX8_isF_42 ?_
      refine j_cVI C (pc := 43) (As := []) (st := []) (ws' := fun q4 => [oX8 a_t r_t v_people v_day v_texted q4.2.1 q4.2.2.2.2.2.1 q4.2.2.2.2.2.2 q4.2.2.2.2.1 v_parishes v_holds q4.2.2.1 v_seen v_inPlan v_inBook v_traced v_imaged v_most, aI G (r_t 10) 100 v_text, aI G (r_t 22) 800 q4.2.2.2.1]) ml_X8_203 ms_X8_isE hf (fun q4 h => ih_X8_isE a_t r_t v_people v_day v_texted q2.2.1 v_value v_digits q2.2.2 v_parishes v_holds v_coded v_seen v_inPlan v_inBook v_traced v_imaged v_most v_text v_code q4 h) [0, 1, 2] [some 0, some 1, some 2] 3 rfl (by decide +kernel) (by decide +kernel) (fun _ => rfl) (fun _ => rfl) (Nat.ble_eq_true_of_le (by omega)) rfl rfl rfl ⟨Nat.zero_le _, Nat.zero_le _⟩ dX8_isF_43 kc_X8 0 rfl (fun q4 hf => ?_)
      refine j_if_eq C (pc := 46) 62 dX8_isF_46 (by decide) hf (fun hf => ?_) (fun hf => ?_)
      · refine j_iconst C (pc := 62) (v := 0) (by decide) dX8_isF_62 ?_
        refine j_istore_n C (pc := 63) (L' := [(1, .int (0 : Int32)), (0, .ref a_t)]) dX8_isF_63 rfl (by decide) rfl ?_
        refine j_goto C (pc := 64) 72 dX8_isF_64 (by decide) ?_
        refine j_aload_n C (pc := 72) 1 rfl rfl dX8_isF_72 ?_
        refine j_dup C (pc := 73) rfl dX8_isF_73 ?_
        refine j_get C (pc := 74) kc_X8 fl_X8_194 0 rfl rfl dX8_isF_74 ?_
        refine j_iconst C (pc := 77) (v := 1) (by decide) dX8_isF_77 ?_
        refine j_isub C (pc := 78) dX8_isF_78 ?_
        refine j_put C (pc := 79) (ws' := [oX8 a_t r_t v_people v_day v_texted q4.2.1 q4.2.2.2.2.2.1 q4.2.2.2.2.2.2 (q4.2.2.2.2.1 - (1 : Int32)) v_parishes v_holds q4.2.2.1 v_seen v_inPlan v_inBook v_traced v_imaged v_most, aI G (r_t 10) 100 v_text, aI G (r_t 22) 800 q4.2.2.2.1]) kc_X8 fl_X8_194 0 rfl rfl rfl rfl rfl rfl dX8_isF_79 ?_
        refine j_iload_n C (pc := 82) 0 rfl rfl dX8_isF_82 ?_
        obtain rfl := Option.some.inj hf
        exact hQ _ _ dX8_isF_83 (show narrow .boolean (.int (0 : Int32)) = .int (0 : Int32) from rfl)
      · refine j_aload_n C (pc := 49) 0 rfl rfl dX8_isF_49 ?_
        refine j_bipush C (pc := 50) (v := 41) (by decide) dX8_isF_50 ?_
        refine j_cVI C (pc := 52) (As := [.int (41 : Int32)]) (st := []) (ws' := fun q5 => [oX8 a_t r_t v_people v_day v_texted q5.2 q4.2.2.2.2.2.1 q4.2.2.2.2.2.2 q4.2.2.2.2.1 v_parishes v_holds q4.2.2.1 v_seen v_inPlan v_inBook v_traced v_imaged v_most, aI G (r_t 10) 100 v_text, aI G (r_t 22) 800 q4.2.2.2.1]) ml_X8_175 ms_X8_is hf (fun q5 h => (c_X8_is G K.2.1) a_t r_t v_people v_day v_texted q4.2.1 q4.2.2.2.2.2.1 q4.2.2.2.2.2.2 q4.2.2.2.2.1 v_parishes v_holds q4.2.2.1 v_seen v_inPlan v_inBook v_traced v_imaged v_most v_text (41 : Int32) q5 h) [0, 1] [some 0, some 1, none] 3 rfl (by decide +kernel) (by decide +kernel) (fun _ => rfl) (fun _ => rfl) (Nat.ble_eq_true_of_le (by omega)) rfl rfl rfl ⟨Nat.zero_le _, Nat.zero_le _⟩ dX8_isF_52 kc_X8 0 rfl (fun q5 hf => ?_)
        refine j_if_eq C (pc := 55) 62 dX8_isF_55 (by decide) hf (fun hf => ?_) (fun hf => ?_)
        · refine j_iconst C (pc := 62) (v := 0) (by decide) dX8_isF_62 ?_
          refine j_istore_n C (pc := 63) (L' := [(1, .int (0 : Int32)), (0, .ref a_t)]) dX8_isF_63 rfl (by decide) rfl ?_
          refine j_goto C (pc := 64) 72 dX8_isF_64 (by decide) ?_
          refine j_aload_n C (pc := 72) 1 rfl rfl dX8_isF_72 ?_
          refine j_dup C (pc := 73) rfl dX8_isF_73 ?_
          refine j_get C (pc := 74) kc_X8 fl_X8_194 0 rfl rfl dX8_isF_74 ?_
          refine j_iconst C (pc := 77) (v := 1) (by decide) dX8_isF_77 ?_
          refine j_isub C (pc := 78) dX8_isF_78 ?_
          refine j_put C (pc := 79) (ws' := [oX8 a_t r_t v_people v_day v_texted q5.2 q4.2.2.2.2.2.1 q4.2.2.2.2.2.2 (q4.2.2.2.2.1 - (1 : Int32)) v_parishes v_holds q4.2.2.1 v_seen v_inPlan v_inBook v_traced v_imaged v_most, aI G (r_t 10) 100 v_text, aI G (r_t 22) 800 q4.2.2.2.1]) kc_X8 fl_X8_194 0 rfl rfl rfl rfl rfl rfl dX8_isF_79 ?_
          refine j_iload_n C (pc := 82) 0 rfl rfl dX8_isF_82 ?_
          obtain rfl := Option.some.inj hf
          exact hQ _ _ dX8_isF_83 (show narrow .boolean (.int (0 : Int32)) = .int (0 : Int32) from rfl)
        · refine j_iconst C (pc := 58) (v := 1) (by decide) dX8_isF_58 ?_
          refine j_goto C (pc := 59) 63 dX8_isF_59 (by decide) ?_
          refine j_istore_n C (pc := 63) (L' := [(1, .int (1 : Int32)), (0, .ref a_t)]) dX8_isF_63 rfl (by decide) rfl ?_
          refine j_goto C (pc := 64) 72 dX8_isF_64 (by decide) ?_
          refine j_aload_n C (pc := 72) 1 rfl rfl dX8_isF_72 ?_
          refine j_dup C (pc := 73) rfl dX8_isF_73 ?_
          refine j_get C (pc := 74) kc_X8 fl_X8_194 0 rfl rfl dX8_isF_74 ?_
          refine j_iconst C (pc := 77) (v := 1) (by decide) dX8_isF_77 ?_
          refine j_isub C (pc := 78) dX8_isF_78 ?_
          refine j_put C (pc := 79) (ws' := [oX8 a_t r_t v_people v_day v_texted q5.2 q4.2.2.2.2.2.1 q4.2.2.2.2.2.2 (q4.2.2.2.2.1 - (1 : Int32)) v_parishes v_holds q4.2.2.1 v_seen v_inPlan v_inBook v_traced v_imaged v_most, aI G (r_t 10) 100 v_text, aI G (r_t 22) 800 q4.2.2.2.1]) kc_X8 fl_X8_194 0 rfl rfl rfl rfl rfl rfl dX8_isF_79 ?_
          refine j_iload_n C (pc := 82) 0 rfl rfl dX8_isF_82 ?_
          obtain rfl := Option.some.inj hf
          exact hQ _ _ dX8_isF_83 (show narrow .boolean (.int (1 : Int32)) = .int (1 : Int32) from rfl)
  · refine j_aload_n C (pc := 9) 0 rfl rfl dX8_isF_9 ?_
    refine j_cVI C (pc := 10) (As := []) (st := []) (ws' := fun q6 => [oX8 a_t r_t v_people v_day v_texted q6.2.1 q6.2.2.2.1 q6.2.2.2.2.1 q6.2.2.1 v_parishes v_holds q6.2.2.2.2.2.1 v_seen v_inPlan v_inBook v_traced v_imaged v_most, aI G (r_t 10) 100 v_text, aI G (r_t 22) 800 q6.2.2.2.2.2.2]) ml_X8_200 ms_X8_isF hf (fun q6 h => ih_X8_isF a_t r_t v_people v_day v_texted q1.2.1 v_value v_digits q1.2.2 v_parishes v_holds v_coded v_seen v_inPlan v_inBook v_traced v_imaged v_most v_text v_code q6 h) [0, 1, 2] [some 0, some 1, some 2] 3 rfl (by decide +kernel) (by decide +kernel) (fun _ => rfl) (fun _ => rfl) (Nat.ble_eq_true_of_le (by omega)) rfl rfl rfl ⟨Nat.zero_le _, Nat.zero_le _⟩ dX8_isF_10 kc_X8 0 rfl (fun q6 hf => ?_)
    refine j_if_eq C (pc := 13) 28 dX8_isF_13 (by decide) hf (fun hf => ?_) (fun hf => ?_)
    · refine j_iconst C (pc := 28) (v := 0) (by decide) dX8_isF_28 ?_
      refine j_istore_n C (pc := 29) (L' := [(1, .int (0 : Int32)), (0, .ref a_t)]) dX8_isF_29 rfl (by decide) rfl ?_
      refine j_goto C (pc := 30) 72 dX8_isF_30 (by decide) ?_
      refine j_aload_n C (pc := 72) 1 rfl rfl dX8_isF_72 ?_
      refine j_dup C (pc := 73) rfl dX8_isF_73 ?_
      refine j_get C (pc := 74) kc_X8 fl_X8_194 0 rfl rfl dX8_isF_74 ?_
      refine j_iconst C (pc := 77) (v := 1) (by decide) dX8_isF_77 ?_
      refine j_isub C (pc := 78) dX8_isF_78 ?_
      refine j_put C (pc := 79) (ws' := [oX8 a_t r_t v_people v_day v_texted q6.2.1 q6.2.2.2.1 q6.2.2.2.2.1 (q6.2.2.1 - (1 : Int32)) v_parishes v_holds q6.2.2.2.2.2.1 v_seen v_inPlan v_inBook v_traced v_imaged v_most, aI G (r_t 10) 100 v_text, aI G (r_t 22) 800 q6.2.2.2.2.2.2]) kc_X8 fl_X8_194 0 rfl rfl rfl rfl rfl rfl dX8_isF_79 ?_
      refine j_iload_n C (pc := 82) 0 rfl rfl dX8_isF_82 ?_
      obtain rfl := Option.some.inj hf
      exact hQ _ _ dX8_isF_83 (show narrow .boolean (.int (0 : Int32)) = .int (0 : Int32) from rfl)
    · refine j_aload_n C (pc := 16) 0 rfl rfl dX8_isF_16 ?_
      refine j_iconst C (pc := 17) (v := 0) (by decide) dX8_isF_17 ?_
      refine j_cVI C (pc := 18) (As := [.int (0 : Int32)]) (st := []) (ws' := fun q7 => [oX8 a_t r_t v_people v_day v_texted q6.2.1 q6.2.2.2.1 q6.2.2.2.2.1 q6.2.2.1 v_parishes v_holds q7.2.1 v_seen v_inPlan v_inBook v_traced v_imaged v_most, aI G (r_t 10) 100 v_text, aI G (r_t 22) 800 q7.2.2]) ml_X8_191 ms_X8_codes hf (fun q7 h => (c_X8_codes G K.2.1) a_t r_t v_people v_day v_texted q6.2.1 q6.2.2.2.1 q6.2.2.2.2.1 q6.2.2.1 v_parishes v_holds q6.2.2.2.2.2.1 v_seen v_inPlan v_inBook v_traced v_imaged v_most q6.2.2.2.2.2.2 (0 : Int32) q7 h) [0, 2] [some 0, none, some 1] 3 rfl (by decide +kernel) (by decide +kernel) (fun _ => rfl) (fun _ => rfl) (Nat.ble_eq_true_of_le (by omega)) rfl rfl rfl ⟨Nat.zero_le _, Nat.zero_le _⟩ dX8_isF_18 kc_X8 0 rfl (fun q7 hf => ?_)
      refine j_if_eq C (pc := 21) 28 dX8_isF_21 (by decide) hf (fun hf => ?_) (fun hf => ?_)
      · refine j_iconst C (pc := 28) (v := 0) (by decide) dX8_isF_28 ?_
        refine j_istore_n C (pc := 29) (L' := [(1, .int (0 : Int32)), (0, .ref a_t)]) dX8_isF_29 rfl (by decide) rfl ?_
        refine j_goto C (pc := 30) 72 dX8_isF_30 (by decide) ?_
        refine j_aload_n C (pc := 72) 1 rfl rfl dX8_isF_72 ?_
        refine j_dup C (pc := 73) rfl dX8_isF_73 ?_
        refine j_get C (pc := 74) kc_X8 fl_X8_194 0 rfl rfl dX8_isF_74 ?_
        refine j_iconst C (pc := 77) (v := 1) (by decide) dX8_isF_77 ?_
        refine j_isub C (pc := 78) dX8_isF_78 ?_
        refine j_put C (pc := 79) (ws' := [oX8 a_t r_t v_people v_day v_texted q6.2.1 q6.2.2.2.1 q6.2.2.2.2.1 (q6.2.2.1 - (1 : Int32)) v_parishes v_holds q7.2.1 v_seen v_inPlan v_inBook v_traced v_imaged v_most, aI G (r_t 10) 100 v_text, aI G (r_t 22) 800 q7.2.2]) kc_X8 fl_X8_194 0 rfl rfl rfl rfl rfl rfl dX8_isF_79 ?_
        refine j_iload_n C (pc := 82) 0 rfl rfl dX8_isF_82 ?_
        obtain rfl := Option.some.inj hf
        exact hQ _ _ dX8_isF_83 (show narrow .boolean (.int (0 : Int32)) = .int (0 : Int32) from rfl)
      · refine j_iconst C (pc := 24) (v := 1) (by decide) dX8_isF_24 ?_
        refine j_goto C (pc := 25) 29 dX8_isF_25 (by decide) ?_
        refine j_istore_n C (pc := 29) (L' := [(1, .int (1 : Int32)), (0, .ref a_t)]) dX8_isF_29 rfl (by decide) rfl ?_
        refine j_goto C (pc := 30) 72 dX8_isF_30 (by decide) ?_
        refine j_aload_n C (pc := 72) 1 rfl rfl dX8_isF_72 ?_
        refine j_dup C (pc := 73) rfl dX8_isF_73 ?_
        refine j_get C (pc := 74) kc_X8 fl_X8_194 0 rfl rfl dX8_isF_74 ?_
        refine j_iconst C (pc := 77) (v := 1) (by decide) dX8_isF_77 ?_
        refine j_isub C (pc := 78) dX8_isF_78 ?_
        refine j_put C (pc := 79) (ws' := [oX8 a_t r_t v_people v_day v_texted q6.2.1 q6.2.2.2.1 q6.2.2.2.2.1 (q6.2.2.1 - (1 : Int32)) v_parishes v_holds q7.2.1 v_seen v_inPlan v_inBook v_traced v_imaged v_most, aI G (r_t 10) 100 v_text, aI G (r_t 22) 800 q7.2.2]) kc_X8 fl_X8_194 0 rfl rfl rfl rfl rfl rfl dX8_isF_79 ?_
        refine j_iload_n C (pc := 82) 0 rfl rfl dX8_isF_82 ?_
        obtain rfl := Option.some.inj hf
        exact hQ _ _ dX8_isF_83 (show narrow .boolean (.int (1 : Int32)) = .int (1 : Int32) from rfl)
def g_X8_isE_X8_isT_X8_isF : Nat → (Int32 → Int32 → Int32 → Int32 → Int32 → Int32 → (Nat → Int32) → (Nat → Int32) → Option (Int32 × Int32 × Int32 × (Nat → Int32) × Int32 × Int32 × Int32)) × (Int32 → Int32 → Int32 → Int32 → Int32 → Int32 → (Nat → Int32) → (Nat → Int32) → Option (Int32 × Int32 × Int32 × (Nat → Int32) × Int32 × Int32 × Int32)) × (Int32 → Int32 → Int32 → Int32 → Int32 → Int32 → (Nat → Int32) → (Nat → Int32) → Option (Int32 × Int32 × Int32 × Int32 × Int32 × Int32 × (Nat → Int32)))
  | 0 => (fun _ _ _ _ _ _ _ _ => none, fun _ _ _ _ _ _ _ _ => none, fun _ _ _ _ _ _ _ _ => none)
  | d + 1 => (f_X8_isE_b (g_X8_isE_X8_isT_X8_isF d).1 (g_X8_isE_X8_isT_X8_isF d).2.1 (g_X8_isE_X8_isT_X8_isF d).2.2, f_X8_isT_b (g_X8_isE_X8_isT_X8_isF d).1 (g_X8_isE_X8_isT_X8_isF d).2.1 (g_X8_isE_X8_isT_X8_isF d).2.2, f_X8_isF_b (g_X8_isE_X8_isT_X8_isF d).1 (g_X8_isE_X8_isT_X8_isF d).2.1 (g_X8_isE_X8_isT_X8_isF d).2.2)
def f_X8_isE (d : Nat) : Int32 → Int32 → Int32 → Int32 → Int32 → Int32 → (Nat → Int32) → (Nat → Int32) → Option (Int32 × Int32 × Int32 × (Nat → Int32) × Int32 × Int32 × Int32) := (g_X8_isE_X8_isT_X8_isF d).1
def f_X8_isT (d : Nat) : Int32 → Int32 → Int32 → Int32 → Int32 → Int32 → (Nat → Int32) → (Nat → Int32) → Option (Int32 × Int32 × Int32 × (Nat → Int32) × Int32 × Int32 × Int32) := (g_X8_isE_X8_isT_X8_isF d).2.1
def f_X8_isF (d : Nat) : Int32 → Int32 → Int32 → Int32 → Int32 → Int32 → (Nat → Int32) → (Nat → Int32) → Option (Int32 × Int32 × Int32 × Int32 × Int32 × Int32 × (Nat → Int32)) := (g_X8_isE_X8_isT_X8_isF d).2.2
theorem cg_X8_isE_X8_isT_X8_isF (G : Gx) (l : Launch) : ∀ d : Nat, ct_X8_isE G l (f_X8_isE d) (6 + d) ∧ ct_X8_isT G l (f_X8_isT d) (6 + d) ∧ ct_X8_isF G l (f_X8_isF d) (6 + d) := by
  intro d
  induction d with
  | zero => exact ⟨(by intro a_t r_t v_people v_day v_texted v_at v_value v_digits v_open v_parishes v_holds v_coded v_seen v_inPlan v_inBook v_traced v_imaged v_most v_text v_code q hf; cases (show (none : Option _) = some q from hf)), (by intro a_t r_t v_people v_day v_texted v_at v_value v_digits v_open v_parishes v_holds v_coded v_seen v_inPlan v_inBook v_traced v_imaged v_most v_text v_code q hf; cases (show (none : Option _) = some q from hf)), (by intro a_t r_t v_people v_day v_texted v_at v_value v_digits v_open v_parishes v_holds v_coded v_seen v_inPlan v_inBook v_traced v_imaged v_most v_text v_code q hf; cases (show (none : Option _) = some q from hf))⟩
  | succ d ih =>
    refine ⟨?_, ?_, ?_⟩
    · intro a_t r_t v_people v_day v_texted v_at v_value v_digits v_open v_parishes v_holds v_coded v_seen v_inPlan v_inBook v_traced v_imaged v_most v_text v_code q hf
      exact mI_of (by decide +kernel) rfl (fun K hl C hQ => by subst hl; exact t_X8_isE C hQ ih.1 ih.2.1 ih.2.2 hf)
    · intro a_t r_t v_people v_day v_texted v_at v_value v_digits v_open v_parishes v_holds v_coded v_seen v_inPlan v_inBook v_traced v_imaged v_most v_text v_code q hf
      exact mI_of (by decide +kernel) rfl (fun K hl C hQ => by subst hl; exact t_X8_isT C hQ ih.1 ih.2.1 ih.2.2 hf)
    · intro a_t r_t v_people v_day v_texted v_at v_value v_digits v_open v_parishes v_holds v_coded v_seen v_inPlan v_inBook v_traced v_imaged v_most v_text v_code q hf
      exact mI_of (by decide +kernel) rfl (fun K hl C hQ => by subst hl; exact t_X8_isF C hQ ih.1 ih.2.1 ih.2.2 hf)
theorem c_X8_isE (G : Gx) (l : Launch) (d : Nat) : ct_X8_isE G l (f_X8_isE d) (6 + d) := (cg_X8_isE_X8_isT_X8_isF G l d).1
theorem c_X8_isT (G : Gx) (l : Launch) (d : Nat) : ct_X8_isT G l (f_X8_isT d) (6 + d) := (cg_X8_isE_X8_isT_X8_isF G l d).2.1
theorem c_X8_isF (G : Gx) (l : Launch) (d : Nat) : ct_X8_isF G l (f_X8_isF d) (6 + d) := (cg_X8_isE_X8_isT_X8_isF G l d).2.2
-- X8_isClause
def f_X8_isClause_115 (v_texted : Int32) (v_value : Int32) (v_digits : Int32) (v_open : Int32) (v_coded : Int32) (v_text : Nat → Int32) (v_word : Nat → Int32) (v_number : Nat → Int32) (v_begins : Nat → Int32) (v_length : Nat → Int32) (v_code : Nat → Int32) (p1 : Int32) (k0 : Int32) (x2 : Int32) (w_at : Int32) : Option (Int32 × Int32 × Int32 × Int32 × (Nat → Int32) × (Nat → Int32) × (Nat → Int32) × Int32 × (Nat → Int32) × Int32 × (Nat → Int32)) := (if k0 = 0 then (some ((0 : Int32), w_at, v_value, v_digits, v_word, v_number, v_begins, v_open, v_length, v_coded, v_code)) else ((f_X8_isNumber v_texted w_at v_text).bind fun q1 => (if q1.1 = 0 then (some ((0 : Int32), q1.2.2.2, q1.2.1, q1.2.2.1, v_word, v_number, v_begins, v_open, v_length, v_coded, v_code)) else (gd p1 61 (gd p1 61 (gd p1 61 (if (2 : Int32) ≤ x2 then (gd p1 61 (gd p1 61 (some ((1 : Int32), q1.2.2.2, q1.2.1, q1.2.2.1, upd v_word p1.toNatClampNeg x2, upd v_number p1.toNatClampNeg q1.2.1, upd v_begins p1.toNatClampNeg v_coded, (0 : Int32), upd v_length p1.toNatClampNeg (v_coded - ((upd v_begins p1.toNatClampNeg v_coded) p1.toNatClampNeg)), v_coded, v_code)))) else ((f_X8_is v_texted q1.2.2.2 v_text (32 : Int32)).bind fun q2 => (if q2.1 = 0 then (some ((0 : Int32), q2.2, q1.2.1, q1.2.2.1, upd v_word p1.toNatClampNeg x2, upd v_number p1.toNatClampNeg q1.2.1, upd v_begins p1.toNatClampNeg v_coded, (0 : Int32), v_length, v_coded, v_code)) else ((f_X8_isE 400 v_texted q2.2 q1.2.1 q1.2.2.1 (0 : Int32) v_coded v_text v_code).bind fun q3 => (if q3.1 = 0 then (some ((0 : Int32), q3.2.1, q3.2.2.2.2.2.1, q3.2.2.2.2.2.2, upd v_word p1.toNatClampNeg x2, upd v_number p1.toNatClampNeg q1.2.1, upd v_begins p1.toNatClampNeg v_coded, q3.2.2.2.2.1, v_length, q3.2.2.1, q3.2.2.2.1)) else (gd p1 61 (gd p1 61 (some ((1 : Int32), q3.2.1, q3.2.2.2.2.2.1, q3.2.2.2.2.2.2, upd v_word p1.toNatClampNeg x2, upd v_number p1.toNatClampNeg q1.2.1, upd v_begins p1.toNatClampNeg v_coded, q3.2.2.2.2.1, upd v_length p1.toNatClampNeg (q3.2.2.1 - ((upd v_begins p1.toNatClampNeg v_coded) p1.toNatClampNeg)), q3.2.2.1, q3.2.2.2.1)))))))))))))))
set_option maxRecDepth 20000 in
set_option maxHeartbeats 1000000 in
theorem t_X8_isClause_115 {G : Gx} {K : Kx} (C : Cx G K cX8_isClause RX8 4 407) {a_t : Nat} {r_t : Nat → Nat} {v_people : Int32} {v_day : Int32} {v_texted : Int32} {v_value : Int32} {v_digits : Int32} {v_open : Int32} {v_parishes : Int32} {v_holds : Int32} {v_coded : Int32} {v_seen : Int32} {v_inPlan : Int32} {v_inBook : Int32} {v_traced : Int32} {v_imaged : Int32} {v_most : Int32} {v_text : Nat → Int32} {v_word : Nat → Int32} {v_number : Nat → Int32} {v_begins : Nat → Int32} {v_length : Nat → Int32} {v_code : Nat → Int32} {p1 : Int32} {q : Int32 × Int32 × Int32 × Int32 × (Nat → Int32) × (Nat → Int32) × (Nat → Int32) × Int32 × (Nat → Int32) × Int32 × (Nat → Int32)} (hQ : k_retI G K cX8_isClause 4 .boolean [oX8 a_t r_t v_people v_day v_texted q.2.1 q.2.2.1 q.2.2.2.1 q.2.2.2.2.2.2.2.1 v_parishes v_holds q.2.2.2.2.2.2.2.2.2.1 v_seen v_inPlan v_inBook v_traced v_imaged v_most, aI G (r_t 10) 100 v_text, aI G (r_t 18) 61 q.2.2.2.2.1, aI G (r_t 19) 61 q.2.2.2.2.2.1, aI G (r_t 20) 61 q.2.2.2.2.2.2.1, aI G (r_t 21) 61 q.2.2.2.2.2.2.2.2.1, aI G (r_t 22) 800 q.2.2.2.2.2.2.2.2.2.2] q.1) {k0 : Int32} {x2 : Int32} {w_at : Int32} (hf : f_X8_isClause_115 v_texted v_value v_digits v_open v_coded v_text v_word v_number v_begins v_length v_code p1 k0 x2 w_at = some q) : J G K 4 0 0 [oX8 a_t r_t v_people v_day v_texted w_at v_value v_digits v_open v_parishes v_holds v_coded v_seen v_inPlan v_inBook v_traced v_imaged v_most, aI G (r_t 10) 100 v_text, aI G (r_t 18) 61 v_word, aI G (r_t 19) 61 v_number, aI G (r_t 20) 61 v_begins, aI G (r_t 21) 61 v_length, aI G (r_t 22) 800 v_code] [(0, .ref a_t), (1, .int p1), (2, .int x2)] 115 [.int k0] := by
  unfold f_X8_isClause_115 at hf
  refine j_istore_n C (pc := 115) (L' := [(3, .int k0), (0, .ref a_t), (1, .int p1), (2, .int x2)]) dX8_isClause_115 rfl (by decide) rfl ?_
  refine j_iload_n C (pc := 116) 0 rfl rfl dX8_isClause_116 ?_
  refine j_if_eq C (pc := 117) 127 dX8_isClause_117 (by decide) hf (fun hf => ?_) (fun hf => ?_)
  · refine j_iconst C (pc := 127) (v := 0) (by decide) dX8_isClause_127 ?_
    obtain rfl := Option.some.inj hf
    exact hQ _ _ dX8_isClause_128 (show narrow .boolean (.int (0 : Int32)) = .int (0 : Int32) from rfl)
  · refine j_aload_n C (pc := 120) 1 rfl rfl dX8_isClause_120 ?_
    refine j_cVI C (pc := 121) (As := []) (st := []) (ws' := fun q1 => [oX8 a_t r_t v_people v_day v_texted q1.2.2.2 q1.2.1 q1.2.2.1 v_open v_parishes v_holds v_coded v_seen v_inPlan v_inBook v_traced v_imaged v_most, aI G (r_t 10) 100 v_text, aI G (r_t 18) 61 v_word, aI G (r_t 19) 61 v_number, aI G (r_t 20) 61 v_begins, aI G (r_t 21) 61 v_length, aI G (r_t 22) 800 v_code]) ml_X8_188 ms_X8_isNumber hf (fun q1 h => (c_X8_isNumber G K.2.1) a_t r_t v_people v_day v_texted w_at v_value v_digits v_open v_parishes v_holds v_coded v_seen v_inPlan v_inBook v_traced v_imaged v_most v_text q1 h) [0, 1] [some 0, some 1, none, none, none, none, none] 7 rfl (by decide +kernel) (by decide +kernel) (fun _ => rfl) (fun _ => rfl) rfl rfl rfl rfl ⟨Nat.zero_le _, Nat.zero_le _⟩ dX8_isClause_121 kc_X8 0 rfl (fun q1 hf => ?_)
    refine j_if_ne C (pc := 124) 129 dX8_isClause_124 (by decide) hf (fun hf => ?_) (fun hf => ?_)
    · refine j_aload_n C (pc := 129) 1 rfl rfl dX8_isClause_129 ?_
      refine j_get C (pc := 130) kc_X8 fl_X8_39 0 rfl rfl dX8_isClause_130 ?_
      refine j_iload_n C (pc := 133) 2 rfl rfl dX8_isClause_133 ?_
      refine j_iload_n C (pc := 134) 3 rfl rfl dX8_isClause_134 ?_
      refine j_iast C (pc := 135) (ws' := [oX8 a_t r_t v_people v_day v_texted q1.2.2.2 q1.2.1 q1.2.2.1 v_open v_parishes v_holds v_coded v_seen v_inPlan v_inBook v_traced v_imaged v_most, aI G (r_t 10) 100 v_text, aI G (r_t 18) 61 (upd v_word p1.toNatClampNeg x2), aI G (r_t 19) 61 v_number, aI G (r_t 20) 61 v_begins, aI G (r_t 21) 61 v_length, aI G (r_t 22) 800 v_code]) 2 rfl hf rfl dX8_isClause_135 (fun hf => ?_)
      refine j_aload_n C (pc := 136) 1 rfl rfl dX8_isClause_136 ?_
      refine j_get C (pc := 137) kc_X8 fl_X8_42 0 rfl rfl dX8_isClause_137 ?_
      refine j_iload_n C (pc := 140) 2 rfl rfl dX8_isClause_140 ?_
      refine j_aload_n C (pc := 141) 1 rfl rfl dX8_isClause_141 ?_
      refine j_get C (pc := 142) kc_X8 fl_X8_156 0 rfl rfl dX8_isClause_142 ?_
      refine j_iast C (pc := 145) (ws' := [oX8 a_t r_t v_people v_day v_texted q1.2.2.2 q1.2.1 q1.2.2.1 v_open v_parishes v_holds v_coded v_seen v_inPlan v_inBook v_traced v_imaged v_most, aI G (r_t 10) 100 v_text, aI G (r_t 18) 61 (upd v_word p1.toNatClampNeg x2), aI G (r_t 19) 61 (upd v_number p1.toNatClampNeg q1.2.1), aI G (r_t 20) 61 v_begins, aI G (r_t 21) 61 v_length, aI G (r_t 22) 800 v_code]) 3 rfl hf rfl dX8_isClause_145 (fun hf => ?_)
      refine j_aload_n C (pc := 146) 1 rfl rfl dX8_isClause_146 ?_
      refine j_get C (pc := 147) kc_X8 fl_X8_45 0 rfl rfl dX8_isClause_147 ?_
      refine j_iload_n C (pc := 150) 2 rfl rfl dX8_isClause_150 ?_
      refine j_aload_n C (pc := 151) 1 rfl rfl dX8_isClause_151 ?_
      refine j_get C (pc := 152) kc_X8 fl_X8_178 0 rfl rfl dX8_isClause_152 ?_
      refine j_iast C (pc := 155) (ws' := [oX8 a_t r_t v_people v_day v_texted q1.2.2.2 q1.2.1 q1.2.2.1 v_open v_parishes v_holds v_coded v_seen v_inPlan v_inBook v_traced v_imaged v_most, aI G (r_t 10) 100 v_text, aI G (r_t 18) 61 (upd v_word p1.toNatClampNeg x2), aI G (r_t 19) 61 (upd v_number p1.toNatClampNeg q1.2.1), aI G (r_t 20) 61 (upd v_begins p1.toNatClampNeg v_coded), aI G (r_t 21) 61 v_length, aI G (r_t 22) 800 v_code]) 4 rfl hf rfl dX8_isClause_155 (fun hf => ?_)
      refine j_aload_n C (pc := 156) 1 rfl rfl dX8_isClause_156 ?_
      refine j_iconst C (pc := 157) (v := 0) (by decide) dX8_isClause_157 ?_
      refine j_put C (pc := 158) (ws' := [oX8 a_t r_t v_people v_day v_texted q1.2.2.2 q1.2.1 q1.2.2.1 (0 : Int32) v_parishes v_holds v_coded v_seen v_inPlan v_inBook v_traced v_imaged v_most, aI G (r_t 10) 100 v_text, aI G (r_t 18) 61 (upd v_word p1.toNatClampNeg x2), aI G (r_t 19) 61 (upd v_number p1.toNatClampNeg q1.2.1), aI G (r_t 20) 61 (upd v_begins p1.toNatClampNeg v_coded), aI G (r_t 21) 61 v_length, aI G (r_t 22) 800 v_code]) kc_X8 fl_X8_194 0 rfl rfl rfl rfl rfl rfl dX8_isClause_158 ?_
      refine j_iload_n C (pc := 161) 3 rfl rfl dX8_isClause_161 ?_
      refine j_iconst C (pc := 162) (v := 2) (by decide) dX8_isClause_162 ?_
      refine j_icmp_ge C (pc := 163) 184 dX8_isClause_163 (by decide) hf (fun hf => ?_) (fun hf => ?_)
      · refine j_aload_n C (pc := 184) 1 rfl rfl dX8_isClause_184 ?_
        refine j_get C (pc := 185) kc_X8 fl_X8_48 0 rfl rfl dX8_isClause_185 ?_
        refine j_iload_n C (pc := 188) 2 rfl rfl dX8_isClause_188 ?_
        refine j_aload_n C (pc := 189) 1 rfl rfl dX8_isClause_189 ?_
        refine j_get C (pc := 190) kc_X8 fl_X8_178 0 rfl rfl dX8_isClause_190 ?_
        refine j_aload_n C (pc := 193) 1 rfl rfl dX8_isClause_193 ?_
        refine j_get C (pc := 194) kc_X8 fl_X8_45 0 rfl rfl dX8_isClause_194 ?_
        refine j_iload_n C (pc := 197) 2 rfl rfl dX8_isClause_197 ?_
        refine j_iald C (pc := 198) 4 rfl hf dX8_isClause_198 (fun hf => ?_)
        refine j_isub C (pc := 199) dX8_isClause_199 ?_
        refine j_iast C (pc := 200) (ws' := [oX8 a_t r_t v_people v_day v_texted q1.2.2.2 q1.2.1 q1.2.2.1 (0 : Int32) v_parishes v_holds v_coded v_seen v_inPlan v_inBook v_traced v_imaged v_most, aI G (r_t 10) 100 v_text, aI G (r_t 18) 61 (upd v_word p1.toNatClampNeg x2), aI G (r_t 19) 61 (upd v_number p1.toNatClampNeg q1.2.1), aI G (r_t 20) 61 (upd v_begins p1.toNatClampNeg v_coded), aI G (r_t 21) 61 (upd v_length p1.toNatClampNeg (v_coded - ((upd v_begins p1.toNatClampNeg v_coded) p1.toNatClampNeg))), aI G (r_t 22) 800 v_code]) 5 rfl hf rfl dX8_isClause_200 (fun hf => ?_)
        refine j_iconst C (pc := 201) (v := 1) (by decide) dX8_isClause_201 ?_
        obtain rfl := Option.some.inj hf
        exact hQ _ _ dX8_isClause_202 (show narrow .boolean (.int (1 : Int32)) = .int (1 : Int32) from rfl)
      · refine j_aload_n C (pc := 166) 1 rfl rfl dX8_isClause_166 ?_
        refine j_bipush C (pc := 167) (v := 32) (by decide) dX8_isClause_167 ?_
        refine j_cVI C (pc := 169) (As := [.int (32 : Int32)]) (st := []) (ws' := fun q2 => [oX8 a_t r_t v_people v_day v_texted q2.2 q1.2.1 q1.2.2.1 (0 : Int32) v_parishes v_holds v_coded v_seen v_inPlan v_inBook v_traced v_imaged v_most, aI G (r_t 10) 100 v_text, aI G (r_t 18) 61 (upd v_word p1.toNatClampNeg x2), aI G (r_t 19) 61 (upd v_number p1.toNatClampNeg q1.2.1), aI G (r_t 20) 61 (upd v_begins p1.toNatClampNeg v_coded), aI G (r_t 21) 61 v_length, aI G (r_t 22) 800 v_code]) ml_X8_175 ms_X8_is hf (fun q2 h => (c_X8_is G K.2.1) a_t r_t v_people v_day v_texted q1.2.2.2 q1.2.1 q1.2.2.1 (0 : Int32) v_parishes v_holds v_coded v_seen v_inPlan v_inBook v_traced v_imaged v_most v_text (32 : Int32) q2 h) [0, 1] [some 0, some 1, none, none, none, none, none] 7 rfl (by decide +kernel) (by decide +kernel) (fun _ => rfl) (fun _ => rfl) rfl rfl rfl rfl ⟨Nat.zero_le _, Nat.zero_le _⟩ dX8_isClause_169 kc_X8 0 rfl (fun q2 hf => ?_)
        refine j_if_eq C (pc := 172) 182 dX8_isClause_172 (by decide) hf (fun hf => ?_) (fun hf => ?_)
        · refine j_iconst C (pc := 182) (v := 0) (by decide) dX8_isClause_182 ?_
          obtain rfl := Option.some.inj hf
          exact hQ _ _ dX8_isClause_183 (show narrow .boolean (.int (0 : Int32)) = .int (0 : Int32) from rfl)
        · refine j_aload_n C (pc := 175) 1 rfl rfl dX8_isClause_175 ?_
          refine j_cVI C (pc := 176) (As := []) (st := []) (ws' := fun q3 => [oX8 a_t r_t v_people v_day v_texted q3.2.1 q3.2.2.2.2.2.1 q3.2.2.2.2.2.2 q3.2.2.2.2.1 v_parishes v_holds q3.2.2.1 v_seen v_inPlan v_inBook v_traced v_imaged v_most, aI G (r_t 10) 100 v_text, aI G (r_t 18) 61 (upd v_word p1.toNatClampNeg x2), aI G (r_t 19) 61 (upd v_number p1.toNatClampNeg q1.2.1), aI G (r_t 20) 61 (upd v_begins p1.toNatClampNeg v_coded), aI G (r_t 21) 61 v_length, aI G (r_t 22) 800 q3.2.2.2.1]) ml_X8_203 ms_X8_isE hf (fun q3 h => (c_X8_isE G K.2.1 400) a_t r_t v_people v_day v_texted q2.2 q1.2.1 q1.2.2.1 (0 : Int32) v_parishes v_holds v_coded v_seen v_inPlan v_inBook v_traced v_imaged v_most v_text v_code q3 h) [0, 1, 6] [some 0, some 1, none, none, none, none, some 2] 7 rfl (by decide +kernel) (by decide +kernel) (fun _ => rfl) (fun _ => rfl) rfl rfl rfl rfl ⟨Nat.zero_le _, Nat.zero_le _⟩ dX8_isClause_176 kc_X8 0 rfl (fun q3 hf => ?_)
          refine j_if_ne C (pc := 179) 184 dX8_isClause_179 (by decide) hf (fun hf => ?_) (fun hf => ?_)
          · refine j_aload_n C (pc := 184) 1 rfl rfl dX8_isClause_184 ?_
            refine j_get C (pc := 185) kc_X8 fl_X8_48 0 rfl rfl dX8_isClause_185 ?_
            refine j_iload_n C (pc := 188) 2 rfl rfl dX8_isClause_188 ?_
            refine j_aload_n C (pc := 189) 1 rfl rfl dX8_isClause_189 ?_
            refine j_get C (pc := 190) kc_X8 fl_X8_178 0 rfl rfl dX8_isClause_190 ?_
            refine j_aload_n C (pc := 193) 1 rfl rfl dX8_isClause_193 ?_
            refine j_get C (pc := 194) kc_X8 fl_X8_45 0 rfl rfl dX8_isClause_194 ?_
            refine j_iload_n C (pc := 197) 2 rfl rfl dX8_isClause_197 ?_
            refine j_iald C (pc := 198) 4 rfl hf dX8_isClause_198 (fun hf => ?_)
            refine j_isub C (pc := 199) dX8_isClause_199 ?_
            refine j_iast C (pc := 200) (ws' := [oX8 a_t r_t v_people v_day v_texted q3.2.1 q3.2.2.2.2.2.1 q3.2.2.2.2.2.2 q3.2.2.2.2.1 v_parishes v_holds q3.2.2.1 v_seen v_inPlan v_inBook v_traced v_imaged v_most, aI G (r_t 10) 100 v_text, aI G (r_t 18) 61 (upd v_word p1.toNatClampNeg x2), aI G (r_t 19) 61 (upd v_number p1.toNatClampNeg q1.2.1), aI G (r_t 20) 61 (upd v_begins p1.toNatClampNeg v_coded), aI G (r_t 21) 61 (upd v_length p1.toNatClampNeg (q3.2.2.1 - ((upd v_begins p1.toNatClampNeg v_coded) p1.toNatClampNeg))), aI G (r_t 22) 800 q3.2.2.2.1]) 5 rfl hf rfl dX8_isClause_200 (fun hf => ?_)
            refine j_iconst C (pc := 201) (v := 1) (by decide) dX8_isClause_201 ?_
            obtain rfl := Option.some.inj hf
            exact hQ _ _ dX8_isClause_202 (show narrow .boolean (.int (1 : Int32)) = .int (1 : Int32) from rfl)
          · refine j_iconst C (pc := 182) (v := 0) (by decide) dX8_isClause_182 ?_
            obtain rfl := Option.some.inj hf
            exact hQ _ _ dX8_isClause_183 (show narrow .boolean (.int (0 : Int32)) = .int (0 : Int32) from rfl)
    · refine j_iconst C (pc := 127) (v := 0) (by decide) dX8_isClause_127 ?_
      obtain rfl := Option.some.inj hf
      exact hQ _ _ dX8_isClause_128 (show narrow .boolean (.int (0 : Int32)) = .int (0 : Int32) from rfl)
def f_X8_isClause_69 (v_texted : Int32) (v_at : Int32) (v_value : Int32) (v_digits : Int32) (v_open : Int32) (v_coded : Int32) (v_text : Nat → Int32) (v_word : Nat → Int32) (v_number : Nat → Int32) (v_begins : Nat → Int32) (v_length : Nat → Int32) (v_code : Nat → Int32) (p1 : Int32) (x2 : Int32) : Option (Int32 × Int32 × Int32 × Int32 × (Nat → Int32) × (Nat → Int32) × (Nat → Int32) × Int32 × (Nat → Int32) × Int32 × (Nat → Int32)) := (if x2 = 0 then ((f_X8_isAll v_texted v_at v_text 0).bind fun q3 => (f_X8_isClause_115 v_texted v_value v_digits v_open v_coded v_text v_word v_number v_begins v_length v_code p1 q3.1 x2 q3.2)) else (if x2 = (1 : Int32) then ((f_X8_isAll v_texted v_at v_text 1).bind fun q2 => (f_X8_isClause_115 v_texted v_value v_digits v_open v_coded v_text v_word v_number v_begins v_length v_code p1 q2.1 x2 q2.2)) else (if x2 = (2 : Int32) then ((f_X8_isAll v_texted v_at v_text 2).bind fun q1 => (if q1.1 = 0 then (f_X8_isClause_115 v_texted v_value v_digits v_open v_coded v_text v_word v_number v_begins v_length v_code p1 (0 : Int32) x2 q1.2) else (f_X8_isClause_115 v_texted v_value v_digits v_open v_coded v_text v_word v_number v_begins v_length v_code p1 (1 : Int32) x2 q1.2))) else (f_X8_isClause_115 v_texted v_value v_digits v_open v_coded v_text v_word v_number v_begins v_length v_code p1 (0 : Int32) x2 v_at))))
set_option maxRecDepth 20000 in
set_option maxHeartbeats 1000000 in
theorem t_X8_isClause_69 {G : Gx} {K : Kx} (C : Cx G K cX8_isClause RX8 4 407) {a_t : Nat} {r_t : Nat → Nat} {v_people : Int32} {v_day : Int32} {v_texted : Int32} {v_at : Int32} {v_value : Int32} {v_digits : Int32} {v_open : Int32} {v_parishes : Int32} {v_holds : Int32} {v_coded : Int32} {v_seen : Int32} {v_inPlan : Int32} {v_inBook : Int32} {v_traced : Int32} {v_imaged : Int32} {v_most : Int32} {v_text : Nat → Int32} {v_word : Nat → Int32} {v_number : Nat → Int32} {v_begins : Nat → Int32} {v_length : Nat → Int32} {v_code : Nat → Int32} {p1 : Int32} {q : Int32 × Int32 × Int32 × Int32 × (Nat → Int32) × (Nat → Int32) × (Nat → Int32) × Int32 × (Nat → Int32) × Int32 × (Nat → Int32)} (hQ : k_retI G K cX8_isClause 4 .boolean [oX8 a_t r_t v_people v_day v_texted q.2.1 q.2.2.1 q.2.2.2.1 q.2.2.2.2.2.2.2.1 v_parishes v_holds q.2.2.2.2.2.2.2.2.2.1 v_seen v_inPlan v_inBook v_traced v_imaged v_most, aI G (r_t 10) 100 v_text, aI G (r_t 18) 61 q.2.2.2.2.1, aI G (r_t 19) 61 q.2.2.2.2.2.1, aI G (r_t 20) 61 q.2.2.2.2.2.2.1, aI G (r_t 21) 61 q.2.2.2.2.2.2.2.2.1, aI G (r_t 22) 800 q.2.2.2.2.2.2.2.2.2.2] q.1) {x2 : Int32} (hf : f_X8_isClause_69 v_texted v_at v_value v_digits v_open v_coded v_text v_word v_number v_begins v_length v_code p1 x2 = some q) : J G K 4 0 0 [oX8 a_t r_t v_people v_day v_texted v_at v_value v_digits v_open v_parishes v_holds v_coded v_seen v_inPlan v_inBook v_traced v_imaged v_most, aI G (r_t 10) 100 v_text, aI G (r_t 18) 61 v_word, aI G (r_t 19) 61 v_number, aI G (r_t 20) 61 v_begins, aI G (r_t 21) 61 v_length, aI G (r_t 22) 800 v_code] [(0, .ref a_t), (1, .int p1), (2, .int x2)] 69 [] := by
  unfold f_X8_isClause_69 at hf
  refine j_iload_n C (pc := 69) 2 rfl rfl dX8_isClause_69 ?_
  refine j_if_ne C (pc := 70) 82 dX8_isClause_70 (by decide) hf (fun hf => ?_) (fun hf => ?_)
  · refine j_iload_n C (pc := 82) 2 rfl rfl dX8_isClause_82 ?_
    refine j_iconst C (pc := 83) (v := 1) (by decide) dX8_isClause_83 ?_
    refine j_icmp_ne C (pc := 84) 96 dX8_isClause_84 (by decide) hf (fun hf => ?_) (fun hf => ?_)
    · refine j_iload_n C (pc := 96) 2 rfl rfl dX8_isClause_96 ?_
      refine j_iconst C (pc := 97) (v := 2) (by decide) dX8_isClause_97 ?_
      refine j_icmp_ne C (pc := 98) 114 dX8_isClause_98 (by decide) hf (fun hf => ?_) (fun hf => ?_)
      · refine j_iconst C (pc := 114) (v := 0) (by decide) dX8_isClause_114 ?_
        exact t_X8_isClause_115 C hQ hf
      · refine j_aload_n C (pc := 101) 0 rfl rfl dX8_isClause_101 ?_
        refine j_ldcS C (pc := 102) (tx := "need ") (i := 2) (by decide) dX8_isClause_102 ?_
        refine j_cVI C (pc := 104) (As := [.ref (G.2.2 (10 + 2))]) (st := []) (ws' := fun q1 => [oX8 a_t r_t v_people v_day v_texted q1.2 v_value v_digits v_open v_parishes v_holds v_coded v_seen v_inPlan v_inBook v_traced v_imaged v_most, aI G (r_t 10) 100 v_text, aI G (r_t 18) 61 v_word, aI G (r_t 19) 61 v_number, aI G (r_t 20) 61 v_begins, aI G (r_t 21) 61 v_length, aI G (r_t 22) 800 v_code]) ml_X8_214 ms_X8_isAll hf (fun q1 h => (c_X8_isAll G K.2.1) a_t r_t v_people v_day v_texted v_at v_value v_digits v_open v_parishes v_holds v_coded v_seen v_inPlan v_inBook v_traced v_imaged v_most v_text 2 q1 h) [0, 1] [some 0, some 1, none, none, none, none, none] 7 rfl (by decide +kernel) (by decide +kernel) (fun _ => rfl) (fun _ => rfl) rfl rfl rfl rfl ⟨Nat.zero_le _, Nat.zero_le _⟩ dX8_isClause_104 kc_X8 0 rfl (fun q1 hf => ?_)
        refine j_if_eq C (pc := 107) 114 dX8_isClause_107 (by decide) hf (fun hf => ?_) (fun hf => ?_)
        · refine j_iconst C (pc := 114) (v := 0) (by decide) dX8_isClause_114 ?_
          exact t_X8_isClause_115 C hQ hf
        · refine j_iconst C (pc := 110) (v := 1) (by decide) dX8_isClause_110 ?_
          refine j_goto C (pc := 111) 115 dX8_isClause_111 (by decide) ?_
          exact t_X8_isClause_115 C hQ hf
    · refine j_aload_n C (pc := 87) 0 rfl rfl dX8_isClause_87 ?_
      refine j_ldcS C (pc := 88) (tx := "balm ") (i := 1) (by decide) dX8_isClause_88 ?_
      refine j_cVI C (pc := 90) (As := [.ref (G.2.2 (10 + 1))]) (st := []) (ws' := fun q2 => [oX8 a_t r_t v_people v_day v_texted q2.2 v_value v_digits v_open v_parishes v_holds v_coded v_seen v_inPlan v_inBook v_traced v_imaged v_most, aI G (r_t 10) 100 v_text, aI G (r_t 18) 61 v_word, aI G (r_t 19) 61 v_number, aI G (r_t 20) 61 v_begins, aI G (r_t 21) 61 v_length, aI G (r_t 22) 800 v_code]) ml_X8_214 ms_X8_isAll hf (fun q2 h => (c_X8_isAll G K.2.1) a_t r_t v_people v_day v_texted v_at v_value v_digits v_open v_parishes v_holds v_coded v_seen v_inPlan v_inBook v_traced v_imaged v_most v_text 1 q2 h) [0, 1] [some 0, some 1, none, none, none, none, none] 7 rfl (by decide +kernel) (by decide +kernel) (fun _ => rfl) (fun _ => rfl) rfl rfl rfl rfl ⟨Nat.zero_le _, Nat.zero_le _⟩ dX8_isClause_90 kc_X8 0 rfl (fun q2 hf => ?_)
      refine j_goto C (pc := 93) 115 dX8_isClause_93 (by decide) ?_
      exact t_X8_isClause_115 C hQ hf
  · refine j_aload_n C (pc := 73) 0 rfl rfl dX8_isClause_73 ?_
    refine j_ldcS C (pc := 74) (tx := "sting ") (i := 0) (by decide) dX8_isClause_74 ?_
    refine j_cVI C (pc := 76) (As := [.ref (G.2.2 (10 + 0))]) (st := []) (ws' := fun q3 => [oX8 a_t r_t v_people v_day v_texted q3.2 v_value v_digits v_open v_parishes v_holds v_coded v_seen v_inPlan v_inBook v_traced v_imaged v_most, aI G (r_t 10) 100 v_text, aI G (r_t 18) 61 v_word, aI G (r_t 19) 61 v_number, aI G (r_t 20) 61 v_begins, aI G (r_t 21) 61 v_length, aI G (r_t 22) 800 v_code]) ml_X8_214 ms_X8_isAll hf (fun q3 h => (c_X8_isAll G K.2.1) a_t r_t v_people v_day v_texted v_at v_value v_digits v_open v_parishes v_holds v_coded v_seen v_inPlan v_inBook v_traced v_imaged v_most v_text 0 q3 h) [0, 1] [some 0, some 1, none, none, none, none, none] 7 rfl (by decide +kernel) (by decide +kernel) (fun _ => rfl) (fun _ => rfl) rfl rfl rfl rfl ⟨Nat.zero_le _, Nat.zero_le _⟩ dX8_isClause_76 kc_X8 0 rfl (fun q3 hf => ?_)
    refine j_goto C (pc := 79) 115 dX8_isClause_79 (by decide) ?_
    exact t_X8_isClause_115 C hQ hf
def f_X8_isClause (v_texted : Int32) (v_at : Int32) (v_value : Int32) (v_digits : Int32) (v_open : Int32) (v_coded : Int32) (v_text : Nat → Int32) (v_word : Nat → Int32) (v_number : Nat → Int32) (v_begins : Nat → Int32) (v_length : Nat → Int32) (v_code : Nat → Int32) (p1 : Int32) : Option (Int32 × Int32 × Int32 × Int32 × (Nat → Int32) × (Nat → Int32) × (Nat → Int32) × Int32 × (Nat → Int32) × Int32 × (Nat → Int32)) := (if v_texted ≤ v_at then (f_X8_isClause_69 v_texted v_at v_value v_digits v_open v_coded v_text v_word v_number v_begins v_length v_code p1 (-1 : Int32)) else (gd v_at 100 (if (v_text v_at.toNatClampNeg) = (115 : Int32) then (f_X8_isClause_69 v_texted v_at v_value v_digits v_open v_coded v_text v_word v_number v_begins v_length v_code p1 (0 : Int32)) else (gd v_at 100 (if (v_text v_at.toNatClampNeg) = (98 : Int32) then (f_X8_isClause_69 v_texted v_at v_value v_digits v_open v_coded v_text v_word v_number v_begins v_length v_code p1 (1 : Int32)) else (gd v_at 100 (if (v_text v_at.toNatClampNeg) = (110 : Int32) then (f_X8_isClause_69 v_texted v_at v_value v_digits v_open v_coded v_text v_word v_number v_begins v_length v_code p1 (2 : Int32)) else (f_X8_isClause_69 v_texted v_at v_value v_digits v_open v_coded v_text v_word v_number v_begins v_length v_code p1 (-1 : Int32)))))))))
set_option maxRecDepth 20000 in
set_option maxHeartbeats 1000000 in
theorem t_X8_isClause {G : Gx} {K : Kx} (C : Cx G K cX8_isClause RX8 4 407) {a_t : Nat} {r_t : Nat → Nat} {v_people : Int32} {v_day : Int32} {v_texted : Int32} {v_at : Int32} {v_value : Int32} {v_digits : Int32} {v_open : Int32} {v_parishes : Int32} {v_holds : Int32} {v_coded : Int32} {v_seen : Int32} {v_inPlan : Int32} {v_inBook : Int32} {v_traced : Int32} {v_imaged : Int32} {v_most : Int32} {v_text : Nat → Int32} {v_word : Nat → Int32} {v_number : Nat → Int32} {v_begins : Nat → Int32} {v_length : Nat → Int32} {v_code : Nat → Int32} {p1 : Int32} {q : Int32 × Int32 × Int32 × Int32 × (Nat → Int32) × (Nat → Int32) × (Nat → Int32) × Int32 × (Nat → Int32) × Int32 × (Nat → Int32)} (hQ : k_retI G K cX8_isClause 4 .boolean [oX8 a_t r_t v_people v_day v_texted q.2.1 q.2.2.1 q.2.2.2.1 q.2.2.2.2.2.2.2.1 v_parishes v_holds q.2.2.2.2.2.2.2.2.2.1 v_seen v_inPlan v_inBook v_traced v_imaged v_most, aI G (r_t 10) 100 v_text, aI G (r_t 18) 61 q.2.2.2.2.1, aI G (r_t 19) 61 q.2.2.2.2.2.1, aI G (r_t 20) 61 q.2.2.2.2.2.2.1, aI G (r_t 21) 61 q.2.2.2.2.2.2.2.2.1, aI G (r_t 22) 800 q.2.2.2.2.2.2.2.2.2.2] q.1) (hf : f_X8_isClause v_texted v_at v_value v_digits v_open v_coded v_text v_word v_number v_begins v_length v_code p1 = some q) : J G K 4 0 0 [oX8 a_t r_t v_people v_day v_texted v_at v_value v_digits v_open v_parishes v_holds v_coded v_seen v_inPlan v_inBook v_traced v_imaged v_most, aI G (r_t 10) 100 v_text, aI G (r_t 18) 61 v_word, aI G (r_t 19) 61 v_number, aI G (r_t 20) 61 v_begins, aI G (r_t 21) 61 v_length, aI G (r_t 22) 800 v_code] [(0, .ref a_t), (1, .int p1)] 0 [] := by
  unfold f_X8_isClause at hf
  refine j_iconst C (pc := 0) (v := -1) (by decide) dX8_isClause_0 ?_
  refine j_istore_n C (pc := 1) (L' := [(2, .int (-1 : Int32)), (0, .ref a_t), (1, .int p1)]) dX8_isClause_1 rfl (by decide) rfl ?_
  refine j_aload_n C (pc := 2) 1 rfl rfl dX8_isClause_2 ?_
  refine j_get C (pc := 3) kc_X8 fl_X8_153 0 rfl rfl dX8_isClause_3 ?_
  refine j_aload_n C (pc := 6) 1 rfl rfl dX8_isClause_6 ?_
  refine j_get C (pc := 7) kc_X8 fl_X8_150 0 rfl rfl dX8_isClause_7 ?_
  refine j_icmp_ge C (pc := 10) 69 dX8_isClause_10 (by decide) hf (fun hf => ?_) (fun hf => ?_)
  · refine j_sub [1, 2, 0] rfl ?_
    exact t_X8_isClause_69 C hQ hf
  · refine j_aload_n C (pc := 13) 1 rfl rfl dX8_isClause_13 ?_
    refine j_get C (pc := 14) kc_X8 fl_X8_33 0 rfl rfl dX8_isClause_14 ?_
    refine j_aload_n C (pc := 17) 1 rfl rfl dX8_isClause_17 ?_
    refine j_get C (pc := 18) kc_X8 fl_X8_153 0 rfl rfl dX8_isClause_18 ?_
    refine j_iald C (pc := 21) 1 rfl hf dX8_isClause_21 (fun hf => ?_)
    refine j_bipush C (pc := 22) (v := 115) (by decide) dX8_isClause_22 ?_
    refine j_icmp_ne C (pc := 24) 31 dX8_isClause_24 (by decide) hf (fun hf => ?_) (fun hf => ?_)
    · refine j_aload_n C (pc := 31) 1 rfl rfl dX8_isClause_31 ?_
      refine j_get C (pc := 32) kc_X8 fl_X8_33 0 rfl rfl dX8_isClause_32 ?_
      refine j_aload_n C (pc := 35) 1 rfl rfl dX8_isClause_35 ?_
      refine j_get C (pc := 36) kc_X8 fl_X8_153 0 rfl rfl dX8_isClause_36 ?_
      refine j_iald C (pc := 39) 1 rfl hf dX8_isClause_39 (fun hf => ?_)
      refine j_bipush C (pc := 40) (v := 98) (by decide) dX8_isClause_40 ?_
      refine j_icmp_ne C (pc := 42) 49 dX8_isClause_42 (by decide) hf (fun hf => ?_) (fun hf => ?_)
      · refine j_aload_n C (pc := 49) 1 rfl rfl dX8_isClause_49 ?_
        refine j_get C (pc := 50) kc_X8 fl_X8_33 0 rfl rfl dX8_isClause_50 ?_
        refine j_aload_n C (pc := 53) 1 rfl rfl dX8_isClause_53 ?_
        refine j_get C (pc := 54) kc_X8 fl_X8_153 0 rfl rfl dX8_isClause_54 ?_
        refine j_iald C (pc := 57) 1 rfl hf dX8_isClause_57 (fun hf => ?_)
        refine j_bipush C (pc := 58) (v := 110) (by decide) dX8_isClause_58 ?_
        refine j_icmp_ne C (pc := 60) 67 dX8_isClause_60 (by decide) hf (fun hf => ?_) (fun hf => ?_)
        · refine j_iconst C (pc := 67) (v := -1) (by decide) dX8_isClause_67 ?_
          refine j_istore_n C (pc := 68) (L' := [(2, .int (-1 : Int32)), (0, .ref a_t), (1, .int p1)]) dX8_isClause_68 rfl (by decide) rfl ?_
          refine j_sub [1, 2, 0] rfl ?_
          exact t_X8_isClause_69 C hQ hf
        · refine j_iconst C (pc := 63) (v := 2) (by decide) dX8_isClause_63 ?_
          refine j_goto C (pc := 64) 68 dX8_isClause_64 (by decide) ?_
          refine j_istore_n C (pc := 68) (L' := [(2, .int (2 : Int32)), (0, .ref a_t), (1, .int p1)]) dX8_isClause_68 rfl (by decide) rfl ?_
          refine j_sub [1, 2, 0] rfl ?_
          exact t_X8_isClause_69 C hQ hf
      · refine j_iconst C (pc := 45) (v := 1) (by decide) dX8_isClause_45 ?_
        refine j_goto C (pc := 46) 68 dX8_isClause_46 (by decide) ?_
        refine j_istore_n C (pc := 68) (L' := [(2, .int (1 : Int32)), (0, .ref a_t), (1, .int p1)]) dX8_isClause_68 rfl (by decide) rfl ?_
        refine j_sub [1, 2, 0] rfl ?_
        exact t_X8_isClause_69 C hQ hf
    · refine j_iconst C (pc := 27) (v := 0) (by decide) dX8_isClause_27 ?_
      refine j_goto C (pc := 28) 68 dX8_isClause_28 (by decide) ?_
      refine j_istore_n C (pc := 68) (L' := [(2, .int (0 : Int32)), (0, .ref a_t), (1, .int p1)]) dX8_isClause_68 rfl (by decide) rfl ?_
      refine j_sub [1, 2, 0] rfl ?_
      exact t_X8_isClause_69 C hQ hf
def ct_X8_isClause (G : Gx) (l : Launch) (F : Int32 → Int32 → Int32 → Int32 → Int32 → Int32 → (Nat → Int32) → (Nat → Int32) → (Nat → Int32) → (Nat → Int32) → (Nat → Int32) → (Nat → Int32) → Int32 → Option (Int32 × Int32 × Int32 × Int32 × (Nat → Int32) × (Nat → Int32) × (Nat → Int32) × Int32 × (Nat → Int32) × Int32 × (Nat → Int32))) (lv : Nat) : Prop := ∀ (a_t : Nat) (r_t : Nat → Nat) (v_people : Int32) (v_day : Int32) (v_texted : Int32) (v_at : Int32) (v_value : Int32) (v_digits : Int32) (v_open : Int32) (v_parishes : Int32) (v_holds : Int32) (v_coded : Int32) (v_seen : Int32) (v_inPlan : Int32) (v_inBook : Int32) (v_traced : Int32) (v_imaged : Int32) (v_most : Int32) (v_text : Nat → Int32) (v_word : Nat → Int32) (v_number : Nat → Int32) (v_begins : Nat → Int32) (v_length : Nat → Int32) (v_code : Nat → Int32) (p1 : Int32), ∀ (q : Int32 × Int32 × Int32 × Int32 × (Nat → Int32) × (Nat → Int32) × (Nat → Int32) × Int32 × (Nat → Int32) × Int32 × (Nat → Int32)), F v_texted v_at v_value v_digits v_open v_coded v_text v_word v_number v_begins v_length v_code p1 = some q → MI G l yX8_isClause cX8_isClause 4 .boolean lv [.ref a_t, .int p1] [oX8 a_t r_t v_people v_day v_texted v_at v_value v_digits v_open v_parishes v_holds v_coded v_seen v_inPlan v_inBook v_traced v_imaged v_most, aI G (r_t 10) 100 v_text, aI G (r_t 18) 61 v_word, aI G (r_t 19) 61 v_number, aI G (r_t 20) 61 v_begins, aI G (r_t 21) 61 v_length, aI G (r_t 22) 800 v_code] [oX8 a_t r_t v_people v_day v_texted q.2.1 q.2.2.1 q.2.2.2.1 q.2.2.2.2.2.2.2.1 v_parishes v_holds q.2.2.2.2.2.2.2.2.2.1 v_seen v_inPlan v_inBook v_traced v_imaged v_most, aI G (r_t 10) 100 v_text, aI G (r_t 18) 61 q.2.2.2.2.1, aI G (r_t 19) 61 q.2.2.2.2.2.1, aI G (r_t 20) 61 q.2.2.2.2.2.2.1, aI G (r_t 21) 61 q.2.2.2.2.2.2.2.2.1, aI G (r_t 22) 800 q.2.2.2.2.2.2.2.2.2.2] q.1
theorem c_X8_isClause (G : Gx) (l : Launch) : ct_X8_isClause G l f_X8_isClause 407 := by
  intro a_t r_t v_people v_day v_texted v_at v_value v_digits v_open v_parishes v_holds v_coded v_seen v_inPlan v_inBook v_traced v_imaged v_most v_text v_word v_number v_begins v_length v_code p1 q hf
  exact mI_of (by decide +kernel) rfl (fun K hl C hQ => t_X8_isClause C hQ hf)
-- X8_isTape
def f_X8_isTape (p1 : Int32) : Option (Int32) := ((f_X8_within p1 (0 : Int32) (5 : Int32)).bind fun q1 => (gn .boolean q1 (some q1)))
set_option maxRecDepth 20000 in
set_option maxHeartbeats 1000000 in
theorem t_X8_isTape {G : Gx} {K : Kx} (C : Cx G K cX8_isTape RX8 1 2) {p1 : Int32} {q : Int32} (hQ : k_retI G K cX8_isTape 1 .boolean [] q) (hf : f_X8_isTape p1 = some q) : J G K 1 0 0 [] [(0, .int p1)] 0 [] := by
  unfold f_X8_isTape at hf
  refine j_iload_n C (pc := 0) 0 rfl rfl dX8_isTape_0 ?_
  refine j_iconst C (pc := 1) (v := 0) (by decide) dX8_isTape_1 ?_
  refine j_iconst C (pc := 2) (v := 5) (by decide) dX8_isTape_2 ?_
  refine j_cSI C (pc := 3) (As := [.int p1, .int (0 : Int32), .int (5 : Int32)]) (st := []) (ws' := fun q1 => []) ml_X8_117 ms_X8_within hf (fun q1 h => (c_X8_within G K.2.1) p1 (0 : Int32) (5 : Int32) q1 h) [] [] 0 rfl (by decide +kernel) (by decide +kernel) (fun _ => rfl) (fun _ => rfl) rfl rfl rfl rfl ⟨Nat.zero_le _, Nat.zero_le _⟩ dX8_isTape_3 (fun q1 hf => ?_)
  obtain ⟨hn, hf⟩ := gn_boolean hf
  obtain rfl := Option.some.inj hf
  exact hQ _ _ dX8_isTape_6 hn
def ct_X8_isTape (G : Gx) (l : Launch) (F : Int32 → Option (Int32)) (lv : Nat) : Prop := ∀ (p1 : Int32), ∀ (q : Int32), F p1 = some q → MI G l yX8_isTape cX8_isTape 1 .boolean lv [.int p1] [] [] q
theorem c_X8_isTape (G : Gx) (l : Launch) : ct_X8_isTape G l f_X8_isTape 2 := by
  intro p1 q hf
  exact mI_of (by decide +kernel) rfl (fun K hl C hQ => t_X8_isTape C hQ hf)
-- X8_kept
def f_X8_kept (p1 : Int32) (p2 : Int64) : Option (Int64) := (if p1 = (0 : Int32) then (some (((p2.toInt32).toInt8.toInt32).toInt64)) else (if p1 = (1 : Int32) then (some (((p2.toInt32).toInt16.toInt32).toInt64)) else (if p1 = (2 : Int32) then (some ((p2.toInt32).toInt64)) else (if p1 = (3 : Int32) then (some p2) else (if (lg_cmp p2 (0 : Int64)) = 0 then (some (0 : Int64)) else (some (1 : Int64)))))))
set_option maxRecDepth 20000 in
set_option maxHeartbeats 1000000 in
theorem t_X8_kept {G : Gx} {K : Kx} (C : Cx G K cX8_kept RX8 3 1) {p1 : Int32} {p2 : Int64} {q : Int64} (hQ : k_retL G K cX8_kept 3 [] q) (hf : f_X8_kept p1 p2 = some q) : J G K 3 0 0 [] [(0, .int p1), (1, .long p2)] 0 [] := by
  unfold f_X8_kept at hf
  refine j_iload_n C (pc := 0) 0 rfl rfl dX8_kept_0 ?_
  obtain ⟨h0, hf⟩ | ⟨h0, hf⟩ := k_or hf
  · refine j_tabIn C (pc := 1) 32 dX8_kept_1 (by rw [h0]; decide) (by rw [h0]; decide) (by rw [h0] <;> rfl) (by decide) ?_
    refine j_lload_n C (pc := 32) 1 rfl rfl dX8_kept_32 ?_
    refine j_l2i C (pc := 33) dX8_kept_33 ?_
    refine j_i2b C (pc := 34) dX8_kept_34 ?_
    refine j_i2l C (pc := 35) dX8_kept_35 ?_
    obtain rfl := Option.some.inj hf
    exact hQ _ _ dX8_kept_36
  · skip
    obtain ⟨h1, hf⟩ | ⟨h1, hf⟩ := k_or hf
    · refine j_tabIn C (pc := 1) 37 dX8_kept_1 (by rw [h1]; decide) (by rw [h1]; decide) (by rw [h1] <;> rfl) (by decide) ?_
      refine j_lload_n C (pc := 37) 1 rfl rfl dX8_kept_37 ?_
      refine j_l2i C (pc := 38) dX8_kept_38 ?_
      refine j_i2s C (pc := 39) dX8_kept_39 ?_
      refine j_i2l C (pc := 40) dX8_kept_40 ?_
      obtain rfl := Option.some.inj hf
      exact hQ _ _ dX8_kept_41
    · skip
      obtain ⟨h2, hf⟩ | ⟨h2, hf⟩ := k_or hf
      · refine j_tabIn C (pc := 1) 42 dX8_kept_1 (by rw [h2]; decide) (by rw [h2]; decide) (by rw [h2] <;> rfl) (by decide) ?_
        refine j_lload_n C (pc := 42) 1 rfl rfl dX8_kept_42 ?_
        refine j_l2i C (pc := 43) dX8_kept_43 ?_
        refine j_i2l C (pc := 44) dX8_kept_44 ?_
        obtain rfl := Option.some.inj hf
        exact hQ _ _ dX8_kept_45
      · skip
        obtain ⟨h3, hf⟩ | ⟨h3, hf⟩ := k_or hf
        · refine j_tabIn C (pc := 1) 46 dX8_kept_1 (by rw [h3]; decide) (by rw [h3]; decide) (by rw [h3] <;> rfl) (by decide) ?_
          refine j_lload_n C (pc := 46) 1 rfl rfl dX8_kept_46 ?_
          obtain rfl := Option.some.inj hf
          exact hQ _ _ dX8_kept_47
        · skip
          have hout : (p1).toInt < 0 ∨ 3 < (p1).toInt := by
            have := lv_neT (a := 0) h0 rfl
            have := lv_neT (a := 1) h1 rfl
            have := lv_neT (a := 2) h2 rfl
            have := lv_neT (a := 3) h3 rfl
            omega
          refine j_tabOut C (pc := 1) 48 dX8_kept_1 hout (by decide) ?_
          refine j_lload_n C (pc := 48) 1 rfl rfl dX8_kept_48 ?_
          refine j_lconst C (pc := 49) (v := 0) (by decide) dX8_kept_49 ?_
          refine j_lcmp C (pc := 50) dX8_kept_50 ?_
          refine j_if_eq C (pc := 51) 58 dX8_kept_51 (by decide) hf (fun hf => ?_) (fun hf => ?_)
          · refine j_lconst C (pc := 58) (v := 0) (by decide) dX8_kept_58 ?_
            obtain rfl := Option.some.inj hf
            exact hQ _ _ dX8_kept_59
          · refine j_lconst C (pc := 54) (v := 1) (by decide) dX8_kept_54 ?_
            refine j_goto C (pc := 55) 59 dX8_kept_55 (by decide) ?_
            obtain rfl := Option.some.inj hf
            exact hQ _ _ dX8_kept_59
def ct_X8_kept (G : Gx) (l : Launch) (F : Int32 → Int64 → Option (Int64)) (lv : Nat) : Prop := ∀ (p1 : Int32) (p2 : Int64), ∀ (q : Int64), F p1 p2 = some q → ML G l yX8_kept cX8_kept 3 .long lv [.int p1, .long p2] [] [] q
theorem c_X8_kept (G : Gx) (l : Launch) : ct_X8_kept G l f_X8_kept 1 := by
  intro p1 p2 q hf
  exact mL_of (by decide +kernel) rfl (fun K hl C hQ => t_X8_kept C hQ hf)
-- X8_item
def f_X8_item (v_tapeSort : Nat → Int32) (v_tapeSize : Nat → Int32) (v_items : Nat → Int64) (p1 : Int32) (p2 : Int32) (p3 : Int64) : Option (Int32 × (Nat → Int64)) := ((f_X8_isTape p1).bind fun q1 => (if q1 = 0 then (some ((-1 : Int32), v_items)) else (gd p1 6 (if 0 ≤ (v_tapeSort p1.toNatClampNeg) then (gd p1 6 ((f_X8_within p2 (0 : Int32) ((v_tapeSize p1.toNatClampNeg) - (1 : Int32))).bind fun q2 => (if q2 = 0 then (some ((-13 : Int32), v_items)) else (gd p1 6 ((f_X8_kept (v_tapeSort p1.toNatClampNeg) p3).bind fun q3 => (gd (((60 : Int32) * p1) + p2) 360 (some ((1 : Int32), vp_updL v_items (((60 : Int32) * p1) + p2).toNatClampNeg q3)))))))) else (some ((-11 : Int32), v_items))))))
set_option maxRecDepth 20000 in
set_option maxHeartbeats 1000000 in
theorem t_X8_item {G : Gx} {K : Kx} (C : Cx G K cX8_item RX8 5 3) {a_t : Nat} {r_t : Nat → Nat} {v_people : Int32} {v_day : Int32} {v_texted : Int32} {v_at : Int32} {v_value : Int32} {v_digits : Int32} {v_open : Int32} {v_parishes : Int32} {v_holds : Int32} {v_coded : Int32} {v_seen : Int32} {v_inPlan : Int32} {v_inBook : Int32} {v_traced : Int32} {v_imaged : Int32} {v_most : Int32} {v_tapeSort : Nat → Int32} {v_tapeSize : Nat → Int32} {v_items : Nat → Int64} {p1 : Int32} {p2 : Int32} {p3 : Int64} {q : Int32 × (Nat → Int64)} (hQ : k_retI G K cX8_item 5 .int [oX8 a_t r_t v_people v_day v_texted v_at v_value v_digits v_open v_parishes v_holds v_coded v_seen v_inPlan v_inBook v_traced v_imaged v_most, aI G (r_t 45) 6 v_tapeSort, aI G (r_t 46) 6 v_tapeSize, aJ G (r_t 47) 360 q.2] q.1) (hf : f_X8_item v_tapeSort v_tapeSize v_items p1 p2 p3 = some q) : J G K 5 0 0 [oX8 a_t r_t v_people v_day v_texted v_at v_value v_digits v_open v_parishes v_holds v_coded v_seen v_inPlan v_inBook v_traced v_imaged v_most, aI G (r_t 45) 6 v_tapeSort, aI G (r_t 46) 6 v_tapeSize, aJ G (r_t 47) 360 v_items] [(0, .ref a_t), (1, .int p1), (2, .int p2), (3, .long p3)] 0 [] := by
  unfold f_X8_item at hf
  refine j_iload_n C (pc := 0) 1 rfl rfl dX8_item_0 ?_
  refine j_cSI C (pc := 1) (As := [.int p1]) (st := []) (ws' := fun q1 => [oX8 a_t r_t v_people v_day v_texted v_at v_value v_digits v_open v_parishes v_holds v_coded v_seen v_inPlan v_inBook v_traced v_imaged v_most, aI G (r_t 45) 6 v_tapeSort, aI G (r_t 46) 6 v_tapeSize, aJ G (r_t 47) 360 v_items]) ml_X8_346 ms_X8_isTape hf (fun q1 h => (c_X8_isTape G K.2.1) p1 q1 h) [] [none, none, none, none] 4 rfl (by decide +kernel) (by decide +kernel) (fun _ => rfl) (fun _ => rfl) rfl rfl rfl rfl ⟨Nat.zero_le _, Nat.zero_le _⟩ dX8_item_1 (fun q1 hf => ?_)
  refine j_if_ne C (pc := 4) 9 dX8_item_4 (by decide) hf (fun hf => ?_) (fun hf => ?_)
  · refine j_aload_n C (pc := 9) 0 rfl rfl dX8_item_9 ?_
    refine j_get C (pc := 10) kc_X8 fl_X8_100 0 rfl rfl dX8_item_10 ?_
    refine j_iload_n C (pc := 13) 1 rfl rfl dX8_item_13 ?_
    refine j_iald C (pc := 14) 1 rfl hf dX8_item_14 (fun hf => ?_)
    refine j_if_ge C (pc := 15) 21 dX8_item_15 (by decide) hf (fun hf => ?_) (fun hf => ?_)
    · refine j_iload_n C (pc := 21) 2 rfl rfl dX8_item_21 ?_
      refine j_iconst C (pc := 22) (v := 0) (by decide) dX8_item_22 ?_
      refine j_aload_n C (pc := 23) 0 rfl rfl dX8_item_23 ?_
      refine j_get C (pc := 24) kc_X8 fl_X8_103 0 rfl rfl dX8_item_24 ?_
      refine j_iload_n C (pc := 27) 1 rfl rfl dX8_item_27 ?_
      refine j_iald C (pc := 28) 2 rfl hf dX8_item_28 (fun hf => ?_)
      refine j_iconst C (pc := 29) (v := 1) (by decide) dX8_item_29 ?_
      refine j_isub C (pc := 30) dX8_item_30 ?_
      refine j_cSI C (pc := 31) (As := [.int p2, .int (0 : Int32), .int ((v_tapeSize p1.toNatClampNeg) - (1 : Int32))]) (st := []) (ws' := fun q2 => [oX8 a_t r_t v_people v_day v_texted v_at v_value v_digits v_open v_parishes v_holds v_coded v_seen v_inPlan v_inBook v_traced v_imaged v_most, aI G (r_t 45) 6 v_tapeSort, aI G (r_t 46) 6 v_tapeSize, aJ G (r_t 47) 360 v_items]) ml_X8_117 ms_X8_within hf (fun q2 h => (c_X8_within G K.2.1) p2 (0 : Int32) ((v_tapeSize p1.toNatClampNeg) - (1 : Int32)) q2 h) [] [none, none, none, none] 4 rfl (by decide +kernel) (by decide +kernel) (fun _ => rfl) (fun _ => rfl) rfl rfl rfl rfl ⟨Nat.zero_le _, Nat.zero_le _⟩ dX8_item_31 (fun q2 hf => ?_)
      refine j_if_ne C (pc := 34) 40 dX8_item_34 (by decide) hf (fun hf => ?_) (fun hf => ?_)
      · refine j_aload_n C (pc := 40) 0 rfl rfl dX8_item_40 ?_
        refine j_get C (pc := 41) kc_X8 fl_X8_106 0 rfl rfl dX8_item_41 ?_
        refine j_bipush C (pc := 44) (v := 60) (by decide) dX8_item_44 ?_
        refine j_iload_n C (pc := 46) 1 rfl rfl dX8_item_46 ?_
        refine j_imul C (pc := 47) dX8_item_47 ?_
        refine j_iload_n C (pc := 48) 2 rfl rfl dX8_item_48 ?_
        refine j_iadd C (pc := 49) dX8_item_49 ?_
        refine j_aload_n C (pc := 50) 0 rfl rfl dX8_item_50 ?_
        refine j_get C (pc := 51) kc_X8 fl_X8_100 0 rfl rfl dX8_item_51 ?_
        refine j_iload_n C (pc := 54) 1 rfl rfl dX8_item_54 ?_
        refine j_iald C (pc := 55) 1 rfl hf dX8_item_55 (fun hf => ?_)
        refine j_lload_n C (pc := 56) 3 rfl rfl dX8_item_56 ?_
        refine j_cSL C (pc := 57) (As := [.int (v_tapeSort p1.toNatClampNeg), .long p3]) (st := [.int (((60 : Int32) * p1) + p2), .ref (r_t 47)]) (ws' := fun q3 => [oX8 a_t r_t v_people v_day v_texted v_at v_value v_digits v_open v_parishes v_holds v_coded v_seen v_inPlan v_inBook v_traced v_imaged v_most, aI G (r_t 45) 6 v_tapeSort, aI G (r_t 46) 6 v_tapeSize, aJ G (r_t 47) 360 v_items]) ml_X8_349 ms_X8_kept hf (fun q3 h => (c_X8_kept G K.2.1) (v_tapeSort p1.toNatClampNeg) p3 q3 h) [] [none, none, none, none] 4 rfl (by decide +kernel) (by decide +kernel) (fun _ => rfl) (fun _ => rfl) rfl rfl rfl rfl ⟨Nat.zero_le _, Nat.zero_le _⟩ dX8_item_57 (fun q3 hf => ?_)
        refine j_last C (pc := 60) (ws' := [oX8 a_t r_t v_people v_day v_texted v_at v_value v_digits v_open v_parishes v_holds v_coded v_seen v_inPlan v_inBook v_traced v_imaged v_most, aI G (r_t 45) 6 v_tapeSort, aI G (r_t 46) 6 v_tapeSize, aJ G (r_t 47) 360 (vp_updL v_items (((60 : Int32) * p1) + p2).toNatClampNeg q3)]) 3 rfl hf rfl dX8_item_60 (fun hf => ?_)
        refine j_iconst C (pc := 61) (v := 1) (by decide) dX8_item_61 ?_
        obtain rfl := Option.some.inj hf
        exact hQ _ _ dX8_item_62 rfl
      · refine j_bipush C (pc := 37) (v := -13) (by decide) dX8_item_37 ?_
        obtain rfl := Option.some.inj hf
        exact hQ _ _ dX8_item_39 rfl
    · refine j_bipush C (pc := 18) (v := -11) (by decide) dX8_item_18 ?_
      obtain rfl := Option.some.inj hf
      exact hQ _ _ dX8_item_20 rfl
  · refine j_iconst C (pc := 7) (v := -1) (by decide) dX8_item_7 ?_
    obtain rfl := Option.some.inj hf
    exact hQ _ _ dX8_item_8 rfl
def ct_X8_item (G : Gx) (l : Launch) (F : (Nat → Int32) → (Nat → Int32) → (Nat → Int64) → Int32 → Int32 → Int64 → Option (Int32 × (Nat → Int64))) (lv : Nat) : Prop := ∀ (a_t : Nat) (r_t : Nat → Nat) (v_people : Int32) (v_day : Int32) (v_texted : Int32) (v_at : Int32) (v_value : Int32) (v_digits : Int32) (v_open : Int32) (v_parishes : Int32) (v_holds : Int32) (v_coded : Int32) (v_seen : Int32) (v_inPlan : Int32) (v_inBook : Int32) (v_traced : Int32) (v_imaged : Int32) (v_most : Int32) (v_tapeSort : Nat → Int32) (v_tapeSize : Nat → Int32) (v_items : Nat → Int64) (p1 : Int32) (p2 : Int32) (p3 : Int64), ∀ (q : Int32 × (Nat → Int64)), F v_tapeSort v_tapeSize v_items p1 p2 p3 = some q → MI G l yX8_item cX8_item 5 .int lv [.ref a_t, .int p1, .int p2, .long p3] [oX8 a_t r_t v_people v_day v_texted v_at v_value v_digits v_open v_parishes v_holds v_coded v_seen v_inPlan v_inBook v_traced v_imaged v_most, aI G (r_t 45) 6 v_tapeSort, aI G (r_t 46) 6 v_tapeSize, aJ G (r_t 47) 360 v_items] [oX8 a_t r_t v_people v_day v_texted v_at v_value v_digits v_open v_parishes v_holds v_coded v_seen v_inPlan v_inBook v_traced v_imaged v_most, aI G (r_t 45) 6 v_tapeSort, aI G (r_t 46) 6 v_tapeSize, aJ G (r_t 47) 360 q.2] q.1
theorem c_X8_item (G : Gx) (l : Launch) : ct_X8_item G l f_X8_item 3 := by
  intro a_t r_t v_people v_day v_texted v_at v_value v_digits v_open v_parishes v_holds v_coded v_seen v_inPlan v_inBook v_traced v_imaged v_most v_tapeSort v_tapeSize v_items p1 p2 p3 q hf
  exact mI_of (by decide +kernel) rfl (fun K hl C hQ => t_X8_item C hQ hf)
-- X8_judge
def f_X8_judge_36_b (v_people : Int32) (v_tapeSort : Nat → Int32) (v_tapeSize : Nat → Int32) (v_items : Nat → Int64) (v_dead : Nat → Int32) (p1 : Int32) (p2 : Int32) (k36 : Int32 → Option (Int32)) (x3 : Int32) : Option (Int32) := (if v_people ≤ x3 then (some (-5 : Int32)) else (gd p1 6 (if (v_tapeSort p1.toNatClampNeg) = (-1 : Int32) then (some ((100 : Int32) + x3)) else (if p2 < 0 then (some ((100 : Int32) + x3)) else (gd p1 6 (if (lg_cmp ((p2.toInt64) + (x3.toInt64)) ((v_tapeSize p1.toNatClampNeg).toInt64)) < 0 then (gd ((((60 : Int32) * p1) + p2) + x3) 360 (gd x3 6 (if (lg_cmp (v_items ((((60 : Int32) * p1) + p2) + x3).toNatClampNeg) ((v_dead x3.toNatClampNeg).toInt64)) = 0 then (k36 (x3 + (1 : Int32))) else (some x3)))) else (some ((100 : Int32) + x3))))))))
def f_X8_judge_36 (v_people : Int32) (v_tapeSort : Nat → Int32) (v_tapeSize : Nat → Int32) (v_items : Nat → Int64) (v_dead : Nat → Int32) (p1 : Int32) (p2 : Int32) : Nat → Int32 → Option (Int32)
  | 0 => fun _ => none
  | n + 1 => f_X8_judge_36_b v_people v_tapeSort v_tapeSize v_items v_dead p1 p2 (f_X8_judge_36 v_people v_tapeSort v_tapeSize v_items v_dead p1 p2 n)
set_option maxRecDepth 20000 in
set_option maxHeartbeats 1000000 in
theorem t_X8_judge_36_b {G : Gx} {K : Kx} (C : Cx G K cX8_judge RX8 4 2) {a_t : Nat} {r_t : Nat → Nat} {v_people : Int32} {v_day : Int32} {v_texted : Int32} {v_at : Int32} {v_value : Int32} {v_digits : Int32} {v_open : Int32} {v_parishes : Int32} {v_holds : Int32} {v_coded : Int32} {v_seen : Int32} {v_inPlan : Int32} {v_inBook : Int32} {v_traced : Int32} {v_imaged : Int32} {v_most : Int32} {v_tapeSort : Nat → Int32} {v_tapeSize : Nat → Int32} {v_items : Nat → Int64} {v_dead : Nat → Int32} {p1 : Int32} {p2 : Int32} {q : Int32} (hQ : k_retI G K cX8_judge 4 .int [oX8 a_t r_t v_people v_day v_texted v_at v_value v_digits v_open v_parishes v_holds v_coded v_seen v_inPlan v_inBook v_traced v_imaged v_most, aI G (r_t 45) 6 v_tapeSort, aI G (r_t 46) 6 v_tapeSize, aJ G (r_t 47) 360 v_items, aI G (r_t 3) 6 v_dead] q) {k36 : Int32 → Option (Int32)} (hk36 : ∀ (x3 : Int32), k36 x3 = some q → J G K 4 0 0 [oX8 a_t r_t v_people v_day v_texted v_at v_value v_digits v_open v_parishes v_holds v_coded v_seen v_inPlan v_inBook v_traced v_imaged v_most, aI G (r_t 45) 6 v_tapeSort, aI G (r_t 46) 6 v_tapeSize, aJ G (r_t 47) 360 v_items, aI G (r_t 3) 6 v_dead] [(0, .ref a_t), (1, .int p1), (2, .int p2), (3, .int x3)] 36 []) {x3 : Int32} (hf : f_X8_judge_36_b v_people v_tapeSort v_tapeSize v_items v_dead p1 p2 k36 x3 = some q) : J G K 4 0 0 [oX8 a_t r_t v_people v_day v_texted v_at v_value v_digits v_open v_parishes v_holds v_coded v_seen v_inPlan v_inBook v_traced v_imaged v_most, aI G (r_t 45) 6 v_tapeSort, aI G (r_t 46) 6 v_tapeSize, aJ G (r_t 47) 360 v_items, aI G (r_t 3) 6 v_dead] [(0, .ref a_t), (1, .int p1), (2, .int p2), (3, .int x3)] 36 [] := by
  unfold f_X8_judge_36_b at hf
  refine j_iload_n C (pc := 36) 3 rfl rfl dX8_judge_36 ?_
  refine j_aload_n C (pc := 37) 0 rfl rfl dX8_judge_37 ?_
  refine j_get C (pc := 38) kc_X8 fl_X8_114 0 rfl rfl dX8_judge_38 ?_
  refine j_icmp_ge C (pc := 41) 111 dX8_judge_41 (by decide) hf (fun hf => ?_) (fun hf => ?_)
  · refine j_bipush C (pc := 111) (v := -5) (by decide) dX8_judge_111 ?_
    obtain rfl := Option.some.inj hf
    exact hQ _ _ dX8_judge_113 rfl
  · refine j_aload_n C (pc := 44) 0 rfl rfl dX8_judge_44 ?_
    refine j_get C (pc := 45) kc_X8 fl_X8_100 0 rfl rfl dX8_judge_45 ?_
    refine j_iload_n C (pc := 48) 1 rfl rfl dX8_judge_48 ?_
    refine j_iald C (pc := 49) 1 rfl hf dX8_judge_49 (fun hf => ?_)
    refine j_iconst C (pc := 50) (v := -1) (by decide) dX8_judge_50 ?_
    refine j_icmp_eq C (pc := 51) 74 dX8_judge_51 (by decide) hf (fun hf => ?_) (fun hf => ?_)
    · refine j_bipush C (pc := 74) (v := 100) (by decide) dX8_judge_74 ?_
      refine j_iload_n C (pc := 76) 3 rfl rfl dX8_judge_76 ?_
      refine j_iadd C (pc := 77) dX8_judge_77 ?_
      obtain rfl := Option.some.inj hf
      exact hQ _ _ dX8_judge_78 rfl
    · refine j_iload_n C (pc := 54) 2 rfl rfl dX8_judge_54 ?_
      refine j_if_lt C (pc := 55) 74 dX8_judge_55 (by decide) hf (fun hf => ?_) (fun hf => ?_)
      · refine j_bipush C (pc := 74) (v := 100) (by decide) dX8_judge_74 ?_
        refine j_iload_n C (pc := 76) 3 rfl rfl dX8_judge_76 ?_
        refine j_iadd C (pc := 77) dX8_judge_77 ?_
        obtain rfl := Option.some.inj hf
        exact hQ _ _ dX8_judge_78 rfl
      · refine j_iload_n C (pc := 58) 2 rfl rfl dX8_judge_58 ?_
        refine j_i2l C (pc := 59) dX8_judge_59 ?_
        refine j_iload_n C (pc := 60) 3 rfl rfl dX8_judge_60 ?_
        refine j_i2l C (pc := 61) dX8_judge_61 ?_
        refine j_ladd C (pc := 62) dX8_judge_62 ?_
        refine j_aload_n C (pc := 63) 0 rfl rfl dX8_judge_63 ?_
        refine j_get C (pc := 64) kc_X8 fl_X8_103 0 rfl rfl dX8_judge_64 ?_
        refine j_iload_n C (pc := 67) 1 rfl rfl dX8_judge_67 ?_
        refine j_iald C (pc := 68) 2 rfl hf dX8_judge_68 (fun hf => ?_)
        refine j_i2l C (pc := 69) dX8_judge_69 ?_
        refine j_lcmp C (pc := 70) dX8_judge_70 ?_
        refine j_if_lt C (pc := 71) 79 dX8_judge_71 (by decide) hf (fun hf => ?_) (fun hf => ?_)
        · refine j_aload_n C (pc := 79) 0 rfl rfl dX8_judge_79 ?_
          refine j_get C (pc := 80) kc_X8 fl_X8_106 0 rfl rfl dX8_judge_80 ?_
          refine j_bipush C (pc := 83) (v := 60) (by decide) dX8_judge_83 ?_
          refine j_iload_n C (pc := 85) 1 rfl rfl dX8_judge_85 ?_
          refine j_imul C (pc := 86) dX8_judge_86 ?_
          refine j_iload_n C (pc := 87) 2 rfl rfl dX8_judge_87 ?_
          refine j_iadd C (pc := 88) dX8_judge_88 ?_
          refine j_iload_n C (pc := 89) 3 rfl rfl dX8_judge_89 ?_
          refine j_iadd C (pc := 90) dX8_judge_90 ?_
          refine j_lald C (pc := 91) 3 rfl hf dX8_judge_91 (fun hf => ?_)
          refine j_aload_n C (pc := 92) 0 rfl rfl dX8_judge_92 ?_
          refine j_get C (pc := 93) kc_X8 fl_X8_18 0 rfl rfl dX8_judge_93 ?_
          refine j_iload_n C (pc := 96) 3 rfl rfl dX8_judge_96 ?_
          refine j_iald C (pc := 97) 4 rfl hf dX8_judge_97 (fun hf => ?_)
          refine j_i2l C (pc := 98) dX8_judge_98 ?_
          refine j_lcmp C (pc := 99) dX8_judge_99 ?_
          refine j_if_eq C (pc := 100) 105 dX8_judge_100 (by decide) hf (fun hf => ?_) (fun hf => ?_)
          · refine j_iinc C (pc := 105) (L' := [(3, .int (x3 + (1 : Int32))), (0, .ref a_t), (1, .int p1), (2, .int p2)]) (v := x3 + (1 : Int32)) dX8_judge_105 (t := 3) rfl rfl (by decide) rfl ?_
            refine j_goto C (pc := 108) 36 dX8_judge_108 (by decide) ?_
            refine j_sub [1, 2, 3, 0] rfl ?_
            exact hk36 _ hf
          · refine j_iload_n C (pc := 103) 3 rfl rfl dX8_judge_103 ?_
            obtain rfl := Option.some.inj hf
            exact hQ _ _ dX8_judge_104 rfl
        · refine j_bipush C (pc := 74) (v := 100) (by decide) dX8_judge_74 ?_
          refine j_iload_n C (pc := 76) 3 rfl rfl dX8_judge_76 ?_
          refine j_iadd C (pc := 77) dX8_judge_77 ?_
          obtain rfl := Option.some.inj hf
          exact hQ _ _ dX8_judge_78 rfl
theorem t_X8_judge_36 {G : Gx} {K : Kx} (C : Cx G K cX8_judge RX8 4 2) {a_t : Nat} {r_t : Nat → Nat} {v_people : Int32} {v_day : Int32} {v_texted : Int32} {v_at : Int32} {v_value : Int32} {v_digits : Int32} {v_open : Int32} {v_parishes : Int32} {v_holds : Int32} {v_coded : Int32} {v_seen : Int32} {v_inPlan : Int32} {v_inBook : Int32} {v_traced : Int32} {v_imaged : Int32} {v_most : Int32} {v_tapeSort : Nat → Int32} {v_tapeSize : Nat → Int32} {v_items : Nat → Int64} {v_dead : Nat → Int32} {p1 : Int32} {p2 : Int32} {q : Int32} (hQ : k_retI G K cX8_judge 4 .int [oX8 a_t r_t v_people v_day v_texted v_at v_value v_digits v_open v_parishes v_holds v_coded v_seen v_inPlan v_inBook v_traced v_imaged v_most, aI G (r_t 45) 6 v_tapeSort, aI G (r_t 46) 6 v_tapeSize, aJ G (r_t 47) 360 v_items, aI G (r_t 3) 6 v_dead] q) : ∀ (n : Nat) (x3 : Int32), f_X8_judge_36 v_people v_tapeSort v_tapeSize v_items v_dead p1 p2 n x3 = some q → J G K 4 0 0 [oX8 a_t r_t v_people v_day v_texted v_at v_value v_digits v_open v_parishes v_holds v_coded v_seen v_inPlan v_inBook v_traced v_imaged v_most, aI G (r_t 45) 6 v_tapeSort, aI G (r_t 46) 6 v_tapeSize, aJ G (r_t 47) 360 v_items, aI G (r_t 3) 6 v_dead] [(0, .ref a_t), (1, .int p1), (2, .int p2), (3, .int x3)] 36 [] := by
  intro n
  induction n with
  | zero => intro x3 hf; cases hf
  | succ n ih => intro x3 hf; exact t_X8_judge_36_b C hQ ih hf
def f_X8_judge (v_people : Int32) (v_tapeSort : Nat → Int32) (v_tapeSize : Nat → Int32) (v_items : Nat → Int64) (v_dead : Nat → Int32) (p1 : Int32) (p2 : Int32) : Option (Int32) := ((f_X8_within p1 (0 : Int32) (5 : Int32)).bind fun q1 => (if q1 = 0 then (some (-1 : Int32)) else (gd p1 6 (if (v_tapeSort p1.toNatClampNeg) = (-1 : Int32) then (f_X8_judge_36 v_people v_tapeSort v_tapeSize v_items v_dead p1 p2 1000 (0 : Int32)) else (gd p1 6 (if (v_tapeSort p1.toNatClampNeg) = (4 : Int32) then (f_X8_judge_36 v_people v_tapeSort v_tapeSize v_items v_dead p1 p2 1000 (0 : Int32)) else (some (-12 : Int32))))))))
set_option maxRecDepth 20000 in
set_option maxHeartbeats 1000000 in
theorem t_X8_judge {G : Gx} {K : Kx} (C : Cx G K cX8_judge RX8 4 2) {a_t : Nat} {r_t : Nat → Nat} {v_people : Int32} {v_day : Int32} {v_texted : Int32} {v_at : Int32} {v_value : Int32} {v_digits : Int32} {v_open : Int32} {v_parishes : Int32} {v_holds : Int32} {v_coded : Int32} {v_seen : Int32} {v_inPlan : Int32} {v_inBook : Int32} {v_traced : Int32} {v_imaged : Int32} {v_most : Int32} {v_tapeSort : Nat → Int32} {v_tapeSize : Nat → Int32} {v_items : Nat → Int64} {v_dead : Nat → Int32} {p1 : Int32} {p2 : Int32} {q : Int32} (hQ : k_retI G K cX8_judge 4 .int [oX8 a_t r_t v_people v_day v_texted v_at v_value v_digits v_open v_parishes v_holds v_coded v_seen v_inPlan v_inBook v_traced v_imaged v_most, aI G (r_t 45) 6 v_tapeSort, aI G (r_t 46) 6 v_tapeSize, aJ G (r_t 47) 360 v_items, aI G (r_t 3) 6 v_dead] q) (hf : f_X8_judge v_people v_tapeSort v_tapeSize v_items v_dead p1 p2 = some q) : J G K 4 0 0 [oX8 a_t r_t v_people v_day v_texted v_at v_value v_digits v_open v_parishes v_holds v_coded v_seen v_inPlan v_inBook v_traced v_imaged v_most, aI G (r_t 45) 6 v_tapeSort, aI G (r_t 46) 6 v_tapeSize, aJ G (r_t 47) 360 v_items, aI G (r_t 3) 6 v_dead] [(0, .ref a_t), (1, .int p1), (2, .int p2)] 0 [] := by
  unfold f_X8_judge at hf
  refine j_iload_n C (pc := 0) 1 rfl rfl dX8_judge_0 ?_
  refine j_iconst C (pc := 1) (v := 0) (by decide) dX8_judge_1 ?_
  refine j_iconst C (pc := 2) (v := 5) (by decide) dX8_judge_2 ?_
  refine j_cSI C (pc := 3) (As := [.int p1, .int (0 : Int32), .int (5 : Int32)]) (st := []) (ws' := fun q1 => [oX8 a_t r_t v_people v_day v_texted v_at v_value v_digits v_open v_parishes v_holds v_coded v_seen v_inPlan v_inBook v_traced v_imaged v_most, aI G (r_t 45) 6 v_tapeSort, aI G (r_t 46) 6 v_tapeSize, aJ G (r_t 47) 360 v_items, aI G (r_t 3) 6 v_dead]) ml_X8_117 ms_X8_within hf (fun q1 h => (c_X8_within G K.2.1) p1 (0 : Int32) (5 : Int32) q1 h) [] [none, none, none, none, none] 5 rfl (by decide +kernel) (by decide +kernel) (fun _ => rfl) (fun _ => rfl) rfl rfl rfl rfl ⟨Nat.zero_le _, Nat.zero_le _⟩ dX8_judge_3 (fun q1 hf => ?_)
  refine j_if_ne C (pc := 6) 11 dX8_judge_6 (by decide) hf (fun hf => ?_) (fun hf => ?_)
  · refine j_aload_n C (pc := 11) 0 rfl rfl dX8_judge_11 ?_
    refine j_get C (pc := 12) kc_X8 fl_X8_100 0 rfl rfl dX8_judge_12 ?_
    refine j_iload_n C (pc := 15) 1 rfl rfl dX8_judge_15 ?_
    refine j_iald C (pc := 16) 1 rfl hf dX8_judge_16 (fun hf => ?_)
    refine j_iconst C (pc := 17) (v := -1) (by decide) dX8_judge_17 ?_
    refine j_icmp_eq C (pc := 18) 34 dX8_judge_18 (by decide) hf (fun hf => ?_) (fun hf => ?_)
    · refine j_iconst C (pc := 34) (v := 0) (by decide) dX8_judge_34 ?_
      refine j_istore_n C (pc := 35) (L' := [(3, .int (0 : Int32)), (0, .ref a_t), (1, .int p1), (2, .int p2)]) dX8_judge_35 rfl (by decide) rfl ?_
      refine j_sub [1, 2, 3, 0] rfl ?_
      exact t_X8_judge_36 C hQ 1000 _ hf
    · refine j_aload_n C (pc := 21) 0 rfl rfl dX8_judge_21 ?_
      refine j_get C (pc := 22) kc_X8 fl_X8_100 0 rfl rfl dX8_judge_22 ?_
      refine j_iload_n C (pc := 25) 1 rfl rfl dX8_judge_25 ?_
      refine j_iald C (pc := 26) 1 rfl hf dX8_judge_26 (fun hf => ?_)
      refine j_iconst C (pc := 27) (v := 4) (by decide) dX8_judge_27 ?_
      refine j_icmp_eq C (pc := 28) 34 dX8_judge_28 (by decide) hf (fun hf => ?_) (fun hf => ?_)
      · refine j_iconst C (pc := 34) (v := 0) (by decide) dX8_judge_34 ?_
        refine j_istore_n C (pc := 35) (L' := [(3, .int (0 : Int32)), (0, .ref a_t), (1, .int p1), (2, .int p2)]) dX8_judge_35 rfl (by decide) rfl ?_
        refine j_sub [1, 2, 3, 0] rfl ?_
        exact t_X8_judge_36 C hQ 1000 _ hf
      · refine j_bipush C (pc := 31) (v := -12) (by decide) dX8_judge_31 ?_
        obtain rfl := Option.some.inj hf
        exact hQ _ _ dX8_judge_33 rfl
  · refine j_iconst C (pc := 9) (v := -1) (by decide) dX8_judge_9 ?_
    obtain rfl := Option.some.inj hf
    exact hQ _ _ dX8_judge_10 rfl
def ct_X8_judge (G : Gx) (l : Launch) (F : Int32 → (Nat → Int32) → (Nat → Int32) → (Nat → Int64) → (Nat → Int32) → Int32 → Int32 → Option (Int32)) (lv : Nat) : Prop := ∀ (a_t : Nat) (r_t : Nat → Nat) (v_people : Int32) (v_day : Int32) (v_texted : Int32) (v_at : Int32) (v_value : Int32) (v_digits : Int32) (v_open : Int32) (v_parishes : Int32) (v_holds : Int32) (v_coded : Int32) (v_seen : Int32) (v_inPlan : Int32) (v_inBook : Int32) (v_traced : Int32) (v_imaged : Int32) (v_most : Int32) (v_tapeSort : Nat → Int32) (v_tapeSize : Nat → Int32) (v_items : Nat → Int64) (v_dead : Nat → Int32) (p1 : Int32) (p2 : Int32), ∀ (q : Int32), F v_people v_tapeSort v_tapeSize v_items v_dead p1 p2 = some q → MI G l yX8_judge cX8_judge 4 .int lv [.ref a_t, .int p1, .int p2] [oX8 a_t r_t v_people v_day v_texted v_at v_value v_digits v_open v_parishes v_holds v_coded v_seen v_inPlan v_inBook v_traced v_imaged v_most, aI G (r_t 45) 6 v_tapeSort, aI G (r_t 46) 6 v_tapeSize, aJ G (r_t 47) 360 v_items, aI G (r_t 3) 6 v_dead] [oX8 a_t r_t v_people v_day v_texted v_at v_value v_digits v_open v_parishes v_holds v_coded v_seen v_inPlan v_inBook v_traced v_imaged v_most, aI G (r_t 45) 6 v_tapeSort, aI G (r_t 46) 6 v_tapeSize, aJ G (r_t 47) 360 v_items, aI G (r_t 3) 6 v_dead] q
theorem c_X8_judge (G : Gx) (l : Launch) : ct_X8_judge G l f_X8_judge 2 := by
  intro a_t r_t v_people v_day v_texted v_at v_value v_digits v_open v_parishes v_holds v_coded v_seen v_inPlan v_inBook v_traced v_imaged v_most v_tapeSort v_tapeSize v_items v_dead p1 p2 q hf
  exact mI_of (by decide +kernel) rfl (fun K hl C hQ => t_X8_judge C hQ hf)
-- X8_keepsAll
def f_X8_keepsAll_2_b (v_people : Int32) (v_day : Int32) (v_holds : Int32) (v_dead : Nat → Int32) (v_hate : Nat → Int32) (v_clauses : Nat → Int32) (v_word : Nat → Int32) (v_begins : Nat → Int32) (v_length : Nat → Int32) (v_code : Nat → Int32) (v_kind : Nat → Int32) (v_v : Nat → Int32) (v_number : Nat → Int32) (v_rows : Nat → Int32) (p1 : Int32) (k2 : Int32 → (Nat → Int32) → Option (Int32 × (Nat → Int32))) (x2 : Int32) (w_stack : Nat → Int32) : Option (Int32 × (Nat → Int32)) := (if v_people ≤ x2 then (some ((1 : Int32), w_stack)) else (gd x2 6 (if (v_dead x2.toNatClampNeg) = 0 then ((f_X8_enemies v_people v_holds v_dead v_hate v_clauses v_word v_begins v_length w_stack v_code v_kind v_v v_number v_rows x2 v_day).bind fun q1 => (if (q1.1 &&& p1) = 0 then (some ((0 : Int32), q1.2)) else (k2 (x2 + (1 : Int32)) q1.2))) else (k2 (x2 + (1 : Int32)) w_stack))))
def f_X8_keepsAll_2 (v_people : Int32) (v_day : Int32) (v_holds : Int32) (v_dead : Nat → Int32) (v_hate : Nat → Int32) (v_clauses : Nat → Int32) (v_word : Nat → Int32) (v_begins : Nat → Int32) (v_length : Nat → Int32) (v_code : Nat → Int32) (v_kind : Nat → Int32) (v_v : Nat → Int32) (v_number : Nat → Int32) (v_rows : Nat → Int32) (p1 : Int32) : Nat → Int32 → (Nat → Int32) → Option (Int32 × (Nat → Int32))
  | 0 => fun _ _ => none
  | n + 1 => f_X8_keepsAll_2_b v_people v_day v_holds v_dead v_hate v_clauses v_word v_begins v_length v_code v_kind v_v v_number v_rows p1 (f_X8_keepsAll_2 v_people v_day v_holds v_dead v_hate v_clauses v_word v_begins v_length v_code v_kind v_v v_number v_rows p1 n)
set_option maxRecDepth 20000 in
set_option maxHeartbeats 1000000 in
theorem t_X8_keepsAll_2_b {G : Gx} {K : Kx} (C : Cx G K cX8_keepsAll RX8 3 8) {a_t : Nat} {r_t : Nat → Nat} {v_people : Int32} {v_day : Int32} {v_texted : Int32} {v_at : Int32} {v_value : Int32} {v_digits : Int32} {v_open : Int32} {v_parishes : Int32} {v_holds : Int32} {v_coded : Int32} {v_seen : Int32} {v_inPlan : Int32} {v_inBook : Int32} {v_traced : Int32} {v_imaged : Int32} {v_most : Int32} {v_dead : Nat → Int32} {v_hate : Nat → Int32} {v_clauses : Nat → Int32} {v_word : Nat → Int32} {v_begins : Nat → Int32} {v_length : Nat → Int32} {v_code : Nat → Int32} {v_kind : Nat → Int32} {v_v : Nat → Int32} {v_number : Nat → Int32} {v_rows : Nat → Int32} {p1 : Int32} {q : Int32 × (Nat → Int32)} (hQ : k_retI G K cX8_keepsAll 3 .boolean [oX8 a_t r_t v_people v_day v_texted v_at v_value v_digits v_open v_parishes v_holds v_coded v_seen v_inPlan v_inBook v_traced v_imaged v_most, aI G (r_t 3) 6 v_dead, aI G (r_t 7) 36 v_hate, aI G (r_t 17) 6 v_clauses, aI G (r_t 18) 61 v_word, aI G (r_t 20) 61 v_begins, aI G (r_t 21) 61 v_length, aZ G (r_t 24) 110 q.2, aI G (r_t 22) 800 v_code, aI G (r_t 1) 6 v_kind, aI G (r_t 2) 6 v_v, aI G (r_t 19) 61 v_number, aI G (r_t 6) 24 v_rows] q.1) {k2 : Int32 → (Nat → Int32) → Option (Int32 × (Nat → Int32))} (hk2 : ∀ (x2 : Int32) (w_stack : Nat → Int32), k2 x2 w_stack = some q → J G K 3 0 0 [oX8 a_t r_t v_people v_day v_texted v_at v_value v_digits v_open v_parishes v_holds v_coded v_seen v_inPlan v_inBook v_traced v_imaged v_most, aI G (r_t 3) 6 v_dead, aI G (r_t 7) 36 v_hate, aI G (r_t 17) 6 v_clauses, aI G (r_t 18) 61 v_word, aI G (r_t 20) 61 v_begins, aI G (r_t 21) 61 v_length, aZ G (r_t 24) 110 w_stack, aI G (r_t 22) 800 v_code, aI G (r_t 1) 6 v_kind, aI G (r_t 2) 6 v_v, aI G (r_t 19) 61 v_number, aI G (r_t 6) 24 v_rows] [(0, .ref a_t), (1, .int p1), (2, .int x2)] 2 []) {x2 : Int32} {w_stack : Nat → Int32} (hf : f_X8_keepsAll_2_b v_people v_day v_holds v_dead v_hate v_clauses v_word v_begins v_length v_code v_kind v_v v_number v_rows p1 k2 x2 w_stack = some q) : J G K 3 0 0 [oX8 a_t r_t v_people v_day v_texted v_at v_value v_digits v_open v_parishes v_holds v_coded v_seen v_inPlan v_inBook v_traced v_imaged v_most, aI G (r_t 3) 6 v_dead, aI G (r_t 7) 36 v_hate, aI G (r_t 17) 6 v_clauses, aI G (r_t 18) 61 v_word, aI G (r_t 20) 61 v_begins, aI G (r_t 21) 61 v_length, aZ G (r_t 24) 110 w_stack, aI G (r_t 22) 800 v_code, aI G (r_t 1) 6 v_kind, aI G (r_t 2) 6 v_v, aI G (r_t 19) 61 v_number, aI G (r_t 6) 24 v_rows] [(0, .ref a_t), (1, .int p1), (2, .int x2)] 2 [] := by
  unfold f_X8_keepsAll_2_b at hf
  refine j_iload_n C (pc := 2) 2 rfl rfl dX8_keepsAll_2 ?_
  refine j_aload_n C (pc := 3) 0 rfl rfl dX8_keepsAll_3 ?_
  refine j_get C (pc := 4) kc_X8 fl_X8_114 0 rfl rfl dX8_keepsAll_4 ?_
  refine j_icmp_ge C (pc := 7) 41 dX8_keepsAll_7 (by decide) hf (fun hf => ?_) (fun hf => ?_)
  · refine j_iconst C (pc := 41) (v := 1) (by decide) dX8_keepsAll_41 ?_
    obtain rfl := Option.some.inj hf
    exact hQ _ _ dX8_keepsAll_42 (show narrow .boolean (.int (1 : Int32)) = .int (1 : Int32) from rfl)
  · refine j_aload_n C (pc := 10) 0 rfl rfl dX8_keepsAll_10 ?_
    refine j_get C (pc := 11) kc_X8 fl_X8_18 0 rfl rfl dX8_keepsAll_11 ?_
    refine j_iload_n C (pc := 14) 2 rfl rfl dX8_keepsAll_14 ?_
    refine j_iald C (pc := 15) 1 rfl hf dX8_keepsAll_15 (fun hf => ?_)
    refine j_if_ne C (pc := 16) 35 dX8_keepsAll_16 (by decide) hf (fun hf => ?_) (fun hf => ?_)
    · refine j_iinc C (pc := 35) (L' := [(2, .int (x2 + (1 : Int32))), (0, .ref a_t), (1, .int p1)]) (v := x2 + (1 : Int32)) dX8_keepsAll_35 (t := 2) rfl rfl (by decide) rfl ?_
      refine j_goto C (pc := 38) 2 dX8_keepsAll_38 (by decide) ?_
      refine j_sub [1, 2, 0] rfl ?_
      exact hk2 _ _ hf
    · refine j_aload_n C (pc := 19) 0 rfl rfl dX8_keepsAll_19 ?_
      refine j_iload_n C (pc := 20) 2 rfl rfl dX8_keepsAll_20 ?_
      refine j_aload_n C (pc := 21) 0 rfl rfl dX8_keepsAll_21 ?_
      refine j_get C (pc := 22) kc_X8 fl_X8_125 0 rfl rfl dX8_keepsAll_22 ?_
      refine j_cVI C (pc := 25) (As := [.int x2, .int v_day]) (st := []) (ws' := fun q1 => [oX8 a_t r_t v_people v_day v_texted v_at v_value v_digits v_open v_parishes v_holds v_coded v_seen v_inPlan v_inBook v_traced v_imaged v_most, aI G (r_t 3) 6 v_dead, aI G (r_t 7) 36 v_hate, aI G (r_t 17) 6 v_clauses, aI G (r_t 18) 61 v_word, aI G (r_t 20) 61 v_begins, aI G (r_t 21) 61 v_length, aZ G (r_t 24) 110 q1.2, aI G (r_t 22) 800 v_code, aI G (r_t 1) 6 v_kind, aI G (r_t 2) 6 v_v, aI G (r_t 19) 61 v_number, aI G (r_t 6) 24 v_rows]) ml_X8_128 ms_X8_enemies hf (fun q1 h => (c_X8_enemies G K.2.1) a_t r_t v_people v_day v_texted v_at v_value v_digits v_open v_parishes v_holds v_coded v_seen v_inPlan v_inBook v_traced v_imaged v_most v_dead v_hate v_clauses v_word v_begins v_length w_stack v_code v_kind v_v v_number v_rows x2 v_day q1 h) [0, 1, 2, 3, 4, 5, 6, 7, 8, 9, 10, 11, 12] [some 0, some 1, some 2, some 3, some 4, some 5, some 6, some 7, some 8, some 9, some 10, some 11, some 12] 13 rfl (by decide +kernel) (by decide +kernel) (fun _ => rfl) (fun _ => rfl) rfl rfl rfl rfl ⟨Nat.zero_le _, Nat.zero_le _⟩ dX8_keepsAll_25 kc_X8 0 rfl (fun q1 hf => ?_)
      refine j_iload_n C (pc := 28) 1 rfl rfl dX8_keepsAll_28 ?_
      refine j_iand C (pc := 29) dX8_keepsAll_29 ?_
      refine j_if_ne C (pc := 30) 35 dX8_keepsAll_30 (by decide) hf (fun hf => ?_) (fun hf => ?_)
      · refine j_iinc C (pc := 35) (L' := [(2, .int (x2 + (1 : Int32))), (0, .ref a_t), (1, .int p1)]) (v := x2 + (1 : Int32)) dX8_keepsAll_35 (t := 2) rfl rfl (by decide) rfl ?_
        refine j_goto C (pc := 38) 2 dX8_keepsAll_38 (by decide) ?_
        refine j_sub [1, 2, 0] rfl ?_
        exact hk2 _ _ hf
      · refine j_iconst C (pc := 33) (v := 0) (by decide) dX8_keepsAll_33 ?_
        obtain rfl := Option.some.inj hf
        exact hQ _ _ dX8_keepsAll_34 (show narrow .boolean (.int (0 : Int32)) = .int (0 : Int32) from rfl)
theorem t_X8_keepsAll_2 {G : Gx} {K : Kx} (C : Cx G K cX8_keepsAll RX8 3 8) {a_t : Nat} {r_t : Nat → Nat} {v_people : Int32} {v_day : Int32} {v_texted : Int32} {v_at : Int32} {v_value : Int32} {v_digits : Int32} {v_open : Int32} {v_parishes : Int32} {v_holds : Int32} {v_coded : Int32} {v_seen : Int32} {v_inPlan : Int32} {v_inBook : Int32} {v_traced : Int32} {v_imaged : Int32} {v_most : Int32} {v_dead : Nat → Int32} {v_hate : Nat → Int32} {v_clauses : Nat → Int32} {v_word : Nat → Int32} {v_begins : Nat → Int32} {v_length : Nat → Int32} {v_code : Nat → Int32} {v_kind : Nat → Int32} {v_v : Nat → Int32} {v_number : Nat → Int32} {v_rows : Nat → Int32} {p1 : Int32} {q : Int32 × (Nat → Int32)} (hQ : k_retI G K cX8_keepsAll 3 .boolean [oX8 a_t r_t v_people v_day v_texted v_at v_value v_digits v_open v_parishes v_holds v_coded v_seen v_inPlan v_inBook v_traced v_imaged v_most, aI G (r_t 3) 6 v_dead, aI G (r_t 7) 36 v_hate, aI G (r_t 17) 6 v_clauses, aI G (r_t 18) 61 v_word, aI G (r_t 20) 61 v_begins, aI G (r_t 21) 61 v_length, aZ G (r_t 24) 110 q.2, aI G (r_t 22) 800 v_code, aI G (r_t 1) 6 v_kind, aI G (r_t 2) 6 v_v, aI G (r_t 19) 61 v_number, aI G (r_t 6) 24 v_rows] q.1) : ∀ (n : Nat) (x2 : Int32) (w_stack : Nat → Int32), f_X8_keepsAll_2 v_people v_day v_holds v_dead v_hate v_clauses v_word v_begins v_length v_code v_kind v_v v_number v_rows p1 n x2 w_stack = some q → J G K 3 0 0 [oX8 a_t r_t v_people v_day v_texted v_at v_value v_digits v_open v_parishes v_holds v_coded v_seen v_inPlan v_inBook v_traced v_imaged v_most, aI G (r_t 3) 6 v_dead, aI G (r_t 7) 36 v_hate, aI G (r_t 17) 6 v_clauses, aI G (r_t 18) 61 v_word, aI G (r_t 20) 61 v_begins, aI G (r_t 21) 61 v_length, aZ G (r_t 24) 110 w_stack, aI G (r_t 22) 800 v_code, aI G (r_t 1) 6 v_kind, aI G (r_t 2) 6 v_v, aI G (r_t 19) 61 v_number, aI G (r_t 6) 24 v_rows] [(0, .ref a_t), (1, .int p1), (2, .int x2)] 2 [] := by
  intro n
  induction n with
  | zero => intro x2 w_stack hf; cases hf
  | succ n ih => intro x2 w_stack hf; exact t_X8_keepsAll_2_b C hQ ih hf
def f_X8_keepsAll (v_people : Int32) (v_day : Int32) (v_holds : Int32) (v_dead : Nat → Int32) (v_hate : Nat → Int32) (v_clauses : Nat → Int32) (v_word : Nat → Int32) (v_begins : Nat → Int32) (v_length : Nat → Int32) (v_stack : Nat → Int32) (v_code : Nat → Int32) (v_kind : Nat → Int32) (v_v : Nat → Int32) (v_number : Nat → Int32) (v_rows : Nat → Int32) (p1 : Int32) : Option (Int32 × (Nat → Int32)) := (f_X8_keepsAll_2 v_people v_day v_holds v_dead v_hate v_clauses v_word v_begins v_length v_code v_kind v_v v_number v_rows p1 1000 (0 : Int32) v_stack)
set_option maxRecDepth 20000 in
set_option maxHeartbeats 1000000 in
theorem t_X8_keepsAll {G : Gx} {K : Kx} (C : Cx G K cX8_keepsAll RX8 3 8) {a_t : Nat} {r_t : Nat → Nat} {v_people : Int32} {v_day : Int32} {v_texted : Int32} {v_at : Int32} {v_value : Int32} {v_digits : Int32} {v_open : Int32} {v_parishes : Int32} {v_holds : Int32} {v_coded : Int32} {v_seen : Int32} {v_inPlan : Int32} {v_inBook : Int32} {v_traced : Int32} {v_imaged : Int32} {v_most : Int32} {v_dead : Nat → Int32} {v_hate : Nat → Int32} {v_clauses : Nat → Int32} {v_word : Nat → Int32} {v_begins : Nat → Int32} {v_length : Nat → Int32} {v_stack : Nat → Int32} {v_code : Nat → Int32} {v_kind : Nat → Int32} {v_v : Nat → Int32} {v_number : Nat → Int32} {v_rows : Nat → Int32} {p1 : Int32} {q : Int32 × (Nat → Int32)} (hQ : k_retI G K cX8_keepsAll 3 .boolean [oX8 a_t r_t v_people v_day v_texted v_at v_value v_digits v_open v_parishes v_holds v_coded v_seen v_inPlan v_inBook v_traced v_imaged v_most, aI G (r_t 3) 6 v_dead, aI G (r_t 7) 36 v_hate, aI G (r_t 17) 6 v_clauses, aI G (r_t 18) 61 v_word, aI G (r_t 20) 61 v_begins, aI G (r_t 21) 61 v_length, aZ G (r_t 24) 110 q.2, aI G (r_t 22) 800 v_code, aI G (r_t 1) 6 v_kind, aI G (r_t 2) 6 v_v, aI G (r_t 19) 61 v_number, aI G (r_t 6) 24 v_rows] q.1) (hf : f_X8_keepsAll v_people v_day v_holds v_dead v_hate v_clauses v_word v_begins v_length v_stack v_code v_kind v_v v_number v_rows p1 = some q) : J G K 3 0 0 [oX8 a_t r_t v_people v_day v_texted v_at v_value v_digits v_open v_parishes v_holds v_coded v_seen v_inPlan v_inBook v_traced v_imaged v_most, aI G (r_t 3) 6 v_dead, aI G (r_t 7) 36 v_hate, aI G (r_t 17) 6 v_clauses, aI G (r_t 18) 61 v_word, aI G (r_t 20) 61 v_begins, aI G (r_t 21) 61 v_length, aZ G (r_t 24) 110 v_stack, aI G (r_t 22) 800 v_code, aI G (r_t 1) 6 v_kind, aI G (r_t 2) 6 v_v, aI G (r_t 19) 61 v_number, aI G (r_t 6) 24 v_rows] [(0, .ref a_t), (1, .int p1)] 0 [] := by
  unfold f_X8_keepsAll at hf
  refine j_iconst C (pc := 0) (v := 0) (by decide) dX8_keepsAll_0 ?_
  refine j_istore_n C (pc := 1) (L' := [(2, .int (0 : Int32)), (0, .ref a_t), (1, .int p1)]) dX8_keepsAll_1 rfl (by decide) rfl ?_
  refine j_sub [1, 2, 0] rfl ?_
  exact t_X8_keepsAll_2 C hQ 1000 _ _ hf
def ct_X8_keepsAll (G : Gx) (l : Launch) (F : Int32 → Int32 → Int32 → (Nat → Int32) → (Nat → Int32) → (Nat → Int32) → (Nat → Int32) → (Nat → Int32) → (Nat → Int32) → (Nat → Int32) → (Nat → Int32) → (Nat → Int32) → (Nat → Int32) → (Nat → Int32) → (Nat → Int32) → Int32 → Option (Int32 × (Nat → Int32))) (lv : Nat) : Prop := ∀ (a_t : Nat) (r_t : Nat → Nat) (v_people : Int32) (v_day : Int32) (v_texted : Int32) (v_at : Int32) (v_value : Int32) (v_digits : Int32) (v_open : Int32) (v_parishes : Int32) (v_holds : Int32) (v_coded : Int32) (v_seen : Int32) (v_inPlan : Int32) (v_inBook : Int32) (v_traced : Int32) (v_imaged : Int32) (v_most : Int32) (v_dead : Nat → Int32) (v_hate : Nat → Int32) (v_clauses : Nat → Int32) (v_word : Nat → Int32) (v_begins : Nat → Int32) (v_length : Nat → Int32) (v_stack : Nat → Int32) (v_code : Nat → Int32) (v_kind : Nat → Int32) (v_v : Nat → Int32) (v_number : Nat → Int32) (v_rows : Nat → Int32) (p1 : Int32), ∀ (q : Int32 × (Nat → Int32)), F v_people v_day v_holds v_dead v_hate v_clauses v_word v_begins v_length v_stack v_code v_kind v_v v_number v_rows p1 = some q → MI G l yX8_keepsAll cX8_keepsAll 3 .boolean lv [.ref a_t, .int p1] [oX8 a_t r_t v_people v_day v_texted v_at v_value v_digits v_open v_parishes v_holds v_coded v_seen v_inPlan v_inBook v_traced v_imaged v_most, aI G (r_t 3) 6 v_dead, aI G (r_t 7) 36 v_hate, aI G (r_t 17) 6 v_clauses, aI G (r_t 18) 61 v_word, aI G (r_t 20) 61 v_begins, aI G (r_t 21) 61 v_length, aZ G (r_t 24) 110 v_stack, aI G (r_t 22) 800 v_code, aI G (r_t 1) 6 v_kind, aI G (r_t 2) 6 v_v, aI G (r_t 19) 61 v_number, aI G (r_t 6) 24 v_rows] [oX8 a_t r_t v_people v_day v_texted v_at v_value v_digits v_open v_parishes v_holds v_coded v_seen v_inPlan v_inBook v_traced v_imaged v_most, aI G (r_t 3) 6 v_dead, aI G (r_t 7) 36 v_hate, aI G (r_t 17) 6 v_clauses, aI G (r_t 18) 61 v_word, aI G (r_t 20) 61 v_begins, aI G (r_t 21) 61 v_length, aZ G (r_t 24) 110 q.2, aI G (r_t 22) 800 v_code, aI G (r_t 1) 6 v_kind, aI G (r_t 2) 6 v_v, aI G (r_t 19) 61 v_number, aI G (r_t 6) 24 v_rows] q.1
theorem c_X8_keepsAll (G : Gx) (l : Launch) : ct_X8_keepsAll G l f_X8_keepsAll 8 := by
  intro a_t r_t v_people v_day v_texted v_at v_value v_digits v_open v_parishes v_holds v_coded v_seen v_inPlan v_inBook v_traced v_imaged v_most v_dead v_hate v_clauses v_word v_begins v_length v_stack v_code v_kind v_v v_number v_rows p1 q hf
  exact mI_of (by decide +kernel) rfl (fun K hl C hQ => t_X8_keepsAll C hQ hf)
-- X8_keepers
def f_X8_keepers_43 (v_people : Int32) (v_day : Int32) (v_holds : Int32) (v_dead : Nat → Int32) (v_hate : Nat → Int32) (v_clauses : Nat → Int32) (v_word : Nat → Int32) (v_begins : Nat → Int32) (v_length : Nat → Int32) (v_code : Nat → Int32) (v_kind : Nat → Int32) (v_v : Nat → Int32) (v_number : Nat → Int32) (v_rows : Nat → Int32) (k10 : Int32 → Int32 → Int32 → (Nat → Int32) → Option (Int32 × (Nat → Int32))) (x1 : Int32) (x2 : Int32) (x3 : Int32) (w_stack : Nat → Int32) : Option (Int32 × (Nat → Int32)) := ((f_X8_keepsAll v_people v_day v_holds v_dead v_hate v_clauses v_word v_begins v_length w_stack v_code v_kind v_v v_number v_rows x3).bind fun q1 => (if q1.1 = 0 then (k10 x1 x2 (x3 + (1 : Int32)) q1.2) else (k10 x3 x2 (x3 + (1 : Int32)) q1.2)))
set_option maxRecDepth 20000 in
set_option maxHeartbeats 1000000 in
theorem t_X8_keepers_43 {G : Gx} {K : Kx} (C : Cx G K cX8_keepers RX8 4 9) {a_t : Nat} {r_t : Nat → Nat} {v_people : Int32} {v_day : Int32} {v_texted : Int32} {v_at : Int32} {v_value : Int32} {v_digits : Int32} {v_open : Int32} {v_parishes : Int32} {v_holds : Int32} {v_coded : Int32} {v_seen : Int32} {v_inPlan : Int32} {v_inBook : Int32} {v_traced : Int32} {v_imaged : Int32} {v_most : Int32} {v_dead : Nat → Int32} {v_hate : Nat → Int32} {v_clauses : Nat → Int32} {v_word : Nat → Int32} {v_begins : Nat → Int32} {v_length : Nat → Int32} {v_code : Nat → Int32} {v_kind : Nat → Int32} {v_v : Nat → Int32} {v_number : Nat → Int32} {v_rows : Nat → Int32} {q : Int32 × (Nat → Int32)} (hQ : k_retI G K cX8_keepers 4 .int [oX8 a_t r_t v_people v_day v_texted v_at v_value v_digits v_open v_parishes v_holds v_coded v_seen v_inPlan v_inBook v_traced v_imaged v_most, aI G (r_t 3) 6 v_dead, aI G (r_t 7) 36 v_hate, aI G (r_t 17) 6 v_clauses, aI G (r_t 18) 61 v_word, aI G (r_t 20) 61 v_begins, aI G (r_t 21) 61 v_length, aZ G (r_t 24) 110 q.2, aI G (r_t 22) 800 v_code, aI G (r_t 1) 6 v_kind, aI G (r_t 2) 6 v_v, aI G (r_t 19) 61 v_number, aI G (r_t 6) 24 v_rows] q.1) {k10 : Int32 → Int32 → Int32 → (Nat → Int32) → Option (Int32 × (Nat → Int32))} (hk10 : ∀ (x1 : Int32) (x2 : Int32) (x3 : Int32) (w_stack : Nat → Int32), k10 x1 x2 x3 w_stack = some q → J G K 4 0 0 [oX8 a_t r_t v_people v_day v_texted v_at v_value v_digits v_open v_parishes v_holds v_coded v_seen v_inPlan v_inBook v_traced v_imaged v_most, aI G (r_t 3) 6 v_dead, aI G (r_t 7) 36 v_hate, aI G (r_t 17) 6 v_clauses, aI G (r_t 18) 61 v_word, aI G (r_t 20) 61 v_begins, aI G (r_t 21) 61 v_length, aZ G (r_t 24) 110 w_stack, aI G (r_t 22) 800 v_code, aI G (r_t 1) 6 v_kind, aI G (r_t 2) 6 v_v, aI G (r_t 19) 61 v_number, aI G (r_t 6) 24 v_rows] [(0, .ref a_t), (1, .int x1), (2, .int x2), (3, .int x3)] 10 []) {x1 : Int32} {x2 : Int32} {x3 : Int32} {w_stack : Nat → Int32} (hf : f_X8_keepers_43 v_people v_day v_holds v_dead v_hate v_clauses v_word v_begins v_length v_code v_kind v_v v_number v_rows k10 x1 x2 x3 w_stack = some q) : J G K 4 0 0 [oX8 a_t r_t v_people v_day v_texted v_at v_value v_digits v_open v_parishes v_holds v_coded v_seen v_inPlan v_inBook v_traced v_imaged v_most, aI G (r_t 3) 6 v_dead, aI G (r_t 7) 36 v_hate, aI G (r_t 17) 6 v_clauses, aI G (r_t 18) 61 v_word, aI G (r_t 20) 61 v_begins, aI G (r_t 21) 61 v_length, aZ G (r_t 24) 110 w_stack, aI G (r_t 22) 800 v_code, aI G (r_t 1) 6 v_kind, aI G (r_t 2) 6 v_v, aI G (r_t 19) 61 v_number, aI G (r_t 6) 24 v_rows] [(0, .ref a_t), (1, .int x1), (2, .int x2), (3, .int x3)] 43 [] := by
  unfold f_X8_keepers_43 at hf
  refine j_aload_n C (pc := 43) 0 rfl rfl dX8_keepers_43 ?_
  refine j_iload_n C (pc := 44) 3 rfl rfl dX8_keepers_44 ?_
  refine j_cVI C (pc := 45) (As := [.int x3]) (st := []) (ws' := fun q1 => [oX8 a_t r_t v_people v_day v_texted v_at v_value v_digits v_open v_parishes v_holds v_coded v_seen v_inPlan v_inBook v_traced v_imaged v_most, aI G (r_t 3) 6 v_dead, aI G (r_t 7) 36 v_hate, aI G (r_t 17) 6 v_clauses, aI G (r_t 18) 61 v_word, aI G (r_t 20) 61 v_begins, aI G (r_t 21) 61 v_length, aZ G (r_t 24) 110 q1.2, aI G (r_t 22) 800 v_code, aI G (r_t 1) 6 v_kind, aI G (r_t 2) 6 v_v, aI G (r_t 19) 61 v_number, aI G (r_t 6) 24 v_rows]) ml_X8_253 ms_X8_keepsAll hf (fun q1 h => (c_X8_keepsAll G K.2.1) a_t r_t v_people v_day v_texted v_at v_value v_digits v_open v_parishes v_holds v_coded v_seen v_inPlan v_inBook v_traced v_imaged v_most v_dead v_hate v_clauses v_word v_begins v_length w_stack v_code v_kind v_v v_number v_rows x3 q1 h) [0, 1, 2, 3, 4, 5, 6, 7, 8, 9, 10, 11, 12] [some 0, some 1, some 2, some 3, some 4, some 5, some 6, some 7, some 8, some 9, some 10, some 11, some 12] 13 rfl (by decide +kernel) (by decide +kernel) (fun _ => rfl) (fun _ => rfl) rfl rfl rfl rfl ⟨Nat.zero_le _, Nat.zero_le _⟩ dX8_keepers_45 kc_X8 0 rfl (fun q1 hf => ?_)
  refine j_if_eq C (pc := 48) 53 dX8_keepers_48 (by decide) hf (fun hf => ?_) (fun hf => ?_)
  · refine j_iinc C (pc := 53) (L' := [(3, .int (x3 + (1 : Int32))), (0, .ref a_t), (1, .int x1), (2, .int x2)]) (v := x3 + (1 : Int32)) dX8_keepers_53 (t := 3) rfl rfl (by decide) rfl ?_
    refine j_goto C (pc := 56) 10 dX8_keepers_56 (by decide) ?_
    refine j_sub [1, 2, 3, 0] rfl ?_
    exact hk10 _ _ _ _ hf
  · refine j_iload_n C (pc := 51) 3 rfl rfl dX8_keepers_51 ?_
    refine j_istore_n C (pc := 52) (L' := [(1, .int x3), (0, .ref a_t), (2, .int x2), (3, .int x3)]) dX8_keepers_52 rfl (by decide) rfl ?_
    refine j_iinc C (pc := 53) (L' := [(3, .int (x3 + (1 : Int32))), (1, .int x3), (0, .ref a_t), (2, .int x2)]) (v := x3 + (1 : Int32)) dX8_keepers_53 (t := 3) rfl rfl (by decide) rfl ?_
    refine j_goto C (pc := 56) 10 dX8_keepers_56 (by decide) ?_
    refine j_sub [2, 1, 3, 0] rfl ?_
    exact hk10 _ _ _ _ hf
def f_X8_keepers_10_b (v_people : Int32) (v_day : Int32) (v_holds : Int32) (v_dead : Nat → Int32) (v_hate : Nat → Int32) (v_clauses : Nat → Int32) (v_word : Nat → Int32) (v_begins : Nat → Int32) (v_length : Nat → Int32) (v_code : Nat → Int32) (v_kind : Nat → Int32) (v_v : Nat → Int32) (v_number : Nat → Int32) (v_rows : Nat → Int32) (k10 : Int32 → Int32 → Int32 → (Nat → Int32) → Option (Int32 × (Nat → Int32))) (x1 : Int32) (x2 : Int32) (x3 : Int32) (w_stack : Nat → Int32) : Option (Int32 × (Nat → Int32)) := (if ((1 : Int32) <<< (v_people &&& 31)) ≤ x3 then (some (x1, w_stack)) else (if (x3 &&& x2) = 0 then (if x1 = (-5 : Int32) then (f_X8_keepers_43 v_people v_day v_holds v_dead v_hate v_clauses v_word v_begins v_length v_code v_kind v_v v_number v_rows k10 x1 x2 x3 w_stack) else ((f_J6_bitCount_0f7a4 x3).bind fun q1 => ((f_J6_bitCount_0f7a4 x1).bind fun q2 => (if q2 ≤ q1 then (k10 x1 x2 (x3 + (1 : Int32)) w_stack) else (f_X8_keepers_43 v_people v_day v_holds v_dead v_hate v_clauses v_word v_begins v_length v_code v_kind v_v v_number v_rows k10 x1 x2 x3 w_stack))))) else (k10 x1 x2 (x3 + (1 : Int32)) w_stack)))
def f_X8_keepers_10 (v_people : Int32) (v_day : Int32) (v_holds : Int32) (v_dead : Nat → Int32) (v_hate : Nat → Int32) (v_clauses : Nat → Int32) (v_word : Nat → Int32) (v_begins : Nat → Int32) (v_length : Nat → Int32) (v_code : Nat → Int32) (v_kind : Nat → Int32) (v_v : Nat → Int32) (v_number : Nat → Int32) (v_rows : Nat → Int32) : Nat → Int32 → Int32 → Int32 → (Nat → Int32) → Option (Int32 × (Nat → Int32))
  | 0 => fun _ _ _ _ => none
  | n + 1 => f_X8_keepers_10_b v_people v_day v_holds v_dead v_hate v_clauses v_word v_begins v_length v_code v_kind v_v v_number v_rows (f_X8_keepers_10 v_people v_day v_holds v_dead v_hate v_clauses v_word v_begins v_length v_code v_kind v_v v_number v_rows n)
set_option maxRecDepth 20000 in
set_option maxHeartbeats 1000000 in
theorem t_X8_keepers_10_b {G : Gx} {K : Kx} (C : Cx G K cX8_keepers RX8 4 9) {a_t : Nat} {r_t : Nat → Nat} {v_people : Int32} {v_day : Int32} {v_texted : Int32} {v_at : Int32} {v_value : Int32} {v_digits : Int32} {v_open : Int32} {v_parishes : Int32} {v_holds : Int32} {v_coded : Int32} {v_seen : Int32} {v_inPlan : Int32} {v_inBook : Int32} {v_traced : Int32} {v_imaged : Int32} {v_most : Int32} {v_dead : Nat → Int32} {v_hate : Nat → Int32} {v_clauses : Nat → Int32} {v_word : Nat → Int32} {v_begins : Nat → Int32} {v_length : Nat → Int32} {v_code : Nat → Int32} {v_kind : Nat → Int32} {v_v : Nat → Int32} {v_number : Nat → Int32} {v_rows : Nat → Int32} {q : Int32 × (Nat → Int32)} (hQ : k_retI G K cX8_keepers 4 .int [oX8 a_t r_t v_people v_day v_texted v_at v_value v_digits v_open v_parishes v_holds v_coded v_seen v_inPlan v_inBook v_traced v_imaged v_most, aI G (r_t 3) 6 v_dead, aI G (r_t 7) 36 v_hate, aI G (r_t 17) 6 v_clauses, aI G (r_t 18) 61 v_word, aI G (r_t 20) 61 v_begins, aI G (r_t 21) 61 v_length, aZ G (r_t 24) 110 q.2, aI G (r_t 22) 800 v_code, aI G (r_t 1) 6 v_kind, aI G (r_t 2) 6 v_v, aI G (r_t 19) 61 v_number, aI G (r_t 6) 24 v_rows] q.1) {k10 : Int32 → Int32 → Int32 → (Nat → Int32) → Option (Int32 × (Nat → Int32))} (hk10 : ∀ (x1 : Int32) (x2 : Int32) (x3 : Int32) (w_stack : Nat → Int32), k10 x1 x2 x3 w_stack = some q → J G K 4 0 0 [oX8 a_t r_t v_people v_day v_texted v_at v_value v_digits v_open v_parishes v_holds v_coded v_seen v_inPlan v_inBook v_traced v_imaged v_most, aI G (r_t 3) 6 v_dead, aI G (r_t 7) 36 v_hate, aI G (r_t 17) 6 v_clauses, aI G (r_t 18) 61 v_word, aI G (r_t 20) 61 v_begins, aI G (r_t 21) 61 v_length, aZ G (r_t 24) 110 w_stack, aI G (r_t 22) 800 v_code, aI G (r_t 1) 6 v_kind, aI G (r_t 2) 6 v_v, aI G (r_t 19) 61 v_number, aI G (r_t 6) 24 v_rows] [(0, .ref a_t), (1, .int x1), (2, .int x2), (3, .int x3)] 10 []) {x1 : Int32} {x2 : Int32} {x3 : Int32} {w_stack : Nat → Int32} (hf : f_X8_keepers_10_b v_people v_day v_holds v_dead v_hate v_clauses v_word v_begins v_length v_code v_kind v_v v_number v_rows k10 x1 x2 x3 w_stack = some q) : J G K 4 0 0 [oX8 a_t r_t v_people v_day v_texted v_at v_value v_digits v_open v_parishes v_holds v_coded v_seen v_inPlan v_inBook v_traced v_imaged v_most, aI G (r_t 3) 6 v_dead, aI G (r_t 7) 36 v_hate, aI G (r_t 17) 6 v_clauses, aI G (r_t 18) 61 v_word, aI G (r_t 20) 61 v_begins, aI G (r_t 21) 61 v_length, aZ G (r_t 24) 110 w_stack, aI G (r_t 22) 800 v_code, aI G (r_t 1) 6 v_kind, aI G (r_t 2) 6 v_v, aI G (r_t 19) 61 v_number, aI G (r_t 6) 24 v_rows] [(0, .ref a_t), (1, .int x1), (2, .int x2), (3, .int x3)] 10 [] := by
  unfold f_X8_keepers_10_b at hf
  refine j_iload_n C (pc := 10) 3 rfl rfl dX8_keepers_10 ?_
  refine j_iconst C (pc := 11) (v := 1) (by decide) dX8_keepers_11 ?_
  refine j_aload_n C (pc := 12) 0 rfl rfl dX8_keepers_12 ?_
  refine j_get C (pc := 13) kc_X8 fl_X8_114 0 rfl rfl dX8_keepers_13 ?_
  refine j_ishl C (pc := 16) dX8_keepers_16 ?_
  refine j_icmp_ge C (pc := 17) 59 dX8_keepers_17 (by decide) hf (fun hf => ?_) (fun hf => ?_)
  · refine j_iload_n C (pc := 59) 1 rfl rfl dX8_keepers_59 ?_
    obtain rfl := Option.some.inj hf
    exact hQ _ _ dX8_keepers_60 rfl
  · refine j_iload_n C (pc := 20) 3 rfl rfl dX8_keepers_20 ?_
    refine j_iload_n C (pc := 21) 2 rfl rfl dX8_keepers_21 ?_
    refine j_iand C (pc := 22) dX8_keepers_22 ?_
    refine j_if_ne C (pc := 23) 53 dX8_keepers_23 (by decide) hf (fun hf => ?_) (fun hf => ?_)
    · refine j_iinc C (pc := 53) (L' := [(3, .int (x3 + (1 : Int32))), (0, .ref a_t), (1, .int x1), (2, .int x2)]) (v := x3 + (1 : Int32)) dX8_keepers_53 (t := 3) rfl rfl (by decide) rfl ?_
      refine j_goto C (pc := 56) 10 dX8_keepers_56 (by decide) ?_
      refine j_sub [1, 2, 3, 0] rfl ?_
      exact hk10 _ _ _ _ hf
    · refine j_iload_n C (pc := 26) 1 rfl rfl dX8_keepers_26 ?_
      refine j_bipush C (pc := 27) (v := -5) (by decide) dX8_keepers_27 ?_
      refine j_icmp_eq C (pc := 29) 43 dX8_keepers_29 (by decide) hf (fun hf => ?_) (fun hf => ?_)
      · exact t_X8_keepers_43 C hQ hk10 hf
      · refine j_iload_n C (pc := 32) 3 rfl rfl dX8_keepers_32 ?_
        refine j_cSI C (pc := 33) (As := [.int x3]) (st := []) (ws' := fun q1 => [oX8 a_t r_t v_people v_day v_texted v_at v_value v_digits v_open v_parishes v_holds v_coded v_seen v_inPlan v_inBook v_traced v_imaged v_most, aI G (r_t 3) 6 v_dead, aI G (r_t 7) 36 v_hate, aI G (r_t 17) 6 v_clauses, aI G (r_t 18) 61 v_word, aI G (r_t 20) 61 v_begins, aI G (r_t 21) 61 v_length, aZ G (r_t 24) 110 w_stack, aI G (r_t 22) 800 v_code, aI G (r_t 1) 6 v_kind, aI G (r_t 2) 6 v_v, aI G (r_t 19) 61 v_number, aI G (r_t 6) 24 v_rows]) ml_X8_248 ms_J6_bitCount_0f7a4 hf (fun q1 h => (c_J6_bitCount_0f7a4 G K.2.1) x3 q1 h) [] [none, none, none, none, none, none, none, none, none, none, none, none, none] 13 rfl (by decide +kernel) (by decide +kernel) (fun _ => rfl) (fun _ => rfl) rfl rfl rfl rfl ⟨Nat.zero_le _, Nat.zero_le _⟩ dX8_keepers_33 (fun q1 hf => ?_)
        refine j_iload_n C (pc := 36) 1 rfl rfl dX8_keepers_36 ?_
        refine j_cSI C (pc := 37) (As := [.int x1]) (st := [.int q1]) (ws' := fun q2 => [oX8 a_t r_t v_people v_day v_texted v_at v_value v_digits v_open v_parishes v_holds v_coded v_seen v_inPlan v_inBook v_traced v_imaged v_most, aI G (r_t 3) 6 v_dead, aI G (r_t 7) 36 v_hate, aI G (r_t 17) 6 v_clauses, aI G (r_t 18) 61 v_word, aI G (r_t 20) 61 v_begins, aI G (r_t 21) 61 v_length, aZ G (r_t 24) 110 w_stack, aI G (r_t 22) 800 v_code, aI G (r_t 1) 6 v_kind, aI G (r_t 2) 6 v_v, aI G (r_t 19) 61 v_number, aI G (r_t 6) 24 v_rows]) ml_X8_248 ms_J6_bitCount_0f7a4 hf (fun q2 h => (c_J6_bitCount_0f7a4 G K.2.1) x1 q2 h) [] [none, none, none, none, none, none, none, none, none, none, none, none, none] 13 rfl (by decide +kernel) (by decide +kernel) (fun _ => rfl) (fun _ => rfl) rfl rfl rfl rfl ⟨Nat.zero_le _, Nat.zero_le _⟩ dX8_keepers_37 (fun q2 hf => ?_)
        refine j_icmp_ge C (pc := 40) 53 dX8_keepers_40 (by decide) hf (fun hf => ?_) (fun hf => ?_)
        · refine j_iinc C (pc := 53) (L' := [(3, .int (x3 + (1 : Int32))), (0, .ref a_t), (1, .int x1), (2, .int x2)]) (v := x3 + (1 : Int32)) dX8_keepers_53 (t := 3) rfl rfl (by decide) rfl ?_
          refine j_goto C (pc := 56) 10 dX8_keepers_56 (by decide) ?_
          refine j_sub [1, 2, 3, 0] rfl ?_
          exact hk10 _ _ _ _ hf
        · exact t_X8_keepers_43 C hQ hk10 hf
theorem t_X8_keepers_10 {G : Gx} {K : Kx} (C : Cx G K cX8_keepers RX8 4 9) {a_t : Nat} {r_t : Nat → Nat} {v_people : Int32} {v_day : Int32} {v_texted : Int32} {v_at : Int32} {v_value : Int32} {v_digits : Int32} {v_open : Int32} {v_parishes : Int32} {v_holds : Int32} {v_coded : Int32} {v_seen : Int32} {v_inPlan : Int32} {v_inBook : Int32} {v_traced : Int32} {v_imaged : Int32} {v_most : Int32} {v_dead : Nat → Int32} {v_hate : Nat → Int32} {v_clauses : Nat → Int32} {v_word : Nat → Int32} {v_begins : Nat → Int32} {v_length : Nat → Int32} {v_code : Nat → Int32} {v_kind : Nat → Int32} {v_v : Nat → Int32} {v_number : Nat → Int32} {v_rows : Nat → Int32} {q : Int32 × (Nat → Int32)} (hQ : k_retI G K cX8_keepers 4 .int [oX8 a_t r_t v_people v_day v_texted v_at v_value v_digits v_open v_parishes v_holds v_coded v_seen v_inPlan v_inBook v_traced v_imaged v_most, aI G (r_t 3) 6 v_dead, aI G (r_t 7) 36 v_hate, aI G (r_t 17) 6 v_clauses, aI G (r_t 18) 61 v_word, aI G (r_t 20) 61 v_begins, aI G (r_t 21) 61 v_length, aZ G (r_t 24) 110 q.2, aI G (r_t 22) 800 v_code, aI G (r_t 1) 6 v_kind, aI G (r_t 2) 6 v_v, aI G (r_t 19) 61 v_number, aI G (r_t 6) 24 v_rows] q.1) : ∀ (n : Nat) (x1 : Int32) (x2 : Int32) (x3 : Int32) (w_stack : Nat → Int32), f_X8_keepers_10 v_people v_day v_holds v_dead v_hate v_clauses v_word v_begins v_length v_code v_kind v_v v_number v_rows n x1 x2 x3 w_stack = some q → J G K 4 0 0 [oX8 a_t r_t v_people v_day v_texted v_at v_value v_digits v_open v_parishes v_holds v_coded v_seen v_inPlan v_inBook v_traced v_imaged v_most, aI G (r_t 3) 6 v_dead, aI G (r_t 7) 36 v_hate, aI G (r_t 17) 6 v_clauses, aI G (r_t 18) 61 v_word, aI G (r_t 20) 61 v_begins, aI G (r_t 21) 61 v_length, aZ G (r_t 24) 110 w_stack, aI G (r_t 22) 800 v_code, aI G (r_t 1) 6 v_kind, aI G (r_t 2) 6 v_v, aI G (r_t 19) 61 v_number, aI G (r_t 6) 24 v_rows] [(0, .ref a_t), (1, .int x1), (2, .int x2), (3, .int x3)] 10 [] := by
  intro n
  induction n with
  | zero => intro x1 x2 x3 w_stack hf; cases hf
  | succ n ih => intro x1 x2 x3 w_stack hf; exact t_X8_keepers_10_b C hQ ih hf
def f_X8_keepers (v_people : Int32) (v_day : Int32) (v_holds : Int32) (v_dead : Nat → Int32) (v_hate : Nat → Int32) (v_clauses : Nat → Int32) (v_word : Nat → Int32) (v_begins : Nat → Int32) (v_length : Nat → Int32) (v_stack : Nat → Int32) (v_code : Nat → Int32) (v_kind : Nat → Int32) (v_v : Nat → Int32) (v_number : Nat → Int32) (v_rows : Nat → Int32) : Option (Int32 × (Nat → Int32)) := ((f_X8_deadBits v_people v_dead).bind fun q1 => (f_X8_keepers_10 v_people v_day v_holds v_dead v_hate v_clauses v_word v_begins v_length v_code v_kind v_v v_number v_rows 1000 (-5 : Int32) q1 (0 : Int32) v_stack))
set_option maxRecDepth 20000 in
set_option maxHeartbeats 1000000 in
theorem t_X8_keepers {G : Gx} {K : Kx} (C : Cx G K cX8_keepers RX8 4 9) {a_t : Nat} {r_t : Nat → Nat} {v_people : Int32} {v_day : Int32} {v_texted : Int32} {v_at : Int32} {v_value : Int32} {v_digits : Int32} {v_open : Int32} {v_parishes : Int32} {v_holds : Int32} {v_coded : Int32} {v_seen : Int32} {v_inPlan : Int32} {v_inBook : Int32} {v_traced : Int32} {v_imaged : Int32} {v_most : Int32} {v_dead : Nat → Int32} {v_hate : Nat → Int32} {v_clauses : Nat → Int32} {v_word : Nat → Int32} {v_begins : Nat → Int32} {v_length : Nat → Int32} {v_stack : Nat → Int32} {v_code : Nat → Int32} {v_kind : Nat → Int32} {v_v : Nat → Int32} {v_number : Nat → Int32} {v_rows : Nat → Int32} {q : Int32 × (Nat → Int32)} (hQ : k_retI G K cX8_keepers 4 .int [oX8 a_t r_t v_people v_day v_texted v_at v_value v_digits v_open v_parishes v_holds v_coded v_seen v_inPlan v_inBook v_traced v_imaged v_most, aI G (r_t 3) 6 v_dead, aI G (r_t 7) 36 v_hate, aI G (r_t 17) 6 v_clauses, aI G (r_t 18) 61 v_word, aI G (r_t 20) 61 v_begins, aI G (r_t 21) 61 v_length, aZ G (r_t 24) 110 q.2, aI G (r_t 22) 800 v_code, aI G (r_t 1) 6 v_kind, aI G (r_t 2) 6 v_v, aI G (r_t 19) 61 v_number, aI G (r_t 6) 24 v_rows] q.1) (hf : f_X8_keepers v_people v_day v_holds v_dead v_hate v_clauses v_word v_begins v_length v_stack v_code v_kind v_v v_number v_rows = some q) : J G K 4 0 0 [oX8 a_t r_t v_people v_day v_texted v_at v_value v_digits v_open v_parishes v_holds v_coded v_seen v_inPlan v_inBook v_traced v_imaged v_most, aI G (r_t 3) 6 v_dead, aI G (r_t 7) 36 v_hate, aI G (r_t 17) 6 v_clauses, aI G (r_t 18) 61 v_word, aI G (r_t 20) 61 v_begins, aI G (r_t 21) 61 v_length, aZ G (r_t 24) 110 v_stack, aI G (r_t 22) 800 v_code, aI G (r_t 1) 6 v_kind, aI G (r_t 2) 6 v_v, aI G (r_t 19) 61 v_number, aI G (r_t 6) 24 v_rows] [(0, .ref a_t)] 0 [] := by
  unfold f_X8_keepers at hf
  refine j_bipush C (pc := 0) (v := -5) (by decide) dX8_keepers_0 ?_
  refine j_istore_n C (pc := 2) (L' := [(1, .int (-5 : Int32)), (0, .ref a_t)]) dX8_keepers_2 rfl (by decide) rfl ?_
  refine j_aload_n C (pc := 3) 1 rfl rfl dX8_keepers_3 ?_
  refine j_cVI C (pc := 4) (As := []) (st := []) (ws' := fun q1 => [oX8 a_t r_t v_people v_day v_texted v_at v_value v_digits v_open v_parishes v_holds v_coded v_seen v_inPlan v_inBook v_traced v_imaged v_most, aI G (r_t 3) 6 v_dead, aI G (r_t 7) 36 v_hate, aI G (r_t 17) 6 v_clauses, aI G (r_t 18) 61 v_word, aI G (r_t 20) 61 v_begins, aI G (r_t 21) 61 v_length, aZ G (r_t 24) 110 v_stack, aI G (r_t 22) 800 v_code, aI G (r_t 1) 6 v_kind, aI G (r_t 2) 6 v_v, aI G (r_t 19) 61 v_number, aI G (r_t 6) 24 v_rows]) ml_X8_245 ms_X8_deadBits hf (fun q1 h => (c_X8_deadBits G K.2.1) a_t r_t v_people v_day v_texted v_at v_value v_digits v_open v_parishes v_holds v_coded v_seen v_inPlan v_inBook v_traced v_imaged v_most v_dead q1 h) [0, 1] [some 0, some 1, none, none, none, none, none, none, none, none, none, none, none] 13 rfl (by decide +kernel) (by decide +kernel) (fun _ => rfl) (fun _ => rfl) rfl rfl rfl rfl ⟨Nat.zero_le _, Nat.zero_le _⟩ dX8_keepers_4 kc_X8 0 rfl (fun q1 hf => ?_)
  refine j_istore_n C (pc := 7) (L' := [(2, .int q1), (1, .int (-5 : Int32)), (0, .ref a_t)]) dX8_keepers_7 rfl (by decide) rfl ?_
  refine j_iconst C (pc := 8) (v := 0) (by decide) dX8_keepers_8 ?_
  refine j_istore_n C (pc := 9) (L' := [(3, .int (0 : Int32)), (2, .int q1), (1, .int (-5 : Int32)), (0, .ref a_t)]) dX8_keepers_9 rfl (by decide) rfl ?_
  refine j_sub [3, 2, 1, 0] rfl ?_
  exact t_X8_keepers_10 C hQ 1000 _ _ _ _ hf
def ct_X8_keepers (G : Gx) (l : Launch) (F : Int32 → Int32 → Int32 → (Nat → Int32) → (Nat → Int32) → (Nat → Int32) → (Nat → Int32) → (Nat → Int32) → (Nat → Int32) → (Nat → Int32) → (Nat → Int32) → (Nat → Int32) → (Nat → Int32) → (Nat → Int32) → (Nat → Int32) → Option (Int32 × (Nat → Int32))) (lv : Nat) : Prop := ∀ (a_t : Nat) (r_t : Nat → Nat) (v_people : Int32) (v_day : Int32) (v_texted : Int32) (v_at : Int32) (v_value : Int32) (v_digits : Int32) (v_open : Int32) (v_parishes : Int32) (v_holds : Int32) (v_coded : Int32) (v_seen : Int32) (v_inPlan : Int32) (v_inBook : Int32) (v_traced : Int32) (v_imaged : Int32) (v_most : Int32) (v_dead : Nat → Int32) (v_hate : Nat → Int32) (v_clauses : Nat → Int32) (v_word : Nat → Int32) (v_begins : Nat → Int32) (v_length : Nat → Int32) (v_stack : Nat → Int32) (v_code : Nat → Int32) (v_kind : Nat → Int32) (v_v : Nat → Int32) (v_number : Nat → Int32) (v_rows : Nat → Int32), ∀ (q : Int32 × (Nat → Int32)), F v_people v_day v_holds v_dead v_hate v_clauses v_word v_begins v_length v_stack v_code v_kind v_v v_number v_rows = some q → MI G l yX8_keepers cX8_keepers 4 .int lv [.ref a_t] [oX8 a_t r_t v_people v_day v_texted v_at v_value v_digits v_open v_parishes v_holds v_coded v_seen v_inPlan v_inBook v_traced v_imaged v_most, aI G (r_t 3) 6 v_dead, aI G (r_t 7) 36 v_hate, aI G (r_t 17) 6 v_clauses, aI G (r_t 18) 61 v_word, aI G (r_t 20) 61 v_begins, aI G (r_t 21) 61 v_length, aZ G (r_t 24) 110 v_stack, aI G (r_t 22) 800 v_code, aI G (r_t 1) 6 v_kind, aI G (r_t 2) 6 v_v, aI G (r_t 19) 61 v_number, aI G (r_t 6) 24 v_rows] [oX8 a_t r_t v_people v_day v_texted v_at v_value v_digits v_open v_parishes v_holds v_coded v_seen v_inPlan v_inBook v_traced v_imaged v_most, aI G (r_t 3) 6 v_dead, aI G (r_t 7) 36 v_hate, aI G (r_t 17) 6 v_clauses, aI G (r_t 18) 61 v_word, aI G (r_t 20) 61 v_begins, aI G (r_t 21) 61 v_length, aZ G (r_t 24) 110 q.2, aI G (r_t 22) 800 v_code, aI G (r_t 1) 6 v_kind, aI G (r_t 2) 6 v_v, aI G (r_t 19) 61 v_number, aI G (r_t 6) 24 v_rows] q.1
theorem c_X8_keepers (G : Gx) (l : Launch) : ct_X8_keepers G l f_X8_keepers 9 := by
  intro a_t r_t v_people v_day v_texted v_at v_value v_digits v_open v_parishes v_holds v_coded v_seen v_inPlan v_inBook v_traced v_imaged v_most v_dead v_hate v_clauses v_word v_begins v_length v_stack v_code v_kind v_v v_number v_rows q hf
  exact mI_of (by decide +kernel) rfl (fun K hl C hQ => t_X8_keepers C hQ hf)
