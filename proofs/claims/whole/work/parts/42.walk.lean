-- X8_sum
def f_X8_sum_16_b (v_holds : Int32) (v_hate : Nat → Int32) (v_clauses : Nat → Int32) (v_word : Nat → Int32) (v_begins : Nat → Int32) (v_length : Nat → Int32) (v_code : Nat → Int32) (v_kind : Nat → Int32) (v_v : Nat → Int32) (v_number : Nat → Int32) (p1 : Int32) (p2 : Int32) (p3 : Int32) (k16 : Int32 → Int32 → (Nat → Int32) → Option (Int32 × (Nat → Int32))) (x4 : Int32) (x5 : Int32) (w_stack : Nat → Int32) : Option (Int32 × (Nat → Int32)) := (if v_holds = (-1 : Int32) then (some (x4, w_stack)) else (gd v_holds 6 (if (v_clauses v_holds.toNatClampNeg) ≤ x5 then (some (x4, w_stack)) else (nm (((10 : Int32) * v_holds) + x5) fun y1 => (gd y1 61 (if (2 : Int32) ≤ (v_word y1.toNatClampNeg) then (k16 x4 (x5 + (1 : Int32)) w_stack) else ((f_X8_isTrue v_begins v_length w_stack v_code v_kind v_v v_hate p1 p2 p3 y1).bind fun q2 => (if q2.1 = 0 then (k16 x4 (x5 + (1 : Int32)) q2.2) else (gd y1 61 (if (v_word y1.toNatClampNeg) = 0 then (gd y1 61 (nm (x4 + (v_number y1.toNatClampNeg)) fun y4 => (k16 y4 (x5 + (1 : Int32)) q2.2))) else (gd y1 61 (nm (x4 + (-(v_number y1.toNatClampNeg))) fun y3 => (k16 y3 (x5 + (1 : Int32)) q2.2)))))))))))))
def f_X8_sum_16 (v_holds : Int32) (v_hate : Nat → Int32) (v_clauses : Nat → Int32) (v_word : Nat → Int32) (v_begins : Nat → Int32) (v_length : Nat → Int32) (v_code : Nat → Int32) (v_kind : Nat → Int32) (v_v : Nat → Int32) (v_number : Nat → Int32) (p1 : Int32) (p2 : Int32) (p3 : Int32) : Nat → Int32 → Int32 → (Nat → Int32) → Option (Int32 × (Nat → Int32))
  | 0 => fun _ _ _ => none
  | n + 1 => f_X8_sum_16_b v_holds v_hate v_clauses v_word v_begins v_length v_code v_kind v_v v_number p1 p2 p3 (f_X8_sum_16 v_holds v_hate v_clauses v_word v_begins v_length v_code v_kind v_v v_number p1 p2 p3 n)
set_option maxRecDepth 20000 in
set_option maxHeartbeats 1000000 in
theorem t_X8_sum_16_b {G : Gx} {K : Kx} (C : Cx G K cX8_sum RX8 7 3) {a_t : Nat} {r_t : Nat → Nat} {v_people : Int32} {v_day : Int32} {v_texted : Int32} {v_at : Int32} {v_value : Int32} {v_digits : Int32} {v_open : Int32} {v_parishes : Int32} {v_holds : Int32} {v_coded : Int32} {v_seen : Int32} {v_inPlan : Int32} {v_inBook : Int32} {v_traced : Int32} {v_imaged : Int32} {v_most : Int32} {v_hate : Nat → Int32} {v_clauses : Nat → Int32} {v_word : Nat → Int32} {v_begins : Nat → Int32} {v_length : Nat → Int32} {v_code : Nat → Int32} {v_kind : Nat → Int32} {v_v : Nat → Int32} {v_number : Nat → Int32} {p1 : Int32} {p2 : Int32} {p3 : Int32} {q : Int32 × (Nat → Int32)} (hQ : k_retI G K cX8_sum 7 .int [oX8 a_t r_t v_people v_day v_texted v_at v_value v_digits v_open v_parishes v_holds v_coded v_seen v_inPlan v_inBook v_traced v_imaged v_most, aI G (r_t 7) 36 v_hate, aI G (r_t 17) 6 v_clauses, aI G (r_t 18) 61 v_word, aI G (r_t 20) 61 v_begins, aI G (r_t 21) 61 v_length, aZ G (r_t 24) 110 q.2, aI G (r_t 22) 800 v_code, aI G (r_t 1) 6 v_kind, aI G (r_t 2) 6 v_v, aI G (r_t 19) 61 v_number] q.1) {k16 : Int32 → Int32 → (Nat → Int32) → Option (Int32 × (Nat → Int32))} (hk16 : ∀ (x4 : Int32) (x5 : Int32) (w_stack : Nat → Int32), k16 x4 x5 w_stack = some q → J G K 7 0 0 [oX8 a_t r_t v_people v_day v_texted v_at v_value v_digits v_open v_parishes v_holds v_coded v_seen v_inPlan v_inBook v_traced v_imaged v_most, aI G (r_t 7) 36 v_hate, aI G (r_t 17) 6 v_clauses, aI G (r_t 18) 61 v_word, aI G (r_t 20) 61 v_begins, aI G (r_t 21) 61 v_length, aZ G (r_t 24) 110 w_stack, aI G (r_t 22) 800 v_code, aI G (r_t 1) 6 v_kind, aI G (r_t 2) 6 v_v, aI G (r_t 19) 61 v_number] [(0, .ref a_t), (1, .int p1), (2, .int p2), (3, .int p3), (4, .int x4), (5, .int x5)] 16 []) {x4 : Int32} {x5 : Int32} {w_stack : Nat → Int32} (hf : f_X8_sum_16_b v_holds v_hate v_clauses v_word v_begins v_length v_code v_kind v_v v_number p1 p2 p3 k16 x4 x5 w_stack = some q) : J G K 7 0 0 [oX8 a_t r_t v_people v_day v_texted v_at v_value v_digits v_open v_parishes v_holds v_coded v_seen v_inPlan v_inBook v_traced v_imaged v_most, aI G (r_t 7) 36 v_hate, aI G (r_t 17) 6 v_clauses, aI G (r_t 18) 61 v_word, aI G (r_t 20) 61 v_begins, aI G (r_t 21) 61 v_length, aZ G (r_t 24) 110 w_stack, aI G (r_t 22) 800 v_code, aI G (r_t 1) 6 v_kind, aI G (r_t 2) 6 v_v, aI G (r_t 19) 61 v_number] [(0, .ref a_t), (1, .int p1), (2, .int p2), (3, .int p3), (4, .int x4), (5, .int x5)] 16 [] := by
  unfold f_X8_sum_16_b at hf
  refine j_aload_n C (pc := 16) 0 rfl rfl dX8_sum_16 ?_
  refine j_get C (pc := 17) kc_X8 fl_X8_110 0 rfl rfl dX8_sum_17 ?_
  refine j_iconst C (pc := 20) (v := -1) (by decide) dX8_sum_20 ?_
  refine j_icmp_eq C (pc := 21) 112 dX8_sum_21 (by decide) hf (fun hf => ?_) (fun hf => ?_)
  · refine j_iload C (pc := 112) 4 rfl dX8_sum_112 ?_
    obtain rfl := Option.some.inj hf
    exact hQ _ _ dX8_sum_114 rfl
  · refine j_iload C (pc := 24) 5 rfl dX8_sum_24 ?_
    refine j_aload_n C (pc := 26) 0 rfl rfl dX8_sum_26 ?_
    refine j_get C (pc := 27) kc_X8 fl_X8_36 0 rfl rfl dX8_sum_27 ?_
    refine j_aload_n C (pc := 30) 0 rfl rfl dX8_sum_30 ?_
    refine j_get C (pc := 31) kc_X8 fl_X8_110 0 rfl rfl dX8_sum_31 ?_
    refine j_iald C (pc := 34) 2 rfl hf dX8_sum_34 (fun hf => ?_)
    refine j_icmp_ge C (pc := 35) 112 dX8_sum_35 (by decide) hf (fun hf => ?_) (fun hf => ?_)
    · refine j_iload C (pc := 112) 4 rfl dX8_sum_112 ?_
      obtain rfl := Option.some.inj hf
      exact hQ _ _ dX8_sum_114 rfl
    · refine j_bipush C (pc := 38) (v := 10) (by decide) dX8_sum_38 ?_
      refine j_aload_n C (pc := 40) 0 rfl rfl dX8_sum_40 ?_
      refine j_get C (pc := 41) kc_X8 fl_X8_110 0 rfl rfl dX8_sum_41 ?_
      refine j_imul C (pc := 44) dX8_sum_44 ?_
      refine j_iload C (pc := 45) 5 rfl dX8_sum_45 ?_
      refine j_iadd C (pc := 47) dX8_sum_47 ?_
      refine j_nm hf (fun y1 hf => ?_)
      refine j_istore C (pc := 48) (L' := [(6, .int y1), (0, .ref a_t), (1, .int p1), (2, .int p2), (3, .int p3), (4, .int x4), (5, .int x5)]) dX8_sum_48 (by decide) rfl ?_
      refine j_aload_n C (pc := 50) 1 rfl rfl dX8_sum_50 ?_
      refine j_get C (pc := 51) kc_X8 fl_X8_39 0 rfl rfl dX8_sum_51 ?_
      refine j_iload C (pc := 54) 0 rfl dX8_sum_54 ?_
      refine j_iald C (pc := 56) 3 rfl hf dX8_sum_56 (fun hf => ?_)
      refine j_iconst C (pc := 57) (v := 2) (by decide) dX8_sum_57 ?_
      refine j_icmp_ge C (pc := 58) 106 dX8_sum_58 (by decide) hf (fun hf => ?_) (fun hf => ?_)
      · refine j_iinc C (pc := 106) (L' := [(5, .int (x5 + (1 : Int32))), (6, .int y1), (0, .ref a_t), (1, .int p1), (2, .int p2), (3, .int p3), (4, .int x4)]) (v := x5 + (1 : Int32)) dX8_sum_106 (t := 6) rfl rfl (by decide) rfl ?_
        refine j_goto C (pc := 109) 16 dX8_sum_109 (by decide) ?_
        refine j_sub [2, 3, 4, 5, 6, 0] rfl ?_
        exact hk16 _ _ _ hf
      · refine j_aload_n C (pc := 61) 1 rfl rfl dX8_sum_61 ?_
        refine j_iload_n C (pc := 62) 2 rfl rfl dX8_sum_62 ?_
        refine j_iload_n C (pc := 63) 3 rfl rfl dX8_sum_63 ?_
        refine j_iload_n C (pc := 64) 4 rfl rfl dX8_sum_64 ?_
        refine j_iload C (pc := 65) 0 rfl dX8_sum_65 ?_
        refine j_cVI C (pc := 67) (As := [.int p1, .int p2, .int p3, .int y1]) (st := []) (ws' := fun q2 => [oX8 a_t r_t v_people v_day v_texted v_at v_value v_digits v_open v_parishes v_holds v_coded v_seen v_inPlan v_inBook v_traced v_imaged v_most, aI G (r_t 7) 36 v_hate, aI G (r_t 17) 6 v_clauses, aI G (r_t 18) 61 v_word, aI G (r_t 20) 61 v_begins, aI G (r_t 21) 61 v_length, aZ G (r_t 24) 110 q2.2, aI G (r_t 22) 800 v_code, aI G (r_t 1) 6 v_kind, aI G (r_t 2) 6 v_v, aI G (r_t 19) 61 v_number]) ml_X8_232 ms_X8_isTrue hf (fun q2 h => (c_X8_isTrue G K.2.1) a_t r_t v_people v_day v_texted v_at v_value v_digits v_open v_parishes v_holds v_coded v_seen v_inPlan v_inBook v_traced v_imaged v_most v_begins v_length w_stack v_code v_kind v_v v_hate p1 p2 p3 y1 q2 h) [0, 4, 5, 6, 7, 8, 9, 1] [some 0, some 7, none, none, some 1, some 2, some 3, some 4, some 5, some 6, none] 11 rfl (by decide +kernel) (by decide +kernel) (fun _ => rfl) (fun _ => rfl) rfl rfl rfl rfl ⟨Nat.zero_le _, Nat.zero_le _⟩ dX8_sum_67 kc_X8 0 rfl (fun q2 hf => ?_)
        refine j_if_eq C (pc := 70) 106 dX8_sum_70 (by decide) hf (fun hf => ?_) (fun hf => ?_)
        · refine j_iinc C (pc := 106) (L' := [(5, .int (x5 + (1 : Int32))), (6, .int y1), (0, .ref a_t), (1, .int p1), (2, .int p2), (3, .int p3), (4, .int x4)]) (v := x5 + (1 : Int32)) dX8_sum_106 (t := 6) rfl rfl (by decide) rfl ?_
          refine j_goto C (pc := 109) 16 dX8_sum_109 (by decide) ?_
          refine j_sub [2, 3, 4, 5, 6, 0] rfl ?_
          exact hk16 _ _ _ hf
        · refine j_iload C (pc := 73) 5 rfl dX8_sum_73 ?_
          refine j_aload_n C (pc := 75) 1 rfl rfl dX8_sum_75 ?_
          refine j_get C (pc := 76) kc_X8 fl_X8_39 0 rfl rfl dX8_sum_76 ?_
          refine j_iload C (pc := 79) 0 rfl dX8_sum_79 ?_
          refine j_iald C (pc := 81) 3 rfl hf dX8_sum_81 (fun hf => ?_)
          refine j_if_ne C (pc := 82) 95 dX8_sum_82 (by decide) hf (fun hf => ?_) (fun hf => ?_)
          · refine j_aload_n C (pc := 95) 1 rfl rfl dX8_sum_95 ?_
            refine j_get C (pc := 96) kc_X8 fl_X8_42 0 rfl rfl dX8_sum_96 ?_
            refine j_iload C (pc := 99) 0 rfl dX8_sum_99 ?_
            refine j_iald C (pc := 101) 10 rfl hf dX8_sum_101 (fun hf => ?_)
            refine j_ineg C (pc := 102) dX8_sum_102 ?_
            refine j_iadd C (pc := 103) dX8_sum_103 ?_
            refine j_nm hf (fun y3 hf => ?_)
            refine j_istore C (pc := 104) (L' := [(4, .int y3), (6, .int y1), (0, .ref a_t), (1, .int p1), (2, .int p2), (3, .int p3), (5, .int x5)]) dX8_sum_104 (by decide) rfl ?_
            refine j_iinc C (pc := 106) (L' := [(5, .int (x5 + (1 : Int32))), (4, .int y3), (6, .int y1), (0, .ref a_t), (1, .int p1), (2, .int p2), (3, .int p3)]) (v := x5 + (1 : Int32)) dX8_sum_106 (t := 6) rfl rfl (by decide) rfl ?_
            refine j_goto C (pc := 109) 16 dX8_sum_109 (by decide) ?_
            refine j_sub [3, 4, 5, 6, 1, 0] rfl ?_
            exact hk16 _ _ _ hf
          · refine j_aload_n C (pc := 85) 1 rfl rfl dX8_sum_85 ?_
            refine j_get C (pc := 86) kc_X8 fl_X8_42 0 rfl rfl dX8_sum_86 ?_
            refine j_iload C (pc := 89) 0 rfl dX8_sum_89 ?_
            refine j_iald C (pc := 91) 10 rfl hf dX8_sum_91 (fun hf => ?_)
            refine j_goto C (pc := 92) 103 dX8_sum_92 (by decide) ?_
            refine j_iadd C (pc := 103) dX8_sum_103 ?_
            refine j_nm hf (fun y4 hf => ?_)
            refine j_istore C (pc := 104) (L' := [(4, .int y4), (6, .int y1), (0, .ref a_t), (1, .int p1), (2, .int p2), (3, .int p3), (5, .int x5)]) dX8_sum_104 (by decide) rfl ?_
            refine j_iinc C (pc := 106) (L' := [(5, .int (x5 + (1 : Int32))), (4, .int y4), (6, .int y1), (0, .ref a_t), (1, .int p1), (2, .int p2), (3, .int p3)]) (v := x5 + (1 : Int32)) dX8_sum_106 (t := 6) rfl rfl (by decide) rfl ?_
            refine j_goto C (pc := 109) 16 dX8_sum_109 (by decide) ?_
            refine j_sub [3, 4, 5, 6, 1, 0] rfl ?_
            exact hk16 _ _ _ hf
theorem t_X8_sum_16 {G : Gx} {K : Kx} (C : Cx G K cX8_sum RX8 7 3) {a_t : Nat} {r_t : Nat → Nat} {v_people : Int32} {v_day : Int32} {v_texted : Int32} {v_at : Int32} {v_value : Int32} {v_digits : Int32} {v_open : Int32} {v_parishes : Int32} {v_holds : Int32} {v_coded : Int32} {v_seen : Int32} {v_inPlan : Int32} {v_inBook : Int32} {v_traced : Int32} {v_imaged : Int32} {v_most : Int32} {v_hate : Nat → Int32} {v_clauses : Nat → Int32} {v_word : Nat → Int32} {v_begins : Nat → Int32} {v_length : Nat → Int32} {v_code : Nat → Int32} {v_kind : Nat → Int32} {v_v : Nat → Int32} {v_number : Nat → Int32} {p1 : Int32} {p2 : Int32} {p3 : Int32} {q : Int32 × (Nat → Int32)} (hQ : k_retI G K cX8_sum 7 .int [oX8 a_t r_t v_people v_day v_texted v_at v_value v_digits v_open v_parishes v_holds v_coded v_seen v_inPlan v_inBook v_traced v_imaged v_most, aI G (r_t 7) 36 v_hate, aI G (r_t 17) 6 v_clauses, aI G (r_t 18) 61 v_word, aI G (r_t 20) 61 v_begins, aI G (r_t 21) 61 v_length, aZ G (r_t 24) 110 q.2, aI G (r_t 22) 800 v_code, aI G (r_t 1) 6 v_kind, aI G (r_t 2) 6 v_v, aI G (r_t 19) 61 v_number] q.1) : ∀ (n : Nat) (x4 : Int32) (x5 : Int32) (w_stack : Nat → Int32), f_X8_sum_16 v_holds v_hate v_clauses v_word v_begins v_length v_code v_kind v_v v_number p1 p2 p3 n x4 x5 w_stack = some q → J G K 7 0 0 [oX8 a_t r_t v_people v_day v_texted v_at v_value v_digits v_open v_parishes v_holds v_coded v_seen v_inPlan v_inBook v_traced v_imaged v_most, aI G (r_t 7) 36 v_hate, aI G (r_t 17) 6 v_clauses, aI G (r_t 18) 61 v_word, aI G (r_t 20) 61 v_begins, aI G (r_t 21) 61 v_length, aZ G (r_t 24) 110 w_stack, aI G (r_t 22) 800 v_code, aI G (r_t 1) 6 v_kind, aI G (r_t 2) 6 v_v, aI G (r_t 19) 61 v_number] [(0, .ref a_t), (1, .int p1), (2, .int p2), (3, .int p3), (4, .int x4), (5, .int x5)] 16 [] := by
  intro n
  induction n with
  | zero => intro x4 x5 w_stack hf; cases hf
  | succ n ih => intro x4 x5 w_stack hf; exact t_X8_sum_16_b C hQ ih hf
def f_X8_sum (v_holds : Int32) (v_hate : Nat → Int32) (v_clauses : Nat → Int32) (v_word : Nat → Int32) (v_begins : Nat → Int32) (v_length : Nat → Int32) (v_stack : Nat → Int32) (v_code : Nat → Int32) (v_kind : Nat → Int32) (v_v : Nat → Int32) (v_number : Nat → Int32) (p1 : Int32) (p2 : Int32) (p3 : Int32) : Option (Int32 × (Nat → Int32)) := (gd (((6 : Int32) * p1) + p2) 36 (nm (v_hate (((6 : Int32) * p1) + p2).toNatClampNeg) fun y1 => (f_X8_sum_16 v_holds v_hate v_clauses v_word v_begins v_length v_code v_kind v_v v_number p1 p2 p3 1000 y1 (0 : Int32) v_stack)))
set_option maxRecDepth 20000 in
set_option maxHeartbeats 1000000 in
theorem t_X8_sum {G : Gx} {K : Kx} (C : Cx G K cX8_sum RX8 7 3) {a_t : Nat} {r_t : Nat → Nat} {v_people : Int32} {v_day : Int32} {v_texted : Int32} {v_at : Int32} {v_value : Int32} {v_digits : Int32} {v_open : Int32} {v_parishes : Int32} {v_holds : Int32} {v_coded : Int32} {v_seen : Int32} {v_inPlan : Int32} {v_inBook : Int32} {v_traced : Int32} {v_imaged : Int32} {v_most : Int32} {v_hate : Nat → Int32} {v_clauses : Nat → Int32} {v_word : Nat → Int32} {v_begins : Nat → Int32} {v_length : Nat → Int32} {v_stack : Nat → Int32} {v_code : Nat → Int32} {v_kind : Nat → Int32} {v_v : Nat → Int32} {v_number : Nat → Int32} {p1 : Int32} {p2 : Int32} {p3 : Int32} {q : Int32 × (Nat → Int32)} (hQ : k_retI G K cX8_sum 7 .int [oX8 a_t r_t v_people v_day v_texted v_at v_value v_digits v_open v_parishes v_holds v_coded v_seen v_inPlan v_inBook v_traced v_imaged v_most, aI G (r_t 7) 36 v_hate, aI G (r_t 17) 6 v_clauses, aI G (r_t 18) 61 v_word, aI G (r_t 20) 61 v_begins, aI G (r_t 21) 61 v_length, aZ G (r_t 24) 110 q.2, aI G (r_t 22) 800 v_code, aI G (r_t 1) 6 v_kind, aI G (r_t 2) 6 v_v, aI G (r_t 19) 61 v_number] q.1) (hf : f_X8_sum v_holds v_hate v_clauses v_word v_begins v_length v_stack v_code v_kind v_v v_number p1 p2 p3 = some q) : J G K 7 0 0 [oX8 a_t r_t v_people v_day v_texted v_at v_value v_digits v_open v_parishes v_holds v_coded v_seen v_inPlan v_inBook v_traced v_imaged v_most, aI G (r_t 7) 36 v_hate, aI G (r_t 17) 6 v_clauses, aI G (r_t 18) 61 v_word, aI G (r_t 20) 61 v_begins, aI G (r_t 21) 61 v_length, aZ G (r_t 24) 110 v_stack, aI G (r_t 22) 800 v_code, aI G (r_t 1) 6 v_kind, aI G (r_t 2) 6 v_v, aI G (r_t 19) 61 v_number] [(0, .ref a_t), (1, .int p1), (2, .int p2), (3, .int p3)] 0 [] := by
  unfold f_X8_sum at hf
  refine j_aload_n C (pc := 0) 0 rfl rfl dX8_sum_0 ?_
  refine j_get C (pc := 1) kc_X8 fl_X8_30 0 rfl rfl dX8_sum_1 ?_
  refine j_bipush C (pc := 4) (v := 6) (by decide) dX8_sum_4 ?_
  refine j_iload_n C (pc := 6) 1 rfl rfl dX8_sum_6 ?_
  refine j_imul C (pc := 7) dX8_sum_7 ?_
  refine j_iload_n C (pc := 8) 2 rfl rfl dX8_sum_8 ?_
  refine j_iadd C (pc := 9) dX8_sum_9 ?_
  refine j_iald C (pc := 10) 1 rfl hf dX8_sum_10 (fun hf => ?_)
  refine j_nm hf (fun y1 hf => ?_)
  refine j_istore C (pc := 11) (L' := [(4, .int y1), (0, .ref a_t), (1, .int p1), (2, .int p2), (3, .int p3)]) dX8_sum_11 (by decide) rfl ?_
  refine j_iconst C (pc := 13) (v := 0) (by decide) dX8_sum_13 ?_
  refine j_istore C (pc := 14) (L' := [(5, .int (0 : Int32)), (4, .int y1), (0, .ref a_t), (1, .int p1), (2, .int p2), (3, .int p3)]) dX8_sum_14 (by decide) rfl ?_
  refine j_sub [2, 3, 4, 5, 1, 0] rfl ?_
  exact t_X8_sum_16 C hQ 1000 _ _ _ hf
def ct_X8_sum (G : Gx) (l : Launch) (F : Int32 → (Nat → Int32) → (Nat → Int32) → (Nat → Int32) → (Nat → Int32) → (Nat → Int32) → (Nat → Int32) → (Nat → Int32) → (Nat → Int32) → (Nat → Int32) → (Nat → Int32) → Int32 → Int32 → Int32 → Option (Int32 × (Nat → Int32))) (lv : Nat) : Prop := ∀ (a_t : Nat) (r_t : Nat → Nat) (v_people : Int32) (v_day : Int32) (v_texted : Int32) (v_at : Int32) (v_value : Int32) (v_digits : Int32) (v_open : Int32) (v_parishes : Int32) (v_holds : Int32) (v_coded : Int32) (v_seen : Int32) (v_inPlan : Int32) (v_inBook : Int32) (v_traced : Int32) (v_imaged : Int32) (v_most : Int32) (v_hate : Nat → Int32) (v_clauses : Nat → Int32) (v_word : Nat → Int32) (v_begins : Nat → Int32) (v_length : Nat → Int32) (v_stack : Nat → Int32) (v_code : Nat → Int32) (v_kind : Nat → Int32) (v_v : Nat → Int32) (v_number : Nat → Int32) (p1 : Int32) (p2 : Int32) (p3 : Int32), ∀ (q : Int32 × (Nat → Int32)), F v_holds v_hate v_clauses v_word v_begins v_length v_stack v_code v_kind v_v v_number p1 p2 p3 = some q → MI G l yX8_sum cX8_sum 7 .int lv [.ref a_t, .int p1, .int p2, .int p3] [oX8 a_t r_t v_people v_day v_texted v_at v_value v_digits v_open v_parishes v_holds v_coded v_seen v_inPlan v_inBook v_traced v_imaged v_most, aI G (r_t 7) 36 v_hate, aI G (r_t 17) 6 v_clauses, aI G (r_t 18) 61 v_word, aI G (r_t 20) 61 v_begins, aI G (r_t 21) 61 v_length, aZ G (r_t 24) 110 v_stack, aI G (r_t 22) 800 v_code, aI G (r_t 1) 6 v_kind, aI G (r_t 2) 6 v_v, aI G (r_t 19) 61 v_number] [oX8 a_t r_t v_people v_day v_texted v_at v_value v_digits v_open v_parishes v_holds v_coded v_seen v_inPlan v_inBook v_traced v_imaged v_most, aI G (r_t 7) 36 v_hate, aI G (r_t 17) 6 v_clauses, aI G (r_t 18) 61 v_word, aI G (r_t 20) 61 v_begins, aI G (r_t 21) 61 v_length, aZ G (r_t 24) 110 q.2, aI G (r_t 22) 800 v_code, aI G (r_t 1) 6 v_kind, aI G (r_t 2) 6 v_v, aI G (r_t 19) 61 v_number] q.1
theorem c_X8_sum (G : Gx) (l : Launch) : ct_X8_sum G l f_X8_sum 3 := by
  intro a_t r_t v_people v_day v_texted v_at v_value v_digits v_open v_parishes v_holds v_coded v_seen v_inPlan v_inBook v_traced v_imaged v_most v_hate v_clauses v_word v_begins v_length v_stack v_code v_kind v_v v_number p1 p2 p3 q hf
  exact mI_of (by decide +kernel) rfl (fun K hl C hQ => t_X8_sum C hQ hf)
-- X8_spite
def f_X8_spite (v_holds : Int32) (v_hate : Nat → Int32) (v_clauses : Nat → Int32) (v_word : Nat → Int32) (v_begins : Nat → Int32) (v_length : Nat → Int32) (v_stack : Nat → Int32) (v_code : Nat → Int32) (v_kind : Nat → Int32) (v_v : Nat → Int32) (v_number : Nat → Int32) (v_rows : Nat → Int32) (p1 : Int32) (p2 : Int32) (p3 : Int32) : Option (Int32 × (Nat → Int32)) := ((f_X8_sum v_holds v_hate v_clauses v_word v_begins v_length v_stack v_code v_kind v_v v_number p1 p2 p3).bind fun q1 => (gd p1 6 (if (v_kind p1.toNatClampNeg) = (1 : Int32) then (some (q1.1 - (p3 - p3 / (7 : Int32) * (7 : Int32)), q1.2)) else (if (v_kind p1.toNatClampNeg) = (2 : Int32) then (if (p3 - p3 / (2 : Int32) * (2 : Int32)) = (1 : Int32) then (some (q1.1 / (2 : Int32), q1.2)) else (some (q1.1, q1.2))) else (if (v_kind p1.toNatClampNeg) = (3 : Int32) then (gd p1 6 (some (q1.1 + (v_v p1.toNatClampNeg), q1.2))) else (if (v_kind p1.toNatClampNeg) = (4 : Int32) then (gd p1 6 (some ((q1.1 - (p3 - p3 / (7 : Int32) * (7 : Int32))) - ((2 : Int32) * (v_v p1.toNatClampNeg)), q1.2))) else (if (v_kind p1.toNatClampNeg) = (5 : Int32) then (if (p3 - p3 / (2 : Int32) * (2 : Int32)) = (1 : Int32) then (if p2 ≤ p1 then (some ((q1.1 / (2 : Int32)) + (0 : Int32), q1.2)) else (some ((q1.1 / (2 : Int32)) + (20 : Int32), q1.2))) else (if p2 ≤ p1 then (some (q1.1 + (0 : Int32), q1.2)) else (some (q1.1 + (20 : Int32), q1.2)))) else (if (v_kind p1.toNatClampNeg) = (6 : Int32) then (gd p1 6 (gd (((4 : Int32) * p1) + (p3 - p3 / (4 : Int32) * (4 : Int32))) 24 (some ((q1.1 + (v_v p1.toNatClampNeg)) + (v_rows (((4 : Int32) * p1) + (p3 - p3 / (4 : Int32) * (4 : Int32))).toNatClampNeg), q1.2)))) else (some (q1.1, q1.2))))))))))
set_option maxRecDepth 20000 in
set_option maxHeartbeats 1000000 in
theorem t_X8_spite {G : Gx} {K : Kx} (C : Cx G K cX8_spite RX8 5 4) {a_t : Nat} {r_t : Nat → Nat} {v_people : Int32} {v_day : Int32} {v_texted : Int32} {v_at : Int32} {v_value : Int32} {v_digits : Int32} {v_open : Int32} {v_parishes : Int32} {v_holds : Int32} {v_coded : Int32} {v_seen : Int32} {v_inPlan : Int32} {v_inBook : Int32} {v_traced : Int32} {v_imaged : Int32} {v_most : Int32} {v_hate : Nat → Int32} {v_clauses : Nat → Int32} {v_word : Nat → Int32} {v_begins : Nat → Int32} {v_length : Nat → Int32} {v_stack : Nat → Int32} {v_code : Nat → Int32} {v_kind : Nat → Int32} {v_v : Nat → Int32} {v_number : Nat → Int32} {v_rows : Nat → Int32} {p1 : Int32} {p2 : Int32} {p3 : Int32} {q : Int32 × (Nat → Int32)} (hQ : k_retI G K cX8_spite 5 .int [oX8 a_t r_t v_people v_day v_texted v_at v_value v_digits v_open v_parishes v_holds v_coded v_seen v_inPlan v_inBook v_traced v_imaged v_most, aI G (r_t 7) 36 v_hate, aI G (r_t 17) 6 v_clauses, aI G (r_t 18) 61 v_word, aI G (r_t 20) 61 v_begins, aI G (r_t 21) 61 v_length, aZ G (r_t 24) 110 q.2, aI G (r_t 22) 800 v_code, aI G (r_t 1) 6 v_kind, aI G (r_t 2) 6 v_v, aI G (r_t 19) 61 v_number, aI G (r_t 6) 24 v_rows] q.1) (hf : f_X8_spite v_holds v_hate v_clauses v_word v_begins v_length v_stack v_code v_kind v_v v_number v_rows p1 p2 p3 = some q) : J G K 5 0 0 [oX8 a_t r_t v_people v_day v_texted v_at v_value v_digits v_open v_parishes v_holds v_coded v_seen v_inPlan v_inBook v_traced v_imaged v_most, aI G (r_t 7) 36 v_hate, aI G (r_t 17) 6 v_clauses, aI G (r_t 18) 61 v_word, aI G (r_t 20) 61 v_begins, aI G (r_t 21) 61 v_length, aZ G (r_t 24) 110 v_stack, aI G (r_t 22) 800 v_code, aI G (r_t 1) 6 v_kind, aI G (r_t 2) 6 v_v, aI G (r_t 19) 61 v_number, aI G (r_t 6) 24 v_rows] [(0, .ref a_t), (1, .int p1), (2, .int p2), (3, .int p3)] 0 [] := by
  unfold f_X8_spite at hf
  refine j_aload_n C (pc := 0) 0 rfl rfl dX8_spite_0 ?_
  refine j_iload_n C (pc := 1) 1 rfl rfl dX8_spite_1 ?_
  refine j_iload_n C (pc := 2) 2 rfl rfl dX8_spite_2 ?_
  refine j_iload_n C (pc := 3) 3 rfl rfl dX8_spite_3 ?_
  refine j_cVI C (pc := 4) (As := [.int p1, .int p2, .int p3]) (st := []) (ws' := fun q1 => [oX8 a_t r_t v_people v_day v_texted v_at v_value v_digits v_open v_parishes v_holds v_coded v_seen v_inPlan v_inBook v_traced v_imaged v_most, aI G (r_t 7) 36 v_hate, aI G (r_t 17) 6 v_clauses, aI G (r_t 18) 61 v_word, aI G (r_t 20) 61 v_begins, aI G (r_t 21) 61 v_length, aZ G (r_t 24) 110 q1.2, aI G (r_t 22) 800 v_code, aI G (r_t 1) 6 v_kind, aI G (r_t 2) 6 v_v, aI G (r_t 19) 61 v_number, aI G (r_t 6) 24 v_rows]) ml_X8_236 ms_X8_sum hf (fun q1 h => (c_X8_sum G K.2.1) a_t r_t v_people v_day v_texted v_at v_value v_digits v_open v_parishes v_holds v_coded v_seen v_inPlan v_inBook v_traced v_imaged v_most v_hate v_clauses v_word v_begins v_length v_stack v_code v_kind v_v v_number p1 p2 p3 q1 h) [0, 1, 2, 3, 4, 5, 6, 7, 8, 9, 10] [some 0, some 1, some 2, some 3, some 4, some 5, some 6, some 7, some 8, some 9, some 10, none] 12 rfl (by decide +kernel) (by decide +kernel) (fun _ => rfl) (fun _ => rfl) rfl rfl rfl rfl ⟨Nat.zero_le _, Nat.zero_le _⟩ dX8_spite_4 kc_X8 0 rfl (fun q1 hf => ?_)
  refine j_istore C (pc := 7) (L' := [(4, .int q1.1), (0, .ref a_t), (1, .int p1), (2, .int p2), (3, .int p3)]) dX8_spite_7 (by decide) rfl ?_
  refine j_aload_n C (pc := 9) 1 rfl rfl dX8_spite_9 ?_
  refine j_get C (pc := 10) kc_X8 fl_X8_9 0 rfl rfl dX8_spite_10 ?_
  refine j_iload_n C (pc := 13) 2 rfl rfl dX8_spite_13 ?_
  refine j_iald C (pc := 14) 8 rfl hf dX8_spite_14 (fun hf => ?_)
  obtain ⟨h1, hf⟩ | ⟨h1, hf⟩ := k_or hf
  · refine j_tabIn C (pc := 15) 52 dX8_spite_15 (by rw [h1]; decide) (by rw [h1]; decide) (by rw [h1] <;> rfl) (by decide) ?_
    refine j_iload C (pc := 52) 0 rfl dX8_spite_52 ?_
    refine j_iload_n C (pc := 54) 4 rfl rfl dX8_spite_54 ?_
    refine j_bipush C (pc := 55) (v := 7) (by decide) dX8_spite_55 ?_
    refine j_irem C (pc := 57) dX8_spite_57 (gz_mk (by decide) hf) (fun hf => ?_)
    refine j_isub C (pc := 58) dX8_spite_58 ?_
    obtain rfl := Option.some.inj hf
    exact hQ _ _ dX8_spite_59 rfl
  · skip
    obtain ⟨h2, hf⟩ | ⟨h2, hf⟩ := k_or hf
    · refine j_tabIn C (pc := 15) 60 dX8_spite_15 (by rw [h2]; decide) (by rw [h2]; decide) (by rw [h2] <;> rfl) (by decide) ?_
      refine j_iload_n C (pc := 60) 4 rfl rfl dX8_spite_60 ?_
      refine j_iconst C (pc := 61) (v := 2) (by decide) dX8_spite_61 ?_
      refine j_irem C (pc := 62) dX8_spite_62 (gz_mk (by decide) hf) (fun hf => ?_)
      refine j_iconst C (pc := 63) (v := 1) (by decide) dX8_spite_63 ?_
      refine j_icmp_ne C (pc := 64) 74 dX8_spite_64 (by decide) hf (fun hf => ?_) (fun hf => ?_)
      · refine j_iload C (pc := 74) 0 rfl dX8_spite_74 ?_
        obtain rfl := Option.some.inj hf
        exact hQ _ _ dX8_spite_76 rfl
      · refine j_iload C (pc := 67) 0 rfl dX8_spite_67 ?_
        refine j_iconst C (pc := 69) (v := 2) (by decide) dX8_spite_69 ?_
        refine j_idiv C (pc := 70) dX8_spite_70 (gz_mk (by decide) hf) (fun hf => ?_)
        refine j_goto C (pc := 71) 76 dX8_spite_71 (by decide) ?_
        obtain rfl := Option.some.inj hf
        exact hQ _ _ dX8_spite_76 rfl
    · skip
      obtain ⟨h3, hf⟩ | ⟨h3, hf⟩ := k_or hf
      · refine j_tabIn C (pc := 15) 77 dX8_spite_15 (by rw [h3]; decide) (by rw [h3]; decide) (by rw [h3] <;> rfl) (by decide) ?_
        refine j_iload C (pc := 77) 0 rfl dX8_spite_77 ?_
        refine j_aload_n C (pc := 79) 1 rfl rfl dX8_spite_79 ?_
        refine j_get C (pc := 80) kc_X8 fl_X8_15 0 rfl rfl dX8_spite_80 ?_
        refine j_iload_n C (pc := 83) 2 rfl rfl dX8_spite_83 ?_
        refine j_iald C (pc := 84) 9 rfl hf dX8_spite_84 (fun hf => ?_)
        refine j_iadd C (pc := 85) dX8_spite_85 ?_
        obtain rfl := Option.some.inj hf
        exact hQ _ _ dX8_spite_86 rfl
      · skip
        obtain ⟨h4, hf⟩ | ⟨h4, hf⟩ := k_or hf
        · refine j_tabIn C (pc := 15) 87 dX8_spite_15 (by rw [h4]; decide) (by rw [h4]; decide) (by rw [h4] <;> rfl) (by decide) ?_
          refine j_iload C (pc := 87) 0 rfl dX8_spite_87 ?_
          refine j_iload_n C (pc := 89) 4 rfl rfl dX8_spite_89 ?_
          refine j_bipush C (pc := 90) (v := 7) (by decide) dX8_spite_90 ?_
          refine j_irem C (pc := 92) dX8_spite_92 (gz_mk (by decide) hf) (fun hf => ?_)
          refine j_isub C (pc := 93) dX8_spite_93 ?_
          refine j_iconst C (pc := 94) (v := 2) (by decide) dX8_spite_94 ?_
          refine j_aload_n C (pc := 95) 1 rfl rfl dX8_spite_95 ?_
          refine j_get C (pc := 96) kc_X8 fl_X8_15 0 rfl rfl dX8_spite_96 ?_
          refine j_iload_n C (pc := 99) 2 rfl rfl dX8_spite_99 ?_
          refine j_iald C (pc := 100) 9 rfl hf dX8_spite_100 (fun hf => ?_)
          refine j_imul C (pc := 101) dX8_spite_101 ?_
          refine j_isub C (pc := 102) dX8_spite_102 ?_
          obtain rfl := Option.some.inj hf
          exact hQ _ _ dX8_spite_103 rfl
        · skip
          obtain ⟨h5, hf⟩ | ⟨h5, hf⟩ := k_or hf
          · refine j_tabIn C (pc := 15) 104 dX8_spite_15 (by rw [h5]; decide) (by rw [h5]; decide) (by rw [h5] <;> rfl) (by decide) ?_
            refine j_iload_n C (pc := 104) 4 rfl rfl dX8_spite_104 ?_
            refine j_iconst C (pc := 105) (v := 2) (by decide) dX8_spite_105 ?_
            refine j_irem C (pc := 106) dX8_spite_106 (gz_mk (by decide) hf) (fun hf => ?_)
            refine j_iconst C (pc := 107) (v := 1) (by decide) dX8_spite_107 ?_
            refine j_icmp_ne C (pc := 108) 118 dX8_spite_108 (by decide) hf (fun hf => ?_) (fun hf => ?_)
            · refine j_iload C (pc := 118) 0 rfl dX8_spite_118 ?_
              refine j_iload_n C (pc := 120) 3 rfl rfl dX8_spite_120 ?_
              refine j_iload_n C (pc := 121) 2 rfl rfl dX8_spite_121 ?_
              refine j_icmp_le C (pc := 122) 130 dX8_spite_122 (by decide) hf (fun hf => ?_) (fun hf => ?_)
              · refine j_iconst C (pc := 130) (v := 0) (by decide) dX8_spite_130 ?_
                refine j_iadd C (pc := 131) dX8_spite_131 ?_
                obtain rfl := Option.some.inj hf
                exact hQ _ _ dX8_spite_132 rfl
              · refine j_bipush C (pc := 125) (v := 20) (by decide) dX8_spite_125 ?_
                refine j_goto C (pc := 127) 131 dX8_spite_127 (by decide) ?_
                refine j_iadd C (pc := 131) dX8_spite_131 ?_
                obtain rfl := Option.some.inj hf
                exact hQ _ _ dX8_spite_132 rfl
            · refine j_iload C (pc := 111) 0 rfl dX8_spite_111 ?_
              refine j_iconst C (pc := 113) (v := 2) (by decide) dX8_spite_113 ?_
              refine j_idiv C (pc := 114) dX8_spite_114 (gz_mk (by decide) hf) (fun hf => ?_)
              refine j_goto C (pc := 115) 120 dX8_spite_115 (by decide) ?_
              refine j_iload_n C (pc := 120) 3 rfl rfl dX8_spite_120 ?_
              refine j_iload_n C (pc := 121) 2 rfl rfl dX8_spite_121 ?_
              refine j_icmp_le C (pc := 122) 130 dX8_spite_122 (by decide) hf (fun hf => ?_) (fun hf => ?_)
              · refine j_iconst C (pc := 130) (v := 0) (by decide) dX8_spite_130 ?_
                refine j_iadd C (pc := 131) dX8_spite_131 ?_
                obtain rfl := Option.some.inj hf
                exact hQ _ _ dX8_spite_132 rfl
              · refine j_bipush C (pc := 125) (v := 20) (by decide) dX8_spite_125 ?_
                refine j_goto C (pc := 127) 131 dX8_spite_127 (by decide) ?_
                refine j_iadd C (pc := 131) dX8_spite_131 ?_
                obtain rfl := Option.some.inj hf
                exact hQ _ _ dX8_spite_132 rfl
          · skip
            obtain ⟨h6, hf⟩ | ⟨h6, hf⟩ := k_or hf
            · refine j_tabIn C (pc := 15) 133 dX8_spite_15 (by rw [h6]; decide) (by rw [h6]; decide) (by rw [h6] <;> rfl) (by decide) ?_
              refine j_iload C (pc := 133) 0 rfl dX8_spite_133 ?_
              refine j_aload_n C (pc := 135) 1 rfl rfl dX8_spite_135 ?_
              refine j_get C (pc := 136) kc_X8 fl_X8_15 0 rfl rfl dX8_spite_136 ?_
              refine j_iload_n C (pc := 139) 2 rfl rfl dX8_spite_139 ?_
              refine j_iald C (pc := 140) 9 rfl hf dX8_spite_140 (fun hf => ?_)
              refine j_iadd C (pc := 141) dX8_spite_141 ?_
              refine j_aload_n C (pc := 142) 1 rfl rfl dX8_spite_142 ?_
              refine j_get C (pc := 143) kc_X8 fl_X8_27 0 rfl rfl dX8_spite_143 ?_
              refine j_iconst C (pc := 146) (v := 4) (by decide) dX8_spite_146 ?_
              refine j_iload_n C (pc := 147) 2 rfl rfl dX8_spite_147 ?_
              refine j_imul C (pc := 148) dX8_spite_148 ?_
              refine j_iload_n C (pc := 149) 4 rfl rfl dX8_spite_149 ?_
              refine j_iconst C (pc := 150) (v := 4) (by decide) dX8_spite_150 ?_
              refine j_irem C (pc := 151) dX8_spite_151 (gz_mk (by decide) hf) (fun hf => ?_)
              refine j_iadd C (pc := 152) dX8_spite_152 ?_
              refine j_iald C (pc := 153) 11 rfl hf dX8_spite_153 (fun hf => ?_)
              refine j_iadd C (pc := 154) dX8_spite_154 ?_
              obtain rfl := Option.some.inj hf
              exact hQ _ _ dX8_spite_155 rfl
            · skip
              have hout : (v_kind p1.toNatClampNeg).toInt < 1 ∨ 6 < (v_kind p1.toNatClampNeg).toInt := by
                have := lv_neT (a := 1) h1 rfl
                have := lv_neT (a := 2) h2 rfl
                have := lv_neT (a := 3) h3 rfl
                have := lv_neT (a := 4) h4 rfl
                have := lv_neT (a := 5) h5 rfl
                have := lv_neT (a := 6) h6 rfl
                omega
              refine j_tabOut C (pc := 15) 156 dX8_spite_15 hout (by decide) ?_
              refine j_iload C (pc := 156) 0 rfl dX8_spite_156 ?_
              obtain rfl := Option.some.inj hf
              exact hQ _ _ dX8_spite_158 rfl
def ct_X8_spite (G : Gx) (l : Launch) (F : Int32 → (Nat → Int32) → (Nat → Int32) → (Nat → Int32) → (Nat → Int32) → (Nat → Int32) → (Nat → Int32) → (Nat → Int32) → (Nat → Int32) → (Nat → Int32) → (Nat → Int32) → (Nat → Int32) → Int32 → Int32 → Int32 → Option (Int32 × (Nat → Int32))) (lv : Nat) : Prop := ∀ (a_t : Nat) (r_t : Nat → Nat) (v_people : Int32) (v_day : Int32) (v_texted : Int32) (v_at : Int32) (v_value : Int32) (v_digits : Int32) (v_open : Int32) (v_parishes : Int32) (v_holds : Int32) (v_coded : Int32) (v_seen : Int32) (v_inPlan : Int32) (v_inBook : Int32) (v_traced : Int32) (v_imaged : Int32) (v_most : Int32) (v_hate : Nat → Int32) (v_clauses : Nat → Int32) (v_word : Nat → Int32) (v_begins : Nat → Int32) (v_length : Nat → Int32) (v_stack : Nat → Int32) (v_code : Nat → Int32) (v_kind : Nat → Int32) (v_v : Nat → Int32) (v_number : Nat → Int32) (v_rows : Nat → Int32) (p1 : Int32) (p2 : Int32) (p3 : Int32), ∀ (q : Int32 × (Nat → Int32)), F v_holds v_hate v_clauses v_word v_begins v_length v_stack v_code v_kind v_v v_number v_rows p1 p2 p3 = some q → MI G l yX8_spite cX8_spite 5 .int lv [.ref a_t, .int p1, .int p2, .int p3] [oX8 a_t r_t v_people v_day v_texted v_at v_value v_digits v_open v_parishes v_holds v_coded v_seen v_inPlan v_inBook v_traced v_imaged v_most, aI G (r_t 7) 36 v_hate, aI G (r_t 17) 6 v_clauses, aI G (r_t 18) 61 v_word, aI G (r_t 20) 61 v_begins, aI G (r_t 21) 61 v_length, aZ G (r_t 24) 110 v_stack, aI G (r_t 22) 800 v_code, aI G (r_t 1) 6 v_kind, aI G (r_t 2) 6 v_v, aI G (r_t 19) 61 v_number, aI G (r_t 6) 24 v_rows] [oX8 a_t r_t v_people v_day v_texted v_at v_value v_digits v_open v_parishes v_holds v_coded v_seen v_inPlan v_inBook v_traced v_imaged v_most, aI G (r_t 7) 36 v_hate, aI G (r_t 17) 6 v_clauses, aI G (r_t 18) 61 v_word, aI G (r_t 20) 61 v_begins, aI G (r_t 21) 61 v_length, aZ G (r_t 24) 110 q.2, aI G (r_t 22) 800 v_code, aI G (r_t 1) 6 v_kind, aI G (r_t 2) 6 v_v, aI G (r_t 19) 61 v_number, aI G (r_t 6) 24 v_rows] q.1
theorem c_X8_spite (G : Gx) (l : Launch) : ct_X8_spite G l f_X8_spite 4 := by
  intro a_t r_t v_people v_day v_texted v_at v_value v_digits v_open v_parishes v_holds v_coded v_seen v_inPlan v_inBook v_traced v_imaged v_most v_hate v_clauses v_word v_begins v_length v_stack v_code v_kind v_v v_number v_rows p1 p2 p3 q hf
  exact mI_of (by decide +kernel) rfl (fun K hl C hQ => t_X8_spite C hQ hf)
-- X8_need
def f_X8_need_5_b (v_holds : Int32) (v_clauses : Nat → Int32) (v_word : Nat → Int32) (v_number : Nat → Int32) (k5 : Int32 → Int32 → Option (Int32)) (x1 : Int32) (x2 : Int32) : Option (Int32) := (if v_holds = (-1 : Int32) then (some x1) else (gd v_holds 6 (if (v_clauses v_holds.toNatClampNeg) ≤ x2 then (some x1) else (gd (((10 : Int32) * v_holds) + x2) 61 (if (v_word (((10 : Int32) * v_holds) + x2).toNatClampNeg) = (2 : Int32) then (gd (((10 : Int32) * v_holds) + x2) 61 (nm (v_number (((10 : Int32) * v_holds) + x2).toNatClampNeg) fun y1 => (k5 y1 (x2 + (1 : Int32))))) else (k5 x1 (x2 + (1 : Int32))))))))
def f_X8_need_5 (v_holds : Int32) (v_clauses : Nat → Int32) (v_word : Nat → Int32) (v_number : Nat → Int32) : Nat → Int32 → Int32 → Option (Int32)
  | 0 => fun _ _ => none
  | n + 1 => f_X8_need_5_b v_holds v_clauses v_word v_number (f_X8_need_5 v_holds v_clauses v_word v_number n)
set_option maxRecDepth 20000 in
set_option maxHeartbeats 1000000 in
theorem t_X8_need_5_b {G : Gx} {K : Kx} (C : Cx G K cX8_need RX8 3 1) {a_t : Nat} {r_t : Nat → Nat} {v_people : Int32} {v_day : Int32} {v_texted : Int32} {v_at : Int32} {v_value : Int32} {v_digits : Int32} {v_open : Int32} {v_parishes : Int32} {v_holds : Int32} {v_coded : Int32} {v_seen : Int32} {v_inPlan : Int32} {v_inBook : Int32} {v_traced : Int32} {v_imaged : Int32} {v_most : Int32} {v_clauses : Nat → Int32} {v_word : Nat → Int32} {v_number : Nat → Int32} {q : Int32} (hQ : k_retI G K cX8_need 3 .int [oX8 a_t r_t v_people v_day v_texted v_at v_value v_digits v_open v_parishes v_holds v_coded v_seen v_inPlan v_inBook v_traced v_imaged v_most, aI G (r_t 17) 6 v_clauses, aI G (r_t 18) 61 v_word, aI G (r_t 19) 61 v_number] q) {k5 : Int32 → Int32 → Option (Int32)} (hk5 : ∀ (x1 : Int32) (x2 : Int32), k5 x1 x2 = some q → J G K 3 0 0 [oX8 a_t r_t v_people v_day v_texted v_at v_value v_digits v_open v_parishes v_holds v_coded v_seen v_inPlan v_inBook v_traced v_imaged v_most, aI G (r_t 17) 6 v_clauses, aI G (r_t 18) 61 v_word, aI G (r_t 19) 61 v_number] [(0, .ref a_t), (1, .int x1), (2, .int x2)] 5 []) {x1 : Int32} {x2 : Int32} (hf : f_X8_need_5_b v_holds v_clauses v_word v_number k5 x1 x2 = some q) : J G K 3 0 0 [oX8 a_t r_t v_people v_day v_texted v_at v_value v_digits v_open v_parishes v_holds v_coded v_seen v_inPlan v_inBook v_traced v_imaged v_most, aI G (r_t 17) 6 v_clauses, aI G (r_t 18) 61 v_word, aI G (r_t 19) 61 v_number] [(0, .ref a_t), (1, .int x1), (2, .int x2)] 5 [] := by
  unfold f_X8_need_5_b at hf
  refine j_aload_n C (pc := 5) 0 rfl rfl dX8_need_5 ?_
  refine j_get C (pc := 6) kc_X8 fl_X8_110 0 rfl rfl dX8_need_6 ?_
  refine j_iconst C (pc := 9) (v := -1) (by decide) dX8_need_9 ?_
  refine j_icmp_eq C (pc := 10) 65 dX8_need_10 (by decide) hf (fun hf => ?_) (fun hf => ?_)
  · refine j_iload_n C (pc := 65) 1 rfl rfl dX8_need_65 ?_
    obtain rfl := Option.some.inj hf
    exact hQ _ _ dX8_need_66 rfl
  · refine j_iload_n C (pc := 13) 2 rfl rfl dX8_need_13 ?_
    refine j_aload_n C (pc := 14) 0 rfl rfl dX8_need_14 ?_
    refine j_get C (pc := 15) kc_X8 fl_X8_36 0 rfl rfl dX8_need_15 ?_
    refine j_aload_n C (pc := 18) 0 rfl rfl dX8_need_18 ?_
    refine j_get C (pc := 19) kc_X8 fl_X8_110 0 rfl rfl dX8_need_19 ?_
    refine j_iald C (pc := 22) 1 rfl hf dX8_need_22 (fun hf => ?_)
    refine j_icmp_ge C (pc := 23) 65 dX8_need_23 (by decide) hf (fun hf => ?_) (fun hf => ?_)
    · refine j_iload_n C (pc := 65) 1 rfl rfl dX8_need_65 ?_
      obtain rfl := Option.some.inj hf
      exact hQ _ _ dX8_need_66 rfl
    · refine j_aload_n C (pc := 26) 0 rfl rfl dX8_need_26 ?_
      refine j_get C (pc := 27) kc_X8 fl_X8_39 0 rfl rfl dX8_need_27 ?_
      refine j_bipush C (pc := 30) (v := 10) (by decide) dX8_need_30 ?_
      refine j_aload_n C (pc := 32) 0 rfl rfl dX8_need_32 ?_
      refine j_get C (pc := 33) kc_X8 fl_X8_110 0 rfl rfl dX8_need_33 ?_
      refine j_imul C (pc := 36) dX8_need_36 ?_
      refine j_iload_n C (pc := 37) 2 rfl rfl dX8_need_37 ?_
      refine j_iadd C (pc := 38) dX8_need_38 ?_
      refine j_iald C (pc := 39) 2 rfl hf dX8_need_39 (fun hf => ?_)
      refine j_iconst C (pc := 40) (v := 2) (by decide) dX8_need_40 ?_
      refine j_icmp_ne C (pc := 41) 59 dX8_need_41 (by decide) hf (fun hf => ?_) (fun hf => ?_)
      · refine j_iinc C (pc := 59) (L' := [(2, .int (x2 + (1 : Int32))), (0, .ref a_t), (1, .int x1)]) (v := x2 + (1 : Int32)) dX8_need_59 (t := 2) rfl rfl (by decide) rfl ?_
        refine j_goto C (pc := 62) 5 dX8_need_62 (by decide) ?_
        refine j_sub [1, 2, 0] rfl ?_
        exact hk5 _ _ hf
      · refine j_aload_n C (pc := 44) 0 rfl rfl dX8_need_44 ?_
        refine j_get C (pc := 45) kc_X8 fl_X8_42 0 rfl rfl dX8_need_45 ?_
        refine j_bipush C (pc := 48) (v := 10) (by decide) dX8_need_48 ?_
        refine j_aload_n C (pc := 50) 0 rfl rfl dX8_need_50 ?_
        refine j_get C (pc := 51) kc_X8 fl_X8_110 0 rfl rfl dX8_need_51 ?_
        refine j_imul C (pc := 54) dX8_need_54 ?_
        refine j_iload_n C (pc := 55) 2 rfl rfl dX8_need_55 ?_
        refine j_iadd C (pc := 56) dX8_need_56 ?_
        refine j_iald C (pc := 57) 3 rfl hf dX8_need_57 (fun hf => ?_)
        refine j_nm hf (fun y1 hf => ?_)
        refine j_istore_n C (pc := 58) (L' := [(1, .int y1), (0, .ref a_t), (2, .int x2)]) dX8_need_58 rfl (by decide) rfl ?_
        refine j_iinc C (pc := 59) (L' := [(2, .int (x2 + (1 : Int32))), (1, .int y1), (0, .ref a_t)]) (v := x2 + (1 : Int32)) dX8_need_59 (t := 2) rfl rfl (by decide) rfl ?_
        refine j_goto C (pc := 62) 5 dX8_need_62 (by decide) ?_
        refine j_sub [2, 1, 0] rfl ?_
        exact hk5 _ _ hf
theorem t_X8_need_5 {G : Gx} {K : Kx} (C : Cx G K cX8_need RX8 3 1) {a_t : Nat} {r_t : Nat → Nat} {v_people : Int32} {v_day : Int32} {v_texted : Int32} {v_at : Int32} {v_value : Int32} {v_digits : Int32} {v_open : Int32} {v_parishes : Int32} {v_holds : Int32} {v_coded : Int32} {v_seen : Int32} {v_inPlan : Int32} {v_inBook : Int32} {v_traced : Int32} {v_imaged : Int32} {v_most : Int32} {v_clauses : Nat → Int32} {v_word : Nat → Int32} {v_number : Nat → Int32} {q : Int32} (hQ : k_retI G K cX8_need 3 .int [oX8 a_t r_t v_people v_day v_texted v_at v_value v_digits v_open v_parishes v_holds v_coded v_seen v_inPlan v_inBook v_traced v_imaged v_most, aI G (r_t 17) 6 v_clauses, aI G (r_t 18) 61 v_word, aI G (r_t 19) 61 v_number] q) : ∀ (n : Nat) (x1 : Int32) (x2 : Int32), f_X8_need_5 v_holds v_clauses v_word v_number n x1 x2 = some q → J G K 3 0 0 [oX8 a_t r_t v_people v_day v_texted v_at v_value v_digits v_open v_parishes v_holds v_coded v_seen v_inPlan v_inBook v_traced v_imaged v_most, aI G (r_t 17) 6 v_clauses, aI G (r_t 18) 61 v_word, aI G (r_t 19) 61 v_number] [(0, .ref a_t), (1, .int x1), (2, .int x2)] 5 [] := by
  intro n
  induction n with
  | zero => intro x1 x2 hf; cases hf
  | succ n ih => intro x1 x2 hf; exact t_X8_need_5_b C hQ ih hf
def f_X8_need (v_holds : Int32) (v_clauses : Nat → Int32) (v_word : Nat → Int32) (v_number : Nat → Int32) : Option (Int32) := (f_X8_need_5 v_holds v_clauses v_word v_number 1000 (30 : Int32) (0 : Int32))
set_option maxRecDepth 20000 in
set_option maxHeartbeats 1000000 in
theorem t_X8_need {G : Gx} {K : Kx} (C : Cx G K cX8_need RX8 3 1) {a_t : Nat} {r_t : Nat → Nat} {v_people : Int32} {v_day : Int32} {v_texted : Int32} {v_at : Int32} {v_value : Int32} {v_digits : Int32} {v_open : Int32} {v_parishes : Int32} {v_holds : Int32} {v_coded : Int32} {v_seen : Int32} {v_inPlan : Int32} {v_inBook : Int32} {v_traced : Int32} {v_imaged : Int32} {v_most : Int32} {v_clauses : Nat → Int32} {v_word : Nat → Int32} {v_number : Nat → Int32} {q : Int32} (hQ : k_retI G K cX8_need 3 .int [oX8 a_t r_t v_people v_day v_texted v_at v_value v_digits v_open v_parishes v_holds v_coded v_seen v_inPlan v_inBook v_traced v_imaged v_most, aI G (r_t 17) 6 v_clauses, aI G (r_t 18) 61 v_word, aI G (r_t 19) 61 v_number] q) (hf : f_X8_need v_holds v_clauses v_word v_number = some q) : J G K 3 0 0 [oX8 a_t r_t v_people v_day v_texted v_at v_value v_digits v_open v_parishes v_holds v_coded v_seen v_inPlan v_inBook v_traced v_imaged v_most, aI G (r_t 17) 6 v_clauses, aI G (r_t 18) 61 v_word, aI G (r_t 19) 61 v_number] [(0, .ref a_t)] 0 [] := by
  unfold f_X8_need at hf
  refine j_bipush C (pc := 0) (v := 30) (by decide) dX8_need_0 ?_
  refine j_istore_n C (pc := 2) (L' := [(1, .int (30 : Int32)), (0, .ref a_t)]) dX8_need_2 rfl (by decide) rfl ?_
  refine j_iconst C (pc := 3) (v := 0) (by decide) dX8_need_3 ?_
  refine j_istore_n C (pc := 4) (L' := [(2, .int (0 : Int32)), (1, .int (30 : Int32)), (0, .ref a_t)]) dX8_need_4 rfl (by decide) rfl ?_
  refine j_sub [2, 1, 0] rfl ?_
  exact t_X8_need_5 C hQ 1000 _ _ hf
def ct_X8_need (G : Gx) (l : Launch) (F : Int32 → (Nat → Int32) → (Nat → Int32) → (Nat → Int32) → Option (Int32)) (lv : Nat) : Prop := ∀ (a_t : Nat) (r_t : Nat → Nat) (v_people : Int32) (v_day : Int32) (v_texted : Int32) (v_at : Int32) (v_value : Int32) (v_digits : Int32) (v_open : Int32) (v_parishes : Int32) (v_holds : Int32) (v_coded : Int32) (v_seen : Int32) (v_inPlan : Int32) (v_inBook : Int32) (v_traced : Int32) (v_imaged : Int32) (v_most : Int32) (v_clauses : Nat → Int32) (v_word : Nat → Int32) (v_number : Nat → Int32), ∀ (q : Int32), F v_holds v_clauses v_word v_number = some q → MI G l yX8_need cX8_need 3 .int lv [.ref a_t] [oX8 a_t r_t v_people v_day v_texted v_at v_value v_digits v_open v_parishes v_holds v_coded v_seen v_inPlan v_inBook v_traced v_imaged v_most, aI G (r_t 17) 6 v_clauses, aI G (r_t 18) 61 v_word, aI G (r_t 19) 61 v_number] [oX8 a_t r_t v_people v_day v_texted v_at v_value v_digits v_open v_parishes v_holds v_coded v_seen v_inPlan v_inBook v_traced v_imaged v_most, aI G (r_t 17) 6 v_clauses, aI G (r_t 18) 61 v_word, aI G (r_t 19) 61 v_number] q
theorem c_X8_need (G : Gx) (l : Launch) : ct_X8_need G l f_X8_need 1 := by
  intro a_t r_t v_people v_day v_texted v_at v_value v_digits v_open v_parishes v_holds v_coded v_seen v_inPlan v_inBook v_traced v_imaged v_most v_clauses v_word v_number q hf
  exact mI_of (by decide +kernel) rfl (fun K hl C hQ => t_X8_need C hQ hf)
-- X8_does
def f_X8_does (v_holds : Int32) (v_hate : Nat → Int32) (v_clauses : Nat → Int32) (v_word : Nat → Int32) (v_begins : Nat → Int32) (v_length : Nat → Int32) (v_stack : Nat → Int32) (v_code : Nat → Int32) (v_kind : Nat → Int32) (v_v : Nat → Int32) (v_number : Nat → Int32) (v_rows : Nat → Int32) (p1 : Int32) (p2 : Int32) (p3 : Int32) : Option (Int32 × (Nat → Int32)) := ((f_X8_spite v_holds v_hate v_clauses v_word v_begins v_length v_stack v_code v_kind v_v v_number v_rows p1 p2 p3).bind fun q1 => ((f_X8_need v_holds v_clauses v_word v_number).bind fun q2 => (if q1.1 < q2 then (some ((0 : Int32), q1.2)) else (some ((1 : Int32), q1.2)))))
set_option maxRecDepth 20000 in
set_option maxHeartbeats 1000000 in
theorem t_X8_does {G : Gx} {K : Kx} (C : Cx G K cX8_does RX8 4 5) {a_t : Nat} {r_t : Nat → Nat} {v_people : Int32} {v_day : Int32} {v_texted : Int32} {v_at : Int32} {v_value : Int32} {v_digits : Int32} {v_open : Int32} {v_parishes : Int32} {v_holds : Int32} {v_coded : Int32} {v_seen : Int32} {v_inPlan : Int32} {v_inBook : Int32} {v_traced : Int32} {v_imaged : Int32} {v_most : Int32} {v_hate : Nat → Int32} {v_clauses : Nat → Int32} {v_word : Nat → Int32} {v_begins : Nat → Int32} {v_length : Nat → Int32} {v_stack : Nat → Int32} {v_code : Nat → Int32} {v_kind : Nat → Int32} {v_v : Nat → Int32} {v_number : Nat → Int32} {v_rows : Nat → Int32} {p1 : Int32} {p2 : Int32} {p3 : Int32} {q : Int32 × (Nat → Int32)} (hQ : k_retI G K cX8_does 4 .boolean [oX8 a_t r_t v_people v_day v_texted v_at v_value v_digits v_open v_parishes v_holds v_coded v_seen v_inPlan v_inBook v_traced v_imaged v_most, aI G (r_t 7) 36 v_hate, aI G (r_t 17) 6 v_clauses, aI G (r_t 18) 61 v_word, aI G (r_t 20) 61 v_begins, aI G (r_t 21) 61 v_length, aZ G (r_t 24) 110 q.2, aI G (r_t 22) 800 v_code, aI G (r_t 1) 6 v_kind, aI G (r_t 2) 6 v_v, aI G (r_t 19) 61 v_number, aI G (r_t 6) 24 v_rows] q.1) (hf : f_X8_does v_holds v_hate v_clauses v_word v_begins v_length v_stack v_code v_kind v_v v_number v_rows p1 p2 p3 = some q) : J G K 4 0 0 [oX8 a_t r_t v_people v_day v_texted v_at v_value v_digits v_open v_parishes v_holds v_coded v_seen v_inPlan v_inBook v_traced v_imaged v_most, aI G (r_t 7) 36 v_hate, aI G (r_t 17) 6 v_clauses, aI G (r_t 18) 61 v_word, aI G (r_t 20) 61 v_begins, aI G (r_t 21) 61 v_length, aZ G (r_t 24) 110 v_stack, aI G (r_t 22) 800 v_code, aI G (r_t 1) 6 v_kind, aI G (r_t 2) 6 v_v, aI G (r_t 19) 61 v_number, aI G (r_t 6) 24 v_rows] [(0, .ref a_t), (1, .int p1), (2, .int p2), (3, .int p3)] 0 [] := by
  unfold f_X8_does at hf
  refine j_aload_n C (pc := 0) 0 rfl rfl dX8_does_0 ?_
  refine j_iload_n C (pc := 1) 1 rfl rfl dX8_does_1 ?_
  refine j_iload_n C (pc := 2) 2 rfl rfl dX8_does_2 ?_
  refine j_iload_n C (pc := 3) 3 rfl rfl dX8_does_3 ?_
  refine j_cVI C (pc := 4) (As := [.int p1, .int p2, .int p3]) (st := []) (ws' := fun q1 => [oX8 a_t r_t v_people v_day v_texted v_at v_value v_digits v_open v_parishes v_holds v_coded v_seen v_inPlan v_inBook v_traced v_imaged v_most, aI G (r_t 7) 36 v_hate, aI G (r_t 17) 6 v_clauses, aI G (r_t 18) 61 v_word, aI G (r_t 20) 61 v_begins, aI G (r_t 21) 61 v_length, aZ G (r_t 24) 110 q1.2, aI G (r_t 22) 800 v_code, aI G (r_t 1) 6 v_kind, aI G (r_t 2) 6 v_v, aI G (r_t 19) 61 v_number, aI G (r_t 6) 24 v_rows]) ml_X8_140 ms_X8_spite hf (fun q1 h => (c_X8_spite G K.2.1) a_t r_t v_people v_day v_texted v_at v_value v_digits v_open v_parishes v_holds v_coded v_seen v_inPlan v_inBook v_traced v_imaged v_most v_hate v_clauses v_word v_begins v_length v_stack v_code v_kind v_v v_number v_rows p1 p2 p3 q1 h) [0, 1, 2, 3, 4, 5, 6, 7, 8, 9, 10, 11] [some 0, some 1, some 2, some 3, some 4, some 5, some 6, some 7, some 8, some 9, some 10, some 11] 12 rfl (by decide +kernel) (by decide +kernel) (fun _ => rfl) (fun _ => rfl) rfl rfl rfl rfl ⟨Nat.zero_le _, Nat.zero_le _⟩ dX8_does_4 kc_X8 0 rfl (fun q1 hf => ?_)
  refine j_aload_n C (pc := 7) 0 rfl rfl dX8_does_7 ?_
  refine j_cVI C (pc := 8) (As := []) (st := [.int q1.1]) (ws' := fun q2 => [oX8 a_t r_t v_people v_day v_texted v_at v_value v_digits v_open v_parishes v_holds v_coded v_seen v_inPlan v_inBook v_traced v_imaged v_most, aI G (r_t 7) 36 v_hate, aI G (r_t 17) 6 v_clauses, aI G (r_t 18) 61 v_word, aI G (r_t 20) 61 v_begins, aI G (r_t 21) 61 v_length, aZ G (r_t 24) 110 q1.2, aI G (r_t 22) 800 v_code, aI G (r_t 1) 6 v_kind, aI G (r_t 2) 6 v_v, aI G (r_t 19) 61 v_number, aI G (r_t 6) 24 v_rows]) ml_X8_239 ms_X8_need hf (fun q2 h => (c_X8_need G K.2.1) a_t r_t v_people v_day v_texted v_at v_value v_digits v_open v_parishes v_holds v_coded v_seen v_inPlan v_inBook v_traced v_imaged v_most v_clauses v_word v_number q2 h) [0, 2, 3, 10] [some 0, none, some 1, some 2, none, none, none, none, none, none, some 3, none] 12 rfl (by decide +kernel) (by decide +kernel) (fun _ => rfl) (fun _ => rfl) rfl rfl rfl rfl ⟨Nat.zero_le _, Nat.zero_le _⟩ dX8_does_8 kc_X8 0 rfl (fun q2 hf => ?_)
  refine j_icmp_lt C (pc := 11) 18 dX8_does_11 (by decide) hf (fun hf => ?_) (fun hf => ?_)
  · refine j_iconst C (pc := 18) (v := 0) (by decide) dX8_does_18 ?_
    obtain rfl := Option.some.inj hf
    exact hQ _ _ dX8_does_19 (show narrow .boolean (.int (0 : Int32)) = .int (0 : Int32) from rfl)
  · refine j_iconst C (pc := 14) (v := 1) (by decide) dX8_does_14 ?_
    refine j_goto C (pc := 15) 19 dX8_does_15 (by decide) ?_
    obtain rfl := Option.some.inj hf
    exact hQ _ _ dX8_does_19 (show narrow .boolean (.int (1 : Int32)) = .int (1 : Int32) from rfl)
def ct_X8_does (G : Gx) (l : Launch) (F : Int32 → (Nat → Int32) → (Nat → Int32) → (Nat → Int32) → (Nat → Int32) → (Nat → Int32) → (Nat → Int32) → (Nat → Int32) → (Nat → Int32) → (Nat → Int32) → (Nat → Int32) → (Nat → Int32) → Int32 → Int32 → Int32 → Option (Int32 × (Nat → Int32))) (lv : Nat) : Prop := ∀ (a_t : Nat) (r_t : Nat → Nat) (v_people : Int32) (v_day : Int32) (v_texted : Int32) (v_at : Int32) (v_value : Int32) (v_digits : Int32) (v_open : Int32) (v_parishes : Int32) (v_holds : Int32) (v_coded : Int32) (v_seen : Int32) (v_inPlan : Int32) (v_inBook : Int32) (v_traced : Int32) (v_imaged : Int32) (v_most : Int32) (v_hate : Nat → Int32) (v_clauses : Nat → Int32) (v_word : Nat → Int32) (v_begins : Nat → Int32) (v_length : Nat → Int32) (v_stack : Nat → Int32) (v_code : Nat → Int32) (v_kind : Nat → Int32) (v_v : Nat → Int32) (v_number : Nat → Int32) (v_rows : Nat → Int32) (p1 : Int32) (p2 : Int32) (p3 : Int32), ∀ (q : Int32 × (Nat → Int32)), F v_holds v_hate v_clauses v_word v_begins v_length v_stack v_code v_kind v_v v_number v_rows p1 p2 p3 = some q → MI G l yX8_does cX8_does 4 .boolean lv [.ref a_t, .int p1, .int p2, .int p3] [oX8 a_t r_t v_people v_day v_texted v_at v_value v_digits v_open v_parishes v_holds v_coded v_seen v_inPlan v_inBook v_traced v_imaged v_most, aI G (r_t 7) 36 v_hate, aI G (r_t 17) 6 v_clauses, aI G (r_t 18) 61 v_word, aI G (r_t 20) 61 v_begins, aI G (r_t 21) 61 v_length, aZ G (r_t 24) 110 v_stack, aI G (r_t 22) 800 v_code, aI G (r_t 1) 6 v_kind, aI G (r_t 2) 6 v_v, aI G (r_t 19) 61 v_number, aI G (r_t 6) 24 v_rows] [oX8 a_t r_t v_people v_day v_texted v_at v_value v_digits v_open v_parishes v_holds v_coded v_seen v_inPlan v_inBook v_traced v_imaged v_most, aI G (r_t 7) 36 v_hate, aI G (r_t 17) 6 v_clauses, aI G (r_t 18) 61 v_word, aI G (r_t 20) 61 v_begins, aI G (r_t 21) 61 v_length, aZ G (r_t 24) 110 q.2, aI G (r_t 22) 800 v_code, aI G (r_t 1) 6 v_kind, aI G (r_t 2) 6 v_v, aI G (r_t 19) 61 v_number, aI G (r_t 6) 24 v_rows] q.1
theorem c_X8_does (G : Gx) (l : Launch) : ct_X8_does G l f_X8_does 5 := by
  intro a_t r_t v_people v_day v_texted v_at v_value v_digits v_open v_parishes v_holds v_coded v_seen v_inPlan v_inBook v_traced v_imaged v_most v_hate v_clauses v_word v_begins v_length v_stack v_code v_kind v_v v_number v_rows p1 p2 p3 q hf
  exact mI_of (by decide +kernel) rfl (fun K hl C hQ => t_X8_does C hQ hf)
-- X8_isEnemy
def f_X8_isEnemy (v_holds : Int32) (v_dead : Nat → Int32) (v_hate : Nat → Int32) (v_clauses : Nat → Int32) (v_word : Nat → Int32) (v_begins : Nat → Int32) (v_length : Nat → Int32) (v_stack : Nat → Int32) (v_code : Nat → Int32) (v_kind : Nat → Int32) (v_v : Nat → Int32) (v_number : Nat → Int32) (v_rows : Nat → Int32) (p1 : Int32) (p2 : Int32) (p3 : Int32) : Option (Int32 × (Nat → Int32)) := (gd p1 6 (if (v_dead p1.toNatClampNeg) = 0 then ((f_X8_does v_holds v_hate v_clauses v_word v_begins v_length v_stack v_code v_kind v_v v_number v_rows p1 p2 p3).bind fun q1 => (if q1.1 = 0 then (some ((0 : Int32), q1.2)) else (some ((1 : Int32), q1.2)))) else (some ((0 : Int32), v_stack))))
set_option maxRecDepth 20000 in
set_option maxHeartbeats 1000000 in
theorem t_X8_isEnemy {G : Gx} {K : Kx} (C : Cx G K cX8_isEnemy RX8 4 6) {a_t : Nat} {r_t : Nat → Nat} {v_people : Int32} {v_day : Int32} {v_texted : Int32} {v_at : Int32} {v_value : Int32} {v_digits : Int32} {v_open : Int32} {v_parishes : Int32} {v_holds : Int32} {v_coded : Int32} {v_seen : Int32} {v_inPlan : Int32} {v_inBook : Int32} {v_traced : Int32} {v_imaged : Int32} {v_most : Int32} {v_dead : Nat → Int32} {v_hate : Nat → Int32} {v_clauses : Nat → Int32} {v_word : Nat → Int32} {v_begins : Nat → Int32} {v_length : Nat → Int32} {v_stack : Nat → Int32} {v_code : Nat → Int32} {v_kind : Nat → Int32} {v_v : Nat → Int32} {v_number : Nat → Int32} {v_rows : Nat → Int32} {p1 : Int32} {p2 : Int32} {p3 : Int32} {q : Int32 × (Nat → Int32)} (hQ : k_retI G K cX8_isEnemy 4 .boolean [oX8 a_t r_t v_people v_day v_texted v_at v_value v_digits v_open v_parishes v_holds v_coded v_seen v_inPlan v_inBook v_traced v_imaged v_most, aI G (r_t 3) 6 v_dead, aI G (r_t 7) 36 v_hate, aI G (r_t 17) 6 v_clauses, aI G (r_t 18) 61 v_word, aI G (r_t 20) 61 v_begins, aI G (r_t 21) 61 v_length, aZ G (r_t 24) 110 q.2, aI G (r_t 22) 800 v_code, aI G (r_t 1) 6 v_kind, aI G (r_t 2) 6 v_v, aI G (r_t 19) 61 v_number, aI G (r_t 6) 24 v_rows] q.1) (hf : f_X8_isEnemy v_holds v_dead v_hate v_clauses v_word v_begins v_length v_stack v_code v_kind v_v v_number v_rows p1 p2 p3 = some q) : J G K 4 0 0 [oX8 a_t r_t v_people v_day v_texted v_at v_value v_digits v_open v_parishes v_holds v_coded v_seen v_inPlan v_inBook v_traced v_imaged v_most, aI G (r_t 3) 6 v_dead, aI G (r_t 7) 36 v_hate, aI G (r_t 17) 6 v_clauses, aI G (r_t 18) 61 v_word, aI G (r_t 20) 61 v_begins, aI G (r_t 21) 61 v_length, aZ G (r_t 24) 110 v_stack, aI G (r_t 22) 800 v_code, aI G (r_t 1) 6 v_kind, aI G (r_t 2) 6 v_v, aI G (r_t 19) 61 v_number, aI G (r_t 6) 24 v_rows] [(0, .ref a_t), (1, .int p1), (2, .int p2), (3, .int p3)] 0 [] := by
  unfold f_X8_isEnemy at hf
  refine j_aload_n C (pc := 0) 0 rfl rfl dX8_isEnemy_0 ?_
  refine j_get C (pc := 1) kc_X8 fl_X8_18 0 rfl rfl dX8_isEnemy_1 ?_
  refine j_iload_n C (pc := 4) 1 rfl rfl dX8_isEnemy_4 ?_
  refine j_iald C (pc := 5) 1 rfl hf dX8_isEnemy_5 (fun hf => ?_)
  refine j_if_ne C (pc := 6) 23 dX8_isEnemy_6 (by decide) hf (fun hf => ?_) (fun hf => ?_)
  · refine j_iconst C (pc := 23) (v := 0) (by decide) dX8_isEnemy_23 ?_
    obtain rfl := Option.some.inj hf
    exact hQ _ _ dX8_isEnemy_24 (show narrow .boolean (.int (0 : Int32)) = .int (0 : Int32) from rfl)
  · refine j_aload_n C (pc := 9) 0 rfl rfl dX8_isEnemy_9 ?_
    refine j_iload_n C (pc := 10) 1 rfl rfl dX8_isEnemy_10 ?_
    refine j_iload_n C (pc := 11) 2 rfl rfl dX8_isEnemy_11 ?_
    refine j_iload_n C (pc := 12) 3 rfl rfl dX8_isEnemy_12 ?_
    refine j_cVI C (pc := 13) (As := [.int p1, .int p2, .int p3]) (st := []) (ws' := fun q1 => [oX8 a_t r_t v_people v_day v_texted v_at v_value v_digits v_open v_parishes v_holds v_coded v_seen v_inPlan v_inBook v_traced v_imaged v_most, aI G (r_t 3) 6 v_dead, aI G (r_t 7) 36 v_hate, aI G (r_t 17) 6 v_clauses, aI G (r_t 18) 61 v_word, aI G (r_t 20) 61 v_begins, aI G (r_t 21) 61 v_length, aZ G (r_t 24) 110 q1.2, aI G (r_t 22) 800 v_code, aI G (r_t 1) 6 v_kind, aI G (r_t 2) 6 v_v, aI G (r_t 19) 61 v_number, aI G (r_t 6) 24 v_rows]) ml_X8_242 ms_X8_does hf (fun q1 h => (c_X8_does G K.2.1) a_t r_t v_people v_day v_texted v_at v_value v_digits v_open v_parishes v_holds v_coded v_seen v_inPlan v_inBook v_traced v_imaged v_most v_hate v_clauses v_word v_begins v_length v_stack v_code v_kind v_v v_number v_rows p1 p2 p3 q1 h) [0, 2, 3, 4, 5, 6, 7, 8, 9, 10, 11, 12] [some 0, none, some 1, some 2, some 3, some 4, some 5, some 6, some 7, some 8, some 9, some 10, some 11] 13 rfl (by decide +kernel) (by decide +kernel) (fun _ => rfl) (fun _ => rfl) rfl rfl rfl rfl ⟨Nat.zero_le _, Nat.zero_le _⟩ dX8_isEnemy_13 kc_X8 0 rfl (fun q1 hf => ?_)
    refine j_if_eq C (pc := 16) 23 dX8_isEnemy_16 (by decide) hf (fun hf => ?_) (fun hf => ?_)
    · refine j_iconst C (pc := 23) (v := 0) (by decide) dX8_isEnemy_23 ?_
      obtain rfl := Option.some.inj hf
      exact hQ _ _ dX8_isEnemy_24 (show narrow .boolean (.int (0 : Int32)) = .int (0 : Int32) from rfl)
    · refine j_iconst C (pc := 19) (v := 1) (by decide) dX8_isEnemy_19 ?_
      refine j_goto C (pc := 20) 24 dX8_isEnemy_20 (by decide) ?_
      obtain rfl := Option.some.inj hf
      exact hQ _ _ dX8_isEnemy_24 (show narrow .boolean (.int (1 : Int32)) = .int (1 : Int32) from rfl)
def ct_X8_isEnemy (G : Gx) (l : Launch) (F : Int32 → (Nat → Int32) → (Nat → Int32) → (Nat → Int32) → (Nat → Int32) → (Nat → Int32) → (Nat → Int32) → (Nat → Int32) → (Nat → Int32) → (Nat → Int32) → (Nat → Int32) → (Nat → Int32) → (Nat → Int32) → Int32 → Int32 → Int32 → Option (Int32 × (Nat → Int32))) (lv : Nat) : Prop := ∀ (a_t : Nat) (r_t : Nat → Nat) (v_people : Int32) (v_day : Int32) (v_texted : Int32) (v_at : Int32) (v_value : Int32) (v_digits : Int32) (v_open : Int32) (v_parishes : Int32) (v_holds : Int32) (v_coded : Int32) (v_seen : Int32) (v_inPlan : Int32) (v_inBook : Int32) (v_traced : Int32) (v_imaged : Int32) (v_most : Int32) (v_dead : Nat → Int32) (v_hate : Nat → Int32) (v_clauses : Nat → Int32) (v_word : Nat → Int32) (v_begins : Nat → Int32) (v_length : Nat → Int32) (v_stack : Nat → Int32) (v_code : Nat → Int32) (v_kind : Nat → Int32) (v_v : Nat → Int32) (v_number : Nat → Int32) (v_rows : Nat → Int32) (p1 : Int32) (p2 : Int32) (p3 : Int32), ∀ (q : Int32 × (Nat → Int32)), F v_holds v_dead v_hate v_clauses v_word v_begins v_length v_stack v_code v_kind v_v v_number v_rows p1 p2 p3 = some q → MI G l yX8_isEnemy cX8_isEnemy 4 .boolean lv [.ref a_t, .int p1, .int p2, .int p3] [oX8 a_t r_t v_people v_day v_texted v_at v_value v_digits v_open v_parishes v_holds v_coded v_seen v_inPlan v_inBook v_traced v_imaged v_most, aI G (r_t 3) 6 v_dead, aI G (r_t 7) 36 v_hate, aI G (r_t 17) 6 v_clauses, aI G (r_t 18) 61 v_word, aI G (r_t 20) 61 v_begins, aI G (r_t 21) 61 v_length, aZ G (r_t 24) 110 v_stack, aI G (r_t 22) 800 v_code, aI G (r_t 1) 6 v_kind, aI G (r_t 2) 6 v_v, aI G (r_t 19) 61 v_number, aI G (r_t 6) 24 v_rows] [oX8 a_t r_t v_people v_day v_texted v_at v_value v_digits v_open v_parishes v_holds v_coded v_seen v_inPlan v_inBook v_traced v_imaged v_most, aI G (r_t 3) 6 v_dead, aI G (r_t 7) 36 v_hate, aI G (r_t 17) 6 v_clauses, aI G (r_t 18) 61 v_word, aI G (r_t 20) 61 v_begins, aI G (r_t 21) 61 v_length, aZ G (r_t 24) 110 q.2, aI G (r_t 22) 800 v_code, aI G (r_t 1) 6 v_kind, aI G (r_t 2) 6 v_v, aI G (r_t 19) 61 v_number, aI G (r_t 6) 24 v_rows] q.1
theorem c_X8_isEnemy (G : Gx) (l : Launch) : ct_X8_isEnemy G l f_X8_isEnemy 6 := by
  intro a_t r_t v_people v_day v_texted v_at v_value v_digits v_open v_parishes v_holds v_coded v_seen v_inPlan v_inBook v_traced v_imaged v_most v_dead v_hate v_clauses v_word v_begins v_length v_stack v_code v_kind v_v v_number v_rows p1 p2 p3 q hf
  exact mI_of (by decide +kernel) rfl (fun K hl C hQ => t_X8_isEnemy C hQ hf)
-- X8_howLong
def f_X8_howLong_2_b (v_day : Int32) (v_holds : Int32) (v_dead : Nat → Int32) (v_hate : Nat → Int32) (v_clauses : Nat → Int32) (v_word : Nat → Int32) (v_begins : Nat → Int32) (v_length : Nat → Int32) (v_code : Nat → Int32) (v_kind : Nat → Int32) (v_v : Nat → Int32) (v_number : Nat → Int32) (v_rows : Nat → Int32) (p1 : Int32) (p2 : Int32) (k2 : Int32 → (Nat → Int32) → Option (Int32 × (Nat → Int32))) (x3 : Int32) (w_stack : Nat → Int32) : Option (Int32 × (Nat → Int32)) := (if (30 : Int32) ≤ x3 then (some (x3, w_stack)) else ((f_X8_isEnemy v_holds v_dead v_hate v_clauses v_word v_begins v_length w_stack v_code v_kind v_v v_number v_rows p1 p2 (v_day + x3)).bind fun q1 => (if q1.1 = 0 then (some (x3, q1.2)) else (k2 (x3 + (1 : Int32)) q1.2))))
def f_X8_howLong_2 (v_day : Int32) (v_holds : Int32) (v_dead : Nat → Int32) (v_hate : Nat → Int32) (v_clauses : Nat → Int32) (v_word : Nat → Int32) (v_begins : Nat → Int32) (v_length : Nat → Int32) (v_code : Nat → Int32) (v_kind : Nat → Int32) (v_v : Nat → Int32) (v_number : Nat → Int32) (v_rows : Nat → Int32) (p1 : Int32) (p2 : Int32) : Nat → Int32 → (Nat → Int32) → Option (Int32 × (Nat → Int32))
  | 0 => fun _ _ => none
  | n + 1 => f_X8_howLong_2_b v_day v_holds v_dead v_hate v_clauses v_word v_begins v_length v_code v_kind v_v v_number v_rows p1 p2 (f_X8_howLong_2 v_day v_holds v_dead v_hate v_clauses v_word v_begins v_length v_code v_kind v_v v_number v_rows p1 p2 n)
set_option maxRecDepth 20000 in
set_option maxHeartbeats 1000000 in
theorem t_X8_howLong_2_b {G : Gx} {K : Kx} (C : Cx G K cX8_howLong RX8 4 7) {a_t : Nat} {r_t : Nat → Nat} {v_people : Int32} {v_day : Int32} {v_texted : Int32} {v_at : Int32} {v_value : Int32} {v_digits : Int32} {v_open : Int32} {v_parishes : Int32} {v_holds : Int32} {v_coded : Int32} {v_seen : Int32} {v_inPlan : Int32} {v_inBook : Int32} {v_traced : Int32} {v_imaged : Int32} {v_most : Int32} {v_dead : Nat → Int32} {v_hate : Nat → Int32} {v_clauses : Nat → Int32} {v_word : Nat → Int32} {v_begins : Nat → Int32} {v_length : Nat → Int32} {v_code : Nat → Int32} {v_kind : Nat → Int32} {v_v : Nat → Int32} {v_number : Nat → Int32} {v_rows : Nat → Int32} {p1 : Int32} {p2 : Int32} {q : Int32 × (Nat → Int32)} (hQ : k_retI G K cX8_howLong 4 .int [oX8 a_t r_t v_people v_day v_texted v_at v_value v_digits v_open v_parishes v_holds v_coded v_seen v_inPlan v_inBook v_traced v_imaged v_most, aI G (r_t 3) 6 v_dead, aI G (r_t 7) 36 v_hate, aI G (r_t 17) 6 v_clauses, aI G (r_t 18) 61 v_word, aI G (r_t 20) 61 v_begins, aI G (r_t 21) 61 v_length, aZ G (r_t 24) 110 q.2, aI G (r_t 22) 800 v_code, aI G (r_t 1) 6 v_kind, aI G (r_t 2) 6 v_v, aI G (r_t 19) 61 v_number, aI G (r_t 6) 24 v_rows] q.1) {k2 : Int32 → (Nat → Int32) → Option (Int32 × (Nat → Int32))} (hk2 : ∀ (x3 : Int32) (w_stack : Nat → Int32), k2 x3 w_stack = some q → J G K 4 0 0 [oX8 a_t r_t v_people v_day v_texted v_at v_value v_digits v_open v_parishes v_holds v_coded v_seen v_inPlan v_inBook v_traced v_imaged v_most, aI G (r_t 3) 6 v_dead, aI G (r_t 7) 36 v_hate, aI G (r_t 17) 6 v_clauses, aI G (r_t 18) 61 v_word, aI G (r_t 20) 61 v_begins, aI G (r_t 21) 61 v_length, aZ G (r_t 24) 110 w_stack, aI G (r_t 22) 800 v_code, aI G (r_t 1) 6 v_kind, aI G (r_t 2) 6 v_v, aI G (r_t 19) 61 v_number, aI G (r_t 6) 24 v_rows] [(0, .ref a_t), (1, .int p1), (2, .int p2), (3, .int x3)] 2 []) {x3 : Int32} {w_stack : Nat → Int32} (hf : f_X8_howLong_2_b v_day v_holds v_dead v_hate v_clauses v_word v_begins v_length v_code v_kind v_v v_number v_rows p1 p2 k2 x3 w_stack = some q) : J G K 4 0 0 [oX8 a_t r_t v_people v_day v_texted v_at v_value v_digits v_open v_parishes v_holds v_coded v_seen v_inPlan v_inBook v_traced v_imaged v_most, aI G (r_t 3) 6 v_dead, aI G (r_t 7) 36 v_hate, aI G (r_t 17) 6 v_clauses, aI G (r_t 18) 61 v_word, aI G (r_t 20) 61 v_begins, aI G (r_t 21) 61 v_length, aZ G (r_t 24) 110 w_stack, aI G (r_t 22) 800 v_code, aI G (r_t 1) 6 v_kind, aI G (r_t 2) 6 v_v, aI G (r_t 19) 61 v_number, aI G (r_t 6) 24 v_rows] [(0, .ref a_t), (1, .int p1), (2, .int p2), (3, .int x3)] 2 [] := by
  unfold f_X8_howLong_2_b at hf
  refine j_iload_n C (pc := 2) 3 rfl rfl dX8_howLong_2 ?_
  refine j_bipush C (pc := 3) (v := 30) (by decide) dX8_howLong_3 ?_
  refine j_icmp_ge C (pc := 5) 29 dX8_howLong_5 (by decide) hf (fun hf => ?_) (fun hf => ?_)
  · refine j_iload_n C (pc := 29) 3 rfl rfl dX8_howLong_29 ?_
    obtain rfl := Option.some.inj hf
    exact hQ _ _ dX8_howLong_30 rfl
  · refine j_aload_n C (pc := 8) 0 rfl rfl dX8_howLong_8 ?_
    refine j_iload_n C (pc := 9) 1 rfl rfl dX8_howLong_9 ?_
    refine j_iload_n C (pc := 10) 2 rfl rfl dX8_howLong_10 ?_
    refine j_aload_n C (pc := 11) 0 rfl rfl dX8_howLong_11 ?_
    refine j_get C (pc := 12) kc_X8 fl_X8_125 0 rfl rfl dX8_howLong_12 ?_
    refine j_iload_n C (pc := 15) 3 rfl rfl dX8_howLong_15 ?_
    refine j_iadd C (pc := 16) dX8_howLong_16 ?_
    refine j_cVI C (pc := 17) (As := [.int p1, .int p2, .int (v_day + x3)]) (st := []) (ws' := fun q1 => [oX8 a_t r_t v_people v_day v_texted v_at v_value v_digits v_open v_parishes v_holds v_coded v_seen v_inPlan v_inBook v_traced v_imaged v_most, aI G (r_t 3) 6 v_dead, aI G (r_t 7) 36 v_hate, aI G (r_t 17) 6 v_clauses, aI G (r_t 18) 61 v_word, aI G (r_t 20) 61 v_begins, aI G (r_t 21) 61 v_length, aZ G (r_t 24) 110 q1.2, aI G (r_t 22) 800 v_code, aI G (r_t 1) 6 v_kind, aI G (r_t 2) 6 v_v, aI G (r_t 19) 61 v_number, aI G (r_t 6) 24 v_rows]) ml_X8_144 ms_X8_isEnemy hf (fun q1 h => (c_X8_isEnemy G K.2.1) a_t r_t v_people v_day v_texted v_at v_value v_digits v_open v_parishes v_holds v_coded v_seen v_inPlan v_inBook v_traced v_imaged v_most v_dead v_hate v_clauses v_word v_begins v_length w_stack v_code v_kind v_v v_number v_rows p1 p2 (v_day + x3) q1 h) [0, 1, 2, 3, 4, 5, 6, 7, 8, 9, 10, 11, 12] [some 0, some 1, some 2, some 3, some 4, some 5, some 6, some 7, some 8, some 9, some 10, some 11, some 12] 13 rfl (by decide +kernel) (by decide +kernel) (fun _ => rfl) (fun _ => rfl) rfl rfl rfl rfl ⟨Nat.zero_le _, Nat.zero_le _⟩ dX8_howLong_17 kc_X8 0 rfl (fun q1 hf => ?_)
    refine j_if_eq C (pc := 20) 29 dX8_howLong_20 (by decide) hf (fun hf => ?_) (fun hf => ?_)
    · refine j_iload_n C (pc := 29) 3 rfl rfl dX8_howLong_29 ?_
      obtain rfl := Option.some.inj hf
      exact hQ _ _ dX8_howLong_30 rfl
    · refine j_iinc C (pc := 23) (L' := [(3, .int (x3 + (1 : Int32))), (0, .ref a_t), (1, .int p1), (2, .int p2)]) (v := x3 + (1 : Int32)) dX8_howLong_23 (t := 3) rfl rfl (by decide) rfl ?_
      refine j_goto C (pc := 26) 2 dX8_howLong_26 (by decide) ?_
      refine j_sub [1, 2, 3, 0] rfl ?_
      exact hk2 _ _ hf
theorem t_X8_howLong_2 {G : Gx} {K : Kx} (C : Cx G K cX8_howLong RX8 4 7) {a_t : Nat} {r_t : Nat → Nat} {v_people : Int32} {v_day : Int32} {v_texted : Int32} {v_at : Int32} {v_value : Int32} {v_digits : Int32} {v_open : Int32} {v_parishes : Int32} {v_holds : Int32} {v_coded : Int32} {v_seen : Int32} {v_inPlan : Int32} {v_inBook : Int32} {v_traced : Int32} {v_imaged : Int32} {v_most : Int32} {v_dead : Nat → Int32} {v_hate : Nat → Int32} {v_clauses : Nat → Int32} {v_word : Nat → Int32} {v_begins : Nat → Int32} {v_length : Nat → Int32} {v_code : Nat → Int32} {v_kind : Nat → Int32} {v_v : Nat → Int32} {v_number : Nat → Int32} {v_rows : Nat → Int32} {p1 : Int32} {p2 : Int32} {q : Int32 × (Nat → Int32)} (hQ : k_retI G K cX8_howLong 4 .int [oX8 a_t r_t v_people v_day v_texted v_at v_value v_digits v_open v_parishes v_holds v_coded v_seen v_inPlan v_inBook v_traced v_imaged v_most, aI G (r_t 3) 6 v_dead, aI G (r_t 7) 36 v_hate, aI G (r_t 17) 6 v_clauses, aI G (r_t 18) 61 v_word, aI G (r_t 20) 61 v_begins, aI G (r_t 21) 61 v_length, aZ G (r_t 24) 110 q.2, aI G (r_t 22) 800 v_code, aI G (r_t 1) 6 v_kind, aI G (r_t 2) 6 v_v, aI G (r_t 19) 61 v_number, aI G (r_t 6) 24 v_rows] q.1) : ∀ (n : Nat) (x3 : Int32) (w_stack : Nat → Int32), f_X8_howLong_2 v_day v_holds v_dead v_hate v_clauses v_word v_begins v_length v_code v_kind v_v v_number v_rows p1 p2 n x3 w_stack = some q → J G K 4 0 0 [oX8 a_t r_t v_people v_day v_texted v_at v_value v_digits v_open v_parishes v_holds v_coded v_seen v_inPlan v_inBook v_traced v_imaged v_most, aI G (r_t 3) 6 v_dead, aI G (r_t 7) 36 v_hate, aI G (r_t 17) 6 v_clauses, aI G (r_t 18) 61 v_word, aI G (r_t 20) 61 v_begins, aI G (r_t 21) 61 v_length, aZ G (r_t 24) 110 w_stack, aI G (r_t 22) 800 v_code, aI G (r_t 1) 6 v_kind, aI G (r_t 2) 6 v_v, aI G (r_t 19) 61 v_number, aI G (r_t 6) 24 v_rows] [(0, .ref a_t), (1, .int p1), (2, .int p2), (3, .int x3)] 2 [] := by
  intro n
  induction n with
  | zero => intro x3 w_stack hf; cases hf
  | succ n ih => intro x3 w_stack hf; exact t_X8_howLong_2_b C hQ ih hf
def f_X8_howLong (v_day : Int32) (v_holds : Int32) (v_dead : Nat → Int32) (v_hate : Nat → Int32) (v_clauses : Nat → Int32) (v_word : Nat → Int32) (v_begins : Nat → Int32) (v_length : Nat → Int32) (v_stack : Nat → Int32) (v_code : Nat → Int32) (v_kind : Nat → Int32) (v_v : Nat → Int32) (v_number : Nat → Int32) (v_rows : Nat → Int32) (p1 : Int32) (p2 : Int32) : Option (Int32 × (Nat → Int32)) := (f_X8_howLong_2 v_day v_holds v_dead v_hate v_clauses v_word v_begins v_length v_code v_kind v_v v_number v_rows p1 p2 1000 (0 : Int32) v_stack)
set_option maxRecDepth 20000 in
set_option maxHeartbeats 1000000 in
theorem t_X8_howLong {G : Gx} {K : Kx} (C : Cx G K cX8_howLong RX8 4 7) {a_t : Nat} {r_t : Nat → Nat} {v_people : Int32} {v_day : Int32} {v_texted : Int32} {v_at : Int32} {v_value : Int32} {v_digits : Int32} {v_open : Int32} {v_parishes : Int32} {v_holds : Int32} {v_coded : Int32} {v_seen : Int32} {v_inPlan : Int32} {v_inBook : Int32} {v_traced : Int32} {v_imaged : Int32} {v_most : Int32} {v_dead : Nat → Int32} {v_hate : Nat → Int32} {v_clauses : Nat → Int32} {v_word : Nat → Int32} {v_begins : Nat → Int32} {v_length : Nat → Int32} {v_stack : Nat → Int32} {v_code : Nat → Int32} {v_kind : Nat → Int32} {v_v : Nat → Int32} {v_number : Nat → Int32} {v_rows : Nat → Int32} {p1 : Int32} {p2 : Int32} {q : Int32 × (Nat → Int32)} (hQ : k_retI G K cX8_howLong 4 .int [oX8 a_t r_t v_people v_day v_texted v_at v_value v_digits v_open v_parishes v_holds v_coded v_seen v_inPlan v_inBook v_traced v_imaged v_most, aI G (r_t 3) 6 v_dead, aI G (r_t 7) 36 v_hate, aI G (r_t 17) 6 v_clauses, aI G (r_t 18) 61 v_word, aI G (r_t 20) 61 v_begins, aI G (r_t 21) 61 v_length, aZ G (r_t 24) 110 q.2, aI G (r_t 22) 800 v_code, aI G (r_t 1) 6 v_kind, aI G (r_t 2) 6 v_v, aI G (r_t 19) 61 v_number, aI G (r_t 6) 24 v_rows] q.1) (hf : f_X8_howLong v_day v_holds v_dead v_hate v_clauses v_word v_begins v_length v_stack v_code v_kind v_v v_number v_rows p1 p2 = some q) : J G K 4 0 0 [oX8 a_t r_t v_people v_day v_texted v_at v_value v_digits v_open v_parishes v_holds v_coded v_seen v_inPlan v_inBook v_traced v_imaged v_most, aI G (r_t 3) 6 v_dead, aI G (r_t 7) 36 v_hate, aI G (r_t 17) 6 v_clauses, aI G (r_t 18) 61 v_word, aI G (r_t 20) 61 v_begins, aI G (r_t 21) 61 v_length, aZ G (r_t 24) 110 v_stack, aI G (r_t 22) 800 v_code, aI G (r_t 1) 6 v_kind, aI G (r_t 2) 6 v_v, aI G (r_t 19) 61 v_number, aI G (r_t 6) 24 v_rows] [(0, .ref a_t), (1, .int p1), (2, .int p2)] 0 [] := by
  unfold f_X8_howLong at hf
  refine j_iconst C (pc := 0) (v := 0) (by decide) dX8_howLong_0 ?_
  refine j_istore_n C (pc := 1) (L' := [(3, .int (0 : Int32)), (0, .ref a_t), (1, .int p1), (2, .int p2)]) dX8_howLong_1 rfl (by decide) rfl ?_
  refine j_sub [1, 2, 3, 0] rfl ?_
  exact t_X8_howLong_2 C hQ 1000 _ _ hf
def ct_X8_howLong (G : Gx) (l : Launch) (F : Int32 → Int32 → (Nat → Int32) → (Nat → Int32) → (Nat → Int32) → (Nat → Int32) → (Nat → Int32) → (Nat → Int32) → (Nat → Int32) → (Nat → Int32) → (Nat → Int32) → (Nat → Int32) → (Nat → Int32) → (Nat → Int32) → Int32 → Int32 → Option (Int32 × (Nat → Int32))) (lv : Nat) : Prop := ∀ (a_t : Nat) (r_t : Nat → Nat) (v_people : Int32) (v_day : Int32) (v_texted : Int32) (v_at : Int32) (v_value : Int32) (v_digits : Int32) (v_open : Int32) (v_parishes : Int32) (v_holds : Int32) (v_coded : Int32) (v_seen : Int32) (v_inPlan : Int32) (v_inBook : Int32) (v_traced : Int32) (v_imaged : Int32) (v_most : Int32) (v_dead : Nat → Int32) (v_hate : Nat → Int32) (v_clauses : Nat → Int32) (v_word : Nat → Int32) (v_begins : Nat → Int32) (v_length : Nat → Int32) (v_stack : Nat → Int32) (v_code : Nat → Int32) (v_kind : Nat → Int32) (v_v : Nat → Int32) (v_number : Nat → Int32) (v_rows : Nat → Int32) (p1 : Int32) (p2 : Int32), ∀ (q : Int32 × (Nat → Int32)), F v_day v_holds v_dead v_hate v_clauses v_word v_begins v_length v_stack v_code v_kind v_v v_number v_rows p1 p2 = some q → MI G l yX8_howLong cX8_howLong 4 .int lv [.ref a_t, .int p1, .int p2] [oX8 a_t r_t v_people v_day v_texted v_at v_value v_digits v_open v_parishes v_holds v_coded v_seen v_inPlan v_inBook v_traced v_imaged v_most, aI G (r_t 3) 6 v_dead, aI G (r_t 7) 36 v_hate, aI G (r_t 17) 6 v_clauses, aI G (r_t 18) 61 v_word, aI G (r_t 20) 61 v_begins, aI G (r_t 21) 61 v_length, aZ G (r_t 24) 110 v_stack, aI G (r_t 22) 800 v_code, aI G (r_t 1) 6 v_kind, aI G (r_t 2) 6 v_v, aI G (r_t 19) 61 v_number, aI G (r_t 6) 24 v_rows] [oX8 a_t r_t v_people v_day v_texted v_at v_value v_digits v_open v_parishes v_holds v_coded v_seen v_inPlan v_inBook v_traced v_imaged v_most, aI G (r_t 3) 6 v_dead, aI G (r_t 7) 36 v_hate, aI G (r_t 17) 6 v_clauses, aI G (r_t 18) 61 v_word, aI G (r_t 20) 61 v_begins, aI G (r_t 21) 61 v_length, aZ G (r_t 24) 110 q.2, aI G (r_t 22) 800 v_code, aI G (r_t 1) 6 v_kind, aI G (r_t 2) 6 v_v, aI G (r_t 19) 61 v_number, aI G (r_t 6) 24 v_rows] q.1
theorem c_X8_howLong (G : Gx) (l : Launch) : ct_X8_howLong G l f_X8_howLong 7 := by
  intro a_t r_t v_people v_day v_texted v_at v_value v_digits v_open v_parishes v_holds v_coded v_seen v_inPlan v_inBook v_traced v_imaged v_most v_dead v_hate v_clauses v_word v_begins v_length v_stack v_code v_kind v_v v_number v_rows p1 p2 q hf
  exact mI_of (by decide +kernel) rfl (fun K hl C hQ => t_X8_howLong C hQ hf)
-- X8_between
def f_X8_between (v_people : Int32) (v_day : Int32) (v_holds : Int32) (v_hate : Nat → Int32) (v_clauses : Nat → Int32) (v_word : Nat → Int32) (v_begins : Nat → Int32) (v_length : Nat → Int32) (v_stack : Nat → Int32) (v_code : Nat → Int32) (v_kind : Nat → Int32) (v_v : Nat → Int32) (v_number : Nat → Int32) (v_rows : Nat → Int32) (v_dead : Nat → Int32) (p1 : Int32) (p2 : Int32) (p3 : Int32) : Option (Int32 × (Nat → Int32)) := ((f_X8_are v_people p1 p2).bind fun q1 => (if q1 = 0 then (some ((-10001 : Int32), v_stack)) else ((f_X8_within p3 (0 : Int32) (3 : Int32)).bind fun q2 => (if q2 = 0 then (some ((-10001 : Int32), v_stack)) else (if p1 = p2 then (some ((-10002 : Int32), v_stack)) else (if p3 = (0 : Int32) then (gd (((6 : Int32) * p1) + p2) 36 (some (v_hate (((6 : Int32) * p1) + p2).toNatClampNeg, v_stack))) else (if p3 = (1 : Int32) then ((f_X8_spite v_holds v_hate v_clauses v_word v_begins v_length v_stack v_code v_kind v_v v_number v_rows p1 p2 v_day).bind fun q3 => (some (q3.1, q3.2))) else (if p3 = (2 : Int32) then ((f_X8_isEnemy v_holds v_dead v_hate v_clauses v_word v_begins v_length v_stack v_code v_kind v_v v_number v_rows p1 p2 v_day).bind fun q4 => (if q4.1 = 0 then (some ((0 : Int32), q4.2)) else (some ((1 : Int32), q4.2)))) else ((f_X8_howLong v_day v_holds v_dead v_hate v_clauses v_word v_begins v_length v_stack v_code v_kind v_v v_number v_rows p1 p2).bind fun q5 => (some (q5.1, q5.2)))))))))))
set_option maxRecDepth 20000 in
set_option maxHeartbeats 1000000 in
theorem t_X8_between {G : Gx} {K : Kx} (C : Cx G K cX8_between RX8 4 8) {a_t : Nat} {r_t : Nat → Nat} {v_people : Int32} {v_day : Int32} {v_texted : Int32} {v_at : Int32} {v_value : Int32} {v_digits : Int32} {v_open : Int32} {v_parishes : Int32} {v_holds : Int32} {v_coded : Int32} {v_seen : Int32} {v_inPlan : Int32} {v_inBook : Int32} {v_traced : Int32} {v_imaged : Int32} {v_most : Int32} {v_hate : Nat → Int32} {v_clauses : Nat → Int32} {v_word : Nat → Int32} {v_begins : Nat → Int32} {v_length : Nat → Int32} {v_stack : Nat → Int32} {v_code : Nat → Int32} {v_kind : Nat → Int32} {v_v : Nat → Int32} {v_number : Nat → Int32} {v_rows : Nat → Int32} {v_dead : Nat → Int32} {p1 : Int32} {p2 : Int32} {p3 : Int32} {q : Int32 × (Nat → Int32)} (hQ : k_retI G K cX8_between 4 .int [oX8 a_t r_t v_people v_day v_texted v_at v_value v_digits v_open v_parishes v_holds v_coded v_seen v_inPlan v_inBook v_traced v_imaged v_most, aI G (r_t 7) 36 v_hate, aI G (r_t 17) 6 v_clauses, aI G (r_t 18) 61 v_word, aI G (r_t 20) 61 v_begins, aI G (r_t 21) 61 v_length, aZ G (r_t 24) 110 q.2, aI G (r_t 22) 800 v_code, aI G (r_t 1) 6 v_kind, aI G (r_t 2) 6 v_v, aI G (r_t 19) 61 v_number, aI G (r_t 6) 24 v_rows, aI G (r_t 3) 6 v_dead] q.1) (hf : f_X8_between v_people v_day v_holds v_hate v_clauses v_word v_begins v_length v_stack v_code v_kind v_v v_number v_rows v_dead p1 p2 p3 = some q) : J G K 4 0 0 [oX8 a_t r_t v_people v_day v_texted v_at v_value v_digits v_open v_parishes v_holds v_coded v_seen v_inPlan v_inBook v_traced v_imaged v_most, aI G (r_t 7) 36 v_hate, aI G (r_t 17) 6 v_clauses, aI G (r_t 18) 61 v_word, aI G (r_t 20) 61 v_begins, aI G (r_t 21) 61 v_length, aZ G (r_t 24) 110 v_stack, aI G (r_t 22) 800 v_code, aI G (r_t 1) 6 v_kind, aI G (r_t 2) 6 v_v, aI G (r_t 19) 61 v_number, aI G (r_t 6) 24 v_rows, aI G (r_t 3) 6 v_dead] [(0, .ref a_t), (1, .int p1), (2, .int p2), (3, .int p3)] 0 [] := by
  unfold f_X8_between at hf
  refine j_aload_n C (pc := 0) 0 rfl rfl dX8_between_0 ?_
  refine j_iload_n C (pc := 1) 1 rfl rfl dX8_between_1 ?_
  refine j_iload_n C (pc := 2) 2 rfl rfl dX8_between_2 ?_
  refine j_cVI C (pc := 3) (As := [.int p1, .int p2]) (st := []) (ws' := fun q1 => [oX8 a_t r_t v_people v_day v_texted v_at v_value v_digits v_open v_parishes v_holds v_coded v_seen v_inPlan v_inBook v_traced v_imaged v_most, aI G (r_t 7) 36 v_hate, aI G (r_t 17) 6 v_clauses, aI G (r_t 18) 61 v_word, aI G (r_t 20) 61 v_begins, aI G (r_t 21) 61 v_length, aZ G (r_t 24) 110 v_stack, aI G (r_t 22) 800 v_code, aI G (r_t 1) 6 v_kind, aI G (r_t 2) 6 v_v, aI G (r_t 19) 61 v_number, aI G (r_t 6) 24 v_rows, aI G (r_t 3) 6 v_dead]) ml_X8_136 ms_X8_are hf (fun q1 h => (c_X8_are G K.2.1) a_t r_t v_people v_day v_texted v_at v_value v_digits v_open v_parishes v_holds v_coded v_seen v_inPlan v_inBook v_traced v_imaged v_most p1 p2 q1 h) [0] [some 0, none, none, none, none, none, none, none, none, none, none, none, none] 13 rfl (by decide +kernel) (by decide +kernel) (fun _ => rfl) (fun _ => rfl) rfl rfl rfl rfl ⟨Nat.zero_le _, Nat.zero_le _⟩ dX8_between_3 kc_X8 0 rfl (fun q1 hf => ?_)
  refine j_if_eq C (pc := 6) 18 dX8_between_6 (by decide) hf (fun hf => ?_) (fun hf => ?_)
  · refine j_sipush C (pc := 18) (v := -10001) (by decide) dX8_between_18 ?_
    obtain rfl := Option.some.inj hf
    exact hQ _ _ dX8_between_21 rfl
  · refine j_iload_n C (pc := 9) 3 rfl rfl dX8_between_9 ?_
    refine j_iconst C (pc := 10) (v := 0) (by decide) dX8_between_10 ?_
    refine j_iconst C (pc := 11) (v := 3) (by decide) dX8_between_11 ?_
    refine j_cSI C (pc := 12) (As := [.int p3, .int (0 : Int32), .int (3 : Int32)]) (st := []) (ws' := fun q2 => [oX8 a_t r_t v_people v_day v_texted v_at v_value v_digits v_open v_parishes v_holds v_coded v_seen v_inPlan v_inBook v_traced v_imaged v_most, aI G (r_t 7) 36 v_hate, aI G (r_t 17) 6 v_clauses, aI G (r_t 18) 61 v_word, aI G (r_t 20) 61 v_begins, aI G (r_t 21) 61 v_length, aZ G (r_t 24) 110 v_stack, aI G (r_t 22) 800 v_code, aI G (r_t 1) 6 v_kind, aI G (r_t 2) 6 v_v, aI G (r_t 19) 61 v_number, aI G (r_t 6) 24 v_rows, aI G (r_t 3) 6 v_dead]) ml_X8_117 ms_X8_within hf (fun q2 h => (c_X8_within G K.2.1) p3 (0 : Int32) (3 : Int32) q2 h) [] [none, none, none, none, none, none, none, none, none, none, none, none, none] 13 rfl (by decide +kernel) (by decide +kernel) (fun _ => rfl) (fun _ => rfl) rfl rfl rfl rfl ⟨Nat.zero_le _, Nat.zero_le _⟩ dX8_between_12 (fun q2 hf => ?_)
    refine j_if_ne C (pc := 15) 22 dX8_between_15 (by decide) hf (fun hf => ?_) (fun hf => ?_)
    · refine j_iload_n C (pc := 22) 1 rfl rfl dX8_between_22 ?_
      refine j_iload_n C (pc := 23) 2 rfl rfl dX8_between_23 ?_
      refine j_icmp_ne C (pc := 24) 31 dX8_between_24 (by decide) hf (fun hf => ?_) (fun hf => ?_)
      · refine j_iload_n C (pc := 31) 3 rfl rfl dX8_between_31 ?_
        obtain ⟨h0, hf⟩ | ⟨h0, hf⟩ := k_or hf
        · refine j_tabIn C (pc := 32) 60 dX8_between_32 (by rw [h0]; decide) (by rw [h0]; decide) (by rw [h0] <;> rfl) (by decide) ?_
          refine j_aload_n C (pc := 60) 0 rfl rfl dX8_between_60 ?_
          refine j_get C (pc := 61) kc_X8 fl_X8_30 0 rfl rfl dX8_between_61 ?_
          refine j_bipush C (pc := 64) (v := 6) (by decide) dX8_between_64 ?_
          refine j_iload_n C (pc := 66) 1 rfl rfl dX8_between_66 ?_
          refine j_imul C (pc := 67) dX8_between_67 ?_
          refine j_iload_n C (pc := 68) 2 rfl rfl dX8_between_68 ?_
          refine j_iadd C (pc := 69) dX8_between_69 ?_
          refine j_iald C (pc := 70) 1 rfl hf dX8_between_70 (fun hf => ?_)
          obtain rfl := Option.some.inj hf
          exact hQ _ _ dX8_between_71 rfl
        · skip
          obtain ⟨h1, hf⟩ | ⟨h1, hf⟩ := k_or hf
          · refine j_tabIn C (pc := 32) 72 dX8_between_32 (by rw [h1]; decide) (by rw [h1]; decide) (by rw [h1] <;> rfl) (by decide) ?_
            refine j_aload_n C (pc := 72) 0 rfl rfl dX8_between_72 ?_
            refine j_iload_n C (pc := 73) 1 rfl rfl dX8_between_73 ?_
            refine j_iload_n C (pc := 74) 2 rfl rfl dX8_between_74 ?_
            refine j_aload_n C (pc := 75) 0 rfl rfl dX8_between_75 ?_
            refine j_get C (pc := 76) kc_X8 fl_X8_125 0 rfl rfl dX8_between_76 ?_
            refine j_cVI C (pc := 79) (As := [.int p1, .int p2, .int v_day]) (st := []) (ws' := fun q3 => [oX8 a_t r_t v_people v_day v_texted v_at v_value v_digits v_open v_parishes v_holds v_coded v_seen v_inPlan v_inBook v_traced v_imaged v_most, aI G (r_t 7) 36 v_hate, aI G (r_t 17) 6 v_clauses, aI G (r_t 18) 61 v_word, aI G (r_t 20) 61 v_begins, aI G (r_t 21) 61 v_length, aZ G (r_t 24) 110 q3.2, aI G (r_t 22) 800 v_code, aI G (r_t 1) 6 v_kind, aI G (r_t 2) 6 v_v, aI G (r_t 19) 61 v_number, aI G (r_t 6) 24 v_rows, aI G (r_t 3) 6 v_dead]) ml_X8_140 ms_X8_spite hf (fun q3 h => (c_X8_spite G K.2.1) a_t r_t v_people v_day v_texted v_at v_value v_digits v_open v_parishes v_holds v_coded v_seen v_inPlan v_inBook v_traced v_imaged v_most v_hate v_clauses v_word v_begins v_length v_stack v_code v_kind v_v v_number v_rows p1 p2 v_day q3 h) [0, 1, 2, 3, 4, 5, 6, 7, 8, 9, 10, 11] [some 0, some 1, some 2, some 3, some 4, some 5, some 6, some 7, some 8, some 9, some 10, some 11, none] 13 rfl (by decide +kernel) (by decide +kernel) (fun _ => rfl) (fun _ => rfl) rfl rfl rfl rfl ⟨Nat.zero_le _, Nat.zero_le _⟩ dX8_between_79 kc_X8 0 rfl (fun q3 hf => ?_)
            obtain rfl := Option.some.inj hf
            exact hQ _ _ dX8_between_82 rfl
          · skip
            obtain ⟨h2, hf⟩ | ⟨h2, hf⟩ := k_or hf
            · refine j_tabIn C (pc := 32) 83 dX8_between_32 (by rw [h2]; decide) (by rw [h2]; decide) (by rw [h2] <;> rfl) (by decide) ?_
              refine j_aload_n C (pc := 83) 0 rfl rfl dX8_between_83 ?_
              refine j_iload_n C (pc := 84) 1 rfl rfl dX8_between_84 ?_
              refine j_iload_n C (pc := 85) 2 rfl rfl dX8_between_85 ?_
              refine j_aload_n C (pc := 86) 0 rfl rfl dX8_between_86 ?_
              refine j_get C (pc := 87) kc_X8 fl_X8_125 0 rfl rfl dX8_between_87 ?_
              refine j_cVI C (pc := 90) (As := [.int p1, .int p2, .int v_day]) (st := []) (ws' := fun q4 => [oX8 a_t r_t v_people v_day v_texted v_at v_value v_digits v_open v_parishes v_holds v_coded v_seen v_inPlan v_inBook v_traced v_imaged v_most, aI G (r_t 7) 36 v_hate, aI G (r_t 17) 6 v_clauses, aI G (r_t 18) 61 v_word, aI G (r_t 20) 61 v_begins, aI G (r_t 21) 61 v_length, aZ G (r_t 24) 110 q4.2, aI G (r_t 22) 800 v_code, aI G (r_t 1) 6 v_kind, aI G (r_t 2) 6 v_v, aI G (r_t 19) 61 v_number, aI G (r_t 6) 24 v_rows, aI G (r_t 3) 6 v_dead]) ml_X8_144 ms_X8_isEnemy hf (fun q4 h => (c_X8_isEnemy G K.2.1) a_t r_t v_people v_day v_texted v_at v_value v_digits v_open v_parishes v_holds v_coded v_seen v_inPlan v_inBook v_traced v_imaged v_most v_dead v_hate v_clauses v_word v_begins v_length v_stack v_code v_kind v_v v_number v_rows p1 p2 v_day q4 h) [0, 12, 1, 2, 3, 4, 5, 6, 7, 8, 9, 10, 11] [some 0, some 2, some 3, some 4, some 5, some 6, some 7, some 8, some 9, some 10, some 11, some 12, some 1] 13 rfl (by decide +kernel) (by decide +kernel) (fun _ => rfl) (fun _ => rfl) rfl rfl rfl rfl ⟨Nat.zero_le _, Nat.zero_le _⟩ dX8_between_90 kc_X8 0 rfl (fun q4 hf => ?_)
              refine j_if_eq C (pc := 93) 100 dX8_between_93 (by decide) hf (fun hf => ?_) (fun hf => ?_)
              · refine j_iconst C (pc := 100) (v := 0) (by decide) dX8_between_100 ?_
                obtain rfl := Option.some.inj hf
                exact hQ _ _ dX8_between_101 rfl
              · refine j_iconst C (pc := 96) (v := 1) (by decide) dX8_between_96 ?_
                refine j_goto C (pc := 97) 101 dX8_between_97 (by decide) ?_
                obtain rfl := Option.some.inj hf
                exact hQ _ _ dX8_between_101 rfl
            · skip
              have hout : (p3).toInt < 0 ∨ 2 < (p3).toInt := by
                have := lv_neT (a := 0) h0 rfl
                have := lv_neT (a := 1) h1 rfl
                have := lv_neT (a := 2) h2 rfl
                omega
              refine j_tabOut C (pc := 32) 102 dX8_between_32 hout (by decide) ?_
              refine j_aload_n C (pc := 102) 0 rfl rfl dX8_between_102 ?_
              refine j_iload_n C (pc := 103) 1 rfl rfl dX8_between_103 ?_
              refine j_iload_n C (pc := 104) 2 rfl rfl dX8_between_104 ?_
              refine j_cVI C (pc := 105) (As := [.int p1, .int p2]) (st := []) (ws' := fun q5 => [oX8 a_t r_t v_people v_day v_texted v_at v_value v_digits v_open v_parishes v_holds v_coded v_seen v_inPlan v_inBook v_traced v_imaged v_most, aI G (r_t 7) 36 v_hate, aI G (r_t 17) 6 v_clauses, aI G (r_t 18) 61 v_word, aI G (r_t 20) 61 v_begins, aI G (r_t 21) 61 v_length, aZ G (r_t 24) 110 q5.2, aI G (r_t 22) 800 v_code, aI G (r_t 1) 6 v_kind, aI G (r_t 2) 6 v_v, aI G (r_t 19) 61 v_number, aI G (r_t 6) 24 v_rows, aI G (r_t 3) 6 v_dead]) ml_X8_147 ms_X8_howLong hf (fun q5 h => (c_X8_howLong G K.2.1) a_t r_t v_people v_day v_texted v_at v_value v_digits v_open v_parishes v_holds v_coded v_seen v_inPlan v_inBook v_traced v_imaged v_most v_dead v_hate v_clauses v_word v_begins v_length v_stack v_code v_kind v_v v_number v_rows p1 p2 q5 h) [0, 12, 1, 2, 3, 4, 5, 6, 7, 8, 9, 10, 11] [some 0, some 2, some 3, some 4, some 5, some 6, some 7, some 8, some 9, some 10, some 11, some 12, some 1] 13 rfl (by decide +kernel) (by decide +kernel) (fun _ => rfl) (fun _ => rfl) rfl rfl rfl rfl ⟨Nat.zero_le _, Nat.zero_le _⟩ dX8_between_105 kc_X8 0 rfl (fun q5 hf => ?_)
              obtain rfl := Option.some.inj hf
              exact hQ _ _ dX8_between_108 rfl
      · refine j_sipush C (pc := 27) (v := -10002) (by decide) dX8_between_27 ?_
        obtain rfl := Option.some.inj hf
        exact hQ _ _ dX8_between_30 rfl
    · refine j_sipush C (pc := 18) (v := -10001) (by decide) dX8_between_18 ?_
      obtain rfl := Option.some.inj hf
      exact hQ _ _ dX8_between_21 rfl
def ct_X8_between (G : Gx) (l : Launch) (F : Int32 → Int32 → Int32 → (Nat → Int32) → (Nat → Int32) → (Nat → Int32) → (Nat → Int32) → (Nat → Int32) → (Nat → Int32) → (Nat → Int32) → (Nat → Int32) → (Nat → Int32) → (Nat → Int32) → (Nat → Int32) → (Nat → Int32) → Int32 → Int32 → Int32 → Option (Int32 × (Nat → Int32))) (lv : Nat) : Prop := ∀ (a_t : Nat) (r_t : Nat → Nat) (v_people : Int32) (v_day : Int32) (v_texted : Int32) (v_at : Int32) (v_value : Int32) (v_digits : Int32) (v_open : Int32) (v_parishes : Int32) (v_holds : Int32) (v_coded : Int32) (v_seen : Int32) (v_inPlan : Int32) (v_inBook : Int32) (v_traced : Int32) (v_imaged : Int32) (v_most : Int32) (v_hate : Nat → Int32) (v_clauses : Nat → Int32) (v_word : Nat → Int32) (v_begins : Nat → Int32) (v_length : Nat → Int32) (v_stack : Nat → Int32) (v_code : Nat → Int32) (v_kind : Nat → Int32) (v_v : Nat → Int32) (v_number : Nat → Int32) (v_rows : Nat → Int32) (v_dead : Nat → Int32) (p1 : Int32) (p2 : Int32) (p3 : Int32), ∀ (q : Int32 × (Nat → Int32)), F v_people v_day v_holds v_hate v_clauses v_word v_begins v_length v_stack v_code v_kind v_v v_number v_rows v_dead p1 p2 p3 = some q → MI G l yX8_between cX8_between 4 .int lv [.ref a_t, .int p1, .int p2, .int p3] [oX8 a_t r_t v_people v_day v_texted v_at v_value v_digits v_open v_parishes v_holds v_coded v_seen v_inPlan v_inBook v_traced v_imaged v_most, aI G (r_t 7) 36 v_hate, aI G (r_t 17) 6 v_clauses, aI G (r_t 18) 61 v_word, aI G (r_t 20) 61 v_begins, aI G (r_t 21) 61 v_length, aZ G (r_t 24) 110 v_stack, aI G (r_t 22) 800 v_code, aI G (r_t 1) 6 v_kind, aI G (r_t 2) 6 v_v, aI G (r_t 19) 61 v_number, aI G (r_t 6) 24 v_rows, aI G (r_t 3) 6 v_dead] [oX8 a_t r_t v_people v_day v_texted v_at v_value v_digits v_open v_parishes v_holds v_coded v_seen v_inPlan v_inBook v_traced v_imaged v_most, aI G (r_t 7) 36 v_hate, aI G (r_t 17) 6 v_clauses, aI G (r_t 18) 61 v_word, aI G (r_t 20) 61 v_begins, aI G (r_t 21) 61 v_length, aZ G (r_t 24) 110 q.2, aI G (r_t 22) 800 v_code, aI G (r_t 1) 6 v_kind, aI G (r_t 2) 6 v_v, aI G (r_t 19) 61 v_number, aI G (r_t 6) 24 v_rows, aI G (r_t 3) 6 v_dead] q.1
theorem c_X8_between (G : Gx) (l : Launch) : ct_X8_between G l f_X8_between 8 := by
  intro a_t r_t v_people v_day v_texted v_at v_value v_digits v_open v_parishes v_holds v_coded v_seen v_inPlan v_inBook v_traced v_imaged v_most v_hate v_clauses v_word v_begins v_length v_stack v_code v_kind v_v v_number v_rows v_dead p1 p2 p3 q hf
  exact mI_of (by decide +kernel) rfl (fun K hl C hQ => t_X8_between C hQ hf)
-- X8_book
def f_X8_book (v_people : Int32) (v_inBook : Int32) (v_bookBy : Nat → Int32) (v_bookOf : Nat → Int32) (v_bookHate : Nat → Int32) (p1 : Int32) (p2 : Int32) (p3 : Int32) : Option (Int32 × (Nat → Int32) × (Nat → Int32) × Int32 × (Nat → Int32)) := (if p1 = (-1 : Int32) then (some ((0 : Int32), v_bookBy, v_bookOf, (0 : Int32), v_bookHate)) else ((f_X8_are v_people p1 p2).bind fun q1 => (if q1 = 0 then (some ((-1 : Int32), v_bookBy, v_bookOf, v_inBook, v_bookHate)) else (if p1 = p2 then (some ((-2 : Int32), v_bookBy, v_bookOf, v_inBook, v_bookHate)) else ((f_X8_within p3 (0 : Int32) (99 : Int32)).bind fun q2 => (if q2 = 0 then (some ((-2 : Int32), v_bookBy, v_bookOf, v_inBook, v_bookHate)) else (if v_inBook = (8 : Int32) then (some ((-4 : Int32), v_bookBy, v_bookOf, v_inBook, v_bookHate)) else (gd v_inBook 8 (gd v_inBook 8 (gd v_inBook 8 (some (v_inBook + (1 : Int32), upd v_bookBy v_inBook.toNatClampNeg p1, upd v_bookOf v_inBook.toNatClampNeg p2, v_inBook + (1 : Int32), upd v_bookHate v_inBook.toNatClampNeg p3))))))))))))
set_option maxRecDepth 20000 in
set_option maxHeartbeats 1000000 in
theorem t_X8_book {G : Gx} {K : Kx} (C : Cx G K cX8_book RX8 4 4) {a_t : Nat} {r_t : Nat → Nat} {v_people : Int32} {v_day : Int32} {v_texted : Int32} {v_at : Int32} {v_value : Int32} {v_digits : Int32} {v_open : Int32} {v_parishes : Int32} {v_holds : Int32} {v_coded : Int32} {v_seen : Int32} {v_inPlan : Int32} {v_inBook : Int32} {v_traced : Int32} {v_imaged : Int32} {v_most : Int32} {v_bookBy : Nat → Int32} {v_bookOf : Nat → Int32} {v_bookHate : Nat → Int32} {p1 : Int32} {p2 : Int32} {p3 : Int32} {q : Int32 × (Nat → Int32) × (Nat → Int32) × Int32 × (Nat → Int32)} (hQ : k_retI G K cX8_book 4 .int [oX8 a_t r_t v_people v_day v_texted v_at v_value v_digits v_open v_parishes v_holds v_coded v_seen v_inPlan q.2.2.2.1 v_traced v_imaged v_most, aI G (r_t 34) 8 q.2.1, aI G (r_t 35) 8 q.2.2.1, aI G (r_t 36) 8 q.2.2.2.2] q.1) (hf : f_X8_book v_people v_inBook v_bookBy v_bookOf v_bookHate p1 p2 p3 = some q) : J G K 4 0 0 [oX8 a_t r_t v_people v_day v_texted v_at v_value v_digits v_open v_parishes v_holds v_coded v_seen v_inPlan v_inBook v_traced v_imaged v_most, aI G (r_t 34) 8 v_bookBy, aI G (r_t 35) 8 v_bookOf, aI G (r_t 36) 8 v_bookHate] [(0, .ref a_t), (1, .int p1), (2, .int p2), (3, .int p3)] 0 [] := by
  unfold f_X8_book at hf
  refine j_iload_n C (pc := 0) 1 rfl rfl dX8_book_0 ?_
  refine j_iconst C (pc := 1) (v := -1) (by decide) dX8_book_1 ?_
  refine j_icmp_ne C (pc := 2) 12 dX8_book_2 (by decide) hf (fun hf => ?_) (fun hf => ?_)
  · refine j_aload_n C (pc := 12) 0 rfl rfl dX8_book_12 ?_
    refine j_iload_n C (pc := 13) 1 rfl rfl dX8_book_13 ?_
    refine j_iload_n C (pc := 14) 2 rfl rfl dX8_book_14 ?_
    refine j_cVI C (pc := 15) (As := [.int p1, .int p2]) (st := []) (ws' := fun q1 => [oX8 a_t r_t v_people v_day v_texted v_at v_value v_digits v_open v_parishes v_holds v_coded v_seen v_inPlan v_inBook v_traced v_imaged v_most, aI G (r_t 34) 8 v_bookBy, aI G (r_t 35) 8 v_bookOf, aI G (r_t 36) 8 v_bookHate]) ml_X8_136 ms_X8_are hf (fun q1 h => (c_X8_are G K.2.1) a_t r_t v_people v_day v_texted v_at v_value v_digits v_open v_parishes v_holds v_coded v_seen v_inPlan v_inBook v_traced v_imaged v_most p1 p2 q1 h) [0] [some 0, none, none, none] 4 rfl (by decide +kernel) (by decide +kernel) (fun _ => rfl) (fun _ => rfl) rfl rfl rfl rfl ⟨Nat.zero_le _, Nat.zero_le _⟩ dX8_book_15 kc_X8 0 rfl (fun q1 hf => ?_)
    refine j_if_ne C (pc := 18) 23 dX8_book_18 (by decide) hf (fun hf => ?_) (fun hf => ?_)
    · refine j_iload_n C (pc := 23) 1 rfl rfl dX8_book_23 ?_
      refine j_iload_n C (pc := 24) 2 rfl rfl dX8_book_24 ?_
      refine j_icmp_eq C (pc := 25) 38 dX8_book_25 (by decide) hf (fun hf => ?_) (fun hf => ?_)
      · refine j_bipush C (pc := 38) (v := -2) (by decide) dX8_book_38 ?_
        obtain rfl := Option.some.inj hf
        exact hQ _ _ dX8_book_40 rfl
      · refine j_iload_n C (pc := 28) 3 rfl rfl dX8_book_28 ?_
        refine j_iconst C (pc := 29) (v := 0) (by decide) dX8_book_29 ?_
        refine j_bipush C (pc := 30) (v := 99) (by decide) dX8_book_30 ?_
        refine j_cSI C (pc := 32) (As := [.int p3, .int (0 : Int32), .int (99 : Int32)]) (st := []) (ws' := fun q2 => [oX8 a_t r_t v_people v_day v_texted v_at v_value v_digits v_open v_parishes v_holds v_coded v_seen v_inPlan v_inBook v_traced v_imaged v_most, aI G (r_t 34) 8 v_bookBy, aI G (r_t 35) 8 v_bookOf, aI G (r_t 36) 8 v_bookHate]) ml_X8_117 ms_X8_within hf (fun q2 h => (c_X8_within G K.2.1) p3 (0 : Int32) (99 : Int32) q2 h) [] [none, none, none, none] 4 rfl (by decide +kernel) (by decide +kernel) (fun _ => rfl) (fun _ => rfl) rfl rfl rfl rfl ⟨Nat.zero_le _, Nat.zero_le _⟩ dX8_book_32 (fun q2 hf => ?_)
        refine j_if_ne C (pc := 35) 41 dX8_book_35 (by decide) hf (fun hf => ?_) (fun hf => ?_)
        · refine j_aload_n C (pc := 41) 0 rfl rfl dX8_book_41 ?_
          refine j_get C (pc := 42) kc_X8 fl_X8_320 0 rfl rfl dX8_book_42 ?_
          refine j_bipush C (pc := 45) (v := 8) (by decide) dX8_book_45 ?_
          refine j_icmp_ne C (pc := 47) 53 dX8_book_47 (by decide) hf (fun hf => ?_) (fun hf => ?_)
          · refine j_aload_n C (pc := 53) 0 rfl rfl dX8_book_53 ?_
            refine j_get C (pc := 54) kc_X8 fl_X8_76 0 rfl rfl dX8_book_54 ?_
            refine j_aload_n C (pc := 57) 0 rfl rfl dX8_book_57 ?_
            refine j_get C (pc := 58) kc_X8 fl_X8_320 0 rfl rfl dX8_book_58 ?_
            refine j_iload_n C (pc := 61) 1 rfl rfl dX8_book_61 ?_
            refine j_iast C (pc := 62) (ws' := [oX8 a_t r_t v_people v_day v_texted v_at v_value v_digits v_open v_parishes v_holds v_coded v_seen v_inPlan v_inBook v_traced v_imaged v_most, aI G (r_t 34) 8 (upd v_bookBy v_inBook.toNatClampNeg p1), aI G (r_t 35) 8 v_bookOf, aI G (r_t 36) 8 v_bookHate]) 1 rfl hf rfl dX8_book_62 (fun hf => ?_)
            refine j_aload_n C (pc := 63) 0 rfl rfl dX8_book_63 ?_
            refine j_get C (pc := 64) kc_X8 fl_X8_79 0 rfl rfl dX8_book_64 ?_
            refine j_aload_n C (pc := 67) 0 rfl rfl dX8_book_67 ?_
            refine j_get C (pc := 68) kc_X8 fl_X8_320 0 rfl rfl dX8_book_68 ?_
            refine j_iload_n C (pc := 71) 2 rfl rfl dX8_book_71 ?_
            refine j_iast C (pc := 72) (ws' := [oX8 a_t r_t v_people v_day v_texted v_at v_value v_digits v_open v_parishes v_holds v_coded v_seen v_inPlan v_inBook v_traced v_imaged v_most, aI G (r_t 34) 8 (upd v_bookBy v_inBook.toNatClampNeg p1), aI G (r_t 35) 8 (upd v_bookOf v_inBook.toNatClampNeg p2), aI G (r_t 36) 8 v_bookHate]) 2 rfl hf rfl dX8_book_72 (fun hf => ?_)
            refine j_aload_n C (pc := 73) 0 rfl rfl dX8_book_73 ?_
            refine j_get C (pc := 74) kc_X8 fl_X8_82 0 rfl rfl dX8_book_74 ?_
            refine j_aload_n C (pc := 77) 0 rfl rfl dX8_book_77 ?_
            refine j_dup C (pc := 78) rfl dX8_book_78 ?_
            refine j_get C (pc := 79) kc_X8 fl_X8_320 0 rfl rfl dX8_book_79 ?_
            refine j_dup_x1 C (pc := 82) rfl rfl dX8_book_82 ?_
            refine j_iconst C (pc := 83) (v := 1) (by decide) dX8_book_83 ?_
            refine j_iadd C (pc := 84) dX8_book_84 ?_
            refine j_put C (pc := 85) (ws' := [oX8 a_t r_t v_people v_day v_texted v_at v_value v_digits v_open v_parishes v_holds v_coded v_seen v_inPlan (v_inBook + (1 : Int32)) v_traced v_imaged v_most, aI G (r_t 34) 8 (upd v_bookBy v_inBook.toNatClampNeg p1), aI G (r_t 35) 8 (upd v_bookOf v_inBook.toNatClampNeg p2), aI G (r_t 36) 8 v_bookHate]) kc_X8 fl_X8_320 0 rfl rfl rfl rfl rfl rfl dX8_book_85 ?_
            refine j_iload_n C (pc := 88) 3 rfl rfl dX8_book_88 ?_
            refine j_iast C (pc := 89) (ws' := [oX8 a_t r_t v_people v_day v_texted v_at v_value v_digits v_open v_parishes v_holds v_coded v_seen v_inPlan (v_inBook + (1 : Int32)) v_traced v_imaged v_most, aI G (r_t 34) 8 (upd v_bookBy v_inBook.toNatClampNeg p1), aI G (r_t 35) 8 (upd v_bookOf v_inBook.toNatClampNeg p2), aI G (r_t 36) 8 (upd v_bookHate v_inBook.toNatClampNeg p3)]) 3 rfl hf rfl dX8_book_89 (fun hf => ?_)
            refine j_aload_n C (pc := 90) 0 rfl rfl dX8_book_90 ?_
            refine j_get C (pc := 91) kc_X8 fl_X8_320 0 rfl rfl dX8_book_91 ?_
            obtain rfl := Option.some.inj hf
            exact hQ _ _ dX8_book_94 rfl
          · refine j_bipush C (pc := 50) (v := -4) (by decide) dX8_book_50 ?_
            obtain rfl := Option.some.inj hf
            exact hQ _ _ dX8_book_52 rfl
        · refine j_bipush C (pc := 38) (v := -2) (by decide) dX8_book_38 ?_
          obtain rfl := Option.some.inj hf
          exact hQ _ _ dX8_book_40 rfl
    · refine j_iconst C (pc := 21) (v := -1) (by decide) dX8_book_21 ?_
      obtain rfl := Option.some.inj hf
      exact hQ _ _ dX8_book_22 rfl
  · refine j_aload_n C (pc := 5) 0 rfl rfl dX8_book_5 ?_
    refine j_iconst C (pc := 6) (v := 0) (by decide) dX8_book_6 ?_
    refine j_put C (pc := 7) (ws' := [oX8 a_t r_t v_people v_day v_texted v_at v_value v_digits v_open v_parishes v_holds v_coded v_seen v_inPlan (0 : Int32) v_traced v_imaged v_most, aI G (r_t 34) 8 v_bookBy, aI G (r_t 35) 8 v_bookOf, aI G (r_t 36) 8 v_bookHate]) kc_X8 fl_X8_320 0 rfl rfl rfl rfl rfl rfl dX8_book_7 ?_
    refine j_iconst C (pc := 10) (v := 0) (by decide) dX8_book_10 ?_
    obtain rfl := Option.some.inj hf
    exact hQ _ _ dX8_book_11 rfl
def ct_X8_book (G : Gx) (l : Launch) (F : Int32 → Int32 → (Nat → Int32) → (Nat → Int32) → (Nat → Int32) → Int32 → Int32 → Int32 → Option (Int32 × (Nat → Int32) × (Nat → Int32) × Int32 × (Nat → Int32))) (lv : Nat) : Prop := ∀ (a_t : Nat) (r_t : Nat → Nat) (v_people : Int32) (v_day : Int32) (v_texted : Int32) (v_at : Int32) (v_value : Int32) (v_digits : Int32) (v_open : Int32) (v_parishes : Int32) (v_holds : Int32) (v_coded : Int32) (v_seen : Int32) (v_inPlan : Int32) (v_inBook : Int32) (v_traced : Int32) (v_imaged : Int32) (v_most : Int32) (v_bookBy : Nat → Int32) (v_bookOf : Nat → Int32) (v_bookHate : Nat → Int32) (p1 : Int32) (p2 : Int32) (p3 : Int32), ∀ (q : Int32 × (Nat → Int32) × (Nat → Int32) × Int32 × (Nat → Int32)), F v_people v_inBook v_bookBy v_bookOf v_bookHate p1 p2 p3 = some q → MI G l yX8_book cX8_book 4 .int lv [.ref a_t, .int p1, .int p2, .int p3] [oX8 a_t r_t v_people v_day v_texted v_at v_value v_digits v_open v_parishes v_holds v_coded v_seen v_inPlan v_inBook v_traced v_imaged v_most, aI G (r_t 34) 8 v_bookBy, aI G (r_t 35) 8 v_bookOf, aI G (r_t 36) 8 v_bookHate] [oX8 a_t r_t v_people v_day v_texted v_at v_value v_digits v_open v_parishes v_holds v_coded v_seen v_inPlan q.2.2.2.1 v_traced v_imaged v_most, aI G (r_t 34) 8 q.2.1, aI G (r_t 35) 8 q.2.2.1, aI G (r_t 36) 8 q.2.2.2.2] q.1
theorem c_X8_book (G : Gx) (l : Launch) : ct_X8_book G l f_X8_book 4 := by
  intro a_t r_t v_people v_day v_texted v_at v_value v_digits v_open v_parishes v_holds v_coded v_seen v_inPlan v_inBook v_traced v_imaged v_most v_bookBy v_bookOf v_bookHate p1 p2 p3 q hf
  exact mI_of (by decide +kernel) rfl (fun K hl C hQ => t_X8_book C hQ hf)
-- X8_buriedBits
def f_X8_buriedBits_4_b (v_people : Int32) (v_buried : Nat → Int32) (k4 : Int32 → Int32 → Option (Int32)) (x1 : Int32) (x2 : Int32) : Option (Int32) := (if v_people ≤ x2 then (some x1) else (gd x2 6 (nm (x1 ||| ((v_buried x2.toNatClampNeg) <<< (x2 &&& 31))) fun y1 => (k4 y1 (x2 + (1 : Int32))))))
def f_X8_buriedBits_4 (v_people : Int32) (v_buried : Nat → Int32) : Nat → Int32 → Int32 → Option (Int32)
  | 0 => fun _ _ => none
  | n + 1 => f_X8_buriedBits_4_b v_people v_buried (f_X8_buriedBits_4 v_people v_buried n)
set_option maxRecDepth 20000 in
set_option maxHeartbeats 1000000 in
theorem t_X8_buriedBits_4_b {G : Gx} {K : Kx} (C : Cx G K cX8_buriedBits RX8 3 1) {a_t : Nat} {r_t : Nat → Nat} {v_people : Int32} {v_day : Int32} {v_texted : Int32} {v_at : Int32} {v_value : Int32} {v_digits : Int32} {v_open : Int32} {v_parishes : Int32} {v_holds : Int32} {v_coded : Int32} {v_seen : Int32} {v_inPlan : Int32} {v_inBook : Int32} {v_traced : Int32} {v_imaged : Int32} {v_most : Int32} {v_buried : Nat → Int32} {q : Int32} (hQ : k_retI G K cX8_buriedBits 3 .int [oX8 a_t r_t v_people v_day v_texted v_at v_value v_digits v_open v_parishes v_holds v_coded v_seen v_inPlan v_inBook v_traced v_imaged v_most, aI G (r_t 4) 6 v_buried] q) {k4 : Int32 → Int32 → Option (Int32)} (hk4 : ∀ (x1 : Int32) (x2 : Int32), k4 x1 x2 = some q → J G K 3 0 0 [oX8 a_t r_t v_people v_day v_texted v_at v_value v_digits v_open v_parishes v_holds v_coded v_seen v_inPlan v_inBook v_traced v_imaged v_most, aI G (r_t 4) 6 v_buried] [(0, .ref a_t), (1, .int x1), (2, .int x2)] 4 []) {x1 : Int32} {x2 : Int32} (hf : f_X8_buriedBits_4_b v_people v_buried k4 x1 x2 = some q) : J G K 3 0 0 [oX8 a_t r_t v_people v_day v_texted v_at v_value v_digits v_open v_parishes v_holds v_coded v_seen v_inPlan v_inBook v_traced v_imaged v_most, aI G (r_t 4) 6 v_buried] [(0, .ref a_t), (1, .int x1), (2, .int x2)] 4 [] := by
  unfold f_X8_buriedBits_4_b at hf
  refine j_iload_n C (pc := 4) 2 rfl rfl dX8_buriedBits_4 ?_
  refine j_aload_n C (pc := 5) 0 rfl rfl dX8_buriedBits_5 ?_
  refine j_get C (pc := 6) kc_X8 fl_X8_114 0 rfl rfl dX8_buriedBits_6 ?_
  refine j_icmp_ge C (pc := 9) 29 dX8_buriedBits_9 (by decide) hf (fun hf => ?_) (fun hf => ?_)
  · refine j_iload_n C (pc := 29) 1 rfl rfl dX8_buriedBits_29 ?_
    obtain rfl := Option.some.inj hf
    exact hQ _ _ dX8_buriedBits_30 rfl
  · refine j_iload_n C (pc := 12) 1 rfl rfl dX8_buriedBits_12 ?_
    refine j_aload_n C (pc := 13) 0 rfl rfl dX8_buriedBits_13 ?_
    refine j_get C (pc := 14) kc_X8 fl_X8_21 0 rfl rfl dX8_buriedBits_14 ?_
    refine j_iload_n C (pc := 17) 2 rfl rfl dX8_buriedBits_17 ?_
    refine j_iald C (pc := 18) 1 rfl hf dX8_buriedBits_18 (fun hf => ?_)
    refine j_iload_n C (pc := 19) 2 rfl rfl dX8_buriedBits_19 ?_
    refine j_ishl C (pc := 20) dX8_buriedBits_20 ?_
    refine j_ior C (pc := 21) dX8_buriedBits_21 ?_
    refine j_nm hf (fun y1 hf => ?_)
    refine j_istore_n C (pc := 22) (L' := [(1, .int y1), (0, .ref a_t), (2, .int x2)]) dX8_buriedBits_22 rfl (by decide) rfl ?_
    refine j_iinc C (pc := 23) (L' := [(2, .int (x2 + (1 : Int32))), (1, .int y1), (0, .ref a_t)]) (v := x2 + (1 : Int32)) dX8_buriedBits_23 (t := 2) rfl rfl (by decide) rfl ?_
    refine j_goto C (pc := 26) 4 dX8_buriedBits_26 (by decide) ?_
    refine j_sub [2, 1, 0] rfl ?_
    exact hk4 _ _ hf
theorem t_X8_buriedBits_4 {G : Gx} {K : Kx} (C : Cx G K cX8_buriedBits RX8 3 1) {a_t : Nat} {r_t : Nat → Nat} {v_people : Int32} {v_day : Int32} {v_texted : Int32} {v_at : Int32} {v_value : Int32} {v_digits : Int32} {v_open : Int32} {v_parishes : Int32} {v_holds : Int32} {v_coded : Int32} {v_seen : Int32} {v_inPlan : Int32} {v_inBook : Int32} {v_traced : Int32} {v_imaged : Int32} {v_most : Int32} {v_buried : Nat → Int32} {q : Int32} (hQ : k_retI G K cX8_buriedBits 3 .int [oX8 a_t r_t v_people v_day v_texted v_at v_value v_digits v_open v_parishes v_holds v_coded v_seen v_inPlan v_inBook v_traced v_imaged v_most, aI G (r_t 4) 6 v_buried] q) : ∀ (n : Nat) (x1 : Int32) (x2 : Int32), f_X8_buriedBits_4 v_people v_buried n x1 x2 = some q → J G K 3 0 0 [oX8 a_t r_t v_people v_day v_texted v_at v_value v_digits v_open v_parishes v_holds v_coded v_seen v_inPlan v_inBook v_traced v_imaged v_most, aI G (r_t 4) 6 v_buried] [(0, .ref a_t), (1, .int x1), (2, .int x2)] 4 [] := by
  intro n
  induction n with
  | zero => intro x1 x2 hf; cases hf
  | succ n ih => intro x1 x2 hf; exact t_X8_buriedBits_4_b C hQ ih hf
def f_X8_buriedBits (v_people : Int32) (v_buried : Nat → Int32) : Option (Int32) := (f_X8_buriedBits_4 v_people v_buried 1000 (0 : Int32) (0 : Int32))
set_option maxRecDepth 20000 in
set_option maxHeartbeats 1000000 in
theorem t_X8_buriedBits {G : Gx} {K : Kx} (C : Cx G K cX8_buriedBits RX8 3 1) {a_t : Nat} {r_t : Nat → Nat} {v_people : Int32} {v_day : Int32} {v_texted : Int32} {v_at : Int32} {v_value : Int32} {v_digits : Int32} {v_open : Int32} {v_parishes : Int32} {v_holds : Int32} {v_coded : Int32} {v_seen : Int32} {v_inPlan : Int32} {v_inBook : Int32} {v_traced : Int32} {v_imaged : Int32} {v_most : Int32} {v_buried : Nat → Int32} {q : Int32} (hQ : k_retI G K cX8_buriedBits 3 .int [oX8 a_t r_t v_people v_day v_texted v_at v_value v_digits v_open v_parishes v_holds v_coded v_seen v_inPlan v_inBook v_traced v_imaged v_most, aI G (r_t 4) 6 v_buried] q) (hf : f_X8_buriedBits v_people v_buried = some q) : J G K 3 0 0 [oX8 a_t r_t v_people v_day v_texted v_at v_value v_digits v_open v_parishes v_holds v_coded v_seen v_inPlan v_inBook v_traced v_imaged v_most, aI G (r_t 4) 6 v_buried] [(0, .ref a_t)] 0 [] := by
  unfold f_X8_buriedBits at hf
  refine j_iconst C (pc := 0) (v := 0) (by decide) dX8_buriedBits_0 ?_
  refine j_istore_n C (pc := 1) (L' := [(1, .int (0 : Int32)), (0, .ref a_t)]) dX8_buriedBits_1 rfl (by decide) rfl ?_
  refine j_iconst C (pc := 2) (v := 0) (by decide) dX8_buriedBits_2 ?_
  refine j_istore_n C (pc := 3) (L' := [(2, .int (0 : Int32)), (1, .int (0 : Int32)), (0, .ref a_t)]) dX8_buriedBits_3 rfl (by decide) rfl ?_
  refine j_sub [2, 1, 0] rfl ?_
  exact t_X8_buriedBits_4 C hQ 1000 _ _ hf
def ct_X8_buriedBits (G : Gx) (l : Launch) (F : Int32 → (Nat → Int32) → Option (Int32)) (lv : Nat) : Prop := ∀ (a_t : Nat) (r_t : Nat → Nat) (v_people : Int32) (v_day : Int32) (v_texted : Int32) (v_at : Int32) (v_value : Int32) (v_digits : Int32) (v_open : Int32) (v_parishes : Int32) (v_holds : Int32) (v_coded : Int32) (v_seen : Int32) (v_inPlan : Int32) (v_inBook : Int32) (v_traced : Int32) (v_imaged : Int32) (v_most : Int32) (v_buried : Nat → Int32), ∀ (q : Int32), F v_people v_buried = some q → MI G l yX8_buriedBits cX8_buriedBits 3 .int lv [.ref a_t] [oX8 a_t r_t v_people v_day v_texted v_at v_value v_digits v_open v_parishes v_holds v_coded v_seen v_inPlan v_inBook v_traced v_imaged v_most, aI G (r_t 4) 6 v_buried] [oX8 a_t r_t v_people v_day v_texted v_at v_value v_digits v_open v_parishes v_holds v_coded v_seen v_inPlan v_inBook v_traced v_imaged v_most, aI G (r_t 4) 6 v_buried] q
theorem c_X8_buriedBits (G : Gx) (l : Launch) : ct_X8_buriedBits G l f_X8_buriedBits 1 := by
  intro a_t r_t v_people v_day v_texted v_at v_value v_digits v_open v_parishes v_holds v_coded v_seen v_inPlan v_inBook v_traced v_imaged v_most v_buried q hf
  exact mI_of (by decide +kernel) rfl (fun K hl C hQ => t_X8_buriedBits C hQ hf)
-- X8_isSeen
def f_X8_isSeen_38 (v_day : Int32) (v_holds : Int32) (v_seenOf : Nat → Int32) (v_seenIn : Nat → Int32) (v_hate : Nat → Int32) (v_clauses : Nat → Int32) (v_word : Nat → Int32) (v_begins : Nat → Int32) (v_length : Nat → Int32) (v_code : Nat → Int32) (v_kind : Nat → Int32) (v_v : Nat → Int32) (v_number : Nat → Int32) (v_rows : Nat → Int32) (v_seenSo : Nat → Int32) (p1 : Int32) (k2 : Int32 → (Nat → Int32) → Option (Int32 × (Nat → Int32))) (x3 : Int32) (w_stack : Nat → Int32) : Option (Int32 × (Nat → Int32)) := (gd x3 5 (gd x3 5 ((f_X8_does v_holds v_hate v_clauses v_word v_begins v_length w_stack v_code v_kind v_v v_number v_rows p1 (v_seenOf x3.toNatClampNeg) (v_day + (v_seenIn x3.toNatClampNeg))).bind fun q1 => (gd x3 5 (if (v_seenSo x3.toNatClampNeg) = (1 : Int32) then (if q1.1 = (1 : Int32) then (k2 (x3 + (1 : Int32)) q1.2) else (some ((0 : Int32), q1.2))) else (if q1.1 = (0 : Int32) then (k2 (x3 + (1 : Int32)) q1.2) else (some ((0 : Int32), q1.2))))))))
set_option maxRecDepth 20000 in
set_option maxHeartbeats 1000000 in
theorem t_X8_isSeen_38 {G : Gx} {K : Kx} (C : Cx G K cX8_isSeen RX8 4 6) {a_t : Nat} {r_t : Nat → Nat} {v_people : Int32} {v_day : Int32} {v_texted : Int32} {v_at : Int32} {v_value : Int32} {v_digits : Int32} {v_open : Int32} {v_parishes : Int32} {v_holds : Int32} {v_coded : Int32} {v_seen : Int32} {v_inPlan : Int32} {v_inBook : Int32} {v_traced : Int32} {v_imaged : Int32} {v_most : Int32} {v_seenBy : Nat → Int32} {v_seenOf : Nat → Int32} {v_seenIn : Nat → Int32} {v_hate : Nat → Int32} {v_clauses : Nat → Int32} {v_word : Nat → Int32} {v_begins : Nat → Int32} {v_length : Nat → Int32} {v_code : Nat → Int32} {v_kind : Nat → Int32} {v_v : Nat → Int32} {v_number : Nat → Int32} {v_rows : Nat → Int32} {v_seenSo : Nat → Int32} {p1 : Int32} {p2 : Int32} {q : Int32 × (Nat → Int32)} (hQ : k_retI G K cX8_isSeen 4 .boolean [oX8 a_t r_t v_people v_day v_texted v_at v_value v_digits v_open v_parishes v_holds v_coded v_seen v_inPlan v_inBook v_traced v_imaged v_most, aI G (r_t 26) 5 v_seenBy, aI G (r_t 27) 5 v_seenOf, aI G (r_t 28) 5 v_seenIn, aI G (r_t 7) 36 v_hate, aI G (r_t 17) 6 v_clauses, aI G (r_t 18) 61 v_word, aI G (r_t 20) 61 v_begins, aI G (r_t 21) 61 v_length, aZ G (r_t 24) 110 q.2, aI G (r_t 22) 800 v_code, aI G (r_t 1) 6 v_kind, aI G (r_t 2) 6 v_v, aI G (r_t 19) 61 v_number, aI G (r_t 6) 24 v_rows, aI G (r_t 29) 5 v_seenSo] q.1) {k2 : Int32 → (Nat → Int32) → Option (Int32 × (Nat → Int32))} (hk2 : ∀ (x3 : Int32) (w_stack : Nat → Int32), k2 x3 w_stack = some q → J G K 4 0 0 [oX8 a_t r_t v_people v_day v_texted v_at v_value v_digits v_open v_parishes v_holds v_coded v_seen v_inPlan v_inBook v_traced v_imaged v_most, aI G (r_t 26) 5 v_seenBy, aI G (r_t 27) 5 v_seenOf, aI G (r_t 28) 5 v_seenIn, aI G (r_t 7) 36 v_hate, aI G (r_t 17) 6 v_clauses, aI G (r_t 18) 61 v_word, aI G (r_t 20) 61 v_begins, aI G (r_t 21) 61 v_length, aZ G (r_t 24) 110 w_stack, aI G (r_t 22) 800 v_code, aI G (r_t 1) 6 v_kind, aI G (r_t 2) 6 v_v, aI G (r_t 19) 61 v_number, aI G (r_t 6) 24 v_rows, aI G (r_t 29) 5 v_seenSo] [(0, .ref a_t), (1, .int p1), (2, .int p2), (3, .int x3)] 2 []) {x3 : Int32} {w_stack : Nat → Int32} (hf : f_X8_isSeen_38 v_day v_holds v_seenOf v_seenIn v_hate v_clauses v_word v_begins v_length v_code v_kind v_v v_number v_rows v_seenSo p1 k2 x3 w_stack = some q) : J G K 4 0 0 [oX8 a_t r_t v_people v_day v_texted v_at v_value v_digits v_open v_parishes v_holds v_coded v_seen v_inPlan v_inBook v_traced v_imaged v_most, aI G (r_t 26) 5 v_seenBy, aI G (r_t 27) 5 v_seenOf, aI G (r_t 28) 5 v_seenIn, aI G (r_t 7) 36 v_hate, aI G (r_t 17) 6 v_clauses, aI G (r_t 18) 61 v_word, aI G (r_t 20) 61 v_begins, aI G (r_t 21) 61 v_length, aZ G (r_t 24) 110 w_stack, aI G (r_t 22) 800 v_code, aI G (r_t 1) 6 v_kind, aI G (r_t 2) 6 v_v, aI G (r_t 19) 61 v_number, aI G (r_t 6) 24 v_rows, aI G (r_t 29) 5 v_seenSo] [(0, .ref a_t), (1, .int p1), (2, .int p2), (3, .int x3)] 38 [] := by
  unfold f_X8_isSeen_38 at hf
  refine j_aload_n C (pc := 38) 0 rfl rfl dX8_isSeen_38 ?_
  refine j_iload_n C (pc := 39) 1 rfl rfl dX8_isSeen_39 ?_
  refine j_aload_n C (pc := 40) 0 rfl rfl dX8_isSeen_40 ?_
  refine j_get C (pc := 41) kc_X8 fl_X8_61 0 rfl rfl dX8_isSeen_41 ?_
  refine j_iload_n C (pc := 44) 3 rfl rfl dX8_isSeen_44 ?_
  refine j_iald C (pc := 45) 2 rfl hf dX8_isSeen_45 (fun hf => ?_)
  refine j_aload_n C (pc := 46) 0 rfl rfl dX8_isSeen_46 ?_
  refine j_get C (pc := 47) kc_X8 fl_X8_125 0 rfl rfl dX8_isSeen_47 ?_
  refine j_aload_n C (pc := 50) 0 rfl rfl dX8_isSeen_50 ?_
  refine j_get C (pc := 51) kc_X8 fl_X8_64 0 rfl rfl dX8_isSeen_51 ?_
  refine j_iload_n C (pc := 54) 3 rfl rfl dX8_isSeen_54 ?_
  refine j_iald C (pc := 55) 3 rfl hf dX8_isSeen_55 (fun hf => ?_)
  refine j_iadd C (pc := 56) dX8_isSeen_56 ?_
  refine j_cVI C (pc := 57) (As := [.int p1, .int (v_seenOf x3.toNatClampNeg), .int (v_day + (v_seenIn x3.toNatClampNeg))]) (st := []) (ws' := fun q1 => [oX8 a_t r_t v_people v_day v_texted v_at v_value v_digits v_open v_parishes v_holds v_coded v_seen v_inPlan v_inBook v_traced v_imaged v_most, aI G (r_t 26) 5 v_seenBy, aI G (r_t 27) 5 v_seenOf, aI G (r_t 28) 5 v_seenIn, aI G (r_t 7) 36 v_hate, aI G (r_t 17) 6 v_clauses, aI G (r_t 18) 61 v_word, aI G (r_t 20) 61 v_begins, aI G (r_t 21) 61 v_length, aZ G (r_t 24) 110 q1.2, aI G (r_t 22) 800 v_code, aI G (r_t 1) 6 v_kind, aI G (r_t 2) 6 v_v, aI G (r_t 19) 61 v_number, aI G (r_t 6) 24 v_rows, aI G (r_t 29) 5 v_seenSo]) ml_X8_242 ms_X8_does hf (fun q1 h => (c_X8_does G K.2.1) a_t r_t v_people v_day v_texted v_at v_value v_digits v_open v_parishes v_holds v_coded v_seen v_inPlan v_inBook v_traced v_imaged v_most v_hate v_clauses v_word v_begins v_length w_stack v_code v_kind v_v v_number v_rows p1 (v_seenOf x3.toNatClampNeg) (v_day + (v_seenIn x3.toNatClampNeg)) q1 h) [0, 4, 5, 6, 7, 8, 9, 10, 11, 12, 13, 14] [some 0, none, none, none, some 1, some 2, some 3, some 4, some 5, some 6, some 7, some 8, some 9, some 10, some 11, none] 16 rfl (by decide +kernel) (by decide +kernel) (fun _ => rfl) (fun _ => rfl) rfl rfl rfl rfl ⟨Nat.zero_le _, Nat.zero_le _⟩ dX8_isSeen_57 kc_X8 0 rfl (fun q1 hf => ?_)
  refine j_aload_n C (pc := 60) 0 rfl rfl dX8_isSeen_60 ?_
  refine j_get C (pc := 61) kc_X8 fl_X8_67 0 rfl rfl dX8_isSeen_61 ?_
  refine j_iload_n C (pc := 64) 3 rfl rfl dX8_isSeen_64 ?_
  refine j_iald C (pc := 65) 15 rfl hf dX8_isSeen_65 (fun hf => ?_)
  refine j_iconst C (pc := 66) (v := 1) (by decide) dX8_isSeen_66 ?_
  refine j_icmp_ne C (pc := 67) 74 dX8_isSeen_67 (by decide) hf (fun hf => ?_) (fun hf => ?_)
  · refine j_iconst C (pc := 74) (v := 0) (by decide) dX8_isSeen_74 ?_
    refine j_icmp_eq C (pc := 75) 80 dX8_isSeen_75 (by decide) hf (fun hf => ?_) (fun hf => ?_)
    · refine j_iinc C (pc := 80) (L' := [(3, .int (x3 + (1 : Int32))), (0, .ref a_t), (1, .int p1), (2, .int p2)]) (v := x3 + (1 : Int32)) dX8_isSeen_80 (t := 3) rfl rfl (by decide) rfl ?_
      refine j_goto C (pc := 83) 2 dX8_isSeen_83 (by decide) ?_
      refine j_sub [1, 2, 3, 0] rfl ?_
      exact hk2 _ _ hf
    · refine j_iconst C (pc := 78) (v := 0) (by decide) dX8_isSeen_78 ?_
      obtain rfl := Option.some.inj hf
      exact hQ _ _ dX8_isSeen_79 (show narrow .boolean (.int (0 : Int32)) = .int (0 : Int32) from rfl)
  · refine j_iconst C (pc := 70) (v := 1) (by decide) dX8_isSeen_70 ?_
    refine j_goto C (pc := 71) 75 dX8_isSeen_71 (by decide) ?_
    refine j_icmp_eq C (pc := 75) 80 dX8_isSeen_75 (by decide) hf (fun hf => ?_) (fun hf => ?_)
    · refine j_iinc C (pc := 80) (L' := [(3, .int (x3 + (1 : Int32))), (0, .ref a_t), (1, .int p1), (2, .int p2)]) (v := x3 + (1 : Int32)) dX8_isSeen_80 (t := 3) rfl rfl (by decide) rfl ?_
      refine j_goto C (pc := 83) 2 dX8_isSeen_83 (by decide) ?_
      refine j_sub [1, 2, 3, 0] rfl ?_
      exact hk2 _ _ hf
    · refine j_iconst C (pc := 78) (v := 0) (by decide) dX8_isSeen_78 ?_
      obtain rfl := Option.some.inj hf
      exact hQ _ _ dX8_isSeen_79 (show narrow .boolean (.int (0 : Int32)) = .int (0 : Int32) from rfl)
def f_X8_isSeen_2_b (v_day : Int32) (v_holds : Int32) (v_seen : Int32) (v_seenBy : Nat → Int32) (v_seenOf : Nat → Int32) (v_seenIn : Nat → Int32) (v_hate : Nat → Int32) (v_clauses : Nat → Int32) (v_word : Nat → Int32) (v_begins : Nat → Int32) (v_length : Nat → Int32) (v_code : Nat → Int32) (v_kind : Nat → Int32) (v_v : Nat → Int32) (v_number : Nat → Int32) (v_rows : Nat → Int32) (v_seenSo : Nat → Int32) (p1 : Int32) (p2 : Int32) (k2 : Int32 → (Nat → Int32) → Option (Int32 × (Nat → Int32))) (x3 : Int32) (w_stack : Nat → Int32) : Option (Int32 × (Nat → Int32)) := (if v_seen ≤ x3 then (some ((1 : Int32), w_stack)) else (gd x3 5 (if (v_seenBy x3.toNatClampNeg) = p1 then (if p2 = (-1 : Int32) then (f_X8_isSeen_38 v_day v_holds v_seenOf v_seenIn v_hate v_clauses v_word v_begins v_length v_code v_kind v_v v_number v_rows v_seenSo p1 k2 x3 w_stack) else (gd x3 5 (if (v_seenOf x3.toNatClampNeg) = p2 then (f_X8_isSeen_38 v_day v_holds v_seenOf v_seenIn v_hate v_clauses v_word v_begins v_length v_code v_kind v_v v_number v_rows v_seenSo p1 k2 x3 w_stack) else (k2 (x3 + (1 : Int32)) w_stack)))) else (k2 (x3 + (1 : Int32)) w_stack))))
def f_X8_isSeen_2 (v_day : Int32) (v_holds : Int32) (v_seen : Int32) (v_seenBy : Nat → Int32) (v_seenOf : Nat → Int32) (v_seenIn : Nat → Int32) (v_hate : Nat → Int32) (v_clauses : Nat → Int32) (v_word : Nat → Int32) (v_begins : Nat → Int32) (v_length : Nat → Int32) (v_code : Nat → Int32) (v_kind : Nat → Int32) (v_v : Nat → Int32) (v_number : Nat → Int32) (v_rows : Nat → Int32) (v_seenSo : Nat → Int32) (p1 : Int32) (p2 : Int32) : Nat → Int32 → (Nat → Int32) → Option (Int32 × (Nat → Int32))
  | 0 => fun _ _ => none
  | n + 1 => f_X8_isSeen_2_b v_day v_holds v_seen v_seenBy v_seenOf v_seenIn v_hate v_clauses v_word v_begins v_length v_code v_kind v_v v_number v_rows v_seenSo p1 p2 (f_X8_isSeen_2 v_day v_holds v_seen v_seenBy v_seenOf v_seenIn v_hate v_clauses v_word v_begins v_length v_code v_kind v_v v_number v_rows v_seenSo p1 p2 n)
set_option maxRecDepth 20000 in
set_option maxHeartbeats 1000000 in
theorem t_X8_isSeen_2_b {G : Gx} {K : Kx} (C : Cx G K cX8_isSeen RX8 4 6) {a_t : Nat} {r_t : Nat → Nat} {v_people : Int32} {v_day : Int32} {v_texted : Int32} {v_at : Int32} {v_value : Int32} {v_digits : Int32} {v_open : Int32} {v_parishes : Int32} {v_holds : Int32} {v_coded : Int32} {v_seen : Int32} {v_inPlan : Int32} {v_inBook : Int32} {v_traced : Int32} {v_imaged : Int32} {v_most : Int32} {v_seenBy : Nat → Int32} {v_seenOf : Nat → Int32} {v_seenIn : Nat → Int32} {v_hate : Nat → Int32} {v_clauses : Nat → Int32} {v_word : Nat → Int32} {v_begins : Nat → Int32} {v_length : Nat → Int32} {v_code : Nat → Int32} {v_kind : Nat → Int32} {v_v : Nat → Int32} {v_number : Nat → Int32} {v_rows : Nat → Int32} {v_seenSo : Nat → Int32} {p1 : Int32} {p2 : Int32} {q : Int32 × (Nat → Int32)} (hQ : k_retI G K cX8_isSeen 4 .boolean [oX8 a_t r_t v_people v_day v_texted v_at v_value v_digits v_open v_parishes v_holds v_coded v_seen v_inPlan v_inBook v_traced v_imaged v_most, aI G (r_t 26) 5 v_seenBy, aI G (r_t 27) 5 v_seenOf, aI G (r_t 28) 5 v_seenIn, aI G (r_t 7) 36 v_hate, aI G (r_t 17) 6 v_clauses, aI G (r_t 18) 61 v_word, aI G (r_t 20) 61 v_begins, aI G (r_t 21) 61 v_length, aZ G (r_t 24) 110 q.2, aI G (r_t 22) 800 v_code, aI G (r_t 1) 6 v_kind, aI G (r_t 2) 6 v_v, aI G (r_t 19) 61 v_number, aI G (r_t 6) 24 v_rows, aI G (r_t 29) 5 v_seenSo] q.1) {k2 : Int32 → (Nat → Int32) → Option (Int32 × (Nat → Int32))} (hk2 : ∀ (x3 : Int32) (w_stack : Nat → Int32), k2 x3 w_stack = some q → J G K 4 0 0 [oX8 a_t r_t v_people v_day v_texted v_at v_value v_digits v_open v_parishes v_holds v_coded v_seen v_inPlan v_inBook v_traced v_imaged v_most, aI G (r_t 26) 5 v_seenBy, aI G (r_t 27) 5 v_seenOf, aI G (r_t 28) 5 v_seenIn, aI G (r_t 7) 36 v_hate, aI G (r_t 17) 6 v_clauses, aI G (r_t 18) 61 v_word, aI G (r_t 20) 61 v_begins, aI G (r_t 21) 61 v_length, aZ G (r_t 24) 110 w_stack, aI G (r_t 22) 800 v_code, aI G (r_t 1) 6 v_kind, aI G (r_t 2) 6 v_v, aI G (r_t 19) 61 v_number, aI G (r_t 6) 24 v_rows, aI G (r_t 29) 5 v_seenSo] [(0, .ref a_t), (1, .int p1), (2, .int p2), (3, .int x3)] 2 []) {x3 : Int32} {w_stack : Nat → Int32} (hf : f_X8_isSeen_2_b v_day v_holds v_seen v_seenBy v_seenOf v_seenIn v_hate v_clauses v_word v_begins v_length v_code v_kind v_v v_number v_rows v_seenSo p1 p2 k2 x3 w_stack = some q) : J G K 4 0 0 [oX8 a_t r_t v_people v_day v_texted v_at v_value v_digits v_open v_parishes v_holds v_coded v_seen v_inPlan v_inBook v_traced v_imaged v_most, aI G (r_t 26) 5 v_seenBy, aI G (r_t 27) 5 v_seenOf, aI G (r_t 28) 5 v_seenIn, aI G (r_t 7) 36 v_hate, aI G (r_t 17) 6 v_clauses, aI G (r_t 18) 61 v_word, aI G (r_t 20) 61 v_begins, aI G (r_t 21) 61 v_length, aZ G (r_t 24) 110 w_stack, aI G (r_t 22) 800 v_code, aI G (r_t 1) 6 v_kind, aI G (r_t 2) 6 v_v, aI G (r_t 19) 61 v_number, aI G (r_t 6) 24 v_rows, aI G (r_t 29) 5 v_seenSo] [(0, .ref a_t), (1, .int p1), (2, .int p2), (3, .int x3)] 2 [] := by
  unfold f_X8_isSeen_2_b at hf
  refine j_iload_n C (pc := 2) 3 rfl rfl dX8_isSeen_2 ?_
  refine j_aload_n C (pc := 3) 0 rfl rfl dX8_isSeen_3 ?_
  refine j_get C (pc := 4) kc_X8 fl_X8_305 0 rfl rfl dX8_isSeen_4 ?_
  refine j_icmp_ge C (pc := 7) 86 dX8_isSeen_7 (by decide) hf (fun hf => ?_) (fun hf => ?_)
  · refine j_iconst C (pc := 86) (v := 1) (by decide) dX8_isSeen_86 ?_
    obtain rfl := Option.some.inj hf
    exact hQ _ _ dX8_isSeen_87 (show narrow .boolean (.int (1 : Int32)) = .int (1 : Int32) from rfl)
  · refine j_aload_n C (pc := 10) 0 rfl rfl dX8_isSeen_10 ?_
    refine j_get C (pc := 11) kc_X8 fl_X8_58 0 rfl rfl dX8_isSeen_11 ?_
    refine j_iload_n C (pc := 14) 3 rfl rfl dX8_isSeen_14 ?_
    refine j_iald C (pc := 15) 1 rfl hf dX8_isSeen_15 (fun hf => ?_)
    refine j_iload_n C (pc := 16) 1 rfl rfl dX8_isSeen_16 ?_
    refine j_icmp_ne C (pc := 17) 80 dX8_isSeen_17 (by decide) hf (fun hf => ?_) (fun hf => ?_)
    · refine j_iinc C (pc := 80) (L' := [(3, .int (x3 + (1 : Int32))), (0, .ref a_t), (1, .int p1), (2, .int p2)]) (v := x3 + (1 : Int32)) dX8_isSeen_80 (t := 3) rfl rfl (by decide) rfl ?_
      refine j_goto C (pc := 83) 2 dX8_isSeen_83 (by decide) ?_
      refine j_sub [1, 2, 3, 0] rfl ?_
      exact hk2 _ _ hf
    · refine j_iload_n C (pc := 20) 2 rfl rfl dX8_isSeen_20 ?_
      refine j_iconst C (pc := 21) (v := -1) (by decide) dX8_isSeen_21 ?_
      refine j_icmp_eq C (pc := 22) 38 dX8_isSeen_22 (by decide) hf (fun hf => ?_) (fun hf => ?_)
      · exact t_X8_isSeen_38 C hQ hk2 hf
      · refine j_aload_n C (pc := 25) 0 rfl rfl dX8_isSeen_25 ?_
        refine j_get C (pc := 26) kc_X8 fl_X8_61 0 rfl rfl dX8_isSeen_26 ?_
        refine j_iload_n C (pc := 29) 3 rfl rfl dX8_isSeen_29 ?_
        refine j_iald C (pc := 30) 2 rfl hf dX8_isSeen_30 (fun hf => ?_)
        refine j_iload_n C (pc := 31) 2 rfl rfl dX8_isSeen_31 ?_
        refine j_icmp_eq C (pc := 32) 38 dX8_isSeen_32 (by decide) hf (fun hf => ?_) (fun hf => ?_)
        · exact t_X8_isSeen_38 C hQ hk2 hf
        · refine j_goto C (pc := 35) 80 dX8_isSeen_35 (by decide) ?_
          refine j_iinc C (pc := 80) (L' := [(3, .int (x3 + (1 : Int32))), (0, .ref a_t), (1, .int p1), (2, .int p2)]) (v := x3 + (1 : Int32)) dX8_isSeen_80 (t := 3) rfl rfl (by decide) rfl ?_
          refine j_goto C (pc := 83) 2 dX8_isSeen_83 (by decide) ?_
          refine j_sub [1, 2, 3, 0] rfl ?_
          exact hk2 _ _ hf
theorem t_X8_isSeen_2 {G : Gx} {K : Kx} (C : Cx G K cX8_isSeen RX8 4 6) {a_t : Nat} {r_t : Nat → Nat} {v_people : Int32} {v_day : Int32} {v_texted : Int32} {v_at : Int32} {v_value : Int32} {v_digits : Int32} {v_open : Int32} {v_parishes : Int32} {v_holds : Int32} {v_coded : Int32} {v_seen : Int32} {v_inPlan : Int32} {v_inBook : Int32} {v_traced : Int32} {v_imaged : Int32} {v_most : Int32} {v_seenBy : Nat → Int32} {v_seenOf : Nat → Int32} {v_seenIn : Nat → Int32} {v_hate : Nat → Int32} {v_clauses : Nat → Int32} {v_word : Nat → Int32} {v_begins : Nat → Int32} {v_length : Nat → Int32} {v_code : Nat → Int32} {v_kind : Nat → Int32} {v_v : Nat → Int32} {v_number : Nat → Int32} {v_rows : Nat → Int32} {v_seenSo : Nat → Int32} {p1 : Int32} {p2 : Int32} {q : Int32 × (Nat → Int32)} (hQ : k_retI G K cX8_isSeen 4 .boolean [oX8 a_t r_t v_people v_day v_texted v_at v_value v_digits v_open v_parishes v_holds v_coded v_seen v_inPlan v_inBook v_traced v_imaged v_most, aI G (r_t 26) 5 v_seenBy, aI G (r_t 27) 5 v_seenOf, aI G (r_t 28) 5 v_seenIn, aI G (r_t 7) 36 v_hate, aI G (r_t 17) 6 v_clauses, aI G (r_t 18) 61 v_word, aI G (r_t 20) 61 v_begins, aI G (r_t 21) 61 v_length, aZ G (r_t 24) 110 q.2, aI G (r_t 22) 800 v_code, aI G (r_t 1) 6 v_kind, aI G (r_t 2) 6 v_v, aI G (r_t 19) 61 v_number, aI G (r_t 6) 24 v_rows, aI G (r_t 29) 5 v_seenSo] q.1) : ∀ (n : Nat) (x3 : Int32) (w_stack : Nat → Int32), f_X8_isSeen_2 v_day v_holds v_seen v_seenBy v_seenOf v_seenIn v_hate v_clauses v_word v_begins v_length v_code v_kind v_v v_number v_rows v_seenSo p1 p2 n x3 w_stack = some q → J G K 4 0 0 [oX8 a_t r_t v_people v_day v_texted v_at v_value v_digits v_open v_parishes v_holds v_coded v_seen v_inPlan v_inBook v_traced v_imaged v_most, aI G (r_t 26) 5 v_seenBy, aI G (r_t 27) 5 v_seenOf, aI G (r_t 28) 5 v_seenIn, aI G (r_t 7) 36 v_hate, aI G (r_t 17) 6 v_clauses, aI G (r_t 18) 61 v_word, aI G (r_t 20) 61 v_begins, aI G (r_t 21) 61 v_length, aZ G (r_t 24) 110 w_stack, aI G (r_t 22) 800 v_code, aI G (r_t 1) 6 v_kind, aI G (r_t 2) 6 v_v, aI G (r_t 19) 61 v_number, aI G (r_t 6) 24 v_rows, aI G (r_t 29) 5 v_seenSo] [(0, .ref a_t), (1, .int p1), (2, .int p2), (3, .int x3)] 2 [] := by
  intro n
  induction n with
  | zero => intro x3 w_stack hf; cases hf
  | succ n ih => intro x3 w_stack hf; exact t_X8_isSeen_2_b C hQ ih hf
def f_X8_isSeen (v_day : Int32) (v_holds : Int32) (v_seen : Int32) (v_seenBy : Nat → Int32) (v_seenOf : Nat → Int32) (v_seenIn : Nat → Int32) (v_hate : Nat → Int32) (v_clauses : Nat → Int32) (v_word : Nat → Int32) (v_begins : Nat → Int32) (v_length : Nat → Int32) (v_stack : Nat → Int32) (v_code : Nat → Int32) (v_kind : Nat → Int32) (v_v : Nat → Int32) (v_number : Nat → Int32) (v_rows : Nat → Int32) (v_seenSo : Nat → Int32) (p1 : Int32) (p2 : Int32) : Option (Int32 × (Nat → Int32)) := (f_X8_isSeen_2 v_day v_holds v_seen v_seenBy v_seenOf v_seenIn v_hate v_clauses v_word v_begins v_length v_code v_kind v_v v_number v_rows v_seenSo p1 p2 1000 (0 : Int32) v_stack)
set_option maxRecDepth 20000 in
set_option maxHeartbeats 1000000 in
theorem t_X8_isSeen {G : Gx} {K : Kx} (C : Cx G K cX8_isSeen RX8 4 6) {a_t : Nat} {r_t : Nat → Nat} {v_people : Int32} {v_day : Int32} {v_texted : Int32} {v_at : Int32} {v_value : Int32} {v_digits : Int32} {v_open : Int32} {v_parishes : Int32} {v_holds : Int32} {v_coded : Int32} {v_seen : Int32} {v_inPlan : Int32} {v_inBook : Int32} {v_traced : Int32} {v_imaged : Int32} {v_most : Int32} {v_seenBy : Nat → Int32} {v_seenOf : Nat → Int32} {v_seenIn : Nat → Int32} {v_hate : Nat → Int32} {v_clauses : Nat → Int32} {v_word : Nat → Int32} {v_begins : Nat → Int32} {v_length : Nat → Int32} {v_stack : Nat → Int32} {v_code : Nat → Int32} {v_kind : Nat → Int32} {v_v : Nat → Int32} {v_number : Nat → Int32} {v_rows : Nat → Int32} {v_seenSo : Nat → Int32} {p1 : Int32} {p2 : Int32} {q : Int32 × (Nat → Int32)} (hQ : k_retI G K cX8_isSeen 4 .boolean [oX8 a_t r_t v_people v_day v_texted v_at v_value v_digits v_open v_parishes v_holds v_coded v_seen v_inPlan v_inBook v_traced v_imaged v_most, aI G (r_t 26) 5 v_seenBy, aI G (r_t 27) 5 v_seenOf, aI G (r_t 28) 5 v_seenIn, aI G (r_t 7) 36 v_hate, aI G (r_t 17) 6 v_clauses, aI G (r_t 18) 61 v_word, aI G (r_t 20) 61 v_begins, aI G (r_t 21) 61 v_length, aZ G (r_t 24) 110 q.2, aI G (r_t 22) 800 v_code, aI G (r_t 1) 6 v_kind, aI G (r_t 2) 6 v_v, aI G (r_t 19) 61 v_number, aI G (r_t 6) 24 v_rows, aI G (r_t 29) 5 v_seenSo] q.1) (hf : f_X8_isSeen v_day v_holds v_seen v_seenBy v_seenOf v_seenIn v_hate v_clauses v_word v_begins v_length v_stack v_code v_kind v_v v_number v_rows v_seenSo p1 p2 = some q) : J G K 4 0 0 [oX8 a_t r_t v_people v_day v_texted v_at v_value v_digits v_open v_parishes v_holds v_coded v_seen v_inPlan v_inBook v_traced v_imaged v_most, aI G (r_t 26) 5 v_seenBy, aI G (r_t 27) 5 v_seenOf, aI G (r_t 28) 5 v_seenIn, aI G (r_t 7) 36 v_hate, aI G (r_t 17) 6 v_clauses, aI G (r_t 18) 61 v_word, aI G (r_t 20) 61 v_begins, aI G (r_t 21) 61 v_length, aZ G (r_t 24) 110 v_stack, aI G (r_t 22) 800 v_code, aI G (r_t 1) 6 v_kind, aI G (r_t 2) 6 v_v, aI G (r_t 19) 61 v_number, aI G (r_t 6) 24 v_rows, aI G (r_t 29) 5 v_seenSo] [(0, .ref a_t), (1, .int p1), (2, .int p2)] 0 [] := by
  unfold f_X8_isSeen at hf
  refine j_iconst C (pc := 0) (v := 0) (by decide) dX8_isSeen_0 ?_
  refine j_istore_n C (pc := 1) (L' := [(3, .int (0 : Int32)), (0, .ref a_t), (1, .int p1), (2, .int p2)]) dX8_isSeen_1 rfl (by decide) rfl ?_
  refine j_sub [1, 2, 3, 0] rfl ?_
  exact t_X8_isSeen_2 C hQ 1000 _ _ hf
def ct_X8_isSeen (G : Gx) (l : Launch) (F : Int32 → Int32 → Int32 → (Nat → Int32) → (Nat → Int32) → (Nat → Int32) → (Nat → Int32) → (Nat → Int32) → (Nat → Int32) → (Nat → Int32) → (Nat → Int32) → (Nat → Int32) → (Nat → Int32) → (Nat → Int32) → (Nat → Int32) → (Nat → Int32) → (Nat → Int32) → (Nat → Int32) → Int32 → Int32 → Option (Int32 × (Nat → Int32))) (lv : Nat) : Prop := ∀ (a_t : Nat) (r_t : Nat → Nat) (v_people : Int32) (v_day : Int32) (v_texted : Int32) (v_at : Int32) (v_value : Int32) (v_digits : Int32) (v_open : Int32) (v_parishes : Int32) (v_holds : Int32) (v_coded : Int32) (v_seen : Int32) (v_inPlan : Int32) (v_inBook : Int32) (v_traced : Int32) (v_imaged : Int32) (v_most : Int32) (v_seenBy : Nat → Int32) (v_seenOf : Nat → Int32) (v_seenIn : Nat → Int32) (v_hate : Nat → Int32) (v_clauses : Nat → Int32) (v_word : Nat → Int32) (v_begins : Nat → Int32) (v_length : Nat → Int32) (v_stack : Nat → Int32) (v_code : Nat → Int32) (v_kind : Nat → Int32) (v_v : Nat → Int32) (v_number : Nat → Int32) (v_rows : Nat → Int32) (v_seenSo : Nat → Int32) (p1 : Int32) (p2 : Int32), ∀ (q : Int32 × (Nat → Int32)), F v_day v_holds v_seen v_seenBy v_seenOf v_seenIn v_hate v_clauses v_word v_begins v_length v_stack v_code v_kind v_v v_number v_rows v_seenSo p1 p2 = some q → MI G l yX8_isSeen cX8_isSeen 4 .boolean lv [.ref a_t, .int p1, .int p2] [oX8 a_t r_t v_people v_day v_texted v_at v_value v_digits v_open v_parishes v_holds v_coded v_seen v_inPlan v_inBook v_traced v_imaged v_most, aI G (r_t 26) 5 v_seenBy, aI G (r_t 27) 5 v_seenOf, aI G (r_t 28) 5 v_seenIn, aI G (r_t 7) 36 v_hate, aI G (r_t 17) 6 v_clauses, aI G (r_t 18) 61 v_word, aI G (r_t 20) 61 v_begins, aI G (r_t 21) 61 v_length, aZ G (r_t 24) 110 v_stack, aI G (r_t 22) 800 v_code, aI G (r_t 1) 6 v_kind, aI G (r_t 2) 6 v_v, aI G (r_t 19) 61 v_number, aI G (r_t 6) 24 v_rows, aI G (r_t 29) 5 v_seenSo] [oX8 a_t r_t v_people v_day v_texted v_at v_value v_digits v_open v_parishes v_holds v_coded v_seen v_inPlan v_inBook v_traced v_imaged v_most, aI G (r_t 26) 5 v_seenBy, aI G (r_t 27) 5 v_seenOf, aI G (r_t 28) 5 v_seenIn, aI G (r_t 7) 36 v_hate, aI G (r_t 17) 6 v_clauses, aI G (r_t 18) 61 v_word, aI G (r_t 20) 61 v_begins, aI G (r_t 21) 61 v_length, aZ G (r_t 24) 110 q.2, aI G (r_t 22) 800 v_code, aI G (r_t 1) 6 v_kind, aI G (r_t 2) 6 v_v, aI G (r_t 19) 61 v_number, aI G (r_t 6) 24 v_rows, aI G (r_t 29) 5 v_seenSo] q.1
theorem c_X8_isSeen (G : Gx) (l : Launch) : ct_X8_isSeen G l f_X8_isSeen 6 := by
  intro a_t r_t v_people v_day v_texted v_at v_value v_digits v_open v_parishes v_holds v_coded v_seen v_inPlan v_inBook v_traced v_imaged v_most v_seenBy v_seenOf v_seenIn v_hate v_clauses v_word v_begins v_length v_stack v_code v_kind v_v v_number v_rows v_seenSo p1 p2 q hf
  exact mI_of (by decide +kernel) rfl (fun K hl C hQ => t_X8_isSeen C hQ hf)
-- X8_can
def f_X8_can_37_b (v_day : Int32) (v_holds : Int32) (v_seen : Int32) (v_seenBy : Nat → Int32) (v_seenOf : Nat → Int32) (v_seenIn : Nat → Int32) (v_hate : Nat → Int32) (v_clauses : Nat → Int32) (v_word : Nat → Int32) (v_begins : Nat → Int32) (v_length : Nat → Int32) (v_code : Nat → Int32) (v_kind : Nat → Int32) (v_number : Nat → Int32) (v_rows : Nat → Int32) (v_seenSo : Nat → Int32) (p1 : Int32) (p2 : Int32) (k37 : Int32 → Int32 → Int32 → Int32 → (Nat → Int32) → (Nat → Int32) → Option (Int32 × (Nat → Int32) × (Nat → Int32))) (x3 : Int32) (x4 : Int32) (x5 : Int32) (x6 : Int32) (w_v : Nat → Int32) (w_stack : Nat → Int32) : Option (Int32 × (Nat → Int32) × (Nat → Int32)) := (if x6 < 0 then (gd p1 6 (if p2 = 0 then (some (x4, upd w_v p1.toNatClampNeg x3, w_stack)) else (some (x5, upd w_v p1.toNatClampNeg x3, w_stack)))) else (gd p1 6 ((f_X8_isSeen v_day v_holds v_seen v_seenBy v_seenOf v_seenIn v_hate v_clauses v_word v_begins v_length w_stack v_code v_kind (upd w_v p1.toNatClampNeg x6) v_number v_rows v_seenSo p1 (-1 : Int32)).bind fun q1 => (if q1.1 = 0 then (k37 x3 x4 x5 (x6 + (-1 : Int32)) (upd w_v p1.toNatClampNeg x6) q1.2) else (k37 x3 (x4 + (1 : Int32)) x6 (x6 + (-1 : Int32)) (upd w_v p1.toNatClampNeg x6) q1.2)))))
def f_X8_can_37 (v_day : Int32) (v_holds : Int32) (v_seen : Int32) (v_seenBy : Nat → Int32) (v_seenOf : Nat → Int32) (v_seenIn : Nat → Int32) (v_hate : Nat → Int32) (v_clauses : Nat → Int32) (v_word : Nat → Int32) (v_begins : Nat → Int32) (v_length : Nat → Int32) (v_code : Nat → Int32) (v_kind : Nat → Int32) (v_number : Nat → Int32) (v_rows : Nat → Int32) (v_seenSo : Nat → Int32) (p1 : Int32) (p2 : Int32) : Nat → Int32 → Int32 → Int32 → Int32 → (Nat → Int32) → (Nat → Int32) → Option (Int32 × (Nat → Int32) × (Nat → Int32))
  | 0 => fun _ _ _ _ _ _ => none
  | n + 1 => f_X8_can_37_b v_day v_holds v_seen v_seenBy v_seenOf v_seenIn v_hate v_clauses v_word v_begins v_length v_code v_kind v_number v_rows v_seenSo p1 p2 (f_X8_can_37 v_day v_holds v_seen v_seenBy v_seenOf v_seenIn v_hate v_clauses v_word v_begins v_length v_code v_kind v_number v_rows v_seenSo p1 p2 n)
set_option maxRecDepth 20000 in
set_option maxHeartbeats 1000000 in
theorem t_X8_can_37_b {G : Gx} {K : Kx} (C : Cx G K cX8_can RX8 7 7) {a_t : Nat} {r_t : Nat → Nat} {v_people : Int32} {v_day : Int32} {v_texted : Int32} {v_at : Int32} {v_value : Int32} {v_digits : Int32} {v_open : Int32} {v_parishes : Int32} {v_holds : Int32} {v_coded : Int32} {v_seen : Int32} {v_inPlan : Int32} {v_inBook : Int32} {v_traced : Int32} {v_imaged : Int32} {v_most : Int32} {v_seenBy : Nat → Int32} {v_seenOf : Nat → Int32} {v_seenIn : Nat → Int32} {v_hate : Nat → Int32} {v_clauses : Nat → Int32} {v_word : Nat → Int32} {v_begins : Nat → Int32} {v_length : Nat → Int32} {v_code : Nat → Int32} {v_kind : Nat → Int32} {v_number : Nat → Int32} {v_rows : Nat → Int32} {v_seenSo : Nat → Int32} {p1 : Int32} {p2 : Int32} {q : Int32 × (Nat → Int32) × (Nat → Int32)} (hQ : k_retI G K cX8_can 7 .int [oX8 a_t r_t v_people v_day v_texted v_at v_value v_digits v_open v_parishes v_holds v_coded v_seen v_inPlan v_inBook v_traced v_imaged v_most, aI G (r_t 2) 6 q.2.1, aI G (r_t 26) 5 v_seenBy, aI G (r_t 27) 5 v_seenOf, aI G (r_t 28) 5 v_seenIn, aI G (r_t 7) 36 v_hate, aI G (r_t 17) 6 v_clauses, aI G (r_t 18) 61 v_word, aI G (r_t 20) 61 v_begins, aI G (r_t 21) 61 v_length, aZ G (r_t 24) 110 q.2.2, aI G (r_t 22) 800 v_code, aI G (r_t 1) 6 v_kind, aI G (r_t 19) 61 v_number, aI G (r_t 6) 24 v_rows, aI G (r_t 29) 5 v_seenSo] q.1) {k37 : Int32 → Int32 → Int32 → Int32 → (Nat → Int32) → (Nat → Int32) → Option (Int32 × (Nat → Int32) × (Nat → Int32))} (hk37 : ∀ (x3 : Int32) (x4 : Int32) (x5 : Int32) (x6 : Int32) (w_v : Nat → Int32) (w_stack : Nat → Int32), k37 x3 x4 x5 x6 w_v w_stack = some q → J G K 7 0 0 [oX8 a_t r_t v_people v_day v_texted v_at v_value v_digits v_open v_parishes v_holds v_coded v_seen v_inPlan v_inBook v_traced v_imaged v_most, aI G (r_t 2) 6 w_v, aI G (r_t 26) 5 v_seenBy, aI G (r_t 27) 5 v_seenOf, aI G (r_t 28) 5 v_seenIn, aI G (r_t 7) 36 v_hate, aI G (r_t 17) 6 v_clauses, aI G (r_t 18) 61 v_word, aI G (r_t 20) 61 v_begins, aI G (r_t 21) 61 v_length, aZ G (r_t 24) 110 w_stack, aI G (r_t 22) 800 v_code, aI G (r_t 1) 6 v_kind, aI G (r_t 19) 61 v_number, aI G (r_t 6) 24 v_rows, aI G (r_t 29) 5 v_seenSo] [(0, .ref a_t), (1, .int p1), (2, .int p2), (3, .int x3), (4, .int x4), (5, .int x5), (6, .int x6)] 37 []) {x3 : Int32} {x4 : Int32} {x5 : Int32} {x6 : Int32} {w_v : Nat → Int32} {w_stack : Nat → Int32} (hf : f_X8_can_37_b v_day v_holds v_seen v_seenBy v_seenOf v_seenIn v_hate v_clauses v_word v_begins v_length v_code v_kind v_number v_rows v_seenSo p1 p2 k37 x3 x4 x5 x6 w_v w_stack = some q) : J G K 7 0 0 [oX8 a_t r_t v_people v_day v_texted v_at v_value v_digits v_open v_parishes v_holds v_coded v_seen v_inPlan v_inBook v_traced v_imaged v_most, aI G (r_t 2) 6 w_v, aI G (r_t 26) 5 v_seenBy, aI G (r_t 27) 5 v_seenOf, aI G (r_t 28) 5 v_seenIn, aI G (r_t 7) 36 v_hate, aI G (r_t 17) 6 v_clauses, aI G (r_t 18) 61 v_word, aI G (r_t 20) 61 v_begins, aI G (r_t 21) 61 v_length, aZ G (r_t 24) 110 w_stack, aI G (r_t 22) 800 v_code, aI G (r_t 1) 6 v_kind, aI G (r_t 19) 61 v_number, aI G (r_t 6) 24 v_rows, aI G (r_t 29) 5 v_seenSo] [(0, .ref a_t), (1, .int p1), (2, .int p2), (3, .int x3), (4, .int x4), (5, .int x5), (6, .int x6)] 37 [] := by
  unfold f_X8_can_37_b at hf
  refine j_iload C (pc := 37) 6 rfl dX8_can_37 ?_
  refine j_if_lt C (pc := 39) 75 dX8_can_39 (by decide) hf (fun hf => ?_) (fun hf => ?_)
  · refine j_aload_n C (pc := 75) 0 rfl rfl dX8_can_75 ?_
    refine j_get C (pc := 76) kc_X8 fl_X8_15 0 rfl rfl dX8_can_76 ?_
    refine j_iload_n C (pc := 79) 1 rfl rfl dX8_can_79 ?_
    refine j_iload_n C (pc := 80) 3 rfl rfl dX8_can_80 ?_
    refine j_iast C (pc := 81) (ws' := [oX8 a_t r_t v_people v_day v_texted v_at v_value v_digits v_open v_parishes v_holds v_coded v_seen v_inPlan v_inBook v_traced v_imaged v_most, aI G (r_t 2) 6 (upd w_v p1.toNatClampNeg x3), aI G (r_t 26) 5 v_seenBy, aI G (r_t 27) 5 v_seenOf, aI G (r_t 28) 5 v_seenIn, aI G (r_t 7) 36 v_hate, aI G (r_t 17) 6 v_clauses, aI G (r_t 18) 61 v_word, aI G (r_t 20) 61 v_begins, aI G (r_t 21) 61 v_length, aZ G (r_t 24) 110 w_stack, aI G (r_t 22) 800 v_code, aI G (r_t 1) 6 v_kind, aI G (r_t 19) 61 v_number, aI G (r_t 6) 24 v_rows, aI G (r_t 29) 5 v_seenSo]) 1 rfl hf rfl dX8_can_81 (fun hf => ?_)
    refine j_iload_n C (pc := 82) 2 rfl rfl dX8_can_82 ?_
    refine j_if_ne C (pc := 83) 91 dX8_can_83 (by decide) hf (fun hf => ?_) (fun hf => ?_)
    · refine j_iload C (pc := 91) 5 rfl dX8_can_91 ?_
      obtain rfl := Option.some.inj hf
      exact hQ _ _ dX8_can_93 rfl
    · refine j_iload C (pc := 86) 4 rfl dX8_can_86 ?_
      refine j_goto C (pc := 88) 93 dX8_can_88 (by decide) ?_
      obtain rfl := Option.some.inj hf
      exact hQ _ _ dX8_can_93 rfl
  · refine j_aload_n C (pc := 42) 0 rfl rfl dX8_can_42 ?_
    refine j_get C (pc := 43) kc_X8 fl_X8_15 0 rfl rfl dX8_can_43 ?_
    refine j_iload_n C (pc := 46) 1 rfl rfl dX8_can_46 ?_
    refine j_iload C (pc := 47) 6 rfl dX8_can_47 ?_
    refine j_iast C (pc := 49) (ws' := [oX8 a_t r_t v_people v_day v_texted v_at v_value v_digits v_open v_parishes v_holds v_coded v_seen v_inPlan v_inBook v_traced v_imaged v_most, aI G (r_t 2) 6 (upd w_v p1.toNatClampNeg x6), aI G (r_t 26) 5 v_seenBy, aI G (r_t 27) 5 v_seenOf, aI G (r_t 28) 5 v_seenIn, aI G (r_t 7) 36 v_hate, aI G (r_t 17) 6 v_clauses, aI G (r_t 18) 61 v_word, aI G (r_t 20) 61 v_begins, aI G (r_t 21) 61 v_length, aZ G (r_t 24) 110 w_stack, aI G (r_t 22) 800 v_code, aI G (r_t 1) 6 v_kind, aI G (r_t 19) 61 v_number, aI G (r_t 6) 24 v_rows, aI G (r_t 29) 5 v_seenSo]) 1 rfl hf rfl dX8_can_49 (fun hf => ?_)
    refine j_aload_n C (pc := 50) 0 rfl rfl dX8_can_50 ?_
    refine j_iload_n C (pc := 51) 1 rfl rfl dX8_can_51 ?_
    refine j_iconst C (pc := 52) (v := -1) (by decide) dX8_can_52 ?_
    refine j_cVI C (pc := 53) (As := [.int p1, .int (-1 : Int32)]) (st := []) (ws' := fun q1 => [oX8 a_t r_t v_people v_day v_texted v_at v_value v_digits v_open v_parishes v_holds v_coded v_seen v_inPlan v_inBook v_traced v_imaged v_most, aI G (r_t 2) 6 (upd w_v p1.toNatClampNeg x6), aI G (r_t 26) 5 v_seenBy, aI G (r_t 27) 5 v_seenOf, aI G (r_t 28) 5 v_seenIn, aI G (r_t 7) 36 v_hate, aI G (r_t 17) 6 v_clauses, aI G (r_t 18) 61 v_word, aI G (r_t 20) 61 v_begins, aI G (r_t 21) 61 v_length, aZ G (r_t 24) 110 q1.2, aI G (r_t 22) 800 v_code, aI G (r_t 1) 6 v_kind, aI G (r_t 19) 61 v_number, aI G (r_t 6) 24 v_rows, aI G (r_t 29) 5 v_seenSo]) ml_X8_308 ms_X8_isSeen hf (fun q1 h => (c_X8_isSeen G K.2.1) a_t r_t v_people v_day v_texted v_at v_value v_digits v_open v_parishes v_holds v_coded v_seen v_inPlan v_inBook v_traced v_imaged v_most v_seenBy v_seenOf v_seenIn v_hate v_clauses v_word v_begins v_length w_stack v_code v_kind (upd w_v p1.toNatClampNeg x6) v_number v_rows v_seenSo p1 (-1 : Int32) q1 h) [0, 2, 3, 4, 5, 6, 7, 8, 9, 10, 11, 12, 1, 13, 14, 15] [some 0, some 12, some 1, some 2, some 3, some 4, some 5, some 6, some 7, some 8, some 9, some 10, some 11, some 13, some 14, some 15] 16 rfl (by decide +kernel) (by decide +kernel) (fun _ => rfl) (fun _ => rfl) rfl rfl rfl rfl ⟨Nat.zero_le _, Nat.zero_le _⟩ dX8_can_53 kc_X8 0 rfl (fun q1 hf => ?_)
    refine j_if_ne C (pc := 56) 62 dX8_can_56 (by decide) hf (fun hf => ?_) (fun hf => ?_)
    · refine j_iinc C (pc := 62) (L' := [(4, .int (x4 + (1 : Int32))), (0, .ref a_t), (1, .int p1), (2, .int p2), (3, .int x3), (5, .int x5), (6, .int x6)]) (v := x4 + (1 : Int32)) dX8_can_62 (t := 4) rfl rfl (by decide) rfl ?_
      refine j_iload C (pc := 65) 6 rfl dX8_can_65 ?_
      refine j_istore C (pc := 67) (L' := [(5, .int x6), (4, .int (x4 + (1 : Int32))), (0, .ref a_t), (1, .int p1), (2, .int p2), (3, .int x3), (6, .int x6)]) dX8_can_67 (by decide) rfl ?_
      refine j_iinc C (pc := 69) (L' := [(6, .int (x6 + (-1 : Int32))), (5, .int x6), (4, .int (x4 + (1 : Int32))), (0, .ref a_t), (1, .int p1), (2, .int p2), (3, .int x3)]) (v := x6 + (-1 : Int32)) dX8_can_69 (t := 6) rfl rfl (by decide) rfl ?_
      refine j_goto C (pc := 72) 37 dX8_can_72 (by decide) ?_
      refine j_sub [3, 4, 5, 6, 2, 1, 0] rfl ?_
      exact hk37 _ _ _ _ _ _ hf
    · refine j_goto C (pc := 59) 69 dX8_can_59 (by decide) ?_
      refine j_iinc C (pc := 69) (L' := [(6, .int (x6 + (-1 : Int32))), (0, .ref a_t), (1, .int p1), (2, .int p2), (3, .int x3), (4, .int x4), (5, .int x5)]) (v := x6 + (-1 : Int32)) dX8_can_69 (t := 6) rfl rfl (by decide) rfl ?_
      refine j_goto C (pc := 72) 37 dX8_can_72 (by decide) ?_
      refine j_sub [1, 2, 3, 4, 5, 6, 0] rfl ?_
      exact hk37 _ _ _ _ _ _ hf
theorem t_X8_can_37 {G : Gx} {K : Kx} (C : Cx G K cX8_can RX8 7 7) {a_t : Nat} {r_t : Nat → Nat} {v_people : Int32} {v_day : Int32} {v_texted : Int32} {v_at : Int32} {v_value : Int32} {v_digits : Int32} {v_open : Int32} {v_parishes : Int32} {v_holds : Int32} {v_coded : Int32} {v_seen : Int32} {v_inPlan : Int32} {v_inBook : Int32} {v_traced : Int32} {v_imaged : Int32} {v_most : Int32} {v_seenBy : Nat → Int32} {v_seenOf : Nat → Int32} {v_seenIn : Nat → Int32} {v_hate : Nat → Int32} {v_clauses : Nat → Int32} {v_word : Nat → Int32} {v_begins : Nat → Int32} {v_length : Nat → Int32} {v_code : Nat → Int32} {v_kind : Nat → Int32} {v_number : Nat → Int32} {v_rows : Nat → Int32} {v_seenSo : Nat → Int32} {p1 : Int32} {p2 : Int32} {q : Int32 × (Nat → Int32) × (Nat → Int32)} (hQ : k_retI G K cX8_can 7 .int [oX8 a_t r_t v_people v_day v_texted v_at v_value v_digits v_open v_parishes v_holds v_coded v_seen v_inPlan v_inBook v_traced v_imaged v_most, aI G (r_t 2) 6 q.2.1, aI G (r_t 26) 5 v_seenBy, aI G (r_t 27) 5 v_seenOf, aI G (r_t 28) 5 v_seenIn, aI G (r_t 7) 36 v_hate, aI G (r_t 17) 6 v_clauses, aI G (r_t 18) 61 v_word, aI G (r_t 20) 61 v_begins, aI G (r_t 21) 61 v_length, aZ G (r_t 24) 110 q.2.2, aI G (r_t 22) 800 v_code, aI G (r_t 1) 6 v_kind, aI G (r_t 19) 61 v_number, aI G (r_t 6) 24 v_rows, aI G (r_t 29) 5 v_seenSo] q.1) : ∀ (n : Nat) (x3 : Int32) (x4 : Int32) (x5 : Int32) (x6 : Int32) (w_v : Nat → Int32) (w_stack : Nat → Int32), f_X8_can_37 v_day v_holds v_seen v_seenBy v_seenOf v_seenIn v_hate v_clauses v_word v_begins v_length v_code v_kind v_number v_rows v_seenSo p1 p2 n x3 x4 x5 x6 w_v w_stack = some q → J G K 7 0 0 [oX8 a_t r_t v_people v_day v_texted v_at v_value v_digits v_open v_parishes v_holds v_coded v_seen v_inPlan v_inBook v_traced v_imaged v_most, aI G (r_t 2) 6 w_v, aI G (r_t 26) 5 v_seenBy, aI G (r_t 27) 5 v_seenOf, aI G (r_t 28) 5 v_seenIn, aI G (r_t 7) 36 v_hate, aI G (r_t 17) 6 v_clauses, aI G (r_t 18) 61 v_word, aI G (r_t 20) 61 v_begins, aI G (r_t 21) 61 v_length, aZ G (r_t 24) 110 w_stack, aI G (r_t 22) 800 v_code, aI G (r_t 1) 6 v_kind, aI G (r_t 19) 61 v_number, aI G (r_t 6) 24 v_rows, aI G (r_t 29) 5 v_seenSo] [(0, .ref a_t), (1, .int p1), (2, .int p2), (3, .int x3), (4, .int x4), (5, .int x5), (6, .int x6)] 37 [] := by
  intro n
  induction n with
  | zero => intro x3 x4 x5 x6 w_v w_stack hf; cases hf
  | succ n ih => intro x3 x4 x5 x6 w_v w_stack hf; exact t_X8_can_37_b C hQ ih hf
def f_X8_can (v_people : Int32) (v_day : Int32) (v_holds : Int32) (v_seen : Int32) (v_v : Nat → Int32) (v_seenBy : Nat → Int32) (v_seenOf : Nat → Int32) (v_seenIn : Nat → Int32) (v_hate : Nat → Int32) (v_clauses : Nat → Int32) (v_word : Nat → Int32) (v_begins : Nat → Int32) (v_length : Nat → Int32) (v_stack : Nat → Int32) (v_code : Nat → Int32) (v_kind : Nat → Int32) (v_number : Nat → Int32) (v_rows : Nat → Int32) (v_seenSo : Nat → Int32) (p1 : Int32) (p2 : Int32) : Option (Int32 × (Nat → Int32) × (Nat → Int32)) := ((f_X8_isOne v_people p1).bind fun q1 => (if q1 = 0 then (some ((-1 : Int32), v_v, v_stack)) else ((f_X8_within p2 (0 : Int32) (1 : Int32)).bind fun q2 => (if q2 = 0 then (some ((-1 : Int32), v_v, v_stack)) else (gd p1 6 (nm (v_v p1.toNatClampNeg) fun y3 => (f_X8_can_37 v_day v_holds v_seen v_seenBy v_seenOf v_seenIn v_hate v_clauses v_word v_begins v_length v_code v_kind v_number v_rows v_seenSo p1 p2 1000 y3 (0 : Int32) (-5 : Int32) (9 : Int32) v_v v_stack)))))))
set_option maxRecDepth 20000 in
set_option maxHeartbeats 1000000 in
theorem t_X8_can {G : Gx} {K : Kx} (C : Cx G K cX8_can RX8 7 7) {a_t : Nat} {r_t : Nat → Nat} {v_people : Int32} {v_day : Int32} {v_texted : Int32} {v_at : Int32} {v_value : Int32} {v_digits : Int32} {v_open : Int32} {v_parishes : Int32} {v_holds : Int32} {v_coded : Int32} {v_seen : Int32} {v_inPlan : Int32} {v_inBook : Int32} {v_traced : Int32} {v_imaged : Int32} {v_most : Int32} {v_v : Nat → Int32} {v_seenBy : Nat → Int32} {v_seenOf : Nat → Int32} {v_seenIn : Nat → Int32} {v_hate : Nat → Int32} {v_clauses : Nat → Int32} {v_word : Nat → Int32} {v_begins : Nat → Int32} {v_length : Nat → Int32} {v_stack : Nat → Int32} {v_code : Nat → Int32} {v_kind : Nat → Int32} {v_number : Nat → Int32} {v_rows : Nat → Int32} {v_seenSo : Nat → Int32} {p1 : Int32} {p2 : Int32} {q : Int32 × (Nat → Int32) × (Nat → Int32)} (hQ : k_retI G K cX8_can 7 .int [oX8 a_t r_t v_people v_day v_texted v_at v_value v_digits v_open v_parishes v_holds v_coded v_seen v_inPlan v_inBook v_traced v_imaged v_most, aI G (r_t 2) 6 q.2.1, aI G (r_t 26) 5 v_seenBy, aI G (r_t 27) 5 v_seenOf, aI G (r_t 28) 5 v_seenIn, aI G (r_t 7) 36 v_hate, aI G (r_t 17) 6 v_clauses, aI G (r_t 18) 61 v_word, aI G (r_t 20) 61 v_begins, aI G (r_t 21) 61 v_length, aZ G (r_t 24) 110 q.2.2, aI G (r_t 22) 800 v_code, aI G (r_t 1) 6 v_kind, aI G (r_t 19) 61 v_number, aI G (r_t 6) 24 v_rows, aI G (r_t 29) 5 v_seenSo] q.1) (hf : f_X8_can v_people v_day v_holds v_seen v_v v_seenBy v_seenOf v_seenIn v_hate v_clauses v_word v_begins v_length v_stack v_code v_kind v_number v_rows v_seenSo p1 p2 = some q) : J G K 7 0 0 [oX8 a_t r_t v_people v_day v_texted v_at v_value v_digits v_open v_parishes v_holds v_coded v_seen v_inPlan v_inBook v_traced v_imaged v_most, aI G (r_t 2) 6 v_v, aI G (r_t 26) 5 v_seenBy, aI G (r_t 27) 5 v_seenOf, aI G (r_t 28) 5 v_seenIn, aI G (r_t 7) 36 v_hate, aI G (r_t 17) 6 v_clauses, aI G (r_t 18) 61 v_word, aI G (r_t 20) 61 v_begins, aI G (r_t 21) 61 v_length, aZ G (r_t 24) 110 v_stack, aI G (r_t 22) 800 v_code, aI G (r_t 1) 6 v_kind, aI G (r_t 19) 61 v_number, aI G (r_t 6) 24 v_rows, aI G (r_t 29) 5 v_seenSo] [(0, .ref a_t), (1, .int p1), (2, .int p2)] 0 [] := by
  unfold f_X8_can at hf
  refine j_aload_n C (pc := 0) 0 rfl rfl dX8_can_0 ?_
  refine j_iload_n C (pc := 1) 1 rfl rfl dX8_can_1 ?_
  refine j_cVI C (pc := 2) (As := [.int p1]) (st := []) (ws' := fun q1 => [oX8 a_t r_t v_people v_day v_texted v_at v_value v_digits v_open v_parishes v_holds v_coded v_seen v_inPlan v_inBook v_traced v_imaged v_most, aI G (r_t 2) 6 v_v, aI G (r_t 26) 5 v_seenBy, aI G (r_t 27) 5 v_seenOf, aI G (r_t 28) 5 v_seenIn, aI G (r_t 7) 36 v_hate, aI G (r_t 17) 6 v_clauses, aI G (r_t 18) 61 v_word, aI G (r_t 20) 61 v_begins, aI G (r_t 21) 61 v_length, aZ G (r_t 24) 110 v_stack, aI G (r_t 22) 800 v_code, aI G (r_t 1) 6 v_kind, aI G (r_t 19) 61 v_number, aI G (r_t 6) 24 v_rows, aI G (r_t 29) 5 v_seenSo]) ml_X8_121 ms_X8_isOne hf (fun q1 h => (c_X8_isOne G K.2.1) a_t r_t v_people v_day v_texted v_at v_value v_digits v_open v_parishes v_holds v_coded v_seen v_inPlan v_inBook v_traced v_imaged v_most p1 q1 h) [0] [some 0, none, none, none, none, none, none, none, none, none, none, none, none, none, none, none] 16 rfl (by decide +kernel) (by decide +kernel) (fun _ => rfl) (fun _ => rfl) rfl rfl rfl rfl ⟨Nat.zero_le _, Nat.zero_le _⟩ dX8_can_2 kc_X8 0 rfl (fun q1 hf => ?_)
  refine j_if_eq C (pc := 5) 17 dX8_can_5 (by decide) hf (fun hf => ?_) (fun hf => ?_)
  · refine j_iconst C (pc := 17) (v := -1) (by decide) dX8_can_17 ?_
    obtain rfl := Option.some.inj hf
    exact hQ _ _ dX8_can_18 rfl
  · refine j_iload_n C (pc := 8) 2 rfl rfl dX8_can_8 ?_
    refine j_iconst C (pc := 9) (v := 0) (by decide) dX8_can_9 ?_
    refine j_iconst C (pc := 10) (v := 1) (by decide) dX8_can_10 ?_
    refine j_cSI C (pc := 11) (As := [.int p2, .int (0 : Int32), .int (1 : Int32)]) (st := []) (ws' := fun q2 => [oX8 a_t r_t v_people v_day v_texted v_at v_value v_digits v_open v_parishes v_holds v_coded v_seen v_inPlan v_inBook v_traced v_imaged v_most, aI G (r_t 2) 6 v_v, aI G (r_t 26) 5 v_seenBy, aI G (r_t 27) 5 v_seenOf, aI G (r_t 28) 5 v_seenIn, aI G (r_t 7) 36 v_hate, aI G (r_t 17) 6 v_clauses, aI G (r_t 18) 61 v_word, aI G (r_t 20) 61 v_begins, aI G (r_t 21) 61 v_length, aZ G (r_t 24) 110 v_stack, aI G (r_t 22) 800 v_code, aI G (r_t 1) 6 v_kind, aI G (r_t 19) 61 v_number, aI G (r_t 6) 24 v_rows, aI G (r_t 29) 5 v_seenSo]) ml_X8_117 ms_X8_within hf (fun q2 h => (c_X8_within G K.2.1) p2 (0 : Int32) (1 : Int32) q2 h) [] [none, none, none, none, none, none, none, none, none, none, none, none, none, none, none, none] 16 rfl (by decide +kernel) (by decide +kernel) (fun _ => rfl) (fun _ => rfl) rfl rfl rfl rfl ⟨Nat.zero_le _, Nat.zero_le _⟩ dX8_can_11 (fun q2 hf => ?_)
    refine j_if_ne C (pc := 14) 19 dX8_can_14 (by decide) hf (fun hf => ?_) (fun hf => ?_)
    · refine j_aload_n C (pc := 19) 0 rfl rfl dX8_can_19 ?_
      refine j_get C (pc := 20) kc_X8 fl_X8_15 0 rfl rfl dX8_can_20 ?_
      refine j_iload_n C (pc := 23) 1 rfl rfl dX8_can_23 ?_
      refine j_iald C (pc := 24) 1 rfl hf dX8_can_24 (fun hf => ?_)
      refine j_nm hf (fun y3 hf => ?_)
      refine j_istore_n C (pc := 25) (L' := [(3, .int y3), (0, .ref a_t), (1, .int p1), (2, .int p2)]) dX8_can_25 rfl (by decide) rfl ?_
      refine j_iconst C (pc := 26) (v := 0) (by decide) dX8_can_26 ?_
      refine j_istore C (pc := 27) (L' := [(4, .int (0 : Int32)), (3, .int y3), (0, .ref a_t), (1, .int p1), (2, .int p2)]) dX8_can_27 (by decide) rfl ?_
      refine j_bipush C (pc := 29) (v := -5) (by decide) dX8_can_29 ?_
      refine j_istore C (pc := 31) (L' := [(5, .int (-5 : Int32)), (4, .int (0 : Int32)), (3, .int y3), (0, .ref a_t), (1, .int p1), (2, .int p2)]) dX8_can_31 (by decide) rfl ?_
      refine j_bipush C (pc := 33) (v := 9) (by decide) dX8_can_33 ?_
      refine j_istore C (pc := 35) (L' := [(6, .int (9 : Int32)), (5, .int (-5 : Int32)), (4, .int (0 : Int32)), (3, .int y3), (0, .ref a_t), (1, .int p1), (2, .int p2)]) dX8_can_35 (by decide) rfl ?_
      refine j_sub [4, 5, 6, 3, 2, 1, 0] rfl ?_
      exact t_X8_can_37 C hQ 1000 _ _ _ _ _ _ hf
    · refine j_iconst C (pc := 17) (v := -1) (by decide) dX8_can_17 ?_
      obtain rfl := Option.some.inj hf
      exact hQ _ _ dX8_can_18 rfl
def ct_X8_can (G : Gx) (l : Launch) (F : Int32 → Int32 → Int32 → Int32 → (Nat → Int32) → (Nat → Int32) → (Nat → Int32) → (Nat → Int32) → (Nat → Int32) → (Nat → Int32) → (Nat → Int32) → (Nat → Int32) → (Nat → Int32) → (Nat → Int32) → (Nat → Int32) → (Nat → Int32) → (Nat → Int32) → (Nat → Int32) → (Nat → Int32) → Int32 → Int32 → Option (Int32 × (Nat → Int32) × (Nat → Int32))) (lv : Nat) : Prop := ∀ (a_t : Nat) (r_t : Nat → Nat) (v_people : Int32) (v_day : Int32) (v_texted : Int32) (v_at : Int32) (v_value : Int32) (v_digits : Int32) (v_open : Int32) (v_parishes : Int32) (v_holds : Int32) (v_coded : Int32) (v_seen : Int32) (v_inPlan : Int32) (v_inBook : Int32) (v_traced : Int32) (v_imaged : Int32) (v_most : Int32) (v_v : Nat → Int32) (v_seenBy : Nat → Int32) (v_seenOf : Nat → Int32) (v_seenIn : Nat → Int32) (v_hate : Nat → Int32) (v_clauses : Nat → Int32) (v_word : Nat → Int32) (v_begins : Nat → Int32) (v_length : Nat → Int32) (v_stack : Nat → Int32) (v_code : Nat → Int32) (v_kind : Nat → Int32) (v_number : Nat → Int32) (v_rows : Nat → Int32) (v_seenSo : Nat → Int32) (p1 : Int32) (p2 : Int32), ∀ (q : Int32 × (Nat → Int32) × (Nat → Int32)), F v_people v_day v_holds v_seen v_v v_seenBy v_seenOf v_seenIn v_hate v_clauses v_word v_begins v_length v_stack v_code v_kind v_number v_rows v_seenSo p1 p2 = some q → MI G l yX8_can cX8_can 7 .int lv [.ref a_t, .int p1, .int p2] [oX8 a_t r_t v_people v_day v_texted v_at v_value v_digits v_open v_parishes v_holds v_coded v_seen v_inPlan v_inBook v_traced v_imaged v_most, aI G (r_t 2) 6 v_v, aI G (r_t 26) 5 v_seenBy, aI G (r_t 27) 5 v_seenOf, aI G (r_t 28) 5 v_seenIn, aI G (r_t 7) 36 v_hate, aI G (r_t 17) 6 v_clauses, aI G (r_t 18) 61 v_word, aI G (r_t 20) 61 v_begins, aI G (r_t 21) 61 v_length, aZ G (r_t 24) 110 v_stack, aI G (r_t 22) 800 v_code, aI G (r_t 1) 6 v_kind, aI G (r_t 19) 61 v_number, aI G (r_t 6) 24 v_rows, aI G (r_t 29) 5 v_seenSo] [oX8 a_t r_t v_people v_day v_texted v_at v_value v_digits v_open v_parishes v_holds v_coded v_seen v_inPlan v_inBook v_traced v_imaged v_most, aI G (r_t 2) 6 q.2.1, aI G (r_t 26) 5 v_seenBy, aI G (r_t 27) 5 v_seenOf, aI G (r_t 28) 5 v_seenIn, aI G (r_t 7) 36 v_hate, aI G (r_t 17) 6 v_clauses, aI G (r_t 18) 61 v_word, aI G (r_t 20) 61 v_begins, aI G (r_t 21) 61 v_length, aZ G (r_t 24) 110 q.2.2, aI G (r_t 22) 800 v_code, aI G (r_t 1) 6 v_kind, aI G (r_t 19) 61 v_number, aI G (r_t 6) 24 v_rows, aI G (r_t 29) 5 v_seenSo] q.1
theorem c_X8_can (G : Gx) (l : Launch) : ct_X8_can G l f_X8_can 7 := by
  intro a_t r_t v_people v_day v_texted v_at v_value v_digits v_open v_parishes v_holds v_coded v_seen v_inPlan v_inBook v_traced v_imaged v_most v_v v_seenBy v_seenOf v_seenIn v_hate v_clauses v_word v_begins v_length v_stack v_code v_kind v_number v_rows v_seenSo p1 p2 q hf
  exact mI_of (by decide +kernel) rfl (fun K hl C hQ => t_X8_can C hQ hf)
-- X8_codes
def f_X8_codes (v_coded : Int32) (v_code : Nat → Int32) (p1 : Int32) : Option (Int32 × Int32 × (Nat → Int32)) := (gd v_coded 800 (some ((1 : Int32), v_coded + (1 : Int32), upd v_code v_coded.toNatClampNeg p1)))
set_option maxRecDepth 20000 in
set_option maxHeartbeats 1000000 in
theorem t_X8_codes {G : Gx} {K : Kx} (C : Cx G K cX8_codes RX8 2 1) {a_t : Nat} {r_t : Nat → Nat} {v_people : Int32} {v_day : Int32} {v_texted : Int32} {v_at : Int32} {v_value : Int32} {v_digits : Int32} {v_open : Int32} {v_parishes : Int32} {v_holds : Int32} {v_coded : Int32} {v_seen : Int32} {v_inPlan : Int32} {v_inBook : Int32} {v_traced : Int32} {v_imaged : Int32} {v_most : Int32} {v_code : Nat → Int32} {p1 : Int32} {q : Int32 × Int32 × (Nat → Int32)} (hQ : k_retI G K cX8_codes 2 .boolean [oX8 a_t r_t v_people v_day v_texted v_at v_value v_digits v_open v_parishes v_holds q.2.1 v_seen v_inPlan v_inBook v_traced v_imaged v_most, aI G (r_t 22) 800 q.2.2] q.1) (hf : f_X8_codes v_coded v_code p1 = some q) : J G K 2 0 0 [oX8 a_t r_t v_people v_day v_texted v_at v_value v_digits v_open v_parishes v_holds v_coded v_seen v_inPlan v_inBook v_traced v_imaged v_most, aI G (r_t 22) 800 v_code] [(0, .ref a_t), (1, .int p1)] 0 [] := by
  unfold f_X8_codes at hf
  refine j_aload_n C (pc := 0) 0 rfl rfl dX8_codes_0 ?_
  refine j_get C (pc := 1) kc_X8 fl_X8_51 0 rfl rfl dX8_codes_1 ?_
  refine j_aload_n C (pc := 4) 0 rfl rfl dX8_codes_4 ?_
  refine j_dup C (pc := 5) rfl dX8_codes_5 ?_
  refine j_get C (pc := 6) kc_X8 fl_X8_178 0 rfl rfl dX8_codes_6 ?_
  refine j_dup_x1 C (pc := 9) rfl rfl dX8_codes_9 ?_
  refine j_iconst C (pc := 10) (v := 1) (by decide) dX8_codes_10 ?_
  refine j_iadd C (pc := 11) dX8_codes_11 ?_
  refine j_put C (pc := 12) (ws' := [oX8 a_t r_t v_people v_day v_texted v_at v_value v_digits v_open v_parishes v_holds (v_coded + (1 : Int32)) v_seen v_inPlan v_inBook v_traced v_imaged v_most, aI G (r_t 22) 800 v_code]) kc_X8 fl_X8_178 0 rfl rfl rfl rfl rfl rfl dX8_codes_12 ?_
  refine j_iload_n C (pc := 15) 1 rfl rfl dX8_codes_15 ?_
  refine j_iast C (pc := 16) (ws' := [oX8 a_t r_t v_people v_day v_texted v_at v_value v_digits v_open v_parishes v_holds (v_coded + (1 : Int32)) v_seen v_inPlan v_inBook v_traced v_imaged v_most, aI G (r_t 22) 800 (upd v_code v_coded.toNatClampNeg p1)]) 1 rfl hf rfl dX8_codes_16 (fun hf => ?_)
  refine j_iconst C (pc := 17) (v := 1) (by decide) dX8_codes_17 ?_
  obtain rfl := Option.some.inj hf
  exact hQ _ _ dX8_codes_18 (show narrow .boolean (.int (1 : Int32)) = .int (1 : Int32) from rfl)
def ct_X8_codes (G : Gx) (l : Launch) (F : Int32 → (Nat → Int32) → Int32 → Option (Int32 × Int32 × (Nat → Int32))) (lv : Nat) : Prop := ∀ (a_t : Nat) (r_t : Nat → Nat) (v_people : Int32) (v_day : Int32) (v_texted : Int32) (v_at : Int32) (v_value : Int32) (v_digits : Int32) (v_open : Int32) (v_parishes : Int32) (v_holds : Int32) (v_coded : Int32) (v_seen : Int32) (v_inPlan : Int32) (v_inBook : Int32) (v_traced : Int32) (v_imaged : Int32) (v_most : Int32) (v_code : Nat → Int32) (p1 : Int32), ∀ (q : Int32 × Int32 × (Nat → Int32)), F v_coded v_code p1 = some q → MI G l yX8_codes cX8_codes 2 .boolean lv [.ref a_t, .int p1] [oX8 a_t r_t v_people v_day v_texted v_at v_value v_digits v_open v_parishes v_holds v_coded v_seen v_inPlan v_inBook v_traced v_imaged v_most, aI G (r_t 22) 800 v_code] [oX8 a_t r_t v_people v_day v_texted v_at v_value v_digits v_open v_parishes v_holds q.2.1 v_seen v_inPlan v_inBook v_traced v_imaged v_most, aI G (r_t 22) 800 q.2.2] q.1
theorem c_X8_codes (G : Gx) (l : Launch) : ct_X8_codes G l f_X8_codes 1 := by
  intro a_t r_t v_people v_day v_texted v_at v_value v_digits v_open v_parishes v_holds v_coded v_seen v_inPlan v_inBook v_traced v_imaged v_most v_code p1 q hf
  exact mI_of (by decide +kernel) rfl (fun K hl C hQ => t_X8_codes C hQ hf)
-- X8_count
def f_X8_count (v_people : Int32) (v_texted : Int32) (v_parishes : Int32) (v_seen : Int32) (v_inPlan : Int32) (v_inBook : Int32) (v_traced : Int32) (p1 : Int32) : Option (Int32) := (if p1 = (0 : Int32) then (some v_people) else (if p1 = (1 : Int32) then (some v_parishes) else (if p1 = (2 : Int32) then (some v_seen) else (if p1 = (3 : Int32) then (some v_inPlan) else (if p1 = (4 : Int32) then (some v_inBook) else (if p1 = (5 : Int32) then (some v_texted) else (if p1 = (6 : Int32) then (some v_traced) else (some (-2 : Int32)))))))))
set_option maxRecDepth 20000 in
set_option maxHeartbeats 1000000 in
theorem t_X8_count {G : Gx} {K : Kx} (C : Cx G K cX8_count RX8 2 1) {a_t : Nat} {r_t : Nat → Nat} {v_people : Int32} {v_day : Int32} {v_texted : Int32} {v_at : Int32} {v_value : Int32} {v_digits : Int32} {v_open : Int32} {v_parishes : Int32} {v_holds : Int32} {v_coded : Int32} {v_seen : Int32} {v_inPlan : Int32} {v_inBook : Int32} {v_traced : Int32} {v_imaged : Int32} {v_most : Int32} {p1 : Int32} {q : Int32} (hQ : k_retI G K cX8_count 2 .int [oX8 a_t r_t v_people v_day v_texted v_at v_value v_digits v_open v_parishes v_holds v_coded v_seen v_inPlan v_inBook v_traced v_imaged v_most] q) (hf : f_X8_count v_people v_texted v_parishes v_seen v_inPlan v_inBook v_traced p1 = some q) : J G K 2 0 0 [oX8 a_t r_t v_people v_day v_texted v_at v_value v_digits v_open v_parishes v_holds v_coded v_seen v_inPlan v_inBook v_traced v_imaged v_most] [(0, .ref a_t), (1, .int p1)] 0 [] := by
  unfold f_X8_count at hf
  refine j_iload_n C (pc := 0) 1 rfl rfl dX8_count_0 ?_
  obtain ⟨h0, hf⟩ | ⟨h0, hf⟩ := k_or hf
  · refine j_tabIn C (pc := 1) 44 dX8_count_1 (by rw [h0]; decide) (by rw [h0]; decide) (by rw [h0] <;> rfl) (by decide) ?_
    refine j_aload_n C (pc := 44) 0 rfl rfl dX8_count_44 ?_
    refine j_get C (pc := 45) kc_X8 fl_X8_114 0 rfl rfl dX8_count_45 ?_
    obtain rfl := Option.some.inj hf
    exact hQ _ _ dX8_count_48 rfl
  · skip
    obtain ⟨h1, hf⟩ | ⟨h1, hf⟩ := k_or hf
    · refine j_tabIn C (pc := 1) 49 dX8_count_1 (by rw [h1]; decide) (by rw [h1]; decide) (by rw [h1] <;> rfl) (by decide) ?_
      refine j_aload_n C (pc := 49) 0 rfl rfl dX8_count_49 ?_
      refine j_get C (pc := 50) kc_X8 fl_X8_222 0 rfl rfl dX8_count_50 ?_
      obtain rfl := Option.some.inj hf
      exact hQ _ _ dX8_count_53 rfl
    · skip
      obtain ⟨h2, hf⟩ | ⟨h2, hf⟩ := k_or hf
      · refine j_tabIn C (pc := 1) 54 dX8_count_1 (by rw [h2]; decide) (by rw [h2]; decide) (by rw [h2] <;> rfl) (by decide) ?_
        refine j_aload_n C (pc := 54) 0 rfl rfl dX8_count_54 ?_
        refine j_get C (pc := 55) kc_X8 fl_X8_305 0 rfl rfl dX8_count_55 ?_
        obtain rfl := Option.some.inj hf
        exact hQ _ _ dX8_count_58 rfl
      · skip
        obtain ⟨h3, hf⟩ | ⟨h3, hf⟩ := k_or hf
        · refine j_tabIn C (pc := 1) 59 dX8_count_1 (by rw [h3]; decide) (by rw [h3]; decide) (by rw [h3] <;> rfl) (by decide) ?_
          refine j_aload_n C (pc := 59) 0 rfl rfl dX8_count_59 ?_
          refine j_get C (pc := 60) kc_X8 fl_X8_317 0 rfl rfl dX8_count_60 ?_
          obtain rfl := Option.some.inj hf
          exact hQ _ _ dX8_count_63 rfl
        · skip
          obtain ⟨h4, hf⟩ | ⟨h4, hf⟩ := k_or hf
          · refine j_tabIn C (pc := 1) 64 dX8_count_1 (by rw [h4]; decide) (by rw [h4]; decide) (by rw [h4] <;> rfl) (by decide) ?_
            refine j_aload_n C (pc := 64) 0 rfl rfl dX8_count_64 ?_
            refine j_get C (pc := 65) kc_X8 fl_X8_320 0 rfl rfl dX8_count_65 ?_
            obtain rfl := Option.some.inj hf
            exact hQ _ _ dX8_count_68 rfl
          · skip
            obtain ⟨h5, hf⟩ | ⟨h5, hf⟩ := k_or hf
            · refine j_tabIn C (pc := 1) 69 dX8_count_1 (by rw [h5]; decide) (by rw [h5]; decide) (by rw [h5] <;> rfl) (by decide) ?_
              refine j_aload_n C (pc := 69) 0 rfl rfl dX8_count_69 ?_
              refine j_get C (pc := 70) kc_X8 fl_X8_150 0 rfl rfl dX8_count_70 ?_
              obtain rfl := Option.some.inj hf
              exact hQ _ _ dX8_count_73 rfl
            · skip
              obtain ⟨h6, hf⟩ | ⟨h6, hf⟩ := k_or hf
              · refine j_tabIn C (pc := 1) 74 dX8_count_1 (by rw [h6]; decide) (by rw [h6]; decide) (by rw [h6] <;> rfl) (by decide) ?_
                refine j_aload_n C (pc := 74) 0 rfl rfl dX8_count_74 ?_
                refine j_get C (pc := 75) kc_X8 fl_X8_327 0 rfl rfl dX8_count_75 ?_
                obtain rfl := Option.some.inj hf
                exact hQ _ _ dX8_count_78 rfl
              · skip
                have hout : (p1).toInt < 0 ∨ 6 < (p1).toInt := by
                  have := lv_neT (a := 0) h0 rfl
                  have := lv_neT (a := 1) h1 rfl
                  have := lv_neT (a := 2) h2 rfl
                  have := lv_neT (a := 3) h3 rfl
                  have := lv_neT (a := 4) h4 rfl
                  have := lv_neT (a := 5) h5 rfl
                  have := lv_neT (a := 6) h6 rfl
                  omega
                refine j_tabOut C (pc := 1) 79 dX8_count_1 hout (by decide) ?_
                refine j_bipush C (pc := 79) (v := -2) (by decide) dX8_count_79 ?_
                obtain rfl := Option.some.inj hf
                exact hQ _ _ dX8_count_81 rfl
def ct_X8_count (G : Gx) (l : Launch) (F : Int32 → Int32 → Int32 → Int32 → Int32 → Int32 → Int32 → Int32 → Option (Int32)) (lv : Nat) : Prop := ∀ (a_t : Nat) (r_t : Nat → Nat) (v_people : Int32) (v_day : Int32) (v_texted : Int32) (v_at : Int32) (v_value : Int32) (v_digits : Int32) (v_open : Int32) (v_parishes : Int32) (v_holds : Int32) (v_coded : Int32) (v_seen : Int32) (v_inPlan : Int32) (v_inBook : Int32) (v_traced : Int32) (v_imaged : Int32) (v_most : Int32) (p1 : Int32), ∀ (q : Int32), F v_people v_texted v_parishes v_seen v_inPlan v_inBook v_traced p1 = some q → MI G l yX8_count cX8_count 2 .int lv [.ref a_t, .int p1] [oX8 a_t r_t v_people v_day v_texted v_at v_value v_digits v_open v_parishes v_holds v_coded v_seen v_inPlan v_inBook v_traced v_imaged v_most] [oX8 a_t r_t v_people v_day v_texted v_at v_value v_digits v_open v_parishes v_holds v_coded v_seen v_inPlan v_inBook v_traced v_imaged v_most] q
theorem c_X8_count (G : Gx) (l : Launch) : ct_X8_count G l f_X8_count 1 := by
  intro a_t r_t v_people v_day v_texted v_at v_value v_digits v_open v_parishes v_holds v_coded v_seen v_inPlan v_inBook v_traced v_imaged v_most p1 q hf
  exact mI_of (by decide +kernel) rfl (fun K hl C hQ => t_X8_count C hQ hf)
-- X8_deadBits
def f_X8_deadBits_4_b (v_people : Int32) (v_dead : Nat → Int32) (k4 : Int32 → Int32 → Option (Int32)) (x1 : Int32) (x2 : Int32) : Option (Int32) := (if v_people ≤ x2 then (some x1) else (gd x2 6 (nm (x1 ||| ((v_dead x2.toNatClampNeg) <<< (x2 &&& 31))) fun y1 => (k4 y1 (x2 + (1 : Int32))))))
def f_X8_deadBits_4 (v_people : Int32) (v_dead : Nat → Int32) : Nat → Int32 → Int32 → Option (Int32)
  | 0 => fun _ _ => none
  | n + 1 => f_X8_deadBits_4_b v_people v_dead (f_X8_deadBits_4 v_people v_dead n)
set_option maxRecDepth 20000 in
set_option maxHeartbeats 1000000 in
theorem t_X8_deadBits_4_b {G : Gx} {K : Kx} (C : Cx G K cX8_deadBits RX8 3 1) {a_t : Nat} {r_t : Nat → Nat} {v_people : Int32} {v_day : Int32} {v_texted : Int32} {v_at : Int32} {v_value : Int32} {v_digits : Int32} {v_open : Int32} {v_parishes : Int32} {v_holds : Int32} {v_coded : Int32} {v_seen : Int32} {v_inPlan : Int32} {v_inBook : Int32} {v_traced : Int32} {v_imaged : Int32} {v_most : Int32} {v_dead : Nat → Int32} {q : Int32} (hQ : k_retI G K cX8_deadBits 3 .int [oX8 a_t r_t v_people v_day v_texted v_at v_value v_digits v_open v_parishes v_holds v_coded v_seen v_inPlan v_inBook v_traced v_imaged v_most, aI G (r_t 3) 6 v_dead] q) {k4 : Int32 → Int32 → Option (Int32)} (hk4 : ∀ (x1 : Int32) (x2 : Int32), k4 x1 x2 = some q → J G K 3 0 0 [oX8 a_t r_t v_people v_day v_texted v_at v_value v_digits v_open v_parishes v_holds v_coded v_seen v_inPlan v_inBook v_traced v_imaged v_most, aI G (r_t 3) 6 v_dead] [(0, .ref a_t), (1, .int x1), (2, .int x2)] 4 []) {x1 : Int32} {x2 : Int32} (hf : f_X8_deadBits_4_b v_people v_dead k4 x1 x2 = some q) : J G K 3 0 0 [oX8 a_t r_t v_people v_day v_texted v_at v_value v_digits v_open v_parishes v_holds v_coded v_seen v_inPlan v_inBook v_traced v_imaged v_most, aI G (r_t 3) 6 v_dead] [(0, .ref a_t), (1, .int x1), (2, .int x2)] 4 [] := by
  unfold f_X8_deadBits_4_b at hf
  refine j_iload_n C (pc := 4) 2 rfl rfl dX8_deadBits_4 ?_
  refine j_aload_n C (pc := 5) 0 rfl rfl dX8_deadBits_5 ?_
  refine j_get C (pc := 6) kc_X8 fl_X8_114 0 rfl rfl dX8_deadBits_6 ?_
  refine j_icmp_ge C (pc := 9) 29 dX8_deadBits_9 (by decide) hf (fun hf => ?_) (fun hf => ?_)
  · refine j_iload_n C (pc := 29) 1 rfl rfl dX8_deadBits_29 ?_
    obtain rfl := Option.some.inj hf
    exact hQ _ _ dX8_deadBits_30 rfl
  · refine j_iload_n C (pc := 12) 1 rfl rfl dX8_deadBits_12 ?_
    refine j_aload_n C (pc := 13) 0 rfl rfl dX8_deadBits_13 ?_
    refine j_get C (pc := 14) kc_X8 fl_X8_18 0 rfl rfl dX8_deadBits_14 ?_
    refine j_iload_n C (pc := 17) 2 rfl rfl dX8_deadBits_17 ?_
    refine j_iald C (pc := 18) 1 rfl hf dX8_deadBits_18 (fun hf => ?_)
    refine j_iload_n C (pc := 19) 2 rfl rfl dX8_deadBits_19 ?_
    refine j_ishl C (pc := 20) dX8_deadBits_20 ?_
    refine j_ior C (pc := 21) dX8_deadBits_21 ?_
    refine j_nm hf (fun y1 hf => ?_)
    refine j_istore_n C (pc := 22) (L' := [(1, .int y1), (0, .ref a_t), (2, .int x2)]) dX8_deadBits_22 rfl (by decide) rfl ?_
    refine j_iinc C (pc := 23) (L' := [(2, .int (x2 + (1 : Int32))), (1, .int y1), (0, .ref a_t)]) (v := x2 + (1 : Int32)) dX8_deadBits_23 (t := 2) rfl rfl (by decide) rfl ?_
    refine j_goto C (pc := 26) 4 dX8_deadBits_26 (by decide) ?_
    refine j_sub [2, 1, 0] rfl ?_
    exact hk4 _ _ hf
theorem t_X8_deadBits_4 {G : Gx} {K : Kx} (C : Cx G K cX8_deadBits RX8 3 1) {a_t : Nat} {r_t : Nat → Nat} {v_people : Int32} {v_day : Int32} {v_texted : Int32} {v_at : Int32} {v_value : Int32} {v_digits : Int32} {v_open : Int32} {v_parishes : Int32} {v_holds : Int32} {v_coded : Int32} {v_seen : Int32} {v_inPlan : Int32} {v_inBook : Int32} {v_traced : Int32} {v_imaged : Int32} {v_most : Int32} {v_dead : Nat → Int32} {q : Int32} (hQ : k_retI G K cX8_deadBits 3 .int [oX8 a_t r_t v_people v_day v_texted v_at v_value v_digits v_open v_parishes v_holds v_coded v_seen v_inPlan v_inBook v_traced v_imaged v_most, aI G (r_t 3) 6 v_dead] q) : ∀ (n : Nat) (x1 : Int32) (x2 : Int32), f_X8_deadBits_4 v_people v_dead n x1 x2 = some q → J G K 3 0 0 [oX8 a_t r_t v_people v_day v_texted v_at v_value v_digits v_open v_parishes v_holds v_coded v_seen v_inPlan v_inBook v_traced v_imaged v_most, aI G (r_t 3) 6 v_dead] [(0, .ref a_t), (1, .int x1), (2, .int x2)] 4 [] := by
  intro n
  induction n with
  | zero => intro x1 x2 hf; cases hf
  | succ n ih => intro x1 x2 hf; exact t_X8_deadBits_4_b C hQ ih hf
def f_X8_deadBits (v_people : Int32) (v_dead : Nat → Int32) : Option (Int32) := (f_X8_deadBits_4 v_people v_dead 1000 (0 : Int32) (0 : Int32))
set_option maxRecDepth 20000 in
set_option maxHeartbeats 1000000 in
theorem t_X8_deadBits {G : Gx} {K : Kx} (C : Cx G K cX8_deadBits RX8 3 1) {a_t : Nat} {r_t : Nat → Nat} {v_people : Int32} {v_day : Int32} {v_texted : Int32} {v_at : Int32} {v_value : Int32} {v_digits : Int32} {v_open : Int32} {v_parishes : Int32} {v_holds : Int32} {v_coded : Int32} {v_seen : Int32} {v_inPlan : Int32} {v_inBook : Int32} {v_traced : Int32} {v_imaged : Int32} {v_most : Int32} {v_dead : Nat → Int32} {q : Int32} (hQ : k_retI G K cX8_deadBits 3 .int [oX8 a_t r_t v_people v_day v_texted v_at v_value v_digits v_open v_parishes v_holds v_coded v_seen v_inPlan v_inBook v_traced v_imaged v_most, aI G (r_t 3) 6 v_dead] q) (hf : f_X8_deadBits v_people v_dead = some q) : J G K 3 0 0 [oX8 a_t r_t v_people v_day v_texted v_at v_value v_digits v_open v_parishes v_holds v_coded v_seen v_inPlan v_inBook v_traced v_imaged v_most, aI G (r_t 3) 6 v_dead] [(0, .ref a_t)] 0 [] := by
  unfold f_X8_deadBits at hf
  refine j_iconst C (pc := 0) (v := 0) (by decide) dX8_deadBits_0 ?_
  refine j_istore_n C (pc := 1) (L' := [(1, .int (0 : Int32)), (0, .ref a_t)]) dX8_deadBits_1 rfl (by decide) rfl ?_
  refine j_iconst C (pc := 2) (v := 0) (by decide) dX8_deadBits_2 ?_
  refine j_istore_n C (pc := 3) (L' := [(2, .int (0 : Int32)), (1, .int (0 : Int32)), (0, .ref a_t)]) dX8_deadBits_3 rfl (by decide) rfl ?_
  refine j_sub [2, 1, 0] rfl ?_
  exact t_X8_deadBits_4 C hQ 1000 _ _ hf
def ct_X8_deadBits (G : Gx) (l : Launch) (F : Int32 → (Nat → Int32) → Option (Int32)) (lv : Nat) : Prop := ∀ (a_t : Nat) (r_t : Nat → Nat) (v_people : Int32) (v_day : Int32) (v_texted : Int32) (v_at : Int32) (v_value : Int32) (v_digits : Int32) (v_open : Int32) (v_parishes : Int32) (v_holds : Int32) (v_coded : Int32) (v_seen : Int32) (v_inPlan : Int32) (v_inBook : Int32) (v_traced : Int32) (v_imaged : Int32) (v_most : Int32) (v_dead : Nat → Int32), ∀ (q : Int32), F v_people v_dead = some q → MI G l yX8_deadBits cX8_deadBits 3 .int lv [.ref a_t] [oX8 a_t r_t v_people v_day v_texted v_at v_value v_digits v_open v_parishes v_holds v_coded v_seen v_inPlan v_inBook v_traced v_imaged v_most, aI G (r_t 3) 6 v_dead] [oX8 a_t r_t v_people v_day v_texted v_at v_value v_digits v_open v_parishes v_holds v_coded v_seen v_inPlan v_inBook v_traced v_imaged v_most, aI G (r_t 3) 6 v_dead] q
theorem c_X8_deadBits (G : Gx) (l : Launch) : ct_X8_deadBits G l f_X8_deadBits 1 := by
  intro a_t r_t v_people v_day v_texted v_at v_value v_digits v_open v_parishes v_holds v_coded v_seen v_inPlan v_inBook v_traced v_imaged v_most v_dead q hf
  exact mI_of (by decide +kernel) rfl (fun K hl C hQ => t_X8_deadBits C hQ hf)
-- X8_die
def f_X8_die (v_people : Int32) (v_dead : Nat → Int32) (v_buried : Nat → Int32) (p1 : Int32) (p2 : Int32) : Option (Int32 × (Nat → Int32) × (Nat → Int32)) := ((f_X8_isOne v_people p1).bind fun q1 => (if q1 = 0 then (some ((-1 : Int32), v_dead, v_buried)) else (gd p1 6 (nm (v_dead p1.toNatClampNeg) fun y2 => (if p2 = 0 then (gd p1 6 (if p2 = 0 then (gd p1 6 (some (y2, upd v_dead p1.toNatClampNeg (0 : Int32), upd v_buried p1.toNatClampNeg (0 : Int32)))) else (some (y2, upd v_dead p1.toNatClampNeg (0 : Int32), v_buried)))) else (gd p1 6 (if p2 = 0 then (gd p1 6 (some (y2, upd v_dead p1.toNatClampNeg (1 : Int32), upd v_buried p1.toNatClampNeg (0 : Int32)))) else (some (y2, upd v_dead p1.toNatClampNeg (1 : Int32), v_buried)))))))))
set_option maxRecDepth 20000 in
set_option maxHeartbeats 1000000 in
theorem t_X8_die {G : Gx} {K : Kx} (C : Cx G K cX8_die RX8 4 3) {a_t : Nat} {r_t : Nat → Nat} {v_people : Int32} {v_day : Int32} {v_texted : Int32} {v_at : Int32} {v_value : Int32} {v_digits : Int32} {v_open : Int32} {v_parishes : Int32} {v_holds : Int32} {v_coded : Int32} {v_seen : Int32} {v_inPlan : Int32} {v_inBook : Int32} {v_traced : Int32} {v_imaged : Int32} {v_most : Int32} {v_dead : Nat → Int32} {v_buried : Nat → Int32} {p1 : Int32} {p2 : Int32} {q : Int32 × (Nat → Int32) × (Nat → Int32)} (hQ : k_retI G K cX8_die 4 .int [oX8 a_t r_t v_people v_day v_texted v_at v_value v_digits v_open v_parishes v_holds v_coded v_seen v_inPlan v_inBook v_traced v_imaged v_most, aI G (r_t 3) 6 q.2.1, aI G (r_t 4) 6 q.2.2] q.1) (hf : f_X8_die v_people v_dead v_buried p1 p2 = some q) : J G K 4 0 0 [oX8 a_t r_t v_people v_day v_texted v_at v_value v_digits v_open v_parishes v_holds v_coded v_seen v_inPlan v_inBook v_traced v_imaged v_most, aI G (r_t 3) 6 v_dead, aI G (r_t 4) 6 v_buried] [(0, .ref a_t), (1, .int p1), (2, .int p2)] 0 [] := by
  unfold f_X8_die at hf
  refine j_aload_n C (pc := 0) 0 rfl rfl dX8_die_0 ?_
  refine j_iload_n C (pc := 1) 1 rfl rfl dX8_die_1 ?_
  refine j_cVI C (pc := 2) (As := [.int p1]) (st := []) (ws' := fun q1 => [oX8 a_t r_t v_people v_day v_texted v_at v_value v_digits v_open v_parishes v_holds v_coded v_seen v_inPlan v_inBook v_traced v_imaged v_most, aI G (r_t 3) 6 v_dead, aI G (r_t 4) 6 v_buried]) ml_X8_121 ms_X8_isOne hf (fun q1 h => (c_X8_isOne G K.2.1) a_t r_t v_people v_day v_texted v_at v_value v_digits v_open v_parishes v_holds v_coded v_seen v_inPlan v_inBook v_traced v_imaged v_most p1 q1 h) [0] [some 0, none, none] 3 rfl (by decide +kernel) (by decide +kernel) (fun _ => rfl) (fun _ => rfl) rfl rfl rfl rfl ⟨Nat.zero_le _, Nat.zero_le _⟩ dX8_die_2 kc_X8 0 rfl (fun q1 hf => ?_)
  refine j_if_ne C (pc := 5) 10 dX8_die_5 (by decide) hf (fun hf => ?_) (fun hf => ?_)
  · refine j_aload_n C (pc := 10) 0 rfl rfl dX8_die_10 ?_
    refine j_get C (pc := 11) kc_X8 fl_X8_18 0 rfl rfl dX8_die_11 ?_
    refine j_iload_n C (pc := 14) 1 rfl rfl dX8_die_14 ?_
    refine j_iald C (pc := 15) 1 rfl hf dX8_die_15 (fun hf => ?_)
    refine j_nm hf (fun y2 hf => ?_)
    refine j_istore_n C (pc := 16) (L' := [(3, .int y2), (0, .ref a_t), (1, .int p1), (2, .int p2)]) dX8_die_16 rfl (by decide) rfl ?_
    refine j_aload_n C (pc := 17) 1 rfl rfl dX8_die_17 ?_
    refine j_get C (pc := 18) kc_X8 fl_X8_18 0 rfl rfl dX8_die_18 ?_
    refine j_iload_n C (pc := 21) 2 rfl rfl dX8_die_21 ?_
    refine j_iload_n C (pc := 22) 3 rfl rfl dX8_die_22 ?_
    refine j_if_eq C (pc := 23) 30 dX8_die_23 (by decide) hf (fun hf => ?_) (fun hf => ?_)
    · refine j_iconst C (pc := 30) (v := 0) (by decide) dX8_die_30 ?_
      refine j_iast C (pc := 31) (ws' := [oX8 a_t r_t v_people v_day v_texted v_at v_value v_digits v_open v_parishes v_holds v_coded v_seen v_inPlan v_inBook v_traced v_imaged v_most, aI G (r_t 3) 6 (upd v_dead p1.toNatClampNeg (0 : Int32)), aI G (r_t 4) 6 v_buried]) 1 rfl hf rfl dX8_die_31 (fun hf => ?_)
      refine j_iload_n C (pc := 32) 3 rfl rfl dX8_die_32 ?_
      refine j_if_ne C (pc := 33) 43 dX8_die_33 (by decide) hf (fun hf => ?_) (fun hf => ?_)
      · refine j_iload_n C (pc := 43) 0 rfl rfl dX8_die_43 ?_
        obtain rfl := Option.some.inj hf
        exact hQ _ _ dX8_die_44 rfl
      · refine j_aload_n C (pc := 36) 1 rfl rfl dX8_die_36 ?_
        refine j_get C (pc := 37) kc_X8 fl_X8_21 0 rfl rfl dX8_die_37 ?_
        refine j_iload_n C (pc := 40) 2 rfl rfl dX8_die_40 ?_
        refine j_iconst C (pc := 41) (v := 0) (by decide) dX8_die_41 ?_
        refine j_iast C (pc := 42) (ws' := [oX8 a_t r_t v_people v_day v_texted v_at v_value v_digits v_open v_parishes v_holds v_coded v_seen v_inPlan v_inBook v_traced v_imaged v_most, aI G (r_t 3) 6 (upd v_dead p1.toNatClampNeg (0 : Int32)), aI G (r_t 4) 6 (upd v_buried p1.toNatClampNeg (0 : Int32))]) 2 rfl hf rfl dX8_die_42 (fun hf => ?_)
        refine j_iload_n C (pc := 43) 0 rfl rfl dX8_die_43 ?_
        obtain rfl := Option.some.inj hf
        exact hQ _ _ dX8_die_44 rfl
    · refine j_iconst C (pc := 26) (v := 1) (by decide) dX8_die_26 ?_
      refine j_goto C (pc := 27) 31 dX8_die_27 (by decide) ?_
      refine j_iast C (pc := 31) (ws' := [oX8 a_t r_t v_people v_day v_texted v_at v_value v_digits v_open v_parishes v_holds v_coded v_seen v_inPlan v_inBook v_traced v_imaged v_most, aI G (r_t 3) 6 (upd v_dead p1.toNatClampNeg (1 : Int32)), aI G (r_t 4) 6 v_buried]) 1 rfl hf rfl dX8_die_31 (fun hf => ?_)
      refine j_iload_n C (pc := 32) 3 rfl rfl dX8_die_32 ?_
      refine j_if_ne C (pc := 33) 43 dX8_die_33 (by decide) hf (fun hf => ?_) (fun hf => ?_)
      · refine j_iload_n C (pc := 43) 0 rfl rfl dX8_die_43 ?_
        obtain rfl := Option.some.inj hf
        exact hQ _ _ dX8_die_44 rfl
      · refine j_aload_n C (pc := 36) 1 rfl rfl dX8_die_36 ?_
        refine j_get C (pc := 37) kc_X8 fl_X8_21 0 rfl rfl dX8_die_37 ?_
        refine j_iload_n C (pc := 40) 2 rfl rfl dX8_die_40 ?_
        refine j_iconst C (pc := 41) (v := 0) (by decide) dX8_die_41 ?_
        refine j_iast C (pc := 42) (ws' := [oX8 a_t r_t v_people v_day v_texted v_at v_value v_digits v_open v_parishes v_holds v_coded v_seen v_inPlan v_inBook v_traced v_imaged v_most, aI G (r_t 3) 6 (upd v_dead p1.toNatClampNeg (1 : Int32)), aI G (r_t 4) 6 (upd v_buried p1.toNatClampNeg (0 : Int32))]) 2 rfl hf rfl dX8_die_42 (fun hf => ?_)
        refine j_iload_n C (pc := 43) 0 rfl rfl dX8_die_43 ?_
        obtain rfl := Option.some.inj hf
        exact hQ _ _ dX8_die_44 rfl
  · refine j_iconst C (pc := 8) (v := -1) (by decide) dX8_die_8 ?_
    obtain rfl := Option.some.inj hf
    exact hQ _ _ dX8_die_9 rfl
def ct_X8_die (G : Gx) (l : Launch) (F : Int32 → (Nat → Int32) → (Nat → Int32) → Int32 → Int32 → Option (Int32 × (Nat → Int32) × (Nat → Int32))) (lv : Nat) : Prop := ∀ (a_t : Nat) (r_t : Nat → Nat) (v_people : Int32) (v_day : Int32) (v_texted : Int32) (v_at : Int32) (v_value : Int32) (v_digits : Int32) (v_open : Int32) (v_parishes : Int32) (v_holds : Int32) (v_coded : Int32) (v_seen : Int32) (v_inPlan : Int32) (v_inBook : Int32) (v_traced : Int32) (v_imaged : Int32) (v_most : Int32) (v_dead : Nat → Int32) (v_buried : Nat → Int32) (p1 : Int32) (p2 : Int32), ∀ (q : Int32 × (Nat → Int32) × (Nat → Int32)), F v_people v_dead v_buried p1 p2 = some q → MI G l yX8_die cX8_die 4 .int lv [.ref a_t, .int p1, .int p2] [oX8 a_t r_t v_people v_day v_texted v_at v_value v_digits v_open v_parishes v_holds v_coded v_seen v_inPlan v_inBook v_traced v_imaged v_most, aI G (r_t 3) 6 v_dead, aI G (r_t 4) 6 v_buried] [oX8 a_t r_t v_people v_day v_texted v_at v_value v_digits v_open v_parishes v_holds v_coded v_seen v_inPlan v_inBook v_traced v_imaged v_most, aI G (r_t 3) 6 q.2.1, aI G (r_t 4) 6 q.2.2] q.1
theorem c_X8_die (G : Gx) (l : Launch) : ct_X8_die G l f_X8_die 3 := by
  intro a_t r_t v_people v_day v_texted v_at v_value v_digits v_open v_parishes v_holds v_coded v_seen v_inPlan v_inBook v_traced v_imaged v_most v_dead v_buried p1 p2 q hf
  exact mI_of (by decide +kernel) rfl (fun K hl C hQ => t_X8_die C hQ hf)
