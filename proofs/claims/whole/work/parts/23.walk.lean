-- X6_fitsHate
def f_X6_fitsHate_100 (v_seen_size : Int32) (v_seen_cells : Nat → Int32) (k13 : Int32 → (Nat → Int32) → Option (Int32 × (Nat → Int32))) (k0 : Int32) (x4 : Int32) (w_facts : Nat → Int32) : Option (Int32 × (Nat → Int32)) := ((f_X3_cell v_seen_size v_seen_cells x4 (3 : Int32)).bind fun q1 => (if q1 = (1 : Int32) then (if k0 = (1 : Int32) then (k13 (x4 + (1 : Int32)) w_facts) else (some ((0 : Int32), w_facts))) else (if k0 = (0 : Int32) then (k13 (x4 + (1 : Int32)) w_facts) else (some ((0 : Int32), w_facts)))))
set_option maxRecDepth 20000 in
set_option maxHeartbeats 1000000 in
theorem t_X6_fitsHate_100 {G : Gx} {K : Kx} (C : Cx G K cX6_fitsHate RX6 6 3) {a_t : Nat} {r_t : Nat → Nat} {r_seen : Nat → Nat} {r_holding : Nat → Nat} {v_people : Int32} {v_day : Int32} {v_dead : Int32} {v_buried : Int32} {a_holding : Nat} {v_seen_limit : Int32} {v_seen_size : Int32} {v_seen_cells : Nat → Int32} {v_vs : Nat → Int32} {v_kinds : Nat → Int32} {v_holding_length : Int32} {v_holding_need : Int32} {v_holding_steps : Nat → Int32} {v_holding_numbers : Nat → Int32} {v_rows : Nat → Int32} {p1 : Int32} {p2 : Int32} {p3 : Int32} {q : Int32 × (Nat → Int32)} (hQ : k_retI G K cX6_fitsHate 6 .boolean [oX6 a_t r_t v_people v_day v_dead v_buried a_holding, oX3 (r_t 10) r_seen v_seen_limit v_seen_size, aI G (r_seen 0) 40 v_seen_cells, aI G (r_t 6) 6 v_vs, aI G (r_t 5) 6 v_kinds, aI G (r_t 13) 6 q.2, oX2 a_holding r_holding v_holding_length v_holding_need, aI G (r_holding 0) 100 v_holding_steps, aI G (r_holding 1) 100 v_holding_numbers, aI G (r_t 9) 24 v_rows] q.1) {k13 : Int32 → (Nat → Int32) → Option (Int32 × (Nat → Int32))} (hk13 : ∀ (x4 : Int32) (w_facts : Nat → Int32), k13 x4 w_facts = some q → J G K 6 0 0 [oX6 a_t r_t v_people v_day v_dead v_buried a_holding, oX3 (r_t 10) r_seen v_seen_limit v_seen_size, aI G (r_seen 0) 40 v_seen_cells, aI G (r_t 6) 6 v_vs, aI G (r_t 5) 6 v_kinds, aI G (r_t 13) 6 w_facts, oX2 a_holding r_holding v_holding_length v_holding_need, aI G (r_holding 0) 100 v_holding_steps, aI G (r_holding 1) 100 v_holding_numbers, aI G (r_t 9) 24 v_rows] [(0, .ref a_t), (1, .int p1), (2, .int p2), (3, .int p3), (4, .int x4)] 13 []) {k0 : Int32} {x4 : Int32} {w_facts : Nat → Int32} (hf : f_X6_fitsHate_100 v_seen_size v_seen_cells k13 k0 x4 w_facts = some q) : J G K 6 0 0 [oX6 a_t r_t v_people v_day v_dead v_buried a_holding, oX3 (r_t 10) r_seen v_seen_limit v_seen_size, aI G (r_seen 0) 40 v_seen_cells, aI G (r_t 6) 6 v_vs, aI G (r_t 5) 6 v_kinds, aI G (r_t 13) 6 w_facts, oX2 a_holding r_holding v_holding_length v_holding_need, aI G (r_holding 0) 100 v_holding_steps, aI G (r_holding 1) 100 v_holding_numbers, aI G (r_t 9) 24 v_rows] [(0, .ref a_t), (1, .int p1), (2, .int p2), (3, .int p3), (4, .int x4)] 100 [.int k0] := by
  unfold f_X6_fitsHate_100 at hf
  refine j_aload_n C (pc := 100) 0 rfl rfl dX6_fitsHate_100 ?_
  refine j_get C (pc := 101) kc_X6 fl_X6_39 0 rfl rfl dX6_fitsHate_101 ?_
  refine j_iload C (pc := 104) 4 rfl dX6_fitsHate_104 ?_
  refine j_iconst C (pc := 106) (v := 3) (by decide) dX6_fitsHate_106 ?_
  refine j_cVI C (pc := 107) (As := [.int x4, .int (3 : Int32)]) (st := [.int k0]) (ws' := fun q1 => [oX6 a_t r_t v_people v_day v_dead v_buried a_holding, oX3 (r_t 10) r_seen v_seen_limit v_seen_size, aI G (r_seen 0) 40 v_seen_cells, aI G (r_t 6) 6 v_vs, aI G (r_t 5) 6 v_kinds, aI G (r_t 13) 6 w_facts, oX2 a_holding r_holding v_holding_length v_holding_need, aI G (r_holding 0) 100 v_holding_steps, aI G (r_holding 1) 100 v_holding_numbers, aI G (r_t 9) 24 v_rows]) ml_X6_113 ms_X3_cell hf (fun q1 h => (c_X3_cell G K.2.1) (r_t 10) r_seen v_seen_limit v_seen_size v_seen_cells x4 (3 : Int32) q1 h) [1, 2] [none, some 0, some 1, none, none, none, none, none, none, none] 10 rfl (by decide +kernel) (by decide +kernel) (fun _ => rfl) (fun _ => rfl) rfl rfl rfl rfl ⟨Nat.zero_le _, Nat.zero_le _⟩ dX6_fitsHate_107 kc_X3 1 rfl (fun q1 hf => ?_)
  refine j_iconst C (pc := 110) (v := 1) (by decide) dX6_fitsHate_110 ?_
  refine j_icmp_ne C (pc := 111) 118 dX6_fitsHate_111 (by decide) hf (fun hf => ?_) (fun hf => ?_)
  · refine j_iconst C (pc := 118) (v := 0) (by decide) dX6_fitsHate_118 ?_
    refine j_icmp_eq C (pc := 119) 124 dX6_fitsHate_119 (by decide) hf (fun hf => ?_) (fun hf => ?_)
    · refine j_iinc C (pc := 124) (L' := [(4, .int (x4 + (1 : Int32))), (0, .ref a_t), (1, .int p1), (2, .int p2), (3, .int p3)]) (v := x4 + (1 : Int32)) dX6_fitsHate_124 (t := 4) rfl rfl (by decide) rfl ?_
      refine j_goto C (pc := 127) 13 dX6_fitsHate_127 (by decide) ?_
      refine j_sub [1, 2, 3, 4, 0] rfl ?_
      exact hk13 _ _ hf
    · refine j_iconst C (pc := 122) (v := 0) (by decide) dX6_fitsHate_122 ?_
      obtain rfl := Option.some.inj hf
      exact hQ _ _ dX6_fitsHate_123 (show narrow .boolean (.int (0 : Int32)) = .int (0 : Int32) from rfl)
  · refine j_iconst C (pc := 114) (v := 1) (by decide) dX6_fitsHate_114 ?_
    refine j_goto C (pc := 115) 119 dX6_fitsHate_115 (by decide) ?_
    refine j_icmp_eq C (pc := 119) 124 dX6_fitsHate_119 (by decide) hf (fun hf => ?_) (fun hf => ?_)
    · refine j_iinc C (pc := 124) (L' := [(4, .int (x4 + (1 : Int32))), (0, .ref a_t), (1, .int p1), (2, .int p2), (3, .int p3)]) (v := x4 + (1 : Int32)) dX6_fitsHate_124 (t := 4) rfl rfl (by decide) rfl ?_
      refine j_goto C (pc := 127) 13 dX6_fitsHate_127 (by decide) ?_
      refine j_sub [1, 2, 3, 4, 0] rfl ?_
      exact hk13 _ _ hf
    · refine j_iconst C (pc := 122) (v := 0) (by decide) dX6_fitsHate_122 ?_
      obtain rfl := Option.some.inj hf
      exact hQ _ _ dX6_fitsHate_123 (show narrow .boolean (.int (0 : Int32)) = .int (0 : Int32) from rfl)
def f_X6_fitsHate_13_b (v_people : Int32) (v_day : Int32) (v_seen_size : Int32) (v_seen_cells : Nat → Int32) (v_vs : Nat → Int32) (v_kinds : Nat → Int32) (v_holding_length : Int32) (v_holding_need : Int32) (v_holding_steps : Nat → Int32) (v_holding_numbers : Nat → Int32) (v_rows : Nat → Int32) (p1 : Int32) (p2 : Int32) (p3 : Int32) (k13 : Int32 → (Nat → Int32) → Option (Int32 × (Nat → Int32))) (x4 : Int32) (w_facts : Nat → Int32) : Option (Int32 × (Nat → Int32)) := (if v_seen_size ≤ x4 then (some ((1 : Int32), w_facts)) else ((f_X3_cell v_seen_size v_seen_cells x4 (0 : Int32)).bind fun q1 => (if q1 = p1 then ((f_X3_cell v_seen_size v_seen_cells x4 (1 : Int32)).bind fun q2 => (if q2 = p2 then ((f_X3_cell v_seen_size v_seen_cells x4 (2 : Int32)).bind fun q3 => (gd p1 6 ((f_X6_spite v_people v_kinds w_facts v_holding_length v_holding_steps v_holding_numbers v_rows p1 p2 (v_day + q3) p3 (v_vs p1.toNatClampNeg)).bind fun q4 => (if q4.1 < v_holding_need then (f_X6_fitsHate_100 v_seen_size v_seen_cells k13 (0 : Int32) x4 q4.2) else (f_X6_fitsHate_100 v_seen_size v_seen_cells k13 (1 : Int32) x4 q4.2))))) else (k13 (x4 + (1 : Int32)) w_facts))) else (k13 (x4 + (1 : Int32)) w_facts))))
def f_X6_fitsHate_13 (v_people : Int32) (v_day : Int32) (v_seen_size : Int32) (v_seen_cells : Nat → Int32) (v_vs : Nat → Int32) (v_kinds : Nat → Int32) (v_holding_length : Int32) (v_holding_need : Int32) (v_holding_steps : Nat → Int32) (v_holding_numbers : Nat → Int32) (v_rows : Nat → Int32) (p1 : Int32) (p2 : Int32) (p3 : Int32) : Nat → Int32 → (Nat → Int32) → Option (Int32 × (Nat → Int32))
  | 0 => fun _ _ => none
  | n + 1 => f_X6_fitsHate_13_b v_people v_day v_seen_size v_seen_cells v_vs v_kinds v_holding_length v_holding_need v_holding_steps v_holding_numbers v_rows p1 p2 p3 (f_X6_fitsHate_13 v_people v_day v_seen_size v_seen_cells v_vs v_kinds v_holding_length v_holding_need v_holding_steps v_holding_numbers v_rows p1 p2 p3 n)
set_option maxRecDepth 20000 in
set_option maxHeartbeats 1000000 in
theorem t_X6_fitsHate_13_b {G : Gx} {K : Kx} (C : Cx G K cX6_fitsHate RX6 6 3) {a_t : Nat} {r_t : Nat → Nat} {r_seen : Nat → Nat} {r_holding : Nat → Nat} {v_people : Int32} {v_day : Int32} {v_dead : Int32} {v_buried : Int32} {a_holding : Nat} {v_seen_limit : Int32} {v_seen_size : Int32} {v_seen_cells : Nat → Int32} {v_vs : Nat → Int32} {v_kinds : Nat → Int32} {v_holding_length : Int32} {v_holding_need : Int32} {v_holding_steps : Nat → Int32} {v_holding_numbers : Nat → Int32} {v_rows : Nat → Int32} {p1 : Int32} {p2 : Int32} {p3 : Int32} {q : Int32 × (Nat → Int32)} (hQ : k_retI G K cX6_fitsHate 6 .boolean [oX6 a_t r_t v_people v_day v_dead v_buried a_holding, oX3 (r_t 10) r_seen v_seen_limit v_seen_size, aI G (r_seen 0) 40 v_seen_cells, aI G (r_t 6) 6 v_vs, aI G (r_t 5) 6 v_kinds, aI G (r_t 13) 6 q.2, oX2 a_holding r_holding v_holding_length v_holding_need, aI G (r_holding 0) 100 v_holding_steps, aI G (r_holding 1) 100 v_holding_numbers, aI G (r_t 9) 24 v_rows] q.1) {k13 : Int32 → (Nat → Int32) → Option (Int32 × (Nat → Int32))} (hk13 : ∀ (x4 : Int32) (w_facts : Nat → Int32), k13 x4 w_facts = some q → J G K 6 0 0 [oX6 a_t r_t v_people v_day v_dead v_buried a_holding, oX3 (r_t 10) r_seen v_seen_limit v_seen_size, aI G (r_seen 0) 40 v_seen_cells, aI G (r_t 6) 6 v_vs, aI G (r_t 5) 6 v_kinds, aI G (r_t 13) 6 w_facts, oX2 a_holding r_holding v_holding_length v_holding_need, aI G (r_holding 0) 100 v_holding_steps, aI G (r_holding 1) 100 v_holding_numbers, aI G (r_t 9) 24 v_rows] [(0, .ref a_t), (1, .int p1), (2, .int p2), (3, .int p3), (4, .int x4)] 13 []) {x4 : Int32} {w_facts : Nat → Int32} (hf : f_X6_fitsHate_13_b v_people v_day v_seen_size v_seen_cells v_vs v_kinds v_holding_length v_holding_need v_holding_steps v_holding_numbers v_rows p1 p2 p3 k13 x4 w_facts = some q) : J G K 6 0 0 [oX6 a_t r_t v_people v_day v_dead v_buried a_holding, oX3 (r_t 10) r_seen v_seen_limit v_seen_size, aI G (r_seen 0) 40 v_seen_cells, aI G (r_t 6) 6 v_vs, aI G (r_t 5) 6 v_kinds, aI G (r_t 13) 6 w_facts, oX2 a_holding r_holding v_holding_length v_holding_need, aI G (r_holding 0) 100 v_holding_steps, aI G (r_holding 1) 100 v_holding_numbers, aI G (r_t 9) 24 v_rows] [(0, .ref a_t), (1, .int p1), (2, .int p2), (3, .int p3), (4, .int x4)] 13 [] := by
  unfold f_X6_fitsHate_13_b at hf
  refine j_iload C (pc := 13) 4 rfl dX6_fitsHate_13 ?_
  refine j_aload_n C (pc := 15) 0 rfl rfl dX6_fitsHate_15 ?_
  refine j_get C (pc := 16) kc_X6 fl_X6_39 0 rfl rfl dX6_fitsHate_16 ?_
  refine j_getN C (pc := 19) kc_X3 fl_X6_110 1 rfl rfl dX6_fitsHate_19 ?_
  refine j_icmp_ge C (pc := 22) 130 dX6_fitsHate_22 (by decide) hf (fun hf => ?_) (fun hf => ?_)
  · refine j_iconst C (pc := 130) (v := 1) (by decide) dX6_fitsHate_130 ?_
    obtain rfl := Option.some.inj hf
    exact hQ _ _ dX6_fitsHate_131 (show narrow .boolean (.int (1 : Int32)) = .int (1 : Int32) from rfl)
  · refine j_aload_n C (pc := 25) 0 rfl rfl dX6_fitsHate_25 ?_
    refine j_get C (pc := 26) kc_X6 fl_X6_39 0 rfl rfl dX6_fitsHate_26 ?_
    refine j_iload C (pc := 29) 4 rfl dX6_fitsHate_29 ?_
    refine j_iconst C (pc := 31) (v := 0) (by decide) dX6_fitsHate_31 ?_
    refine j_cVI C (pc := 32) (As := [.int x4, .int (0 : Int32)]) (st := []) (ws' := fun q1 => [oX6 a_t r_t v_people v_day v_dead v_buried a_holding, oX3 (r_t 10) r_seen v_seen_limit v_seen_size, aI G (r_seen 0) 40 v_seen_cells, aI G (r_t 6) 6 v_vs, aI G (r_t 5) 6 v_kinds, aI G (r_t 13) 6 w_facts, oX2 a_holding r_holding v_holding_length v_holding_need, aI G (r_holding 0) 100 v_holding_steps, aI G (r_holding 1) 100 v_holding_numbers, aI G (r_t 9) 24 v_rows]) ml_X6_113 ms_X3_cell hf (fun q1 h => (c_X3_cell G K.2.1) (r_t 10) r_seen v_seen_limit v_seen_size v_seen_cells x4 (0 : Int32) q1 h) [1, 2] [none, some 0, some 1, none, none, none, none, none, none, none] 10 rfl (by decide +kernel) (by decide +kernel) (fun _ => rfl) (fun _ => rfl) rfl rfl rfl rfl ⟨Nat.zero_le _, Nat.zero_le _⟩ dX6_fitsHate_32 kc_X3 1 rfl (fun q1 hf => ?_)
    refine j_iload_n C (pc := 35) 1 rfl rfl dX6_fitsHate_35 ?_
    refine j_icmp_ne C (pc := 36) 124 dX6_fitsHate_36 (by decide) hf (fun hf => ?_) (fun hf => ?_)
    · refine j_iinc C (pc := 124) (L' := [(4, .int (x4 + (1 : Int32))), (0, .ref a_t), (1, .int p1), (2, .int p2), (3, .int p3)]) (v := x4 + (1 : Int32)) dX6_fitsHate_124 (t := 4) rfl rfl (by decide) rfl ?_
      refine j_goto C (pc := 127) 13 dX6_fitsHate_127 (by decide) ?_
      refine j_sub [1, 2, 3, 4, 0] rfl ?_
      exact hk13 _ _ hf
    · refine j_aload_n C (pc := 39) 0 rfl rfl dX6_fitsHate_39 ?_
      refine j_get C (pc := 40) kc_X6 fl_X6_39 0 rfl rfl dX6_fitsHate_40 ?_
      refine j_iload C (pc := 43) 4 rfl dX6_fitsHate_43 ?_
      refine j_iconst C (pc := 45) (v := 1) (by decide) dX6_fitsHate_45 ?_
      refine j_cVI C (pc := 46) (As := [.int x4, .int (1 : Int32)]) (st := []) (ws' := fun q2 => [oX6 a_t r_t v_people v_day v_dead v_buried a_holding, oX3 (r_t 10) r_seen v_seen_limit v_seen_size, aI G (r_seen 0) 40 v_seen_cells, aI G (r_t 6) 6 v_vs, aI G (r_t 5) 6 v_kinds, aI G (r_t 13) 6 w_facts, oX2 a_holding r_holding v_holding_length v_holding_need, aI G (r_holding 0) 100 v_holding_steps, aI G (r_holding 1) 100 v_holding_numbers, aI G (r_t 9) 24 v_rows]) ml_X6_113 ms_X3_cell hf (fun q2 h => (c_X3_cell G K.2.1) (r_t 10) r_seen v_seen_limit v_seen_size v_seen_cells x4 (1 : Int32) q2 h) [1, 2] [none, some 0, some 1, none, none, none, none, none, none, none] 10 rfl (by decide +kernel) (by decide +kernel) (fun _ => rfl) (fun _ => rfl) rfl rfl rfl rfl ⟨Nat.zero_le _, Nat.zero_le _⟩ dX6_fitsHate_46 kc_X3 1 rfl (fun q2 hf => ?_)
      refine j_iload_n C (pc := 49) 2 rfl rfl dX6_fitsHate_49 ?_
      refine j_icmp_ne C (pc := 50) 124 dX6_fitsHate_50 (by decide) hf (fun hf => ?_) (fun hf => ?_)
      · refine j_iinc C (pc := 124) (L' := [(4, .int (x4 + (1 : Int32))), (0, .ref a_t), (1, .int p1), (2, .int p2), (3, .int p3)]) (v := x4 + (1 : Int32)) dX6_fitsHate_124 (t := 4) rfl rfl (by decide) rfl ?_
        refine j_goto C (pc := 127) 13 dX6_fitsHate_127 (by decide) ?_
        refine j_sub [1, 2, 3, 4, 0] rfl ?_
        exact hk13 _ _ hf
      · refine j_aload_n C (pc := 53) 0 rfl rfl dX6_fitsHate_53 ?_
        refine j_iload_n C (pc := 54) 1 rfl rfl dX6_fitsHate_54 ?_
        refine j_iload_n C (pc := 55) 2 rfl rfl dX6_fitsHate_55 ?_
        refine j_aload_n C (pc := 56) 0 rfl rfl dX6_fitsHate_56 ?_
        refine j_get C (pc := 57) kc_X6 fl_X6_93 0 rfl rfl dX6_fitsHate_57 ?_
        refine j_aload_n C (pc := 60) 0 rfl rfl dX6_fitsHate_60 ?_
        refine j_get C (pc := 61) kc_X6 fl_X6_39 0 rfl rfl dX6_fitsHate_61 ?_
        refine j_iload C (pc := 64) 4 rfl dX6_fitsHate_64 ?_
        refine j_iconst C (pc := 66) (v := 2) (by decide) dX6_fitsHate_66 ?_
        refine j_cVI C (pc := 67) (As := [.int x4, .int (2 : Int32)]) (st := [.int v_day, .int p2, .int p1, .ref a_t]) (ws' := fun q3 => [oX6 a_t r_t v_people v_day v_dead v_buried a_holding, oX3 (r_t 10) r_seen v_seen_limit v_seen_size, aI G (r_seen 0) 40 v_seen_cells, aI G (r_t 6) 6 v_vs, aI G (r_t 5) 6 v_kinds, aI G (r_t 13) 6 w_facts, oX2 a_holding r_holding v_holding_length v_holding_need, aI G (r_holding 0) 100 v_holding_steps, aI G (r_holding 1) 100 v_holding_numbers, aI G (r_t 9) 24 v_rows]) ml_X6_113 ms_X3_cell hf (fun q3 h => (c_X3_cell G K.2.1) (r_t 10) r_seen v_seen_limit v_seen_size v_seen_cells x4 (2 : Int32) q3 h) [1, 2] [none, some 0, some 1, none, none, none, none, none, none, none] 10 rfl (by decide +kernel) (by decide +kernel) (fun _ => rfl) (fun _ => rfl) rfl rfl rfl rfl ⟨Nat.zero_le _, Nat.zero_le _⟩ dX6_fitsHate_67 kc_X3 1 rfl (fun q3 hf => ?_)
        refine j_iadd C (pc := 70) dX6_fitsHate_70 ?_
        refine j_iload_n C (pc := 71) 3 rfl rfl dX6_fitsHate_71 ?_
        refine j_aload_n C (pc := 72) 0 rfl rfl dX6_fitsHate_72 ?_
        refine j_get C (pc := 73) kc_X6 fl_X6_22 0 rfl rfl dX6_fitsHate_73 ?_
        refine j_iload_n C (pc := 76) 1 rfl rfl dX6_fitsHate_76 ?_
        refine j_iald C (pc := 77) 3 rfl hf dX6_fitsHate_77 (fun hf => ?_)
        refine j_cVI C (pc := 78) (As := [.int p1, .int p2, .int (v_day + q3), .int p3, .int (v_vs p1.toNatClampNeg)]) (st := []) (ws' := fun q4 => [oX6 a_t r_t v_people v_day v_dead v_buried a_holding, oX3 (r_t 10) r_seen v_seen_limit v_seen_size, aI G (r_seen 0) 40 v_seen_cells, aI G (r_t 6) 6 v_vs, aI G (r_t 5) 6 v_kinds, aI G (r_t 13) 6 q4.2, oX2 a_holding r_holding v_holding_length v_holding_need, aI G (r_holding 0) 100 v_holding_steps, aI G (r_holding 1) 100 v_holding_numbers, aI G (r_t 9) 24 v_rows]) ml_X6_79 ms_X6_spite hf (fun q4 h => (c_X6_spite G K.2.1) a_t r_t r_holding v_people v_day v_dead v_buried a_holding v_kinds w_facts v_holding_length v_holding_need v_holding_steps v_holding_numbers v_rows p1 p2 (v_day + q3) p3 (v_vs p1.toNatClampNeg) q4 h) [0, 4, 5, 6, 7, 8, 9] [some 0, none, none, none, some 1, some 2, some 3, some 4, some 5, some 6] 10 rfl (by decide +kernel) (by decide +kernel) (fun _ => rfl) (fun _ => rfl) rfl rfl rfl rfl ⟨Nat.zero_le _, Nat.zero_le _⟩ dX6_fitsHate_78 kc_X6 0 rfl (fun q4 hf => ?_)
        refine j_istore C (pc := 81) (L' := [(5, .int q4.1), (0, .ref a_t), (1, .int p1), (2, .int p2), (3, .int p3), (4, .int x4)]) dX6_fitsHate_81 (by decide) rfl ?_
        refine j_iload C (pc := 83) 0 rfl dX6_fitsHate_83 ?_
        refine j_aload_n C (pc := 85) 1 rfl rfl dX6_fitsHate_85 ?_
        refine j_get C (pc := 86) kc_X6 fl_X6_12 0 rfl rfl dX6_fitsHate_86 ?_
        refine j_getN C (pc := 89) kc_X2 fl_X6_83 6 rfl rfl dX6_fitsHate_89 ?_
        refine j_icmp_lt C (pc := 92) 99 dX6_fitsHate_92 (by decide) hf (fun hf => ?_) (fun hf => ?_)
        · refine j_iconst C (pc := 99) (v := 0) (by decide) dX6_fitsHate_99 ?_
          refine j_sub [1, 2, 3, 4, 5] rfl ?_
          exact t_X6_fitsHate_100 C hQ hk13 hf
        · refine j_iconst C (pc := 95) (v := 1) (by decide) dX6_fitsHate_95 ?_
          refine j_goto C (pc := 96) 100 dX6_fitsHate_96 (by decide) ?_
          refine j_sub [1, 2, 3, 4, 5] rfl ?_
          exact t_X6_fitsHate_100 C hQ hk13 hf
theorem t_X6_fitsHate_13 {G : Gx} {K : Kx} (C : Cx G K cX6_fitsHate RX6 6 3) {a_t : Nat} {r_t : Nat → Nat} {r_seen : Nat → Nat} {r_holding : Nat → Nat} {v_people : Int32} {v_day : Int32} {v_dead : Int32} {v_buried : Int32} {a_holding : Nat} {v_seen_limit : Int32} {v_seen_size : Int32} {v_seen_cells : Nat → Int32} {v_vs : Nat → Int32} {v_kinds : Nat → Int32} {v_holding_length : Int32} {v_holding_need : Int32} {v_holding_steps : Nat → Int32} {v_holding_numbers : Nat → Int32} {v_rows : Nat → Int32} {p1 : Int32} {p2 : Int32} {p3 : Int32} {q : Int32 × (Nat → Int32)} (hQ : k_retI G K cX6_fitsHate 6 .boolean [oX6 a_t r_t v_people v_day v_dead v_buried a_holding, oX3 (r_t 10) r_seen v_seen_limit v_seen_size, aI G (r_seen 0) 40 v_seen_cells, aI G (r_t 6) 6 v_vs, aI G (r_t 5) 6 v_kinds, aI G (r_t 13) 6 q.2, oX2 a_holding r_holding v_holding_length v_holding_need, aI G (r_holding 0) 100 v_holding_steps, aI G (r_holding 1) 100 v_holding_numbers, aI G (r_t 9) 24 v_rows] q.1) : ∀ (n : Nat) (x4 : Int32) (w_facts : Nat → Int32), f_X6_fitsHate_13 v_people v_day v_seen_size v_seen_cells v_vs v_kinds v_holding_length v_holding_need v_holding_steps v_holding_numbers v_rows p1 p2 p3 n x4 w_facts = some q → J G K 6 0 0 [oX6 a_t r_t v_people v_day v_dead v_buried a_holding, oX3 (r_t 10) r_seen v_seen_limit v_seen_size, aI G (r_seen 0) 40 v_seen_cells, aI G (r_t 6) 6 v_vs, aI G (r_t 5) 6 v_kinds, aI G (r_t 13) 6 w_facts, oX2 a_holding r_holding v_holding_length v_holding_need, aI G (r_holding 0) 100 v_holding_steps, aI G (r_holding 1) 100 v_holding_numbers, aI G (r_t 9) 24 v_rows] [(0, .ref a_t), (1, .int p1), (2, .int p2), (3, .int p3), (4, .int x4)] 13 [] := by
  intro n
  induction n with
  | zero => intro x4 w_facts hf; cases hf
  | succ n ih => intro x4 w_facts hf; exact t_X6_fitsHate_13_b C hQ ih hf
def f_X6_fitsHate (v_people : Int32) (v_day : Int32) (v_seen_size : Int32) (v_seen_cells : Nat → Int32) (v_vs : Nat → Int32) (v_kinds : Nat → Int32) (v_facts : Nat → Int32) (v_holding_length : Int32) (v_holding_need : Int32) (v_holding_steps : Nat → Int32) (v_holding_numbers : Nat → Int32) (v_rows : Nat → Int32) (p1 : Int32) (p2 : Int32) (p3 : Int32) : Option (Int32 × (Nat → Int32)) := ((f_X6_has v_people p1).bind fun q1 => (if q1 = 0 then (some ((0 : Int32), v_facts)) else (f_X6_fitsHate_13 v_people v_day v_seen_size v_seen_cells v_vs v_kinds v_holding_length v_holding_need v_holding_steps v_holding_numbers v_rows p1 p2 p3 1000 (0 : Int32) v_facts)))
set_option maxRecDepth 20000 in
set_option maxHeartbeats 1000000 in
theorem t_X6_fitsHate {G : Gx} {K : Kx} (C : Cx G K cX6_fitsHate RX6 6 3) {a_t : Nat} {r_t : Nat → Nat} {r_seen : Nat → Nat} {r_holding : Nat → Nat} {v_people : Int32} {v_day : Int32} {v_dead : Int32} {v_buried : Int32} {a_holding : Nat} {v_seen_limit : Int32} {v_seen_size : Int32} {v_seen_cells : Nat → Int32} {v_vs : Nat → Int32} {v_kinds : Nat → Int32} {v_facts : Nat → Int32} {v_holding_length : Int32} {v_holding_need : Int32} {v_holding_steps : Nat → Int32} {v_holding_numbers : Nat → Int32} {v_rows : Nat → Int32} {p1 : Int32} {p2 : Int32} {p3 : Int32} {q : Int32 × (Nat → Int32)} (hQ : k_retI G K cX6_fitsHate 6 .boolean [oX6 a_t r_t v_people v_day v_dead v_buried a_holding, oX3 (r_t 10) r_seen v_seen_limit v_seen_size, aI G (r_seen 0) 40 v_seen_cells, aI G (r_t 6) 6 v_vs, aI G (r_t 5) 6 v_kinds, aI G (r_t 13) 6 q.2, oX2 a_holding r_holding v_holding_length v_holding_need, aI G (r_holding 0) 100 v_holding_steps, aI G (r_holding 1) 100 v_holding_numbers, aI G (r_t 9) 24 v_rows] q.1) (hf : f_X6_fitsHate v_people v_day v_seen_size v_seen_cells v_vs v_kinds v_facts v_holding_length v_holding_need v_holding_steps v_holding_numbers v_rows p1 p2 p3 = some q) : J G K 6 0 0 [oX6 a_t r_t v_people v_day v_dead v_buried a_holding, oX3 (r_t 10) r_seen v_seen_limit v_seen_size, aI G (r_seen 0) 40 v_seen_cells, aI G (r_t 6) 6 v_vs, aI G (r_t 5) 6 v_kinds, aI G (r_t 13) 6 v_facts, oX2 a_holding r_holding v_holding_length v_holding_need, aI G (r_holding 0) 100 v_holding_steps, aI G (r_holding 1) 100 v_holding_numbers, aI G (r_t 9) 24 v_rows] [(0, .ref a_t), (1, .int p1), (2, .int p2), (3, .int p3)] 0 [] := by
  unfold f_X6_fitsHate at hf
  refine j_aload_n C (pc := 0) 0 rfl rfl dX6_fitsHate_0 ?_
  refine j_iload_n C (pc := 1) 1 rfl rfl dX6_fitsHate_1 ?_
  refine j_cVI C (pc := 2) (As := [.int p1]) (st := []) (ws' := fun q1 => [oX6 a_t r_t v_people v_day v_dead v_buried a_holding, oX3 (r_t 10) r_seen v_seen_limit v_seen_size, aI G (r_seen 0) 40 v_seen_cells, aI G (r_t 6) 6 v_vs, aI G (r_t 5) 6 v_kinds, aI G (r_t 13) 6 v_facts, oX2 a_holding r_holding v_holding_length v_holding_need, aI G (r_holding 0) 100 v_holding_steps, aI G (r_holding 1) 100 v_holding_numbers, aI G (r_t 9) 24 v_rows]) ml_X6_56 ms_X6_has hf (fun q1 h => (c_X6_has G K.2.1) a_t r_t v_people v_day v_dead v_buried a_holding p1 q1 h) [0] [some 0, none, none, none, none, none, none, none, none, none] 10 rfl (by decide +kernel) (by decide +kernel) (fun _ => rfl) (fun _ => rfl) rfl rfl rfl rfl ⟨Nat.zero_le _, Nat.zero_le _⟩ dX6_fitsHate_2 kc_X6 0 rfl (fun q1 hf => ?_)
  refine j_if_ne C (pc := 5) 10 dX6_fitsHate_5 (by decide) hf (fun hf => ?_) (fun hf => ?_)
  · refine j_iconst C (pc := 10) (v := 0) (by decide) dX6_fitsHate_10 ?_
    refine j_istore C (pc := 11) (L' := [(4, .int (0 : Int32)), (0, .ref a_t), (1, .int p1), (2, .int p2), (3, .int p3)]) dX6_fitsHate_11 (by decide) rfl ?_
    refine j_sub [1, 2, 3, 4, 0] rfl ?_
    exact t_X6_fitsHate_13 C hQ 1000 _ _ hf
  · refine j_iconst C (pc := 8) (v := 0) (by decide) dX6_fitsHate_8 ?_
    obtain rfl := Option.some.inj hf
    exact hQ _ _ dX6_fitsHate_9 (show narrow .boolean (.int (0 : Int32)) = .int (0 : Int32) from rfl)
def ct_X6_fitsHate (G : Gx) (l : Launch) (F : Int32 → Int32 → Int32 → (Nat → Int32) → (Nat → Int32) → (Nat → Int32) → (Nat → Int32) → Int32 → Int32 → (Nat → Int32) → (Nat → Int32) → (Nat → Int32) → Int32 → Int32 → Int32 → Option (Int32 × (Nat → Int32))) (lv : Nat) : Prop := ∀ (a_t : Nat) (r_t : Nat → Nat) (r_seen : Nat → Nat) (r_holding : Nat → Nat) (v_people : Int32) (v_day : Int32) (v_dead : Int32) (v_buried : Int32) (a_holding : Nat) (v_seen_limit : Int32) (v_seen_size : Int32) (v_seen_cells : Nat → Int32) (v_vs : Nat → Int32) (v_kinds : Nat → Int32) (v_facts : Nat → Int32) (v_holding_length : Int32) (v_holding_need : Int32) (v_holding_steps : Nat → Int32) (v_holding_numbers : Nat → Int32) (v_rows : Nat → Int32) (p1 : Int32) (p2 : Int32) (p3 : Int32), ∀ (q : Int32 × (Nat → Int32)), F v_people v_day v_seen_size v_seen_cells v_vs v_kinds v_facts v_holding_length v_holding_need v_holding_steps v_holding_numbers v_rows p1 p2 p3 = some q → MI G l yX6_fitsHate cX6_fitsHate 6 .boolean lv [.ref a_t, .int p1, .int p2, .int p3] [oX6 a_t r_t v_people v_day v_dead v_buried a_holding, oX3 (r_t 10) r_seen v_seen_limit v_seen_size, aI G (r_seen 0) 40 v_seen_cells, aI G (r_t 6) 6 v_vs, aI G (r_t 5) 6 v_kinds, aI G (r_t 13) 6 v_facts, oX2 a_holding r_holding v_holding_length v_holding_need, aI G (r_holding 0) 100 v_holding_steps, aI G (r_holding 1) 100 v_holding_numbers, aI G (r_t 9) 24 v_rows] [oX6 a_t r_t v_people v_day v_dead v_buried a_holding, oX3 (r_t 10) r_seen v_seen_limit v_seen_size, aI G (r_seen 0) 40 v_seen_cells, aI G (r_t 6) 6 v_vs, aI G (r_t 5) 6 v_kinds, aI G (r_t 13) 6 q.2, oX2 a_holding r_holding v_holding_length v_holding_need, aI G (r_holding 0) 100 v_holding_steps, aI G (r_holding 1) 100 v_holding_numbers, aI G (r_t 9) 24 v_rows] q.1
theorem c_X6_fitsHate (G : Gx) (l : Launch) : ct_X6_fitsHate G l f_X6_fitsHate 3 := by
  intro a_t r_t r_seen r_holding v_people v_day v_dead v_buried a_holding v_seen_limit v_seen_size v_seen_cells v_vs v_kinds v_facts v_holding_length v_holding_need v_holding_steps v_holding_numbers v_rows p1 p2 p3 q hf
  exact mI_of (by decide +kernel) rfl (fun K hl C hQ => t_X6_fitsHate C hQ hf)
-- X6_fitsV
def f_X6_fitsV_85 (v_seen_size : Int32) (v_seen_cells : Nat → Int32) (k2 : Int32 → (Nat → Int32) → Option (Int32 × (Nat → Int32))) (k0 : Int32) (x3 : Int32) (w_facts : Nat → Int32) : Option (Int32 × (Nat → Int32)) := ((f_X3_cell v_seen_size v_seen_cells x3 (3 : Int32)).bind fun q1 => (if q1 = (1 : Int32) then (if k0 = (1 : Int32) then (k2 (x3 + (1 : Int32)) w_facts) else (some ((0 : Int32), w_facts))) else (if k0 = (0 : Int32) then (k2 (x3 + (1 : Int32)) w_facts) else (some ((0 : Int32), w_facts)))))
set_option maxRecDepth 20000 in
set_option maxHeartbeats 1000000 in
theorem t_X6_fitsV_85 {G : Gx} {K : Kx} (C : Cx G K cX6_fitsV RX6 6 3) {a_t : Nat} {r_t : Nat → Nat} {r_seen : Nat → Nat} {r_holding : Nat → Nat} {v_people : Int32} {v_day : Int32} {v_dead : Int32} {v_buried : Int32} {a_holding : Nat} {v_seen_limit : Int32} {v_seen_size : Int32} {v_seen_cells : Nat → Int32} {v_hates : Nat → Int32} {v_kinds : Nat → Int32} {v_holding_length : Int32} {v_holding_need : Int32} {v_holding_steps : Nat → Int32} {v_holding_numbers : Nat → Int32} {v_rows : Nat → Int32} {p1 : Int32} {p2 : Int32} {q : Int32 × (Nat → Int32)} (hQ : k_retI G K cX6_fitsV 6 .boolean [oX6 a_t r_t v_people v_day v_dead v_buried a_holding, oX3 (r_t 10) r_seen v_seen_limit v_seen_size, aI G (r_seen 0) 40 v_seen_cells, aI G (r_t 8) 36 v_hates, aI G (r_t 5) 6 v_kinds, aI G (r_t 13) 6 q.2, oX2 a_holding r_holding v_holding_length v_holding_need, aI G (r_holding 0) 100 v_holding_steps, aI G (r_holding 1) 100 v_holding_numbers, aI G (r_t 9) 24 v_rows] q.1) {k2 : Int32 → (Nat → Int32) → Option (Int32 × (Nat → Int32))} (hk2 : ∀ (x3 : Int32) (w_facts : Nat → Int32), k2 x3 w_facts = some q → J G K 6 0 0 [oX6 a_t r_t v_people v_day v_dead v_buried a_holding, oX3 (r_t 10) r_seen v_seen_limit v_seen_size, aI G (r_seen 0) 40 v_seen_cells, aI G (r_t 8) 36 v_hates, aI G (r_t 5) 6 v_kinds, aI G (r_t 13) 6 w_facts, oX2 a_holding r_holding v_holding_length v_holding_need, aI G (r_holding 0) 100 v_holding_steps, aI G (r_holding 1) 100 v_holding_numbers, aI G (r_t 9) 24 v_rows] [(0, .ref a_t), (1, .int p1), (2, .int p2), (3, .int x3)] 2 []) {k0 : Int32} {x3 : Int32} {w_facts : Nat → Int32} (hf : f_X6_fitsV_85 v_seen_size v_seen_cells k2 k0 x3 w_facts = some q) : J G K 6 0 0 [oX6 a_t r_t v_people v_day v_dead v_buried a_holding, oX3 (r_t 10) r_seen v_seen_limit v_seen_size, aI G (r_seen 0) 40 v_seen_cells, aI G (r_t 8) 36 v_hates, aI G (r_t 5) 6 v_kinds, aI G (r_t 13) 6 w_facts, oX2 a_holding r_holding v_holding_length v_holding_need, aI G (r_holding 0) 100 v_holding_steps, aI G (r_holding 1) 100 v_holding_numbers, aI G (r_t 9) 24 v_rows] [(0, .ref a_t), (1, .int p1), (2, .int p2), (3, .int x3)] 85 [.int k0] := by
  unfold f_X6_fitsV_85 at hf
  refine j_aload_n C (pc := 85) 0 rfl rfl dX6_fitsV_85 ?_
  refine j_get C (pc := 86) kc_X6 fl_X6_39 0 rfl rfl dX6_fitsV_86 ?_
  refine j_iload_n C (pc := 89) 3 rfl rfl dX6_fitsV_89 ?_
  refine j_iconst C (pc := 90) (v := 3) (by decide) dX6_fitsV_90 ?_
  refine j_cVI C (pc := 91) (As := [.int x3, .int (3 : Int32)]) (st := [.int k0]) (ws' := fun q1 => [oX6 a_t r_t v_people v_day v_dead v_buried a_holding, oX3 (r_t 10) r_seen v_seen_limit v_seen_size, aI G (r_seen 0) 40 v_seen_cells, aI G (r_t 8) 36 v_hates, aI G (r_t 5) 6 v_kinds, aI G (r_t 13) 6 w_facts, oX2 a_holding r_holding v_holding_length v_holding_need, aI G (r_holding 0) 100 v_holding_steps, aI G (r_holding 1) 100 v_holding_numbers, aI G (r_t 9) 24 v_rows]) ml_X6_113 ms_X3_cell hf (fun q1 h => (c_X3_cell G K.2.1) (r_t 10) r_seen v_seen_limit v_seen_size v_seen_cells x3 (3 : Int32) q1 h) [1, 2] [none, some 0, some 1, none, none, none, none, none, none, none] 10 rfl (by decide +kernel) (by decide +kernel) (fun _ => rfl) (fun _ => rfl) rfl rfl rfl rfl ⟨Nat.zero_le _, Nat.zero_le _⟩ dX6_fitsV_91 kc_X3 1 rfl (fun q1 hf => ?_)
  refine j_iconst C (pc := 94) (v := 1) (by decide) dX6_fitsV_94 ?_
  refine j_icmp_ne C (pc := 95) 102 dX6_fitsV_95 (by decide) hf (fun hf => ?_) (fun hf => ?_)
  · refine j_iconst C (pc := 102) (v := 0) (by decide) dX6_fitsV_102 ?_
    refine j_icmp_eq C (pc := 103) 108 dX6_fitsV_103 (by decide) hf (fun hf => ?_) (fun hf => ?_)
    · refine j_iinc C (pc := 108) (L' := [(3, .int (x3 + (1 : Int32))), (0, .ref a_t), (1, .int p1), (2, .int p2)]) (v := x3 + (1 : Int32)) dX6_fitsV_108 (t := 3) rfl rfl (by decide) rfl ?_
      refine j_goto C (pc := 111) 2 dX6_fitsV_111 (by decide) ?_
      refine j_sub [1, 2, 3, 0] rfl ?_
      exact hk2 _ _ hf
    · refine j_iconst C (pc := 106) (v := 0) (by decide) dX6_fitsV_106 ?_
      obtain rfl := Option.some.inj hf
      exact hQ _ _ dX6_fitsV_107 (show narrow .boolean (.int (0 : Int32)) = .int (0 : Int32) from rfl)
  · refine j_iconst C (pc := 98) (v := 1) (by decide) dX6_fitsV_98 ?_
    refine j_goto C (pc := 99) 103 dX6_fitsV_99 (by decide) ?_
    refine j_icmp_eq C (pc := 103) 108 dX6_fitsV_103 (by decide) hf (fun hf => ?_) (fun hf => ?_)
    · refine j_iinc C (pc := 108) (L' := [(3, .int (x3 + (1 : Int32))), (0, .ref a_t), (1, .int p1), (2, .int p2)]) (v := x3 + (1 : Int32)) dX6_fitsV_108 (t := 3) rfl rfl (by decide) rfl ?_
      refine j_goto C (pc := 111) 2 dX6_fitsV_111 (by decide) ?_
      refine j_sub [1, 2, 3, 0] rfl ?_
      exact hk2 _ _ hf
    · refine j_iconst C (pc := 106) (v := 0) (by decide) dX6_fitsV_106 ?_
      obtain rfl := Option.some.inj hf
      exact hQ _ _ dX6_fitsV_107 (show narrow .boolean (.int (0 : Int32)) = .int (0 : Int32) from rfl)
def f_X6_fitsV_2_b (v_people : Int32) (v_day : Int32) (v_seen_size : Int32) (v_seen_cells : Nat → Int32) (v_hates : Nat → Int32) (v_kinds : Nat → Int32) (v_holding_length : Int32) (v_holding_need : Int32) (v_holding_steps : Nat → Int32) (v_holding_numbers : Nat → Int32) (v_rows : Nat → Int32) (p1 : Int32) (p2 : Int32) (k2 : Int32 → (Nat → Int32) → Option (Int32 × (Nat → Int32))) (x3 : Int32) (w_facts : Nat → Int32) : Option (Int32 × (Nat → Int32)) := (if v_seen_size ≤ x3 then (some ((1 : Int32), w_facts)) else ((f_X3_cell v_seen_size v_seen_cells x3 (0 : Int32)).bind fun q1 => (if q1 = p1 then ((f_X3_cell v_seen_size v_seen_cells x3 (1 : Int32)).bind fun q2 => ((f_X3_cell v_seen_size v_seen_cells x3 (2 : Int32)).bind fun q3 => ((f_X6_hateOf v_people v_hates p1 q2).bind fun q4 => ((f_X6_spite v_people v_kinds w_facts v_holding_length v_holding_steps v_holding_numbers v_rows p1 q2 (v_day + q3) q4 p2).bind fun q5 => (if q5.1 < v_holding_need then (f_X6_fitsV_85 v_seen_size v_seen_cells k2 (0 : Int32) x3 q5.2) else (f_X6_fitsV_85 v_seen_size v_seen_cells k2 (1 : Int32) x3 q5.2)))))) else (k2 (x3 + (1 : Int32)) w_facts))))
def f_X6_fitsV_2 (v_people : Int32) (v_day : Int32) (v_seen_size : Int32) (v_seen_cells : Nat → Int32) (v_hates : Nat → Int32) (v_kinds : Nat → Int32) (v_holding_length : Int32) (v_holding_need : Int32) (v_holding_steps : Nat → Int32) (v_holding_numbers : Nat → Int32) (v_rows : Nat → Int32) (p1 : Int32) (p2 : Int32) : Nat → Int32 → (Nat → Int32) → Option (Int32 × (Nat → Int32))
  | 0 => fun _ _ => none
  | n + 1 => f_X6_fitsV_2_b v_people v_day v_seen_size v_seen_cells v_hates v_kinds v_holding_length v_holding_need v_holding_steps v_holding_numbers v_rows p1 p2 (f_X6_fitsV_2 v_people v_day v_seen_size v_seen_cells v_hates v_kinds v_holding_length v_holding_need v_holding_steps v_holding_numbers v_rows p1 p2 n)
set_option maxRecDepth 20000 in
set_option maxHeartbeats 1000000 in
theorem t_X6_fitsV_2_b {G : Gx} {K : Kx} (C : Cx G K cX6_fitsV RX6 6 3) {a_t : Nat} {r_t : Nat → Nat} {r_seen : Nat → Nat} {r_holding : Nat → Nat} {v_people : Int32} {v_day : Int32} {v_dead : Int32} {v_buried : Int32} {a_holding : Nat} {v_seen_limit : Int32} {v_seen_size : Int32} {v_seen_cells : Nat → Int32} {v_hates : Nat → Int32} {v_kinds : Nat → Int32} {v_holding_length : Int32} {v_holding_need : Int32} {v_holding_steps : Nat → Int32} {v_holding_numbers : Nat → Int32} {v_rows : Nat → Int32} {p1 : Int32} {p2 : Int32} {q : Int32 × (Nat → Int32)} (hQ : k_retI G K cX6_fitsV 6 .boolean [oX6 a_t r_t v_people v_day v_dead v_buried a_holding, oX3 (r_t 10) r_seen v_seen_limit v_seen_size, aI G (r_seen 0) 40 v_seen_cells, aI G (r_t 8) 36 v_hates, aI G (r_t 5) 6 v_kinds, aI G (r_t 13) 6 q.2, oX2 a_holding r_holding v_holding_length v_holding_need, aI G (r_holding 0) 100 v_holding_steps, aI G (r_holding 1) 100 v_holding_numbers, aI G (r_t 9) 24 v_rows] q.1) {k2 : Int32 → (Nat → Int32) → Option (Int32 × (Nat → Int32))} (hk2 : ∀ (x3 : Int32) (w_facts : Nat → Int32), k2 x3 w_facts = some q → J G K 6 0 0 [oX6 a_t r_t v_people v_day v_dead v_buried a_holding, oX3 (r_t 10) r_seen v_seen_limit v_seen_size, aI G (r_seen 0) 40 v_seen_cells, aI G (r_t 8) 36 v_hates, aI G (r_t 5) 6 v_kinds, aI G (r_t 13) 6 w_facts, oX2 a_holding r_holding v_holding_length v_holding_need, aI G (r_holding 0) 100 v_holding_steps, aI G (r_holding 1) 100 v_holding_numbers, aI G (r_t 9) 24 v_rows] [(0, .ref a_t), (1, .int p1), (2, .int p2), (3, .int x3)] 2 []) {x3 : Int32} {w_facts : Nat → Int32} (hf : f_X6_fitsV_2_b v_people v_day v_seen_size v_seen_cells v_hates v_kinds v_holding_length v_holding_need v_holding_steps v_holding_numbers v_rows p1 p2 k2 x3 w_facts = some q) : J G K 6 0 0 [oX6 a_t r_t v_people v_day v_dead v_buried a_holding, oX3 (r_t 10) r_seen v_seen_limit v_seen_size, aI G (r_seen 0) 40 v_seen_cells, aI G (r_t 8) 36 v_hates, aI G (r_t 5) 6 v_kinds, aI G (r_t 13) 6 w_facts, oX2 a_holding r_holding v_holding_length v_holding_need, aI G (r_holding 0) 100 v_holding_steps, aI G (r_holding 1) 100 v_holding_numbers, aI G (r_t 9) 24 v_rows] [(0, .ref a_t), (1, .int p1), (2, .int p2), (3, .int x3)] 2 [] := by
  unfold f_X6_fitsV_2_b at hf
  refine j_iload_n C (pc := 2) 3 rfl rfl dX6_fitsV_2 ?_
  refine j_aload_n C (pc := 3) 0 rfl rfl dX6_fitsV_3 ?_
  refine j_get C (pc := 4) kc_X6 fl_X6_39 0 rfl rfl dX6_fitsV_4 ?_
  refine j_getN C (pc := 7) kc_X3 fl_X6_110 1 rfl rfl dX6_fitsV_7 ?_
  refine j_icmp_ge C (pc := 10) 114 dX6_fitsV_10 (by decide) hf (fun hf => ?_) (fun hf => ?_)
  · refine j_iconst C (pc := 114) (v := 1) (by decide) dX6_fitsV_114 ?_
    obtain rfl := Option.some.inj hf
    exact hQ _ _ dX6_fitsV_115 (show narrow .boolean (.int (1 : Int32)) = .int (1 : Int32) from rfl)
  · refine j_aload_n C (pc := 13) 0 rfl rfl dX6_fitsV_13 ?_
    refine j_get C (pc := 14) kc_X6 fl_X6_39 0 rfl rfl dX6_fitsV_14 ?_
    refine j_iload_n C (pc := 17) 3 rfl rfl dX6_fitsV_17 ?_
    refine j_iconst C (pc := 18) (v := 0) (by decide) dX6_fitsV_18 ?_
    refine j_cVI C (pc := 19) (As := [.int x3, .int (0 : Int32)]) (st := []) (ws' := fun q1 => [oX6 a_t r_t v_people v_day v_dead v_buried a_holding, oX3 (r_t 10) r_seen v_seen_limit v_seen_size, aI G (r_seen 0) 40 v_seen_cells, aI G (r_t 8) 36 v_hates, aI G (r_t 5) 6 v_kinds, aI G (r_t 13) 6 w_facts, oX2 a_holding r_holding v_holding_length v_holding_need, aI G (r_holding 0) 100 v_holding_steps, aI G (r_holding 1) 100 v_holding_numbers, aI G (r_t 9) 24 v_rows]) ml_X6_113 ms_X3_cell hf (fun q1 h => (c_X3_cell G K.2.1) (r_t 10) r_seen v_seen_limit v_seen_size v_seen_cells x3 (0 : Int32) q1 h) [1, 2] [none, some 0, some 1, none, none, none, none, none, none, none] 10 rfl (by decide +kernel) (by decide +kernel) (fun _ => rfl) (fun _ => rfl) rfl rfl rfl rfl ⟨Nat.zero_le _, Nat.zero_le _⟩ dX6_fitsV_19 kc_X3 1 rfl (fun q1 hf => ?_)
    refine j_iload_n C (pc := 22) 1 rfl rfl dX6_fitsV_22 ?_
    refine j_icmp_ne C (pc := 23) 108 dX6_fitsV_23 (by decide) hf (fun hf => ?_) (fun hf => ?_)
    · refine j_iinc C (pc := 108) (L' := [(3, .int (x3 + (1 : Int32))), (0, .ref a_t), (1, .int p1), (2, .int p2)]) (v := x3 + (1 : Int32)) dX6_fitsV_108 (t := 3) rfl rfl (by decide) rfl ?_
      refine j_goto C (pc := 111) 2 dX6_fitsV_111 (by decide) ?_
      refine j_sub [1, 2, 3, 0] rfl ?_
      exact hk2 _ _ hf
    · refine j_aload_n C (pc := 26) 0 rfl rfl dX6_fitsV_26 ?_
      refine j_get C (pc := 27) kc_X6 fl_X6_39 0 rfl rfl dX6_fitsV_27 ?_
      refine j_iload_n C (pc := 30) 3 rfl rfl dX6_fitsV_30 ?_
      refine j_iconst C (pc := 31) (v := 1) (by decide) dX6_fitsV_31 ?_
      refine j_cVI C (pc := 32) (As := [.int x3, .int (1 : Int32)]) (st := []) (ws' := fun q2 => [oX6 a_t r_t v_people v_day v_dead v_buried a_holding, oX3 (r_t 10) r_seen v_seen_limit v_seen_size, aI G (r_seen 0) 40 v_seen_cells, aI G (r_t 8) 36 v_hates, aI G (r_t 5) 6 v_kinds, aI G (r_t 13) 6 w_facts, oX2 a_holding r_holding v_holding_length v_holding_need, aI G (r_holding 0) 100 v_holding_steps, aI G (r_holding 1) 100 v_holding_numbers, aI G (r_t 9) 24 v_rows]) ml_X6_113 ms_X3_cell hf (fun q2 h => (c_X3_cell G K.2.1) (r_t 10) r_seen v_seen_limit v_seen_size v_seen_cells x3 (1 : Int32) q2 h) [1, 2] [none, some 0, some 1, none, none, none, none, none, none, none] 10 rfl (by decide +kernel) (by decide +kernel) (fun _ => rfl) (fun _ => rfl) rfl rfl rfl rfl ⟨Nat.zero_le _, Nat.zero_le _⟩ dX6_fitsV_32 kc_X3 1 rfl (fun q2 hf => ?_)
      refine j_istore C (pc := 35) (L' := [(4, .int q2), (0, .ref a_t), (1, .int p1), (2, .int p2), (3, .int x3)]) dX6_fitsV_35 (by decide) rfl ?_
      refine j_aload_n C (pc := 37) 1 rfl rfl dX6_fitsV_37 ?_
      refine j_iload_n C (pc := 38) 2 rfl rfl dX6_fitsV_38 ?_
      refine j_iload C (pc := 39) 0 rfl dX6_fitsV_39 ?_
      refine j_aload_n C (pc := 41) 1 rfl rfl dX6_fitsV_41 ?_
      refine j_get C (pc := 42) kc_X6 fl_X6_93 0 rfl rfl dX6_fitsV_42 ?_
      refine j_aload_n C (pc := 45) 1 rfl rfl dX6_fitsV_45 ?_
      refine j_get C (pc := 46) kc_X6 fl_X6_39 0 rfl rfl dX6_fitsV_46 ?_
      refine j_iload_n C (pc := 49) 4 rfl rfl dX6_fitsV_49 ?_
      refine j_iconst C (pc := 50) (v := 2) (by decide) dX6_fitsV_50 ?_
      refine j_cVI C (pc := 51) (As := [.int x3, .int (2 : Int32)]) (st := [.int v_day, .int q2, .int p1, .ref a_t]) (ws' := fun q3 => [oX6 a_t r_t v_people v_day v_dead v_buried a_holding, oX3 (r_t 10) r_seen v_seen_limit v_seen_size, aI G (r_seen 0) 40 v_seen_cells, aI G (r_t 8) 36 v_hates, aI G (r_t 5) 6 v_kinds, aI G (r_t 13) 6 w_facts, oX2 a_holding r_holding v_holding_length v_holding_need, aI G (r_holding 0) 100 v_holding_steps, aI G (r_holding 1) 100 v_holding_numbers, aI G (r_t 9) 24 v_rows]) ml_X6_113 ms_X3_cell hf (fun q3 h => (c_X3_cell G K.2.1) (r_t 10) r_seen v_seen_limit v_seen_size v_seen_cells x3 (2 : Int32) q3 h) [1, 2] [none, some 0, some 1, none, none, none, none, none, none, none] 10 rfl (by decide +kernel) (by decide +kernel) (fun _ => rfl) (fun _ => rfl) rfl rfl rfl rfl ⟨Nat.zero_le _, Nat.zero_le _⟩ dX6_fitsV_51 kc_X3 1 rfl (fun q3 hf => ?_)
      refine j_iadd C (pc := 54) dX6_fitsV_54 ?_
      refine j_aload_n C (pc := 55) 1 rfl rfl dX6_fitsV_55 ?_
      refine j_iload_n C (pc := 56) 2 rfl rfl dX6_fitsV_56 ?_
      refine j_iload C (pc := 57) 0 rfl dX6_fitsV_57 ?_
      refine j_cVI C (pc := 59) (As := [.int p1, .int q2]) (st := [.int (v_day + q3), .int q2, .int p1, .ref a_t]) (ws' := fun q4 => [oX6 a_t r_t v_people v_day v_dead v_buried a_holding, oX3 (r_t 10) r_seen v_seen_limit v_seen_size, aI G (r_seen 0) 40 v_seen_cells, aI G (r_t 8) 36 v_hates, aI G (r_t 5) 6 v_kinds, aI G (r_t 13) 6 w_facts, oX2 a_holding r_holding v_holding_length v_holding_need, aI G (r_holding 0) 100 v_holding_steps, aI G (r_holding 1) 100 v_holding_numbers, aI G (r_t 9) 24 v_rows]) ml_X6_76 ms_X6_hateOf hf (fun q4 h => (c_X6_hateOf G K.2.1) a_t r_t v_people v_day v_dead v_buried a_holding v_hates p1 q2 q4 h) [0, 3] [some 0, none, none, some 1, none, none, none, none, none, none] 10 rfl (by decide +kernel) (by decide +kernel) (fun _ => rfl) (fun _ => rfl) rfl rfl rfl rfl ⟨Nat.zero_le _, Nat.zero_le _⟩ dX6_fitsV_59 kc_X6 0 rfl (fun q4 hf => ?_)
      refine j_iload_n C (pc := 62) 3 rfl rfl dX6_fitsV_62 ?_
      refine j_cVI C (pc := 63) (As := [.int p1, .int q2, .int (v_day + q3), .int q4, .int p2]) (st := []) (ws' := fun q5 => [oX6 a_t r_t v_people v_day v_dead v_buried a_holding, oX3 (r_t 10) r_seen v_seen_limit v_seen_size, aI G (r_seen 0) 40 v_seen_cells, aI G (r_t 8) 36 v_hates, aI G (r_t 5) 6 v_kinds, aI G (r_t 13) 6 q5.2, oX2 a_holding r_holding v_holding_length v_holding_need, aI G (r_holding 0) 100 v_holding_steps, aI G (r_holding 1) 100 v_holding_numbers, aI G (r_t 9) 24 v_rows]) ml_X6_79 ms_X6_spite hf (fun q5 h => (c_X6_spite G K.2.1) a_t r_t r_holding v_people v_day v_dead v_buried a_holding v_kinds w_facts v_holding_length v_holding_need v_holding_steps v_holding_numbers v_rows p1 q2 (v_day + q3) q4 p2 q5 h) [0, 4, 5, 6, 7, 8, 9] [some 0, none, none, none, some 1, some 2, some 3, some 4, some 5, some 6] 10 rfl (by decide +kernel) (by decide +kernel) (fun _ => rfl) (fun _ => rfl) rfl rfl rfl rfl ⟨Nat.zero_le _, Nat.zero_le _⟩ dX6_fitsV_63 kc_X6 0 rfl (fun q5 hf => ?_)
      refine j_istore C (pc := 66) (L' := [(5, .int q5.1), (4, .int q2), (0, .ref a_t), (1, .int p1), (2, .int p2), (3, .int x3)]) dX6_fitsV_66 (by decide) rfl ?_
      refine j_iload C (pc := 68) 0 rfl dX6_fitsV_68 ?_
      refine j_aload_n C (pc := 70) 2 rfl rfl dX6_fitsV_70 ?_
      refine j_get C (pc := 71) kc_X6 fl_X6_12 0 rfl rfl dX6_fitsV_71 ?_
      refine j_getN C (pc := 74) kc_X2 fl_X6_83 6 rfl rfl dX6_fitsV_74 ?_
      refine j_icmp_lt C (pc := 77) 84 dX6_fitsV_77 (by decide) hf (fun hf => ?_) (fun hf => ?_)
      · refine j_iconst C (pc := 84) (v := 0) (by decide) dX6_fitsV_84 ?_
        refine j_sub [2, 3, 4, 5] rfl ?_
        exact t_X6_fitsV_85 C hQ hk2 hf
      · refine j_iconst C (pc := 80) (v := 1) (by decide) dX6_fitsV_80 ?_
        refine j_goto C (pc := 81) 85 dX6_fitsV_81 (by decide) ?_
        refine j_sub [2, 3, 4, 5] rfl ?_
        exact t_X6_fitsV_85 C hQ hk2 hf
theorem t_X6_fitsV_2 {G : Gx} {K : Kx} (C : Cx G K cX6_fitsV RX6 6 3) {a_t : Nat} {r_t : Nat → Nat} {r_seen : Nat → Nat} {r_holding : Nat → Nat} {v_people : Int32} {v_day : Int32} {v_dead : Int32} {v_buried : Int32} {a_holding : Nat} {v_seen_limit : Int32} {v_seen_size : Int32} {v_seen_cells : Nat → Int32} {v_hates : Nat → Int32} {v_kinds : Nat → Int32} {v_holding_length : Int32} {v_holding_need : Int32} {v_holding_steps : Nat → Int32} {v_holding_numbers : Nat → Int32} {v_rows : Nat → Int32} {p1 : Int32} {p2 : Int32} {q : Int32 × (Nat → Int32)} (hQ : k_retI G K cX6_fitsV 6 .boolean [oX6 a_t r_t v_people v_day v_dead v_buried a_holding, oX3 (r_t 10) r_seen v_seen_limit v_seen_size, aI G (r_seen 0) 40 v_seen_cells, aI G (r_t 8) 36 v_hates, aI G (r_t 5) 6 v_kinds, aI G (r_t 13) 6 q.2, oX2 a_holding r_holding v_holding_length v_holding_need, aI G (r_holding 0) 100 v_holding_steps, aI G (r_holding 1) 100 v_holding_numbers, aI G (r_t 9) 24 v_rows] q.1) : ∀ (n : Nat) (x3 : Int32) (w_facts : Nat → Int32), f_X6_fitsV_2 v_people v_day v_seen_size v_seen_cells v_hates v_kinds v_holding_length v_holding_need v_holding_steps v_holding_numbers v_rows p1 p2 n x3 w_facts = some q → J G K 6 0 0 [oX6 a_t r_t v_people v_day v_dead v_buried a_holding, oX3 (r_t 10) r_seen v_seen_limit v_seen_size, aI G (r_seen 0) 40 v_seen_cells, aI G (r_t 8) 36 v_hates, aI G (r_t 5) 6 v_kinds, aI G (r_t 13) 6 w_facts, oX2 a_holding r_holding v_holding_length v_holding_need, aI G (r_holding 0) 100 v_holding_steps, aI G (r_holding 1) 100 v_holding_numbers, aI G (r_t 9) 24 v_rows] [(0, .ref a_t), (1, .int p1), (2, .int p2), (3, .int x3)] 2 [] := by
  intro n
  induction n with
  | zero => intro x3 w_facts hf; cases hf
  | succ n ih => intro x3 w_facts hf; exact t_X6_fitsV_2_b C hQ ih hf
def f_X6_fitsV (v_people : Int32) (v_day : Int32) (v_seen_size : Int32) (v_seen_cells : Nat → Int32) (v_hates : Nat → Int32) (v_kinds : Nat → Int32) (v_facts : Nat → Int32) (v_holding_length : Int32) (v_holding_need : Int32) (v_holding_steps : Nat → Int32) (v_holding_numbers : Nat → Int32) (v_rows : Nat → Int32) (p1 : Int32) (p2 : Int32) : Option (Int32 × (Nat → Int32)) := (f_X6_fitsV_2 v_people v_day v_seen_size v_seen_cells v_hates v_kinds v_holding_length v_holding_need v_holding_steps v_holding_numbers v_rows p1 p2 1000 (0 : Int32) v_facts)
set_option maxRecDepth 20000 in
set_option maxHeartbeats 1000000 in
theorem t_X6_fitsV {G : Gx} {K : Kx} (C : Cx G K cX6_fitsV RX6 6 3) {a_t : Nat} {r_t : Nat → Nat} {r_seen : Nat → Nat} {r_holding : Nat → Nat} {v_people : Int32} {v_day : Int32} {v_dead : Int32} {v_buried : Int32} {a_holding : Nat} {v_seen_limit : Int32} {v_seen_size : Int32} {v_seen_cells : Nat → Int32} {v_hates : Nat → Int32} {v_kinds : Nat → Int32} {v_facts : Nat → Int32} {v_holding_length : Int32} {v_holding_need : Int32} {v_holding_steps : Nat → Int32} {v_holding_numbers : Nat → Int32} {v_rows : Nat → Int32} {p1 : Int32} {p2 : Int32} {q : Int32 × (Nat → Int32)} (hQ : k_retI G K cX6_fitsV 6 .boolean [oX6 a_t r_t v_people v_day v_dead v_buried a_holding, oX3 (r_t 10) r_seen v_seen_limit v_seen_size, aI G (r_seen 0) 40 v_seen_cells, aI G (r_t 8) 36 v_hates, aI G (r_t 5) 6 v_kinds, aI G (r_t 13) 6 q.2, oX2 a_holding r_holding v_holding_length v_holding_need, aI G (r_holding 0) 100 v_holding_steps, aI G (r_holding 1) 100 v_holding_numbers, aI G (r_t 9) 24 v_rows] q.1) (hf : f_X6_fitsV v_people v_day v_seen_size v_seen_cells v_hates v_kinds v_facts v_holding_length v_holding_need v_holding_steps v_holding_numbers v_rows p1 p2 = some q) : J G K 6 0 0 [oX6 a_t r_t v_people v_day v_dead v_buried a_holding, oX3 (r_t 10) r_seen v_seen_limit v_seen_size, aI G (r_seen 0) 40 v_seen_cells, aI G (r_t 8) 36 v_hates, aI G (r_t 5) 6 v_kinds, aI G (r_t 13) 6 v_facts, oX2 a_holding r_holding v_holding_length v_holding_need, aI G (r_holding 0) 100 v_holding_steps, aI G (r_holding 1) 100 v_holding_numbers, aI G (r_t 9) 24 v_rows] [(0, .ref a_t), (1, .int p1), (2, .int p2)] 0 [] := by
  unfold f_X6_fitsV at hf
  refine j_iconst C (pc := 0) (v := 0) (by decide) dX6_fitsV_0 ?_
  refine j_istore_n C (pc := 1) (L' := [(3, .int (0 : Int32)), (0, .ref a_t), (1, .int p1), (2, .int p2)]) dX6_fitsV_1 rfl (by decide) rfl ?_
  refine j_sub [1, 2, 3, 0] rfl ?_
  exact t_X6_fitsV_2 C hQ 1000 _ _ hf
def ct_X6_fitsV (G : Gx) (l : Launch) (F : Int32 → Int32 → Int32 → (Nat → Int32) → (Nat → Int32) → (Nat → Int32) → (Nat → Int32) → Int32 → Int32 → (Nat → Int32) → (Nat → Int32) → (Nat → Int32) → Int32 → Int32 → Option (Int32 × (Nat → Int32))) (lv : Nat) : Prop := ∀ (a_t : Nat) (r_t : Nat → Nat) (r_seen : Nat → Nat) (r_holding : Nat → Nat) (v_people : Int32) (v_day : Int32) (v_dead : Int32) (v_buried : Int32) (a_holding : Nat) (v_seen_limit : Int32) (v_seen_size : Int32) (v_seen_cells : Nat → Int32) (v_hates : Nat → Int32) (v_kinds : Nat → Int32) (v_facts : Nat → Int32) (v_holding_length : Int32) (v_holding_need : Int32) (v_holding_steps : Nat → Int32) (v_holding_numbers : Nat → Int32) (v_rows : Nat → Int32) (p1 : Int32) (p2 : Int32), ∀ (q : Int32 × (Nat → Int32)), F v_people v_day v_seen_size v_seen_cells v_hates v_kinds v_facts v_holding_length v_holding_need v_holding_steps v_holding_numbers v_rows p1 p2 = some q → MI G l yX6_fitsV cX6_fitsV 6 .boolean lv [.ref a_t, .int p1, .int p2] [oX6 a_t r_t v_people v_day v_dead v_buried a_holding, oX3 (r_t 10) r_seen v_seen_limit v_seen_size, aI G (r_seen 0) 40 v_seen_cells, aI G (r_t 8) 36 v_hates, aI G (r_t 5) 6 v_kinds, aI G (r_t 13) 6 v_facts, oX2 a_holding r_holding v_holding_length v_holding_need, aI G (r_holding 0) 100 v_holding_steps, aI G (r_holding 1) 100 v_holding_numbers, aI G (r_t 9) 24 v_rows] [oX6 a_t r_t v_people v_day v_dead v_buried a_holding, oX3 (r_t 10) r_seen v_seen_limit v_seen_size, aI G (r_seen 0) 40 v_seen_cells, aI G (r_t 8) 36 v_hates, aI G (r_t 5) 6 v_kinds, aI G (r_t 13) 6 q.2, oX2 a_holding r_holding v_holding_length v_holding_need, aI G (r_holding 0) 100 v_holding_steps, aI G (r_holding 1) 100 v_holding_numbers, aI G (r_t 9) 24 v_rows] q.1
theorem c_X6_fitsV (G : Gx) (l : Launch) : ct_X6_fitsV G l f_X6_fitsV 3 := by
  intro a_t r_t r_seen r_holding v_people v_day v_dead v_buried a_holding v_seen_limit v_seen_size v_seen_cells v_hates v_kinds v_facts v_holding_length v_holding_need v_holding_steps v_holding_numbers v_rows p1 p2 q hf
  exact mI_of (by decide +kernel) rfl (fun K hl C hQ => t_X6_fitsV C hQ hf)
-- X7_firstOf
def f_X7_firstOf_2_b (p1 : Int32) (k2 : Int32 → Option (Int32)) (x1 : Int32) : Option (Int32) := (if (6 : Int32) ≤ x1 then (some (-1 : Int32)) else ((f_X7_bit p1 x1).bind fun q1 => (if q1 = (1 : Int32) then (some x1) else (k2 (x1 + (1 : Int32))))))
def f_X7_firstOf_2 (p1 : Int32) : Nat → Int32 → Option (Int32)
  | 0 => fun _ => none
  | n + 1 => f_X7_firstOf_2_b p1 (f_X7_firstOf_2 p1 n)
set_option maxRecDepth 20000 in
set_option maxHeartbeats 1000000 in
theorem t_X7_firstOf_2_b {G : Gx} {K : Kx} (C : Cx G K cX7_firstOf RX7 2 2) {p1 : Int32} {q : Int32} (hQ : k_retI G K cX7_firstOf 2 .int [] q) {k2 : Int32 → Option (Int32)} (hk2 : ∀ (x1 : Int32), k2 x1 = some q → J G K 2 0 0 [] [(0, .int p1), (1, .int x1)] 2 []) {x1 : Int32} (hf : f_X7_firstOf_2_b p1 k2 x1 = some q) : J G K 2 0 0 [] [(0, .int p1), (1, .int x1)] 2 [] := by
  unfold f_X7_firstOf_2_b at hf
  refine j_iload_n C (pc := 2) 1 rfl rfl dX7_firstOf_2 ?_
  refine j_bipush C (pc := 3) (v := 6) (by decide) dX7_firstOf_3 ?_
  refine j_icmp_ge C (pc := 5) 25 dX7_firstOf_5 (by decide) hf (fun hf => ?_) (fun hf => ?_)
  · refine j_iconst C (pc := 25) (v := -1) (by decide) dX7_firstOf_25 ?_
    obtain rfl := Option.some.inj hf
    exact hQ _ _ dX7_firstOf_26 rfl
  · refine j_iload_n C (pc := 8) 0 rfl rfl dX7_firstOf_8 ?_
    refine j_iload_n C (pc := 9) 1 rfl rfl dX7_firstOf_9 ?_
    refine j_cSI C (pc := 10) (As := [.int p1, .int x1]) (st := []) (ws' := fun q1 => []) ml_X7_78 ms_X7_bit hf (fun q1 h => (c_X7_bit G K.2.1) p1 x1 q1 h) [] [] 0 rfl (by decide +kernel) (by decide +kernel) (fun _ => rfl) (fun _ => rfl) rfl rfl rfl rfl ⟨Nat.zero_le _, Nat.zero_le _⟩ dX7_firstOf_10 (fun q1 hf => ?_)
    refine j_iconst C (pc := 13) (v := 1) (by decide) dX7_firstOf_13 ?_
    refine j_icmp_ne C (pc := 14) 19 dX7_firstOf_14 (by decide) hf (fun hf => ?_) (fun hf => ?_)
    · refine j_iinc C (pc := 19) (L' := [(1, .int (x1 + (1 : Int32))), (0, .int p1)]) (v := x1 + (1 : Int32)) dX7_firstOf_19 (t := 1) rfl rfl (by decide) rfl ?_
      refine j_goto C (pc := 22) 2 dX7_firstOf_22 (by decide) ?_
      refine j_sub [1, 0] rfl ?_
      exact hk2 _ hf
    · refine j_iload_n C (pc := 17) 1 rfl rfl dX7_firstOf_17 ?_
      obtain rfl := Option.some.inj hf
      exact hQ _ _ dX7_firstOf_18 rfl
theorem t_X7_firstOf_2 {G : Gx} {K : Kx} (C : Cx G K cX7_firstOf RX7 2 2) {p1 : Int32} {q : Int32} (hQ : k_retI G K cX7_firstOf 2 .int [] q) : ∀ (n : Nat) (x1 : Int32), f_X7_firstOf_2 p1 n x1 = some q → J G K 2 0 0 [] [(0, .int p1), (1, .int x1)] 2 [] := by
  intro n
  induction n with
  | zero => intro x1 hf; cases hf
  | succ n ih => intro x1 hf; exact t_X7_firstOf_2_b C hQ ih hf
def f_X7_firstOf (p1 : Int32) : Option (Int32) := (f_X7_firstOf_2 p1 1000 (0 : Int32))
set_option maxRecDepth 20000 in
set_option maxHeartbeats 1000000 in
theorem t_X7_firstOf {G : Gx} {K : Kx} (C : Cx G K cX7_firstOf RX7 2 2) {p1 : Int32} {q : Int32} (hQ : k_retI G K cX7_firstOf 2 .int [] q) (hf : f_X7_firstOf p1 = some q) : J G K 2 0 0 [] [(0, .int p1)] 0 [] := by
  unfold f_X7_firstOf at hf
  refine j_iconst C (pc := 0) (v := 0) (by decide) dX7_firstOf_0 ?_
  refine j_istore_n C (pc := 1) (L' := [(1, .int (0 : Int32)), (0, .int p1)]) dX7_firstOf_1 rfl (by decide) rfl ?_
  refine j_sub [1, 0] rfl ?_
  exact t_X7_firstOf_2 C hQ 1000 _ hf
def ct_X7_firstOf (G : Gx) (l : Launch) (F : Int32 → Option (Int32)) (lv : Nat) : Prop := ∀ (p1 : Int32), ∀ (q : Int32), F p1 = some q → MI G l yX7_firstOf cX7_firstOf 2 .int lv [.int p1] [] [] q
theorem c_X7_firstOf (G : Gx) (l : Launch) : ct_X7_firstOf G l f_X7_firstOf 2 := by
  intro p1 q hf
  exact mI_of (by decide +kernel) rfl (fun K hl C hQ => t_X7_firstOf C hQ hf)
-- X6_setHate
def f_X6_setHate (v_people : Int32) (v_hates : Nat → Int32) (p1 : Int32) (p2 : Int32) (p3 : Int32) : Option ((Nat → Int32)) := ((f_X6_has v_people p1).bind fun q1 => (if q1 = 0 then (some v_hates) else ((f_X6_has v_people p2).bind fun q2 => (if q2 = 0 then (some v_hates) else (gd ((p1 * (6 : Int32)) + p2) 36 (some (upd v_hates ((p1 * (6 : Int32)) + p2).toNatClampNeg p3)))))))
set_option maxRecDepth 20000 in
set_option maxHeartbeats 1000000 in
theorem t_X6_setHate {G : Gx} {K : Kx} (C : Cx G K cX6_setHate RX6 4 2) {a_t : Nat} {r_t : Nat → Nat} {v_people : Int32} {v_day : Int32} {v_dead : Int32} {v_buried : Int32} {a_holding : Nat} {v_hates : Nat → Int32} {p1 : Int32} {p2 : Int32} {p3 : Int32} {q : (Nat → Int32)} (hQ : k_retV G K cX6_setHate 4 [oX6 a_t r_t v_people v_day v_dead v_buried a_holding, aI G (r_t 8) 36 q]) (hf : f_X6_setHate v_people v_hates p1 p2 p3 = some q) : J G K 4 0 0 [oX6 a_t r_t v_people v_day v_dead v_buried a_holding, aI G (r_t 8) 36 v_hates] [(0, .ref a_t), (1, .int p1), (2, .int p2), (3, .int p3)] 0 [] := by
  unfold f_X6_setHate at hf
  refine j_aload_n C (pc := 0) 0 rfl rfl dX6_setHate_0 ?_
  refine j_iload_n C (pc := 1) 1 rfl rfl dX6_setHate_1 ?_
  refine j_cVI C (pc := 2) (As := [.int p1]) (st := []) (ws' := fun q1 => [oX6 a_t r_t v_people v_day v_dead v_buried a_holding, aI G (r_t 8) 36 v_hates]) ml_X6_56 ms_X6_has hf (fun q1 h => (c_X6_has G K.2.1) a_t r_t v_people v_day v_dead v_buried a_holding p1 q1 h) [0] [some 0, none] 2 rfl (by decide +kernel) (by decide +kernel) (fun _ => rfl) (fun _ => rfl) rfl rfl rfl rfl ⟨Nat.zero_le _, Nat.zero_le _⟩ dX6_setHate_2 kc_X6 0 rfl (fun q1 hf => ?_)
  refine j_if_eq C (pc := 5) 28 dX6_setHate_5 (by decide) hf (fun hf => ?_) (fun hf => ?_)
  · obtain rfl := Option.some.inj hf
    exact hQ _ _ dX6_setHate_28
  · refine j_aload_n C (pc := 8) 0 rfl rfl dX6_setHate_8 ?_
    refine j_iload_n C (pc := 9) 2 rfl rfl dX6_setHate_9 ?_
    refine j_cVI C (pc := 10) (As := [.int p2]) (st := []) (ws' := fun q2 => [oX6 a_t r_t v_people v_day v_dead v_buried a_holding, aI G (r_t 8) 36 v_hates]) ml_X6_56 ms_X6_has hf (fun q2 h => (c_X6_has G K.2.1) a_t r_t v_people v_day v_dead v_buried a_holding p2 q2 h) [0] [some 0, none] 2 rfl (by decide +kernel) (by decide +kernel) (fun _ => rfl) (fun _ => rfl) rfl rfl rfl rfl ⟨Nat.zero_le _, Nat.zero_le _⟩ dX6_setHate_10 kc_X6 0 rfl (fun q2 hf => ?_)
    refine j_if_eq C (pc := 13) 28 dX6_setHate_13 (by decide) hf (fun hf => ?_) (fun hf => ?_)
    · obtain rfl := Option.some.inj hf
      exact hQ _ _ dX6_setHate_28
    · refine j_aload_n C (pc := 16) 0 rfl rfl dX6_setHate_16 ?_
      refine j_get C (pc := 17) kc_X6 fl_X6_28 0 rfl rfl dX6_setHate_17 ?_
      refine j_iload_n C (pc := 20) 1 rfl rfl dX6_setHate_20 ?_
      refine j_bipush C (pc := 21) (v := 6) (by decide) dX6_setHate_21 ?_
      refine j_imul C (pc := 23) dX6_setHate_23 ?_
      refine j_iload_n C (pc := 24) 2 rfl rfl dX6_setHate_24 ?_
      refine j_iadd C (pc := 25) dX6_setHate_25 ?_
      refine j_iload_n C (pc := 26) 3 rfl rfl dX6_setHate_26 ?_
      refine j_iast C (pc := 27) (ws' := [oX6 a_t r_t v_people v_day v_dead v_buried a_holding, aI G (r_t 8) 36 (upd v_hates ((p1 * (6 : Int32)) + p2).toNatClampNeg p3)]) 1 rfl hf rfl dX6_setHate_27 (fun hf => ?_)
      obtain rfl := Option.some.inj hf
      exact hQ _ _ dX6_setHate_28
def ct_X6_setHate (G : Gx) (l : Launch) (F : Int32 → (Nat → Int32) → Int32 → Int32 → Int32 → Option ((Nat → Int32))) (lv : Nat) : Prop := ∀ (a_t : Nat) (r_t : Nat → Nat) (v_people : Int32) (v_day : Int32) (v_dead : Int32) (v_buried : Int32) (a_holding : Nat) (v_hates : Nat → Int32) (p1 : Int32) (p2 : Int32) (p3 : Int32), ∀ (q : (Nat → Int32)), F v_people v_hates p1 p2 p3 = some q → MV G l yX6_setHate cX6_setHate 4 lv [.ref a_t, .int p1, .int p2, .int p3] [oX6 a_t r_t v_people v_day v_dead v_buried a_holding, aI G (r_t 8) 36 v_hates] [oX6 a_t r_t v_people v_day v_dead v_buried a_holding, aI G (r_t 8) 36 q]
theorem c_X6_setHate (G : Gx) (l : Launch) : ct_X6_setHate G l f_X6_setHate 2 := by
  intro a_t r_t v_people v_day v_dead v_buried a_holding v_hates p1 p2 p3 q hf
  exact mV_of (by decide +kernel) rfl (fun K hl C hQ => t_X6_setHate C hQ hf)
-- X6_goDay
def f_X6_goDay_4_b (v_people : Int32) (v_day : Int32) (v_dead : Int32) (v_vs : Nat → Int32) (v_kinds : Nat → Int32) (v_holding_length : Int32) (v_holding_need : Int32) (v_holding_steps : Nat → Int32) (v_holding_numbers : Nat → Int32) (v_rows : Nat → Int32) (p1 : Int32) (k4 : Int32 → Int32 → (Nat → Int32) → Int32 → (Nat → Int32) → (Nat → Int32) → Option (Int32 × (Nat → Int32) × Int32 × (Nat → Int32) × (Nat → Int32))) (x2 : Int32) (x3 : Int32) (w_facts : Nat → Int32) (w_buried : Int32) (w_thrown : Nat → Int32) (w_hates : Nat → Int32) : Option (Int32 × (Nat → Int32) × Int32 × (Nat → Int32) × (Nat → Int32)) := (if v_people ≤ x3 then (some (v_day + (1 : Int32), w_facts, w_buried, w_thrown, w_hates)) else ((f_X7_bit (v_dead &&& (w_buried ^^^ (-1 : Int32))) x3).bind fun q1 => (if q1 = 0 then (k4 x2 (x3 + (1 : Int32)) w_facts w_buried w_thrown w_hates) else ((f_X6_enemiesOf v_people v_dead w_hates v_vs v_kinds w_facts v_holding_length v_holding_need v_holding_steps v_holding_numbers v_rows x3 v_day).bind fun q2 => ((f_X7_firstOf (q2.1 &&& (x2 ^^^ (-1 : Int32)))).bind fun q3 => ((f_X6_has v_people q3).bind fun q4 => (if q4 = 0 then (k4 x2 (x3 + (1 : Int32)) q2.2 w_buried w_thrown w_hates) else (nm (x2 ||| ((1 : Int32) <<< (q3 &&& 31))) fun y5 => (gd q3 6 ((f_J9_min_7cf53 ((w_thrown q3.toNatClampNeg) + (1 : Int32)) p1).bind fun q6 => (gd q3 6 ((f_X6_setHate v_people w_hates q3 x3 (0 : Int32)).bind fun q7 => (k4 y5 (x3 + (1 : Int32)) q2.2 (w_buried ||| ((1 : Int32) <<< (x3 &&& 31))) (upd w_thrown q3.toNatClampNeg q6) q7)))))))))))))
def f_X6_goDay_4 (v_people : Int32) (v_day : Int32) (v_dead : Int32) (v_vs : Nat → Int32) (v_kinds : Nat → Int32) (v_holding_length : Int32) (v_holding_need : Int32) (v_holding_steps : Nat → Int32) (v_holding_numbers : Nat → Int32) (v_rows : Nat → Int32) (p1 : Int32) : Nat → Int32 → Int32 → (Nat → Int32) → Int32 → (Nat → Int32) → (Nat → Int32) → Option (Int32 × (Nat → Int32) × Int32 × (Nat → Int32) × (Nat → Int32))
  | 0 => fun _ _ _ _ _ _ => none
  | n + 1 => f_X6_goDay_4_b v_people v_day v_dead v_vs v_kinds v_holding_length v_holding_need v_holding_steps v_holding_numbers v_rows p1 (f_X6_goDay_4 v_people v_day v_dead v_vs v_kinds v_holding_length v_holding_need v_holding_steps v_holding_numbers v_rows p1 n)
set_option maxRecDepth 20000 in
set_option maxHeartbeats 1000000 in
theorem t_X6_goDay_4_b {G : Gx} {K : Kx} (C : Cx G K cX6_goDay RX6 5 5) {a_t : Nat} {r_t : Nat → Nat} {r_holding : Nat → Nat} {v_people : Int32} {v_day : Int32} {v_dead : Int32} {a_holding : Nat} {v_vs : Nat → Int32} {v_kinds : Nat → Int32} {v_holding_length : Int32} {v_holding_need : Int32} {v_holding_steps : Nat → Int32} {v_holding_numbers : Nat → Int32} {v_rows : Nat → Int32} {p1 : Int32} {q : Int32 × (Nat → Int32) × Int32 × (Nat → Int32) × (Nat → Int32)} (hQ : k_retV G K cX6_goDay 5 [oX6 a_t r_t v_people q.1 v_dead q.2.2.1 a_holding, aI G (r_t 8) 36 q.2.2.2.2, aI G (r_t 6) 6 v_vs, aI G (r_t 5) 6 v_kinds, aI G (r_t 13) 6 q.2.1, oX2 a_holding r_holding v_holding_length v_holding_need, aI G (r_holding 0) 100 v_holding_steps, aI G (r_holding 1) 100 v_holding_numbers, aI G (r_t 9) 24 v_rows, aI G (r_t 7) 6 q.2.2.2.1]) {k4 : Int32 → Int32 → (Nat → Int32) → Int32 → (Nat → Int32) → (Nat → Int32) → Option (Int32 × (Nat → Int32) × Int32 × (Nat → Int32) × (Nat → Int32))} (hk4 : ∀ (x2 : Int32) (x3 : Int32) (w_facts : Nat → Int32) (w_buried : Int32) (w_thrown : Nat → Int32) (w_hates : Nat → Int32), k4 x2 x3 w_facts w_buried w_thrown w_hates = some q → J G K 5 0 0 [oX6 a_t r_t v_people v_day v_dead w_buried a_holding, aI G (r_t 8) 36 w_hates, aI G (r_t 6) 6 v_vs, aI G (r_t 5) 6 v_kinds, aI G (r_t 13) 6 w_facts, oX2 a_holding r_holding v_holding_length v_holding_need, aI G (r_holding 0) 100 v_holding_steps, aI G (r_holding 1) 100 v_holding_numbers, aI G (r_t 9) 24 v_rows, aI G (r_t 7) 6 w_thrown] [(0, .ref a_t), (1, .int p1), (2, .int x2), (3, .int x3)] 4 []) {x2 : Int32} {x3 : Int32} {w_facts : Nat → Int32} {w_buried : Int32} {w_thrown : Nat → Int32} {w_hates : Nat → Int32} (hf : f_X6_goDay_4_b v_people v_day v_dead v_vs v_kinds v_holding_length v_holding_need v_holding_steps v_holding_numbers v_rows p1 k4 x2 x3 w_facts w_buried w_thrown w_hates = some q) : J G K 5 0 0 [oX6 a_t r_t v_people v_day v_dead w_buried a_holding, aI G (r_t 8) 36 w_hates, aI G (r_t 6) 6 v_vs, aI G (r_t 5) 6 v_kinds, aI G (r_t 13) 6 w_facts, oX2 a_holding r_holding v_holding_length v_holding_need, aI G (r_holding 0) 100 v_holding_steps, aI G (r_holding 1) 100 v_holding_numbers, aI G (r_t 9) 24 v_rows, aI G (r_t 7) 6 w_thrown] [(0, .ref a_t), (1, .int p1), (2, .int x2), (3, .int x3)] 4 [] := by
  unfold f_X6_goDay_4_b at hf
  refine j_iload_n C (pc := 4) 3 rfl rfl dX6_goDay_4 ?_
  refine j_aload_n C (pc := 5) 0 rfl rfl dX6_goDay_5 ?_
  refine j_get C (pc := 6) kc_X6 fl_X6_52 0 rfl rfl dX6_goDay_6 ?_
  refine j_icmp_ge C (pc := 9) 113 dX6_goDay_9 (by decide) hf (fun hf => ?_) (fun hf => ?_)
  · refine j_aload_n C (pc := 113) 0 rfl rfl dX6_goDay_113 ?_
    refine j_dup C (pc := 114) rfl dX6_goDay_114 ?_
    refine j_get C (pc := 115) kc_X6 fl_X6_93 0 rfl rfl dX6_goDay_115 ?_
    refine j_iconst C (pc := 118) (v := 1) (by decide) dX6_goDay_118 ?_
    refine j_iadd C (pc := 119) dX6_goDay_119 ?_
    refine j_put C (pc := 120) (ws' := [oX6 a_t r_t v_people (v_day + (1 : Int32)) v_dead w_buried a_holding, aI G (r_t 8) 36 w_hates, aI G (r_t 6) 6 v_vs, aI G (r_t 5) 6 v_kinds, aI G (r_t 13) 6 w_facts, oX2 a_holding r_holding v_holding_length v_holding_need, aI G (r_holding 0) 100 v_holding_steps, aI G (r_holding 1) 100 v_holding_numbers, aI G (r_t 9) 24 v_rows, aI G (r_t 7) 6 w_thrown]) kc_X6 fl_X6_93 0 rfl rfl rfl rfl rfl rfl dX6_goDay_120 ?_
    obtain rfl := Option.some.inj hf
    exact hQ _ _ dX6_goDay_123
  · refine j_aload_n C (pc := 12) 0 rfl rfl dX6_goDay_12 ?_
    refine j_get C (pc := 13) kc_X6 fl_X6_60 0 rfl rfl dX6_goDay_13 ?_
    refine j_aload_n C (pc := 16) 0 rfl rfl dX6_goDay_16 ?_
    refine j_get C (pc := 17) kc_X6 fl_X6_90 0 rfl rfl dX6_goDay_17 ?_
    refine j_iconst C (pc := 20) (v := -1) (by decide) dX6_goDay_20 ?_
    refine j_ixor C (pc := 21) dX6_goDay_21 ?_
    refine j_iand C (pc := 22) dX6_goDay_22 ?_
    refine j_iload_n C (pc := 23) 3 rfl rfl dX6_goDay_23 ?_
    refine j_cSNI C (pc := 24) (As := [.int (v_dead &&& (w_buried ^^^ (-1 : Int32))), .int x3]) (st := []) (ws' := fun q1 => [oX6 a_t r_t v_people v_day v_dead w_buried a_holding, aI G (r_t 8) 36 w_hates, aI G (r_t 6) 6 v_vs, aI G (r_t 5) 6 v_kinds, aI G (r_t 13) 6 w_facts, oX2 a_holding r_holding v_holding_length v_holding_need, aI G (r_holding 0) 100 v_holding_steps, aI G (r_holding 1) 100 v_holding_numbers, aI G (r_t 9) 24 v_rows, aI G (r_t 7) 6 w_thrown]) ml_X6_73 ms_X7_bit hf (fun q1 h => (c_X7_bit G K.2.1) (v_dead &&& (w_buried ^^^ (-1 : Int32))) x3 q1 h) [] [none, none, none, none, none, none, none, none, none, none] 10 rfl (by decide +kernel) (by decide +kernel) (fun _ => rfl) (fun _ => rfl) rfl rfl rfl rfl ⟨Nat.zero_le _, Nat.zero_le _⟩ dX6_goDay_24 (fun q1 hf => ?_)
    refine j_if_ne C (pc := 27) 33 dX6_goDay_27 (by decide) hf (fun hf => ?_) (fun hf => ?_)
    · refine j_aload_n C (pc := 33) 0 rfl rfl dX6_goDay_33 ?_
      refine j_iload_n C (pc := 34) 3 rfl rfl dX6_goDay_34 ?_
      refine j_aload_n C (pc := 35) 0 rfl rfl dX6_goDay_35 ?_
      refine j_get C (pc := 36) kc_X6 fl_X6_93 0 rfl rfl dX6_goDay_36 ?_
      refine j_cVI C (pc := 39) (As := [.int x3, .int v_day]) (st := []) (ws' := fun q2 => [oX6 a_t r_t v_people v_day v_dead w_buried a_holding, aI G (r_t 8) 36 w_hates, aI G (r_t 6) 6 v_vs, aI G (r_t 5) 6 v_kinds, aI G (r_t 13) 6 q2.2, oX2 a_holding r_holding v_holding_length v_holding_need, aI G (r_holding 0) 100 v_holding_steps, aI G (r_holding 1) 100 v_holding_numbers, aI G (r_t 9) 24 v_rows, aI G (r_t 7) 6 w_thrown]) ml_X6_96 ms_X6_enemiesOf hf (fun q2 h => (c_X6_enemiesOf G K.2.1) a_t r_t r_holding v_people v_day v_dead w_buried a_holding w_hates v_vs v_kinds w_facts v_holding_length v_holding_need v_holding_steps v_holding_numbers v_rows x3 v_day q2 h) [0, 1, 2, 3, 4, 5, 6, 7, 8] [some 0, some 1, some 2, some 3, some 4, some 5, some 6, some 7, some 8, none] 10 rfl (by decide +kernel) (by decide +kernel) (fun _ => rfl) (fun _ => rfl) rfl rfl rfl rfl ⟨Nat.zero_le _, Nat.zero_le _⟩ dX6_goDay_39 kc_X6 0 rfl (fun q2 hf => ?_)
      refine j_iload_n C (pc := 42) 2 rfl rfl dX6_goDay_42 ?_
      refine j_iconst C (pc := 43) (v := -1) (by decide) dX6_goDay_43 ?_
      refine j_ixor C (pc := 44) dX6_goDay_44 ?_
      refine j_iand C (pc := 45) dX6_goDay_45 ?_
      refine j_cSNI C (pc := 46) (As := [.int (q2.1 &&& (x2 ^^^ (-1 : Int32)))]) (st := []) (ws' := fun q3 => [oX6 a_t r_t v_people v_day v_dead w_buried a_holding, aI G (r_t 8) 36 w_hates, aI G (r_t 6) 6 v_vs, aI G (r_t 5) 6 v_kinds, aI G (r_t 13) 6 q2.2, oX2 a_holding r_holding v_holding_length v_holding_need, aI G (r_holding 0) 100 v_holding_steps, aI G (r_holding 1) 100 v_holding_numbers, aI G (r_t 9) 24 v_rows, aI G (r_t 7) 6 w_thrown]) ml_X6_99 ms_X7_firstOf hf (fun q3 h => (c_X7_firstOf G K.2.1) (q2.1 &&& (x2 ^^^ (-1 : Int32))) q3 h) [] [none, none, none, none, none, none, none, none, none, none] 10 rfl (by decide +kernel) (by decide +kernel) (fun _ => rfl) (fun _ => rfl) rfl rfl rfl rfl ⟨Nat.zero_le _, Nat.zero_le _⟩ dX6_goDay_46 (fun q3 hf => ?_)
      refine j_istore C (pc := 49) (L' := [(4, .int q3), (0, .ref a_t), (1, .int p1), (2, .int x2), (3, .int x3)]) dX6_goDay_49 (by decide) rfl ?_
      refine j_aload_n C (pc := 51) 1 rfl rfl dX6_goDay_51 ?_
      refine j_iload C (pc := 52) 0 rfl dX6_goDay_52 ?_
      refine j_cVI C (pc := 54) (As := [.int q3]) (st := []) (ws' := fun q4 => [oX6 a_t r_t v_people v_day v_dead w_buried a_holding, aI G (r_t 8) 36 w_hates, aI G (r_t 6) 6 v_vs, aI G (r_t 5) 6 v_kinds, aI G (r_t 13) 6 q2.2, oX2 a_holding r_holding v_holding_length v_holding_need, aI G (r_holding 0) 100 v_holding_steps, aI G (r_holding 1) 100 v_holding_numbers, aI G (r_t 9) 24 v_rows, aI G (r_t 7) 6 w_thrown]) ml_X6_56 ms_X6_has hf (fun q4 h => (c_X6_has G K.2.1) a_t r_t v_people v_day v_dead w_buried a_holding q3 q4 h) [0] [some 0, none, none, none, none, none, none, none, none, none] 10 rfl (by decide +kernel) (by decide +kernel) (fun _ => rfl) (fun _ => rfl) rfl rfl rfl rfl ⟨Nat.zero_le _, Nat.zero_le _⟩ dX6_goDay_54 kc_X6 0 rfl (fun q4 hf => ?_)
      refine j_if_eq C (pc := 57) 107 dX6_goDay_57 (by decide) hf (fun hf => ?_) (fun hf => ?_)
      · refine j_iinc C (pc := 107) (L' := [(3, .int (x3 + (1 : Int32))), (4, .int q3), (0, .ref a_t), (1, .int p1), (2, .int x2)]) (v := x3 + (1 : Int32)) dX6_goDay_107 (t := 4) rfl rfl (by decide) rfl ?_
        refine j_goto C (pc := 110) 4 dX6_goDay_110 (by decide) ?_
        refine j_sub [2, 3, 4, 0] rfl ?_
        exact hk4 _ _ _ _ _ _ hf
      · refine j_iload_n C (pc := 60) 3 rfl rfl dX6_goDay_60 ?_
        refine j_iconst C (pc := 61) (v := 1) (by decide) dX6_goDay_61 ?_
        refine j_iload C (pc := 62) 0 rfl dX6_goDay_62 ?_
        refine j_ishl C (pc := 64) dX6_goDay_64 ?_
        refine j_ior C (pc := 65) dX6_goDay_65 ?_
        refine j_nm hf (fun y5 hf => ?_)
        refine j_istore_n C (pc := 66) (L' := [(2, .int y5), (4, .int q3), (0, .ref a_t), (1, .int p1), (3, .int x3)]) dX6_goDay_66 rfl (by decide) rfl ?_
        refine j_aload_n C (pc := 67) 2 rfl rfl dX6_goDay_67 ?_
        refine j_dup C (pc := 68) rfl dX6_goDay_68 ?_
        refine j_get C (pc := 69) kc_X6 fl_X6_90 0 rfl rfl dX6_goDay_69 ?_
        refine j_iconst C (pc := 72) (v := 1) (by decide) dX6_goDay_72 ?_
        refine j_iload_n C (pc := 73) 4 rfl rfl dX6_goDay_73 ?_
        refine j_ishl C (pc := 74) dX6_goDay_74 ?_
        refine j_ior C (pc := 75) dX6_goDay_75 ?_
        refine j_put C (pc := 76) (ws' := [oX6 a_t r_t v_people v_day v_dead (w_buried ||| ((1 : Int32) <<< (x3 &&& 31))) a_holding, aI G (r_t 8) 36 w_hates, aI G (r_t 6) 6 v_vs, aI G (r_t 5) 6 v_kinds, aI G (r_t 13) 6 q2.2, oX2 a_holding r_holding v_holding_length v_holding_need, aI G (r_holding 0) 100 v_holding_steps, aI G (r_holding 1) 100 v_holding_numbers, aI G (r_t 9) 24 v_rows, aI G (r_t 7) 6 w_thrown]) kc_X6 fl_X6_90 0 rfl rfl rfl rfl rfl rfl dX6_goDay_76 ?_
        refine j_aload_n C (pc := 79) 2 rfl rfl dX6_goDay_79 ?_
        refine j_get C (pc := 80) kc_X6 fl_X6_25 0 rfl rfl dX6_goDay_80 ?_
        refine j_iload C (pc := 83) 1 rfl dX6_goDay_83 ?_
        refine j_aload_n C (pc := 85) 2 rfl rfl dX6_goDay_85 ?_
        refine j_get C (pc := 86) kc_X6 fl_X6_25 0 rfl rfl dX6_goDay_86 ?_
        refine j_iload C (pc := 89) 1 rfl dX6_goDay_89 ?_
        refine j_iald C (pc := 91) 9 rfl hf dX6_goDay_91 (fun hf => ?_)
        refine j_iconst C (pc := 92) (v := 1) (by decide) dX6_goDay_92 ?_
        refine j_iadd C (pc := 93) dX6_goDay_93 ?_
        refine j_iload_n C (pc := 94) 3 rfl rfl dX6_goDay_94 ?_
        refine j_cSI C (pc := 95) (As := [.int ((w_thrown q3.toNatClampNeg) + (1 : Int32)), .int p1]) (st := [.int q3, .ref (r_t 7)]) (ws' := fun q6 => [oX6 a_t r_t v_people v_day v_dead (w_buried ||| ((1 : Int32) <<< (x3 &&& 31))) a_holding, aI G (r_t 8) 36 w_hates, aI G (r_t 6) 6 v_vs, aI G (r_t 5) 6 v_kinds, aI G (r_t 13) 6 q2.2, oX2 a_holding r_holding v_holding_length v_holding_need, aI G (r_holding 0) 100 v_holding_steps, aI G (r_holding 1) 100 v_holding_numbers, aI G (r_t 9) 24 v_rows, aI G (r_t 7) 6 w_thrown]) ml_X6_103 ms_J9_min_7cf53 hf (fun q6 h => (c_J9_min_7cf53 G K.2.1) ((w_thrown q3.toNatClampNeg) + (1 : Int32)) p1 q6 h) [] [none, none, none, none, none, none, none, none, none, none] 10 rfl (by decide +kernel) (by decide +kernel) (fun _ => rfl) (fun _ => rfl) rfl rfl rfl rfl ⟨Nat.zero_le _, Nat.zero_le _⟩ dX6_goDay_95 (fun q6 hf => ?_)
        refine j_iast C (pc := 98) (ws' := [oX6 a_t r_t v_people v_day v_dead (w_buried ||| ((1 : Int32) <<< (x3 &&& 31))) a_holding, aI G (r_t 8) 36 w_hates, aI G (r_t 6) 6 v_vs, aI G (r_t 5) 6 v_kinds, aI G (r_t 13) 6 q2.2, oX2 a_holding r_holding v_holding_length v_holding_need, aI G (r_holding 0) 100 v_holding_steps, aI G (r_holding 1) 100 v_holding_numbers, aI G (r_t 9) 24 v_rows, aI G (r_t 7) 6 (upd w_thrown q3.toNatClampNeg q6)]) 9 rfl hf rfl dX6_goDay_98 (fun hf => ?_)
        refine j_aload_n C (pc := 99) 2 rfl rfl dX6_goDay_99 ?_
        refine j_iload C (pc := 100) 1 rfl dX6_goDay_100 ?_
        refine j_iload_n C (pc := 102) 4 rfl rfl dX6_goDay_102 ?_
        refine j_iconst C (pc := 103) (v := 0) (by decide) dX6_goDay_103 ?_
        refine j_cVZ C (pc := 104) (As := [.int q3, .int x3, .int (0 : Int32)]) (st := []) (ws' := fun q7 => [oX6 a_t r_t v_people v_day v_dead (w_buried ||| ((1 : Int32) <<< (x3 &&& 31))) a_holding, aI G (r_t 8) 36 q7, aI G (r_t 6) 6 v_vs, aI G (r_t 5) 6 v_kinds, aI G (r_t 13) 6 q2.2, oX2 a_holding r_holding v_holding_length v_holding_need, aI G (r_holding 0) 100 v_holding_steps, aI G (r_holding 1) 100 v_holding_numbers, aI G (r_t 9) 24 v_rows, aI G (r_t 7) 6 (upd w_thrown q3.toNatClampNeg q6)]) ml_X6_106 ms_X6_setHate hf (fun q7 h => (c_X6_setHate G K.2.1) a_t r_t v_people v_day v_dead (w_buried ||| ((1 : Int32) <<< (x3 &&& 31))) a_holding w_hates q3 x3 (0 : Int32) q7 h) [0, 1] [some 0, some 1, none, none, none, none, none, none, none, none] 10 rfl (by decide +kernel) (by decide +kernel) (fun _ => rfl) (fun _ => rfl) rfl rfl rfl rfl ⟨Nat.zero_le _, Nat.zero_le _⟩ dX6_goDay_104 kc_X6 0 rfl (fun q7 hf => ?_)
        refine j_iinc C (pc := 107) (L' := [(3, .int (x3 + (1 : Int32))), (2, .int y5), (4, .int q3), (0, .ref a_t), (1, .int p1)]) (v := x3 + (1 : Int32)) dX6_goDay_107 (t := 4) rfl rfl (by decide) rfl ?_
        refine j_goto C (pc := 110) 4 dX6_goDay_110 (by decide) ?_
        refine j_sub [3, 4, 1, 0] rfl ?_
        exact hk4 _ _ _ _ _ _ hf
    · refine j_goto C (pc := 30) 107 dX6_goDay_30 (by decide) ?_
      refine j_iinc C (pc := 107) (L' := [(3, .int (x3 + (1 : Int32))), (0, .ref a_t), (1, .int p1), (2, .int x2)]) (v := x3 + (1 : Int32)) dX6_goDay_107 (t := 3) rfl rfl (by decide) rfl ?_
      refine j_goto C (pc := 110) 4 dX6_goDay_110 (by decide) ?_
      refine j_sub [1, 2, 3, 0] rfl ?_
      exact hk4 _ _ _ _ _ _ hf
theorem t_X6_goDay_4 {G : Gx} {K : Kx} (C : Cx G K cX6_goDay RX6 5 5) {a_t : Nat} {r_t : Nat → Nat} {r_holding : Nat → Nat} {v_people : Int32} {v_day : Int32} {v_dead : Int32} {a_holding : Nat} {v_vs : Nat → Int32} {v_kinds : Nat → Int32} {v_holding_length : Int32} {v_holding_need : Int32} {v_holding_steps : Nat → Int32} {v_holding_numbers : Nat → Int32} {v_rows : Nat → Int32} {p1 : Int32} {q : Int32 × (Nat → Int32) × Int32 × (Nat → Int32) × (Nat → Int32)} (hQ : k_retV G K cX6_goDay 5 [oX6 a_t r_t v_people q.1 v_dead q.2.2.1 a_holding, aI G (r_t 8) 36 q.2.2.2.2, aI G (r_t 6) 6 v_vs, aI G (r_t 5) 6 v_kinds, aI G (r_t 13) 6 q.2.1, oX2 a_holding r_holding v_holding_length v_holding_need, aI G (r_holding 0) 100 v_holding_steps, aI G (r_holding 1) 100 v_holding_numbers, aI G (r_t 9) 24 v_rows, aI G (r_t 7) 6 q.2.2.2.1]) : ∀ (n : Nat) (x2 : Int32) (x3 : Int32) (w_facts : Nat → Int32) (w_buried : Int32) (w_thrown : Nat → Int32) (w_hates : Nat → Int32), f_X6_goDay_4 v_people v_day v_dead v_vs v_kinds v_holding_length v_holding_need v_holding_steps v_holding_numbers v_rows p1 n x2 x3 w_facts w_buried w_thrown w_hates = some q → J G K 5 0 0 [oX6 a_t r_t v_people v_day v_dead w_buried a_holding, aI G (r_t 8) 36 w_hates, aI G (r_t 6) 6 v_vs, aI G (r_t 5) 6 v_kinds, aI G (r_t 13) 6 w_facts, oX2 a_holding r_holding v_holding_length v_holding_need, aI G (r_holding 0) 100 v_holding_steps, aI G (r_holding 1) 100 v_holding_numbers, aI G (r_t 9) 24 v_rows, aI G (r_t 7) 6 w_thrown] [(0, .ref a_t), (1, .int p1), (2, .int x2), (3, .int x3)] 4 [] := by
  intro n
  induction n with
  | zero => intro x2 x3 w_facts w_buried w_thrown w_hates hf; cases hf
  | succ n ih => intro x2 x3 w_facts w_buried w_thrown w_hates hf; exact t_X6_goDay_4_b C hQ ih hf
def f_X6_goDay (v_people : Int32) (v_day : Int32) (v_dead : Int32) (v_buried : Int32) (v_hates : Nat → Int32) (v_vs : Nat → Int32) (v_kinds : Nat → Int32) (v_facts : Nat → Int32) (v_holding_length : Int32) (v_holding_need : Int32) (v_holding_steps : Nat → Int32) (v_holding_numbers : Nat → Int32) (v_rows : Nat → Int32) (v_thrown : Nat → Int32) (p1 : Int32) : Option (Int32 × (Nat → Int32) × Int32 × (Nat → Int32) × (Nat → Int32)) := (f_X6_goDay_4 v_people v_day v_dead v_vs v_kinds v_holding_length v_holding_need v_holding_steps v_holding_numbers v_rows p1 1000 (0 : Int32) (0 : Int32) v_facts v_buried v_thrown v_hates)
set_option maxRecDepth 20000 in
set_option maxHeartbeats 1000000 in
theorem t_X6_goDay {G : Gx} {K : Kx} (C : Cx G K cX6_goDay RX6 5 5) {a_t : Nat} {r_t : Nat → Nat} {r_holding : Nat → Nat} {v_people : Int32} {v_day : Int32} {v_dead : Int32} {v_buried : Int32} {a_holding : Nat} {v_hates : Nat → Int32} {v_vs : Nat → Int32} {v_kinds : Nat → Int32} {v_facts : Nat → Int32} {v_holding_length : Int32} {v_holding_need : Int32} {v_holding_steps : Nat → Int32} {v_holding_numbers : Nat → Int32} {v_rows : Nat → Int32} {v_thrown : Nat → Int32} {p1 : Int32} {q : Int32 × (Nat → Int32) × Int32 × (Nat → Int32) × (Nat → Int32)} (hQ : k_retV G K cX6_goDay 5 [oX6 a_t r_t v_people q.1 v_dead q.2.2.1 a_holding, aI G (r_t 8) 36 q.2.2.2.2, aI G (r_t 6) 6 v_vs, aI G (r_t 5) 6 v_kinds, aI G (r_t 13) 6 q.2.1, oX2 a_holding r_holding v_holding_length v_holding_need, aI G (r_holding 0) 100 v_holding_steps, aI G (r_holding 1) 100 v_holding_numbers, aI G (r_t 9) 24 v_rows, aI G (r_t 7) 6 q.2.2.2.1]) (hf : f_X6_goDay v_people v_day v_dead v_buried v_hates v_vs v_kinds v_facts v_holding_length v_holding_need v_holding_steps v_holding_numbers v_rows v_thrown p1 = some q) : J G K 5 0 0 [oX6 a_t r_t v_people v_day v_dead v_buried a_holding, aI G (r_t 8) 36 v_hates, aI G (r_t 6) 6 v_vs, aI G (r_t 5) 6 v_kinds, aI G (r_t 13) 6 v_facts, oX2 a_holding r_holding v_holding_length v_holding_need, aI G (r_holding 0) 100 v_holding_steps, aI G (r_holding 1) 100 v_holding_numbers, aI G (r_t 9) 24 v_rows, aI G (r_t 7) 6 v_thrown] [(0, .ref a_t), (1, .int p1)] 0 [] := by
  unfold f_X6_goDay at hf
  refine j_iconst C (pc := 0) (v := 0) (by decide) dX6_goDay_0 ?_
  refine j_istore_n C (pc := 1) (L' := [(2, .int (0 : Int32)), (0, .ref a_t), (1, .int p1)]) dX6_goDay_1 rfl (by decide) rfl ?_
  refine j_iconst C (pc := 2) (v := 0) (by decide) dX6_goDay_2 ?_
  refine j_istore_n C (pc := 3) (L' := [(3, .int (0 : Int32)), (2, .int (0 : Int32)), (0, .ref a_t), (1, .int p1)]) dX6_goDay_3 rfl (by decide) rfl ?_
  refine j_sub [2, 3, 1, 0] rfl ?_
  exact t_X6_goDay_4 C hQ 1000 _ _ _ _ _ _ hf
def ct_X6_goDay (G : Gx) (l : Launch) (F : Int32 → Int32 → Int32 → Int32 → (Nat → Int32) → (Nat → Int32) → (Nat → Int32) → (Nat → Int32) → Int32 → Int32 → (Nat → Int32) → (Nat → Int32) → (Nat → Int32) → (Nat → Int32) → Int32 → Option (Int32 × (Nat → Int32) × Int32 × (Nat → Int32) × (Nat → Int32))) (lv : Nat) : Prop := ∀ (a_t : Nat) (r_t : Nat → Nat) (r_holding : Nat → Nat) (v_people : Int32) (v_day : Int32) (v_dead : Int32) (v_buried : Int32) (a_holding : Nat) (v_hates : Nat → Int32) (v_vs : Nat → Int32) (v_kinds : Nat → Int32) (v_facts : Nat → Int32) (v_holding_length : Int32) (v_holding_need : Int32) (v_holding_steps : Nat → Int32) (v_holding_numbers : Nat → Int32) (v_rows : Nat → Int32) (v_thrown : Nat → Int32) (p1 : Int32), ∀ (q : Int32 × (Nat → Int32) × Int32 × (Nat → Int32) × (Nat → Int32)), F v_people v_day v_dead v_buried v_hates v_vs v_kinds v_facts v_holding_length v_holding_need v_holding_steps v_holding_numbers v_rows v_thrown p1 = some q → MV G l yX6_goDay cX6_goDay 5 lv [.ref a_t, .int p1] [oX6 a_t r_t v_people v_day v_dead v_buried a_holding, aI G (r_t 8) 36 v_hates, aI G (r_t 6) 6 v_vs, aI G (r_t 5) 6 v_kinds, aI G (r_t 13) 6 v_facts, oX2 a_holding r_holding v_holding_length v_holding_need, aI G (r_holding 0) 100 v_holding_steps, aI G (r_holding 1) 100 v_holding_numbers, aI G (r_t 9) 24 v_rows, aI G (r_t 7) 6 v_thrown] [oX6 a_t r_t v_people q.1 v_dead q.2.2.1 a_holding, aI G (r_t 8) 36 q.2.2.2.2, aI G (r_t 6) 6 v_vs, aI G (r_t 5) 6 v_kinds, aI G (r_t 13) 6 q.2.1, oX2 a_holding r_holding v_holding_length v_holding_need, aI G (r_holding 0) 100 v_holding_steps, aI G (r_holding 1) 100 v_holding_numbers, aI G (r_t 9) 24 v_rows, aI G (r_t 7) 6 q.2.2.2.1]
theorem c_X6_goDay (G : Gx) (l : Launch) : ct_X6_goDay G l f_X6_goDay 5 := by
  intro a_t r_t r_holding v_people v_day v_dead v_buried a_holding v_hates v_vs v_kinds v_facts v_holding_length v_holding_need v_holding_steps v_holding_numbers v_rows v_thrown p1 q hf
  exact mV_of (by decide +kernel) rfl (fun K hl C hQ => t_X6_goDay C hQ hf)
-- X6_suffer
def f_X6_suffer_20_b (v_people : Int32) (v_dead : Int32) (p1 : Int32) (p2 : Int32) (k20 : Int32 → (Nat → Int32) → Option (Int32 × (Nat → Int32))) (x3 : Int32) (w_hates : Nat → Int32) : Option (Int32 × (Nat → Int32)) := (if v_people ≤ x3 then (some (v_dead, w_hates)) else (if p1 = (2 : Int32) then ((f_X6_setHate v_people w_hates p2 x3 (0 : Int32)).bind fun q2 => (k20 (x3 + (1 : Int32)) q2)) else (if p1 = (3 : Int32) then ((f_X6_setHate v_people w_hates x3 p2 (0 : Int32)).bind fun q1 => (k20 (x3 + (1 : Int32)) q1)) else (k20 (x3 + (1 : Int32)) w_hates))))
def f_X6_suffer_20 (v_people : Int32) (v_dead : Int32) (p1 : Int32) (p2 : Int32) : Nat → Int32 → (Nat → Int32) → Option (Int32 × (Nat → Int32))
  | 0 => fun _ _ => none
  | n + 1 => f_X6_suffer_20_b v_people v_dead p1 p2 (f_X6_suffer_20 v_people v_dead p1 p2 n)
set_option maxRecDepth 20000 in
set_option maxHeartbeats 1000000 in
theorem t_X6_suffer_20_b {G : Gx} {K : Kx} (C : Cx G K cX6_suffer RX6 4 3) {a_t : Nat} {r_t : Nat → Nat} {v_people : Int32} {v_day : Int32} {v_dead : Int32} {v_buried : Int32} {a_holding : Nat} {p1 : Int32} {p2 : Int32} {q : Int32 × (Nat → Int32)} (hQ : k_retV G K cX6_suffer 4 [oX6 a_t r_t v_people v_day q.1 v_buried a_holding, aI G (r_t 8) 36 q.2]) {k20 : Int32 → (Nat → Int32) → Option (Int32 × (Nat → Int32))} (hk20 : ∀ (x3 : Int32) (w_hates : Nat → Int32), k20 x3 w_hates = some q → J G K 4 0 0 [oX6 a_t r_t v_people v_day v_dead v_buried a_holding, aI G (r_t 8) 36 w_hates] [(0, .ref a_t), (1, .int p1), (2, .int p2), (3, .int x3)] 20 []) {x3 : Int32} {w_hates : Nat → Int32} (hf : f_X6_suffer_20_b v_people v_dead p1 p2 k20 x3 w_hates = some q) : J G K 4 0 0 [oX6 a_t r_t v_people v_day v_dead v_buried a_holding, aI G (r_t 8) 36 w_hates] [(0, .ref a_t), (1, .int p1), (2, .int p2), (3, .int x3)] 20 [] := by
  unfold f_X6_suffer_20_b at hf
  refine j_iload_n C (pc := 20) 3 rfl rfl dX6_suffer_20 ?_
  refine j_aload_n C (pc := 21) 0 rfl rfl dX6_suffer_21 ?_
  refine j_get C (pc := 22) kc_X6 fl_X6_52 0 rfl rfl dX6_suffer_22 ?_
  refine j_icmp_ge C (pc := 25) 61 dX6_suffer_25 (by decide) hf (fun hf => ?_) (fun hf => ?_)
  · obtain rfl := Option.some.inj hf
    exact hQ _ _ dX6_suffer_61
  · refine j_iload_n C (pc := 28) 1 rfl rfl dX6_suffer_28 ?_
    refine j_iconst C (pc := 29) (v := 2) (by decide) dX6_suffer_29 ?_
    refine j_icmp_ne C (pc := 30) 43 dX6_suffer_30 (by decide) hf (fun hf => ?_) (fun hf => ?_)
    · refine j_iload_n C (pc := 43) 1 rfl rfl dX6_suffer_43 ?_
      refine j_iconst C (pc := 44) (v := 3) (by decide) dX6_suffer_44 ?_
      refine j_icmp_ne C (pc := 45) 55 dX6_suffer_45 (by decide) hf (fun hf => ?_) (fun hf => ?_)
      · refine j_iinc C (pc := 55) (L' := [(3, .int (x3 + (1 : Int32))), (0, .ref a_t), (1, .int p1), (2, .int p2)]) (v := x3 + (1 : Int32)) dX6_suffer_55 (t := 3) rfl rfl (by decide) rfl ?_
        refine j_goto C (pc := 58) 20 dX6_suffer_58 (by decide) ?_
        refine j_sub [1, 2, 3, 0] rfl ?_
        exact hk20 _ _ hf
      · refine j_aload_n C (pc := 48) 0 rfl rfl dX6_suffer_48 ?_
        refine j_iload_n C (pc := 49) 3 rfl rfl dX6_suffer_49 ?_
        refine j_iload_n C (pc := 50) 2 rfl rfl dX6_suffer_50 ?_
        refine j_iconst C (pc := 51) (v := 0) (by decide) dX6_suffer_51 ?_
        refine j_cVZ C (pc := 52) (As := [.int x3, .int p2, .int (0 : Int32)]) (st := []) (ws' := fun q1 => [oX6 a_t r_t v_people v_day v_dead v_buried a_holding, aI G (r_t 8) 36 q1]) ml_X6_106 ms_X6_setHate hf (fun q1 h => (c_X6_setHate G K.2.1) a_t r_t v_people v_day v_dead v_buried a_holding w_hates x3 p2 (0 : Int32) q1 h) [0, 1] [some 0, some 1] 2 rfl (by decide +kernel) (by decide +kernel) (fun _ => rfl) (fun _ => rfl) rfl rfl rfl rfl ⟨Nat.zero_le _, Nat.zero_le _⟩ dX6_suffer_52 kc_X6 0 rfl (fun q1 hf => ?_)
        refine j_iinc C (pc := 55) (L' := [(3, .int (x3 + (1 : Int32))), (0, .ref a_t), (1, .int p1), (2, .int p2)]) (v := x3 + (1 : Int32)) dX6_suffer_55 (t := 3) rfl rfl (by decide) rfl ?_
        refine j_goto C (pc := 58) 20 dX6_suffer_58 (by decide) ?_
        refine j_sub [1, 2, 3, 0] rfl ?_
        exact hk20 _ _ hf
    · refine j_aload_n C (pc := 33) 0 rfl rfl dX6_suffer_33 ?_
      refine j_iload_n C (pc := 34) 2 rfl rfl dX6_suffer_34 ?_
      refine j_iload_n C (pc := 35) 3 rfl rfl dX6_suffer_35 ?_
      refine j_iconst C (pc := 36) (v := 0) (by decide) dX6_suffer_36 ?_
      refine j_cVZ C (pc := 37) (As := [.int p2, .int x3, .int (0 : Int32)]) (st := []) (ws' := fun q2 => [oX6 a_t r_t v_people v_day v_dead v_buried a_holding, aI G (r_t 8) 36 q2]) ml_X6_106 ms_X6_setHate hf (fun q2 h => (c_X6_setHate G K.2.1) a_t r_t v_people v_day v_dead v_buried a_holding w_hates p2 x3 (0 : Int32) q2 h) [0, 1] [some 0, some 1] 2 rfl (by decide +kernel) (by decide +kernel) (fun _ => rfl) (fun _ => rfl) rfl rfl rfl rfl ⟨Nat.zero_le _, Nat.zero_le _⟩ dX6_suffer_37 kc_X6 0 rfl (fun q2 hf => ?_)
      refine j_goto C (pc := 40) 55 dX6_suffer_40 (by decide) ?_
      refine j_iinc C (pc := 55) (L' := [(3, .int (x3 + (1 : Int32))), (0, .ref a_t), (1, .int p1), (2, .int p2)]) (v := x3 + (1 : Int32)) dX6_suffer_55 (t := 3) rfl rfl (by decide) rfl ?_
      refine j_goto C (pc := 58) 20 dX6_suffer_58 (by decide) ?_
      refine j_sub [1, 2, 3, 0] rfl ?_
      exact hk20 _ _ hf
theorem t_X6_suffer_20 {G : Gx} {K : Kx} (C : Cx G K cX6_suffer RX6 4 3) {a_t : Nat} {r_t : Nat → Nat} {v_people : Int32} {v_day : Int32} {v_dead : Int32} {v_buried : Int32} {a_holding : Nat} {p1 : Int32} {p2 : Int32} {q : Int32 × (Nat → Int32)} (hQ : k_retV G K cX6_suffer 4 [oX6 a_t r_t v_people v_day q.1 v_buried a_holding, aI G (r_t 8) 36 q.2]) : ∀ (n : Nat) (x3 : Int32) (w_hates : Nat → Int32), f_X6_suffer_20 v_people v_dead p1 p2 n x3 w_hates = some q → J G K 4 0 0 [oX6 a_t r_t v_people v_day v_dead v_buried a_holding, aI G (r_t 8) 36 w_hates] [(0, .ref a_t), (1, .int p1), (2, .int p2), (3, .int x3)] 20 [] := by
  intro n
  induction n with
  | zero => intro x3 w_hates hf; cases hf
  | succ n ih => intro x3 w_hates hf; exact t_X6_suffer_20_b C hQ ih hf
def f_X6_suffer (v_people : Int32) (v_dead : Int32) (v_hates : Nat → Int32) (p1 : Int32) (p2 : Int32) : Option (Int32 × (Nat → Int32)) := (if p1 = (1 : Int32) then (some (v_dead ||| ((1 : Int32) <<< (p2 &&& 31)), v_hates)) else (f_X6_suffer_20 v_people v_dead p1 p2 1000 (0 : Int32) v_hates))
set_option maxRecDepth 20000 in
set_option maxHeartbeats 1000000 in
theorem t_X6_suffer {G : Gx} {K : Kx} (C : Cx G K cX6_suffer RX6 4 3) {a_t : Nat} {r_t : Nat → Nat} {v_people : Int32} {v_day : Int32} {v_dead : Int32} {v_buried : Int32} {a_holding : Nat} {v_hates : Nat → Int32} {p1 : Int32} {p2 : Int32} {q : Int32 × (Nat → Int32)} (hQ : k_retV G K cX6_suffer 4 [oX6 a_t r_t v_people v_day q.1 v_buried a_holding, aI G (r_t 8) 36 q.2]) (hf : f_X6_suffer v_people v_dead v_hates p1 p2 = some q) : J G K 4 0 0 [oX6 a_t r_t v_people v_day v_dead v_buried a_holding, aI G (r_t 8) 36 v_hates] [(0, .ref a_t), (1, .int p1), (2, .int p2)] 0 [] := by
  unfold f_X6_suffer at hf
  refine j_iload_n C (pc := 0) 1 rfl rfl dX6_suffer_0 ?_
  refine j_iconst C (pc := 1) (v := 1) (by decide) dX6_suffer_1 ?_
  refine j_icmp_ne C (pc := 2) 18 dX6_suffer_2 (by decide) hf (fun hf => ?_) (fun hf => ?_)
  · refine j_iconst C (pc := 18) (v := 0) (by decide) dX6_suffer_18 ?_
    refine j_istore_n C (pc := 19) (L' := [(3, .int (0 : Int32)), (0, .ref a_t), (1, .int p1), (2, .int p2)]) dX6_suffer_19 rfl (by decide) rfl ?_
    refine j_sub [1, 2, 3, 0] rfl ?_
    exact t_X6_suffer_20 C hQ 1000 _ _ hf
  · refine j_aload_n C (pc := 5) 0 rfl rfl dX6_suffer_5 ?_
    refine j_dup C (pc := 6) rfl dX6_suffer_6 ?_
    refine j_get C (pc := 7) kc_X6 fl_X6_60 0 rfl rfl dX6_suffer_7 ?_
    refine j_iconst C (pc := 10) (v := 1) (by decide) dX6_suffer_10 ?_
    refine j_iload_n C (pc := 11) 2 rfl rfl dX6_suffer_11 ?_
    refine j_ishl C (pc := 12) dX6_suffer_12 ?_
    refine j_ior C (pc := 13) dX6_suffer_13 ?_
    refine j_put C (pc := 14) (ws' := [oX6 a_t r_t v_people v_day (v_dead ||| ((1 : Int32) <<< (p2 &&& 31))) v_buried a_holding, aI G (r_t 8) 36 v_hates]) kc_X6 fl_X6_60 0 rfl rfl rfl rfl rfl rfl dX6_suffer_14 ?_
    obtain rfl := Option.some.inj hf
    exact hQ _ _ dX6_suffer_17
def ct_X6_suffer (G : Gx) (l : Launch) (F : Int32 → Int32 → (Nat → Int32) → Int32 → Int32 → Option (Int32 × (Nat → Int32))) (lv : Nat) : Prop := ∀ (a_t : Nat) (r_t : Nat → Nat) (v_people : Int32) (v_day : Int32) (v_dead : Int32) (v_buried : Int32) (a_holding : Nat) (v_hates : Nat → Int32) (p1 : Int32) (p2 : Int32), ∀ (q : Int32 × (Nat → Int32)), F v_people v_dead v_hates p1 p2 = some q → MV G l yX6_suffer cX6_suffer 4 lv [.ref a_t, .int p1, .int p2] [oX6 a_t r_t v_people v_day v_dead v_buried a_holding, aI G (r_t 8) 36 v_hates] [oX6 a_t r_t v_people v_day q.1 v_buried a_holding, aI G (r_t 8) 36 q.2]
theorem c_X6_suffer (G : Gx) (l : Launch) : ct_X6_suffer G l f_X6_suffer 3 := by
  intro a_t r_t v_people v_day v_dead v_buried a_holding v_hates p1 p2 q hf
  exact mV_of (by decide +kernel) rfl (fun K hl C hQ => t_X6_suffer C hQ hf)
