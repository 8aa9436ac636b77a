-- X7_see
def f_X7_see (v_now_people : Int32) (v_now_seen_limit : Int32) (v_now_seen_size : Int32) (v_now_seen_cells : Nat → Int32) (p1 : Int32) (p2 : Int32) (p3 : Int32) (p4 : Int32) : Option (Int32 × (Nat → Int32) × Int32) := (if p1 = (-1 : Int32) then ((f_X3_clear).bind fun q5 => (some (q5.1, v_now_seen_cells, q5.2))) else ((f_X6_has v_now_people p1).bind fun q1 => (if q1 = 0 then (some ((-1 : Int32), v_now_seen_cells, v_now_seen_size)) else ((f_X6_has v_now_people p2).bind fun q2 => (if q2 = 0 then (some ((-1 : Int32), v_now_seen_cells, v_now_seen_size)) else (if p1 = p2 then (some ((-2 : Int32), v_now_seen_cells, v_now_seen_size)) else (if p3 < 0 then (some ((-2 : Int32), v_now_seen_cells, v_now_seen_size)) else (if p3 ≤ (20 : Int32) then (if p4 = 0 then ((f_X3_add v_now_seen_limit v_now_seen_size v_now_seen_cells p1 p2 p3 (0 : Int32)).bind fun q3 => (some (q3.1, q3.2.1, q3.2.2))) else ((f_X3_add v_now_seen_limit v_now_seen_size v_now_seen_cells p1 p2 p3 (1 : Int32)).bind fun q4 => (some (q4.1, q4.2.1, q4.2.2)))) else (some ((-2 : Int32), v_now_seen_cells, v_now_seen_size))))))))))
set_option maxRecDepth 20000 in
set_option maxHeartbeats 1000000 in
theorem t_X7_see {G : Gx} {K : Kx} (C : Cx G K cX7_see RX7 5 2) {a_t : Nat} {r_t : Nat → Nat} {r_now : Nat → Nat} {r_now_seen : Nat → Nat} {v_isKept : Int32} {v_parishCount : Int32} {v_now_people : Int32} {v_now_day : Int32} {v_now_dead : Int32} {v_now_buried : Int32} {a_now_holding : Nat} {v_now_seen_limit : Int32} {v_now_seen_size : Int32} {v_now_seen_cells : Nat → Int32} {p1 : Int32} {p2 : Int32} {p3 : Int32} {p4 : Int32} {q : Int32 × (Nat → Int32) × Int32} (hQ : k_retI G K cX7_see 5 .int [oX7 a_t r_t v_isKept v_parishCount, oX6 (r_t 0) r_now v_now_people v_now_day v_now_dead v_now_buried a_now_holding, oX3 (r_now 10) r_now_seen v_now_seen_limit q.2.2, aI G (r_now_seen 0) 40 q.2.1] q.1) (hf : f_X7_see v_now_people v_now_seen_limit v_now_seen_size v_now_seen_cells p1 p2 p3 p4 = some q) : J G K 5 0 0 [oX7 a_t r_t v_isKept v_parishCount, oX6 (r_t 0) r_now v_now_people v_now_day v_now_dead v_now_buried a_now_holding, oX3 (r_now 10) r_now_seen v_now_seen_limit v_now_seen_size, aI G (r_now_seen 0) 40 v_now_seen_cells] [(0, .ref a_t), (1, .int p1), (2, .int p2), (3, .int p3), (4, .int p4)] 0 [] := by
  unfold f_X7_see at hf
  refine j_iload_n C (pc := 0) 1 rfl rfl dX7_see_0 ?_
  refine j_iconst C (pc := 1) (v := -1) (by decide) dX7_see_1 ?_
  refine j_icmp_ne C (pc := 2) 16 dX7_see_2 (by decide) hf (fun hf => ?_) (fun hf => ?_)
  · refine j_aload_n C (pc := 16) 0 rfl rfl dX7_see_16 ?_
    refine j_get C (pc := 17) kc_X7 fl_X7_14 0 rfl rfl dX7_see_17 ?_
    refine j_iload_n C (pc := 20) 1 rfl rfl dX7_see_20 ?_
    refine j_cVI C (pc := 21) (As := [.int p1]) (st := []) (ws' := fun q1 => [oX7 a_t r_t v_isKept v_parishCount, oX6 (r_t 0) r_now v_now_people v_now_day v_now_dead v_now_buried a_now_holding, oX3 (r_now 10) r_now_seen v_now_seen_limit v_now_seen_size, aI G (r_now_seen 0) 40 v_now_seen_cells]) ml_X7_63 ms_X6_has hf (fun q1 h => (c_X6_has G K.2.1) (r_t 0) r_now v_now_people v_now_day v_now_dead v_now_buried a_now_holding p1 q1 h) [1] [none, some 0, none, none] 4 rfl (by decide +kernel) (by decide +kernel) (fun _ => rfl) (fun _ => rfl) rfl rfl rfl rfl ⟨Nat.zero_le _, Nat.zero_le _⟩ dX7_see_21 kc_X6 1 rfl (fun q1 hf => ?_)
    refine j_if_eq C (pc := 24) 38 dX7_see_24 (by decide) hf (fun hf => ?_) (fun hf => ?_)
    · refine j_iconst C (pc := 38) (v := -1) (by decide) dX7_see_38 ?_
      obtain rfl := Option.some.inj hf
      exact hQ _ _ dX7_see_39 rfl
    · refine j_aload_n C (pc := 27) 0 rfl rfl dX7_see_27 ?_
      refine j_get C (pc := 28) kc_X7 fl_X7_14 0 rfl rfl dX7_see_28 ?_
      refine j_iload_n C (pc := 31) 2 rfl rfl dX7_see_31 ?_
      refine j_cVI C (pc := 32) (As := [.int p2]) (st := []) (ws' := fun q2 => [oX7 a_t r_t v_isKept v_parishCount, oX6 (r_t 0) r_now v_now_people v_now_day v_now_dead v_now_buried a_now_holding, oX3 (r_now 10) r_now_seen v_now_seen_limit v_now_seen_size, aI G (r_now_seen 0) 40 v_now_seen_cells]) ml_X7_63 ms_X6_has hf (fun q2 h => (c_X6_has G K.2.1) (r_t 0) r_now v_now_people v_now_day v_now_dead v_now_buried a_now_holding p2 q2 h) [1] [none, some 0, none, none] 4 rfl (by decide +kernel) (by decide +kernel) (fun _ => rfl) (fun _ => rfl) rfl rfl rfl rfl ⟨Nat.zero_le _, Nat.zero_le _⟩ dX7_see_32 kc_X6 1 rfl (fun q2 hf => ?_)
      refine j_if_ne C (pc := 35) 40 dX7_see_35 (by decide) hf (fun hf => ?_) (fun hf => ?_)
      · refine j_iload_n C (pc := 40) 1 rfl rfl dX7_see_40 ?_
        refine j_iload_n C (pc := 41) 2 rfl rfl dX7_see_41 ?_
        refine j_icmp_eq C (pc := 42) 55 dX7_see_42 (by decide) hf (fun hf => ?_) (fun hf => ?_)
        · refine j_bipush C (pc := 55) (v := -2) (by decide) dX7_see_55 ?_
          obtain rfl := Option.some.inj hf
          exact hQ _ _ dX7_see_57 rfl
        · refine j_iload_n C (pc := 45) 3 rfl rfl dX7_see_45 ?_
          refine j_if_lt C (pc := 46) 55 dX7_see_46 (by decide) hf (fun hf => ?_) (fun hf => ?_)
          · refine j_bipush C (pc := 55) (v := -2) (by decide) dX7_see_55 ?_
            obtain rfl := Option.some.inj hf
            exact hQ _ _ dX7_see_57 rfl
          · refine j_iload_n C (pc := 49) 3 rfl rfl dX7_see_49 ?_
            refine j_bipush C (pc := 50) (v := 20) (by decide) dX7_see_50 ?_
            refine j_icmp_le C (pc := 52) 58 dX7_see_52 (by decide) hf (fun hf => ?_) (fun hf => ?_)
            · refine j_aload_n C (pc := 58) 0 rfl rfl dX7_see_58 ?_
              refine j_get C (pc := 59) kc_X7 fl_X7_14 0 rfl rfl dX7_see_59 ?_
              refine j_getN C (pc := 62) kc_X6 fl_X7_175 1 rfl rfl dX7_see_62 ?_
              refine j_iload_n C (pc := 65) 1 rfl rfl dX7_see_65 ?_
              refine j_iload_n C (pc := 66) 2 rfl rfl dX7_see_66 ?_
              refine j_iload_n C (pc := 67) 3 rfl rfl dX7_see_67 ?_
              refine j_iload C (pc := 68) 4 rfl dX7_see_68 ?_
              refine j_if_eq C (pc := 70) 77 dX7_see_70 (by decide) hf (fun hf => ?_) (fun hf => ?_)
              · refine j_iconst C (pc := 77) (v := 0) (by decide) dX7_see_77 ?_
                refine j_cVI C (pc := 78) (As := [.int p1, .int p2, .int p3, .int (0 : Int32)]) (st := []) (ws' := fun q3 => [oX7 a_t r_t v_isKept v_parishCount, oX6 (r_t 0) r_now v_now_people v_now_day v_now_dead v_now_buried a_now_holding, oX3 (r_now 10) r_now_seen v_now_seen_limit q3.2.2, aI G (r_now_seen 0) 40 q3.2.1]) ml_X7_184 ms_X3_add hf (fun q3 h => (c_X3_add G K.2.1) (r_now 10) r_now_seen v_now_seen_limit v_now_seen_size v_now_seen_cells p1 p2 p3 (0 : Int32) q3 h) [2, 3] [none, none, some 0, some 1] 4 rfl (by decide +kernel) (by decide +kernel) (fun _ => rfl) (fun _ => rfl) rfl rfl rfl rfl ⟨Nat.zero_le _, Nat.zero_le _⟩ dX7_see_78 kc_X3 2 rfl (fun q3 hf => ?_)
                obtain rfl := Option.some.inj hf
                exact hQ _ _ dX7_see_81 rfl
              · refine j_iconst C (pc := 73) (v := 1) (by decide) dX7_see_73 ?_
                refine j_goto C (pc := 74) 78 dX7_see_74 (by decide) ?_
                refine j_cVI C (pc := 78) (As := [.int p1, .int p2, .int p3, .int (1 : Int32)]) (st := []) (ws' := fun q4 => [oX7 a_t r_t v_isKept v_parishCount, oX6 (r_t 0) r_now v_now_people v_now_day v_now_dead v_now_buried a_now_holding, oX3 (r_now 10) r_now_seen v_now_seen_limit q4.2.2, aI G (r_now_seen 0) 40 q4.2.1]) ml_X7_184 ms_X3_add hf (fun q4 h => (c_X3_add G K.2.1) (r_now 10) r_now_seen v_now_seen_limit v_now_seen_size v_now_seen_cells p1 p2 p3 (1 : Int32) q4 h) [2, 3] [none, none, some 0, some 1] 4 rfl (by decide +kernel) (by decide +kernel) (fun _ => rfl) (fun _ => rfl) rfl rfl rfl rfl ⟨Nat.zero_le _, Nat.zero_le _⟩ dX7_see_78 kc_X3 2 rfl (fun q4 hf => ?_)
                obtain rfl := Option.some.inj hf
                exact hQ _ _ dX7_see_81 rfl
            · refine j_bipush C (pc := 55) (v := -2) (by decide) dX7_see_55 ?_
              obtain rfl := Option.some.inj hf
              exact hQ _ _ dX7_see_57 rfl
      · refine j_iconst C (pc := 38) (v := -1) (by decide) dX7_see_38 ?_
        obtain rfl := Option.some.inj hf
        exact hQ _ _ dX7_see_39 rfl
  · refine j_aload_n C (pc := 5) 0 rfl rfl dX7_see_5 ?_
    refine j_get C (pc := 6) kc_X7 fl_X7_14 0 rfl rfl dX7_see_6 ?_
    refine j_getN C (pc := 9) kc_X6 fl_X7_175 1 rfl rfl dX7_see_9 ?_
    refine j_cVI C (pc := 12) (As := []) (st := []) (ws' := fun q5 => [oX7 a_t r_t v_isKept v_parishCount, oX6 (r_t 0) r_now v_now_people v_now_day v_now_dead v_now_buried a_now_holding, oX3 (r_now 10) r_now_seen v_now_seen_limit q5.2, aI G (r_now_seen 0) 40 v_now_seen_cells]) ml_X7_179 ms_X3_clear hf (fun q5 h => (c_X3_clear G K.2.1) (r_now 10) r_now_seen v_now_seen_limit v_now_seen_size q5 h) [2] [none, none, some 0, none] 4 rfl (by decide +kernel) (by decide +kernel) (fun _ => rfl) (fun _ => rfl) rfl rfl rfl rfl ⟨Nat.zero_le _, Nat.zero_le _⟩ dX7_see_12 kc_X3 2 rfl (fun q5 hf => ?_)
    obtain rfl := Option.some.inj hf
    exact hQ _ _ dX7_see_15 rfl
def ct_X7_see (G : Gx) (l : Launch) (F : Int32 → Int32 → Int32 → (Nat → Int32) → Int32 → Int32 → Int32 → Int32 → Option (Int32 × (Nat → Int32) × Int32)) (lv : Nat) : Prop := ∀ (a_t : Nat) (r_t : Nat → Nat) (r_now : Nat → Nat) (r_now_seen : Nat → Nat) (v_isKept : Int32) (v_parishCount : Int32) (v_now_people : Int32) (v_now_day : Int32) (v_now_dead : Int32) (v_now_buried : Int32) (a_now_holding : Nat) (v_now_seen_limit : Int32) (v_now_seen_size : Int32) (v_now_seen_cells : Nat → Int32) (p1 : Int32) (p2 : Int32) (p3 : Int32) (p4 : Int32), ∀ (q : Int32 × (Nat → Int32) × Int32), F v_now_people v_now_seen_limit v_now_seen_size v_now_seen_cells p1 p2 p3 p4 = some q → MI G l yX7_see cX7_see 5 .int lv [.ref a_t, .int p1, .int p2, .int p3, .int p4] [oX7 a_t r_t v_isKept v_parishCount, oX6 (r_t 0) r_now v_now_people v_now_day v_now_dead v_now_buried a_now_holding, oX3 (r_now 10) r_now_seen v_now_seen_limit v_now_seen_size, aI G (r_now_seen 0) 40 v_now_seen_cells] [oX7 a_t r_t v_isKept v_parishCount, oX6 (r_t 0) r_now v_now_people v_now_day v_now_dead v_now_buried a_now_holding, oX3 (r_now 10) r_now_seen v_now_seen_limit q.2.2, aI G (r_now_seen 0) 40 q.2.1] q.1
theorem c_X7_see (G : Gx) (l : Launch) : ct_X7_see G l f_X7_see 2 := by
  intro a_t r_t r_now r_now_seen v_isKept v_parishCount v_now_people v_now_day v_now_dead v_now_buried a_now_holding v_now_seen_limit v_now_seen_size v_now_seen_cells p1 p2 p3 p4 q hf
  exact mI_of (by decide +kernel) rfl (fun K hl C hQ => t_X7_see C hQ hf)
-- X7_shift
def f_X7_shift (v_el0_sort : Int32) (v_el0_length : Int32) (v_el1_sort : Int32) (v_el1_length : Int32) (v_el0_items : Nat → Int64) (v_el1_items : Nat → Int64) (p1 : Int32) (p2 : Int32) (p3 : Int32) (p4 : Int32) (p5 : Int32) : Option (Int32 × (Nat → Int64)) := ((f_X7_isTape p1).bind fun q1 => (if q1 = 0 then (some ((-1 : Int32), v_el1_items)) else ((f_X7_isTape p3).bind fun q2 => (if q2 = 0 then (some ((-1 : Int32), v_el1_items)) else (gd p1 6 (gd p3 6 (if v_el0_sort = (-1 : Int32) then (some ((-11 : Int32), v_el1_items)) else (if v_el1_sort = (-1 : Int32) then (some ((-11 : Int32), v_el1_items)) else (if v_el0_sort = v_el1_sort then ((f_X4_hasPart v_el0_length p2 p5).bind fun q3 => (if q3 = 0 then (some ((-13 : Int32), v_el1_items)) else ((f_X4_hasPart v_el1_length p4 p5).bind fun q4 => (if q4 = 0 then (some ((-13 : Int32), v_el1_items)) else (gcp p2 p4 p5 60 60 (some (p5, va_cpy v_el0_items v_el1_items p2.toNatClampNeg p4.toNatClampNeg p5.toNatClampNeg))))))) else (some ((-12 : Int32), v_el1_items)))))))))))
set_option maxRecDepth 20000 in
set_option maxHeartbeats 1000000 in
theorem t_X7_shift {G : Gx} {K : Kx} (C : Cx G K cX7_shift RX7 8 2) {a_t : Nat} {r_t : Nat → Nat} {a_el0 : Nat} {r_el0 : Nat → Nat} {a_el1 : Nat} {r_el1 : Nat → Nat} {v_isKept : Int32} {v_parishCount : Int32} {v_tapes : Nat → Option Nat} {v_el0_sort : Int32} {v_el0_length : Int32} {v_el1_sort : Int32} {v_el1_length : Int32} {v_el0_items : Nat → Int64} {v_el1_items : Nat → Int64} {p1 : Int32} {p2 : Int32} {p3 : Int32} {p4 : Int32} {p5 : Int32} {q : Int32 × (Nat → Int64)} (hQ : k_retI G K cX7_shift 8 .int [oX7 a_t r_t v_isKept v_parishCount, aT G (r_t 9) 6 v_tapes, oX4 a_el0 r_el0 v_el0_sort v_el0_length, oX4 a_el1 r_el1 v_el1_sort v_el1_length, aJ G (r_el0 0) 60 v_el0_items, aJ G (r_el1 0) 60 q.2] q.1) (hel0 : v_tapes p1.toNatClampNeg = some a_el0) (hel1 : v_tapes p3.toNatClampNeg = some a_el1) (hf : f_X7_shift v_el0_sort v_el0_length v_el1_sort v_el1_length v_el0_items v_el1_items p1 p2 p3 p4 p5 = some q) : J G K 8 0 0 [oX7 a_t r_t v_isKept v_parishCount, aT G (r_t 9) 6 v_tapes, oX4 a_el0 r_el0 v_el0_sort v_el0_length, oX4 a_el1 r_el1 v_el1_sort v_el1_length, aJ G (r_el0 0) 60 v_el0_items, aJ G (r_el1 0) 60 v_el1_items] [(0, .ref a_t), (1, .int p1), (2, .int p2), (3, .int p3), (4, .int p4), (5, .int p5)] 0 [] := by
  unfold f_X7_shift at hf
  refine j_iload_n C (pc := 0) 1 rfl rfl dX7_shift_0 ?_
  refine j_cSI C (pc := 1) (As := [.int p1]) (st := []) (ws' := fun q1 => [oX7 a_t r_t v_isKept v_parishCount, aT G (r_t 9) 6 v_tapes, oX4 a_el0 r_el0 v_el0_sort v_el0_length, oX4 a_el1 r_el1 v_el1_sort v_el1_length, aJ G (r_el0 0) 60 v_el0_items, aJ G (r_el1 0) 60 v_el1_items]) ml_X7_219 ms_X7_isTape hf (fun q1 h => (c_X7_isTape G K.2.1) p1 q1 h) [] [none, none, none, none, none, none] 6 rfl (by decide +kernel) (by decide +kernel) (fun _ => rfl) (fun _ => rfl) rfl rfl rfl rfl ⟨Nat.zero_le _, Nat.zero_le _⟩ dX7_shift_1 (fun q1 hf => ?_)
  refine j_if_eq C (pc := 4) 14 dX7_shift_4 (by decide) hf (fun hf => ?_) (fun hf => ?_)
  · refine j_iconst C (pc := 14) (v := -1) (by decide) dX7_shift_14 ?_
    obtain rfl := Option.some.inj hf
    exact hQ _ _ dX7_shift_15 rfl
  · refine j_iload_n C (pc := 7) 3 rfl rfl dX7_shift_7 ?_
    refine j_cSI C (pc := 8) (As := [.int p3]) (st := []) (ws' := fun q2 => [oX7 a_t r_t v_isKept v_parishCount, aT G (r_t 9) 6 v_tapes, oX4 a_el0 r_el0 v_el0_sort v_el0_length, oX4 a_el1 r_el1 v_el1_sort v_el1_length, aJ G (r_el0 0) 60 v_el0_items, aJ G (r_el1 0) 60 v_el1_items]) ml_X7_219 ms_X7_isTape hf (fun q2 h => (c_X7_isTape G K.2.1) p3 q2 h) [] [none, none, none, none, none, none] 6 rfl (by decide +kernel) (by decide +kernel) (fun _ => rfl) (fun _ => rfl) rfl rfl rfl rfl ⟨Nat.zero_le _, Nat.zero_le _⟩ dX7_shift_8 (fun q2 hf => ?_)
    refine j_if_ne C (pc := 11) 16 dX7_shift_11 (by decide) hf (fun hf => ?_) (fun hf => ?_)
    · refine j_aload_n C (pc := 16) 0 rfl rfl dX7_shift_16 ?_
      refine j_get C (pc := 17) kc_X7 fl_X7_53 0 rfl rfl dX7_shift_17 ?_
      refine j_iload_n C (pc := 20) 1 rfl rfl dX7_shift_20 ?_
      refine j_aald C (pc := 21) 1 rfl rfl hel0 hf dX7_shift_21 (fun hf => ?_)
      refine j_astore C (pc := 22) (L' := [(6, .ref a_el0), (0, .ref a_t), (1, .int p1), (2, .int p2), (3, .int p3), (4, .int p4), (5, .int p5)]) dX7_shift_22 (by decide) rfl ?_
      refine j_aload_n C (pc := 24) 1 rfl rfl dX7_shift_24 ?_
      refine j_get C (pc := 25) kc_X7 fl_X7_53 0 rfl rfl dX7_shift_25 ?_
      refine j_iload_n C (pc := 28) 4 rfl rfl dX7_shift_28 ?_
      refine j_aald C (pc := 29) 1 rfl rfl hel1 hf dX7_shift_29 (fun hf => ?_)
      refine j_astore C (pc := 30) (L' := [(7, .ref a_el1), (6, .ref a_el0), (0, .ref a_t), (1, .int p1), (2, .int p2), (3, .int p3), (4, .int p4), (5, .int p5)]) dX7_shift_30 (by decide) rfl ?_
      refine j_aload C (pc := 32) 1 rfl dX7_shift_32 ?_
      refine j_getN C (pc := 34) kc_X4 fl_X7_222 2 rfl rfl dX7_shift_34 ?_
      refine j_iconst C (pc := 37) (v := -1) (by decide) dX7_shift_37 ?_
      refine j_icmp_eq C (pc := 38) 50 dX7_shift_38 (by decide) hf (fun hf => ?_) (fun hf => ?_)
      · refine j_bipush C (pc := 50) (v := -11) (by decide) dX7_shift_50 ?_
        obtain rfl := Option.some.inj hf
        exact hQ _ _ dX7_shift_52 rfl
      · refine j_aload C (pc := 41) 0 rfl dX7_shift_41 ?_
        refine j_getN C (pc := 43) kc_X4 fl_X7_222 3 rfl rfl dX7_shift_43 ?_
        refine j_iconst C (pc := 46) (v := -1) (by decide) dX7_shift_46 ?_
        refine j_icmp_ne C (pc := 47) 53 dX7_shift_47 (by decide) hf (fun hf => ?_) (fun hf => ?_)
        · refine j_aload C (pc := 53) 1 rfl dX7_shift_53 ?_
          refine j_getN C (pc := 55) kc_X4 fl_X7_222 2 rfl rfl dX7_shift_55 ?_
          refine j_aload C (pc := 58) 0 rfl dX7_shift_58 ?_
          refine j_getN C (pc := 60) kc_X4 fl_X7_222 3 rfl rfl dX7_shift_60 ?_
          refine j_icmp_eq C (pc := 63) 69 dX7_shift_63 (by decide) hf (fun hf => ?_) (fun hf => ?_)
          · refine j_aload C (pc := 69) 1 rfl dX7_shift_69 ?_
            refine j_iload_n C (pc := 71) 4 rfl rfl dX7_shift_71 ?_
            refine j_iload C (pc := 72) 7 rfl dX7_shift_72 ?_
            refine j_cVI C (pc := 74) (As := [.int p2, .int p5]) (st := []) (ws' := fun q3 => [oX7 a_t r_t v_isKept v_parishCount, aT G (r_t 9) 6 v_tapes, oX4 a_el0 r_el0 v_el0_sort v_el0_length, oX4 a_el1 r_el1 v_el1_sort v_el1_length, aJ G (r_el0 0) 60 v_el0_items, aJ G (r_el1 0) 60 v_el1_items]) ml_X7_263 ms_X4_hasPart hf (fun q3 h => (c_X4_hasPart G K.2.1) a_el0 r_el0 v_el0_sort v_el0_length p2 p5 q3 h) [2] [none, none, some 0, none, none, none] 6 rfl (by decide +kernel) (by decide +kernel) (fun _ => rfl) (fun _ => rfl) rfl rfl rfl rfl ⟨Nat.zero_le _, Nat.zero_le _⟩ dX7_shift_74 kc_X4 2 rfl (fun q3 hf => ?_)
            refine j_if_eq C (pc := 77) 92 dX7_shift_77 (by decide) hf (fun hf => ?_) (fun hf => ?_)
            · refine j_bipush C (pc := 92) (v := -13) (by decide) dX7_shift_92 ?_
              obtain rfl := Option.some.inj hf
              exact hQ _ _ dX7_shift_94 rfl
            · refine j_aload C (pc := 80) 0 rfl dX7_shift_80 ?_
              refine j_iload C (pc := 82) 6 rfl dX7_shift_82 ?_
              refine j_iload C (pc := 84) 7 rfl dX7_shift_84 ?_
              refine j_cVI C (pc := 86) (As := [.int p4, .int p5]) (st := []) (ws' := fun q4 => [oX7 a_t r_t v_isKept v_parishCount, aT G (r_t 9) 6 v_tapes, oX4 a_el0 r_el0 v_el0_sort v_el0_length, oX4 a_el1 r_el1 v_el1_sort v_el1_length, aJ G (r_el0 0) 60 v_el0_items, aJ G (r_el1 0) 60 v_el1_items]) ml_X7_263 ms_X4_hasPart hf (fun q4 h => (c_X4_hasPart G K.2.1) a_el1 r_el1 v_el1_sort v_el1_length p4 p5 q4 h) [3] [none, none, none, some 0, none, none] 6 rfl (by decide +kernel) (by decide +kernel) (fun _ => rfl) (fun _ => rfl) rfl rfl rfl rfl ⟨Nat.zero_le _, Nat.zero_le _⟩ dX7_shift_86 kc_X4 3 rfl (fun q4 hf => ?_)
              refine j_if_ne C (pc := 89) 95 dX7_shift_89 (by decide) hf (fun hf => ?_) (fun hf => ?_)
              · refine j_aload C (pc := 95) 1 rfl dX7_shift_95 ?_
                refine j_getN C (pc := 97) kc_X4 fl_X7_226 2 rfl rfl dX7_shift_97 ?_
                refine j_iload_n C (pc := 100) 4 rfl rfl dX7_shift_100 ?_
                refine j_aload C (pc := 101) 0 rfl dX7_shift_101 ?_
                refine j_getN C (pc := 103) kc_X4 fl_X7_226 3 rfl rfl dX7_shift_103 ?_
                refine j_iload C (pc := 106) 6 rfl dX7_shift_106 ?_
                refine j_iload C (pc := 108) 7 rfl dX7_shift_108 ?_
                refine j_copyl C (pc := 110) (ws' := [oX7 a_t r_t v_isKept v_parishCount, aT G (r_t 9) 6 v_tapes, oX4 a_el0 r_el0 v_el0_sort v_el0_length, oX4 a_el1 r_el1 v_el1_sort v_el1_length, aJ G (r_el0 0) 60 v_el0_items, aJ G (r_el1 0) 60 (va_cpy v_el0_items v_el1_items p2.toNatClampNeg p4.toNatClampNeg p5.toNatClampNeg)]) ml_X7_266 4 5 rfl rfl hf rfl (Nat.le_of_ble_eq_true rfl) rfl dX7_shift_110 (fun hf => ?_)
                refine j_iload C (pc := 113) 7 rfl dX7_shift_113 ?_
                obtain rfl := Option.some.inj hf
                exact hQ _ _ dX7_shift_115 rfl
              · refine j_bipush C (pc := 92) (v := -13) (by decide) dX7_shift_92 ?_
                obtain rfl := Option.some.inj hf
                exact hQ _ _ dX7_shift_94 rfl
          · refine j_bipush C (pc := 66) (v := -12) (by decide) dX7_shift_66 ?_
            obtain rfl := Option.some.inj hf
            exact hQ _ _ dX7_shift_68 rfl
        · refine j_bipush C (pc := 50) (v := -11) (by decide) dX7_shift_50 ?_
          obtain rfl := Option.some.inj hf
          exact hQ _ _ dX7_shift_52 rfl
    · refine j_iconst C (pc := 14) (v := -1) (by decide) dX7_shift_14 ?_
      obtain rfl := Option.some.inj hf
      exact hQ _ _ dX7_shift_15 rfl
def ct_X7_shift (G : Gx) (l : Launch) (F : Int32 → Int32 → Int32 → Int32 → (Nat → Int64) → (Nat → Int64) → Int32 → Int32 → Int32 → Int32 → Int32 → Option (Int32 × (Nat → Int64))) (lv : Nat) : Prop := ∀ (a_t : Nat) (r_t : Nat → Nat) (a_el0 : Nat) (r_el0 : Nat → Nat) (a_el1 : Nat) (r_el1 : Nat → Nat) (v_isKept : Int32) (v_parishCount : Int32) (v_tapes : Nat → Option Nat) (v_el0_sort : Int32) (v_el0_length : Int32) (v_el1_sort : Int32) (v_el1_length : Int32) (v_el0_items : Nat → Int64) (v_el1_items : Nat → Int64) (p1 : Int32) (p2 : Int32) (p3 : Int32) (p4 : Int32) (p5 : Int32), v_tapes p1.toNatClampNeg = some a_el0 → v_tapes p3.toNatClampNeg = some a_el1 → ∀ (q : Int32 × (Nat → Int64)), F v_el0_sort v_el0_length v_el1_sort v_el1_length v_el0_items v_el1_items p1 p2 p3 p4 p5 = some q → MI G l yX7_shift cX7_shift 8 .int lv [.ref a_t, .int p1, .int p2, .int p3, .int p4, .int p5] [oX7 a_t r_t v_isKept v_parishCount, aT G (r_t 9) 6 v_tapes, oX4 a_el0 r_el0 v_el0_sort v_el0_length, oX4 a_el1 r_el1 v_el1_sort v_el1_length, aJ G (r_el0 0) 60 v_el0_items, aJ G (r_el1 0) 60 v_el1_items] [oX7 a_t r_t v_isKept v_parishCount, aT G (r_t 9) 6 v_tapes, oX4 a_el0 r_el0 v_el0_sort v_el0_length, oX4 a_el1 r_el1 v_el1_sort v_el1_length, aJ G (r_el0 0) 60 v_el0_items, aJ G (r_el1 0) 60 q.2] q.1
theorem c_X7_shift (G : Gx) (l : Launch) : ct_X7_shift G l f_X7_shift 2 := by
  intro a_t r_t a_el0 r_el0 a_el1 r_el1 v_isKept v_parishCount v_tapes v_el0_sort v_el0_length v_el1_sort v_el1_length v_el0_items v_el1_items p1 p2 p3 p4 p5 hel0 hel1 q hf
  exact mI_of (by decide +kernel) rfl (fun K hl C hQ => t_X7_shift C hQ hel0 hel1 hf)
-- X7_taken
def f_X7_taken_43_b (p2 : Int32) (k43 : Int32 → Int32 → Int32 → Option (Int32)) (x3 : Int32) (x4 : Int32) (x5 : Int32) : Option (Int32) := (if (7 : Int32) ≤ x5 then (some (-12 : Int32)) else (if x4 < 0 then (some (-12 : Int32)) else (if (7 : Int32) ≤ x4 then (some (-12 : Int32)) else (if x4 = p2 then (some x3) else (gd x4 7 (nm (k_above x4.toNatClampNeg) fun y1 => (k43 x3 y1 (x5 + (1 : Int32)))))))))
def f_X7_taken_43 (p2 : Int32) : Nat → Int32 → Int32 → Int32 → Option (Int32)
  | 0 => fun _ _ _ => none
  | n + 1 => f_X7_taken_43_b p2 (f_X7_taken_43 p2 n)
set_option maxRecDepth 20000 in
set_option maxHeartbeats 1000000 in
theorem t_X7_taken_43_b {G : Gx} {K : Kx} (C : Cx G K cX7_taken RX7 6 2) {a_t : Nat} {r_t : Nat → Nat} {r_now : Nat → Nat} {v_isKept : Int32} {v_parishCount : Int32} {v_now_people : Int32} {v_now_day : Int32} {v_now_dead : Int32} {v_now_buried : Int32} {a_now_holding : Nat} {v_now_kinds : Nat → Int32} {p2 : Int32} {q : Int32} (hQ : k_retI G K cX7_taken 6 .int [oX7 a_t r_t v_isKept v_parishCount, oX6 (r_t 0) r_now v_now_people v_now_day v_now_dead v_now_buried a_now_holding, aI G (r_now 5) 6 v_now_kinds] q) {k43 : Int32 → Int32 → Int32 → Option (Int32)} (hk43 : ∀ (x3 : Int32) (x4 : Int32) (x5 : Int32), k43 x3 x4 x5 = some q → J G K 6 0 0 [oX7 a_t r_t v_isKept v_parishCount, oX6 (r_t 0) r_now v_now_people v_now_day v_now_dead v_now_buried a_now_holding, aI G (r_now 5) 6 v_now_kinds] [(2, .int p2), (3, .int x3), (4, .int x4), (5, .int x5)] 43 []) {x3 : Int32} {x4 : Int32} {x5 : Int32} (hf : f_X7_taken_43_b p2 k43 x3 x4 x5 = some q) : J G K 6 0 0 [oX7 a_t r_t v_isKept v_parishCount, oX6 (r_t 0) r_now v_now_people v_now_day v_now_dead v_now_buried a_now_holding, aI G (r_now 5) 6 v_now_kinds] [(2, .int p2), (3, .int x3), (4, .int x4), (5, .int x5)] 43 [] := by
  unfold f_X7_taken_43_b at hf
  refine j_iload C (pc := 43) 3 rfl dX7_taken_43 ?_
  refine j_bipush C (pc := 45) (v := 7) (by decide) dX7_taken_45 ?_
  refine j_icmp_ge C (pc := 47) 84 dX7_taken_47 (by decide) hf (fun hf => ?_) (fun hf => ?_)
  · refine j_bipush C (pc := 84) (v := -12) (by decide) dX7_taken_84 ?_
    obtain rfl := Option.some.inj hf
    exact hQ _ _ dX7_taken_86 rfl
  · refine j_iload C (pc := 50) 2 rfl dX7_taken_50 ?_
    refine j_if_lt C (pc := 52) 84 dX7_taken_52 (by decide) hf (fun hf => ?_) (fun hf => ?_)
    · refine j_bipush C (pc := 84) (v := -12) (by decide) dX7_taken_84 ?_
      obtain rfl := Option.some.inj hf
      exact hQ _ _ dX7_taken_86 rfl
    · refine j_iload C (pc := 55) 2 rfl dX7_taken_55 ?_
      refine j_bipush C (pc := 57) (v := 7) (by decide) dX7_taken_57 ?_
      refine j_icmp_ge C (pc := 59) 84 dX7_taken_59 (by decide) hf (fun hf => ?_) (fun hf => ?_)
      · refine j_bipush C (pc := 84) (v := -12) (by decide) dX7_taken_84 ?_
        obtain rfl := Option.some.inj hf
        exact hQ _ _ dX7_taken_86 rfl
      · refine j_iload C (pc := 62) 2 rfl dX7_taken_62 ?_
        refine j_iload_n C (pc := 64) 0 rfl rfl dX7_taken_64 ?_
        refine j_icmp_ne C (pc := 65) 70 dX7_taken_65 (by decide) hf (fun hf => ?_) (fun hf => ?_)
        · refine j_gs_above C (pc := 70) sl_X7_253 dX7_taken_70 ?_
          refine j_iload C (pc := 73) 2 rfl dX7_taken_73 ?_
          refine j_ld_above C (pc := 75) hf dX7_taken_75 (fun hf => ?_)
          refine j_nm hf (fun y1 hf => ?_)
          refine j_istore C (pc := 76) (L' := [(4, .int y1), (2, .int p2), (3, .int x3), (5, .int x5)]) dX7_taken_76 (by decide) rfl ?_
          refine j_iinc C (pc := 78) (L' := [(5, .int (x5 + (1 : Int32))), (4, .int y1), (2, .int p2), (3, .int x3)]) (v := x5 + (1 : Int32)) dX7_taken_78 (t := 3) rfl rfl (by decide) rfl ?_
          refine j_goto C (pc := 81) 43 dX7_taken_81 (by decide) ?_
          refine j_sub [2, 3, 1, 0] rfl ?_
          exact hk43 _ _ _ hf
        · refine j_iload_n C (pc := 68) 1 rfl rfl dX7_taken_68 ?_
          obtain rfl := Option.some.inj hf
          exact hQ _ _ dX7_taken_69 rfl
theorem t_X7_taken_43 {G : Gx} {K : Kx} (C : Cx G K cX7_taken RX7 6 2) {a_t : Nat} {r_t : Nat → Nat} {r_now : Nat → Nat} {v_isKept : Int32} {v_parishCount : Int32} {v_now_people : Int32} {v_now_day : Int32} {v_now_dead : Int32} {v_now_buried : Int32} {a_now_holding : Nat} {v_now_kinds : Nat → Int32} {p2 : Int32} {q : Int32} (hQ : k_retI G K cX7_taken 6 .int [oX7 a_t r_t v_isKept v_parishCount, oX6 (r_t 0) r_now v_now_people v_now_day v_now_dead v_now_buried a_now_holding, aI G (r_now 5) 6 v_now_kinds] q) : ∀ (n : Nat) (x3 : Int32) (x4 : Int32) (x5 : Int32), f_X7_taken_43 p2 n x3 x4 x5 = some q → J G K 6 0 0 [oX7 a_t r_t v_isKept v_parishCount, oX6 (r_t 0) r_now v_now_people v_now_day v_now_dead v_now_buried a_now_holding, aI G (r_now 5) 6 v_now_kinds] [(2, .int p2), (3, .int x3), (4, .int x4), (5, .int x5)] 43 [] := by
  intro n
  induction n with
  | zero => intro x3 x4 x5 hf; cases hf
  | succ n ih => intro x3 x4 x5 hf; exact t_X7_taken_43_b C hQ ih hf
def f_X7_taken (v_now_people : Int32) (v_now_kinds : Nat → Int32) (p1 : Int32) (p2 : Int32) : Option (Int32) := (if p2 < 0 then (some (-2 : Int32)) else (if p2 < (7 : Int32) then ((f_X6_has v_now_people p1).bind fun q1 => (if q1 = 0 then (some (-11 : Int32)) else (gd p1 6 (nm (v_now_kinds p1.toNatClampNeg) fun y2 => (f_X7_taken_43 p2 1000 y2 y2 (0 : Int32)))))) else (some (-2 : Int32))))
set_option maxRecDepth 20000 in
set_option maxHeartbeats 1000000 in
theorem t_X7_taken {G : Gx} {K : Kx} (C : Cx G K cX7_taken RX7 6 2) {a_t : Nat} {r_t : Nat → Nat} {r_now : Nat → Nat} {v_isKept : Int32} {v_parishCount : Int32} {v_now_people : Int32} {v_now_day : Int32} {v_now_dead : Int32} {v_now_buried : Int32} {a_now_holding : Nat} {v_now_kinds : Nat → Int32} {p1 : Int32} {p2 : Int32} {q : Int32} (hQ : k_retI G K cX7_taken 6 .int [oX7 a_t r_t v_isKept v_parishCount, oX6 (r_t 0) r_now v_now_people v_now_day v_now_dead v_now_buried a_now_holding, aI G (r_now 5) 6 v_now_kinds] q) (hf : f_X7_taken v_now_people v_now_kinds p1 p2 = some q) : J G K 6 0 0 [oX7 a_t r_t v_isKept v_parishCount, oX6 (r_t 0) r_now v_now_people v_now_day v_now_dead v_now_buried a_now_holding, aI G (r_now 5) 6 v_now_kinds] [(0, .ref a_t), (1, .int p1), (2, .int p2)] 0 [] := by
  unfold f_X7_taken at hf
  refine j_iload_n C (pc := 0) 2 rfl rfl dX7_taken_0 ?_
  refine j_if_lt C (pc := 1) 10 dX7_taken_1 (by decide) hf (fun hf => ?_) (fun hf => ?_)
  · refine j_bipush C (pc := 10) (v := -2) (by decide) dX7_taken_10 ?_
    obtain rfl := Option.some.inj hf
    exact hQ _ _ dX7_taken_12 rfl
  · refine j_iload_n C (pc := 4) 2 rfl rfl dX7_taken_4 ?_
    refine j_bipush C (pc := 5) (v := 7) (by decide) dX7_taken_5 ?_
    refine j_icmp_lt C (pc := 7) 13 dX7_taken_7 (by decide) hf (fun hf => ?_) (fun hf => ?_)
    · refine j_aload_n C (pc := 13) 0 rfl rfl dX7_taken_13 ?_
      refine j_get C (pc := 14) kc_X7 fl_X7_14 0 rfl rfl dX7_taken_14 ?_
      refine j_iload_n C (pc := 17) 1 rfl rfl dX7_taken_17 ?_
      refine j_cVI C (pc := 18) (As := [.int p1]) (st := []) (ws' := fun q1 => [oX7 a_t r_t v_isKept v_parishCount, oX6 (r_t 0) r_now v_now_people v_now_day v_now_dead v_now_buried a_now_holding, aI G (r_now 5) 6 v_now_kinds]) ml_X7_63 ms_X6_has hf (fun q1 h => (c_X6_has G K.2.1) (r_t 0) r_now v_now_people v_now_day v_now_dead v_now_buried a_now_holding p1 q1 h) [1] [none, some 0, none] 3 rfl (by decide +kernel) (by decide +kernel) (fun _ => rfl) (fun _ => rfl) rfl rfl rfl rfl ⟨Nat.zero_le _, Nat.zero_le _⟩ dX7_taken_18 kc_X6 1 rfl (fun q1 hf => ?_)
      refine j_if_ne C (pc := 21) 27 dX7_taken_21 (by decide) hf (fun hf => ?_) (fun hf => ?_)
      · refine j_aload_n C (pc := 27) 0 rfl rfl dX7_taken_27 ?_
        refine j_get C (pc := 28) kc_X7 fl_X7_14 0 rfl rfl dX7_taken_28 ?_
        refine j_getN C (pc := 31) kc_X6 fl_X7_67 1 rfl rfl dX7_taken_31 ?_
        refine j_iload_n C (pc := 34) 1 rfl rfl dX7_taken_34 ?_
        refine j_iald C (pc := 35) 2 rfl hf dX7_taken_35 (fun hf => ?_)
        refine j_nm hf (fun y2 hf => ?_)
        refine j_istore_n C (pc := 36) (L' := [(3, .int y2), (0, .ref a_t), (1, .int p1), (2, .int p2)]) dX7_taken_36 rfl (by decide) rfl ?_
        refine j_iload_n C (pc := 37) 0 rfl rfl dX7_taken_37 ?_
        refine j_istore C (pc := 38) (L' := [(4, .int y2), (3, .int y2), (0, .ref a_t), (1, .int p1), (2, .int p2)]) dX7_taken_38 (by decide) rfl ?_
        refine j_iconst C (pc := 40) (v := 0) (by decide) dX7_taken_40 ?_
        refine j_istore C (pc := 41) (L' := [(5, .int (0 : Int32)), (4, .int y2), (3, .int y2), (0, .ref a_t), (1, .int p1), (2, .int p2)]) dX7_taken_41 (by decide) rfl ?_
        refine j_sub [5, 2, 1, 0] rfl ?_
        exact t_X7_taken_43 C hQ 1000 _ _ _ hf
      · refine j_bipush C (pc := 24) (v := -11) (by decide) dX7_taken_24 ?_
        obtain rfl := Option.some.inj hf
        exact hQ _ _ dX7_taken_26 rfl
    · refine j_bipush C (pc := 10) (v := -2) (by decide) dX7_taken_10 ?_
      obtain rfl := Option.some.inj hf
      exact hQ _ _ dX7_taken_12 rfl
def ct_X7_taken (G : Gx) (l : Launch) (F : Int32 → (Nat → Int32) → Int32 → Int32 → Option (Int32)) (lv : Nat) : Prop := ∀ (a_t : Nat) (r_t : Nat → Nat) (r_now : Nat → Nat) (v_isKept : Int32) (v_parishCount : Int32) (v_now_people : Int32) (v_now_day : Int32) (v_now_dead : Int32) (v_now_buried : Int32) (a_now_holding : Nat) (v_now_kinds : Nat → Int32) (p1 : Int32) (p2 : Int32), ∀ (q : Int32), F v_now_people v_now_kinds p1 p2 = some q → MI G l yX7_taken cX7_taken 6 .int lv [.ref a_t, .int p1, .int p2] [oX7 a_t r_t v_isKept v_parishCount, oX6 (r_t 0) r_now v_now_people v_now_day v_now_dead v_now_buried a_now_holding, aI G (r_now 5) 6 v_now_kinds] [oX7 a_t r_t v_isKept v_parishCount, oX6 (r_t 0) r_now v_now_people v_now_day v_now_dead v_now_buried a_now_holding, aI G (r_now 5) 6 v_now_kinds] q
theorem c_X7_taken (G : Gx) (l : Launch) : ct_X7_taken G l f_X7_taken 2 := by
  intro a_t r_t r_now v_isKept v_parishCount v_now_people v_now_day v_now_dead v_now_buried a_now_holding v_now_kinds p1 p2 q hf
  exact mI_of (by decide +kernel) rfl (fun K hl C hQ => t_X7_taken C hQ hf)
-- X7_tape
def f_X7_tape (v_el0_sort : Int32) (v_el0_length : Int32) (v_el0_items : Nat → Int64) (p1 : Int32) (p2 : Int32) (p3 : Int32) : Option (Int32 × Int32 × Int32 × (Nat → Int64)) := ((f_X7_isTape p1).bind fun q1 => (if q1 = 0 then (some ((-1 : Int32), v_el0_sort, v_el0_length, v_el0_items)) else (if p2 = (-1 : Int32) then (gd p1 6 ((f_X4_become v_el0_items (-1 : Int32) (0 : Int32)).bind fun q3 => (some ((1 : Int32), q3.1, q3.2.1, q3.2.2)))) else (if p2 < 0 then (some ((-2 : Int32), v_el0_sort, v_el0_length, v_el0_items)) else (if (4 : Int32) < p2 then (some ((-2 : Int32), v_el0_sort, v_el0_length, v_el0_items)) else (if p3 ≤ (60 : Int32) then (if 0 ≤ p3 then (gd p1 6 ((f_X4_become v_el0_items p2 p3).bind fun q2 => (some ((1 : Int32), q2.1, q2.2.1, q2.2.2)))) else (some ((-14 : Int32), v_el0_sort, v_el0_length, v_el0_items))) else (some ((-2 : Int32), v_el0_sort, v_el0_length, v_el0_items))))))))
set_option maxRecDepth 20000 in
set_option maxHeartbeats 1000000 in
theorem t_X7_tape {G : Gx} {K : Kx} (C : Cx G K cX7_tape RX7 4 3) {a_t : Nat} {r_t : Nat → Nat} {a_el0 : Nat} {r_el0 : Nat → Nat} {v_isKept : Int32} {v_parishCount : Int32} {v_tapes : Nat → Option Nat} {v_el0_sort : Int32} {v_el0_length : Int32} {v_el0_items : Nat → Int64} {p1 : Int32} {p2 : Int32} {p3 : Int32} {q : Int32 × Int32 × Int32 × (Nat → Int64)} (hQ : k_retI G K cX7_tape 4 .int [oX7 a_t r_t v_isKept v_parishCount, aT G (r_t 9) 6 v_tapes, oX4 a_el0 r_el0 q.2.1 q.2.2.1, aJ G (r_el0 0) 60 q.2.2.2] q.1) (hel0 : v_tapes p1.toNatClampNeg = some a_el0) (hf : f_X7_tape v_el0_sort v_el0_length v_el0_items p1 p2 p3 = some q) : J G K 4 0 0 [oX7 a_t r_t v_isKept v_parishCount, aT G (r_t 9) 6 v_tapes, oX4 a_el0 r_el0 v_el0_sort v_el0_length, aJ G (r_el0 0) 60 v_el0_items] [(0, .ref a_t), (1, .int p1), (2, .int p2), (3, .int p3)] 0 [] := by
  unfold f_X7_tape at hf
  refine j_iload_n C (pc := 0) 1 rfl rfl dX7_tape_0 ?_
  refine j_cSI C (pc := 1) (As := [.int p1]) (st := []) (ws' := fun q1 => [oX7 a_t r_t v_isKept v_parishCount, aT G (r_t 9) 6 v_tapes, oX4 a_el0 r_el0 v_el0_sort v_el0_length, aJ G (r_el0 0) 60 v_el0_items]) ml_X7_219 ms_X7_isTape hf (fun q1 h => (c_X7_isTape G K.2.1) p1 q1 h) [] [none, none, none, none] 4 rfl (by decide +kernel) (by decide +kernel) (fun _ => rfl) (fun _ => rfl) rfl rfl rfl rfl ⟨Nat.zero_le _, Nat.zero_le _⟩ dX7_tape_1 (fun q1 hf => ?_)
  refine j_if_ne C (pc := 4) 9 dX7_tape_4 (by decide) hf (fun hf => ?_) (fun hf => ?_)
  · refine j_iload_n C (pc := 9) 2 rfl rfl dX7_tape_9 ?_
    refine j_iconst C (pc := 10) (v := -1) (by decide) dX7_tape_10 ?_
    refine j_icmp_ne C (pc := 11) 27 dX7_tape_11 (by decide) hf (fun hf => ?_) (fun hf => ?_)
    · refine j_iload_n C (pc := 27) 2 rfl rfl dX7_tape_27 ?_
      refine j_if_lt C (pc := 28) 42 dX7_tape_28 (by decide) hf (fun hf => ?_) (fun hf => ?_)
      · refine j_bipush C (pc := 42) (v := -2) (by decide) dX7_tape_42 ?_
        obtain rfl := Option.some.inj hf
        exact hQ _ _ dX7_tape_44 rfl
      · refine j_iload_n C (pc := 31) 2 rfl rfl dX7_tape_31 ?_
        refine j_iconst C (pc := 32) (v := 4) (by decide) dX7_tape_32 ?_
        refine j_icmp_gt C (pc := 33) 42 dX7_tape_33 (by decide) hf (fun hf => ?_) (fun hf => ?_)
        · refine j_bipush C (pc := 42) (v := -2) (by decide) dX7_tape_42 ?_
          obtain rfl := Option.some.inj hf
          exact hQ _ _ dX7_tape_44 rfl
        · refine j_iload_n C (pc := 36) 3 rfl rfl dX7_tape_36 ?_
          refine j_bipush C (pc := 37) (v := 60) (by decide) dX7_tape_37 ?_
          refine j_icmp_le C (pc := 39) 45 dX7_tape_39 (by decide) hf (fun hf => ?_) (fun hf => ?_)
          · refine j_iload_n C (pc := 45) 3 rfl rfl dX7_tape_45 ?_
            refine j_if_ge C (pc := 46) 52 dX7_tape_46 (by decide) hf (fun hf => ?_) (fun hf => ?_)
            · refine j_aload_n C (pc := 52) 0 rfl rfl dX7_tape_52 ?_
              refine j_get C (pc := 53) kc_X7 fl_X7_53 0 rfl rfl dX7_tape_53 ?_
              refine j_iload_n C (pc := 56) 1 rfl rfl dX7_tape_56 ?_
              refine j_aald C (pc := 57) 1 rfl rfl hel0 hf dX7_tape_57 (fun hf => ?_)
              refine j_iload_n C (pc := 58) 2 rfl rfl dX7_tape_58 ?_
              refine j_iload_n C (pc := 59) 3 rfl rfl dX7_tape_59 ?_
              refine j_cVZ C (pc := 60) (As := [.int p2, .int p3]) (st := []) (ws' := fun q2 => [oX7 a_t r_t v_isKept v_parishCount, aT G (r_t 9) 6 v_tapes, oX4 a_el0 r_el0 q2.1 q2.2.1, aJ G (r_el0 0) 60 q2.2.2]) ml_X7_256 ms_X4_become hf (fun q2 h => (c_X4_become G K.2.1) a_el0 r_el0 v_el0_sort v_el0_length v_el0_items p2 p3 q2 h) [2, 3] [none, none, some 0, some 1] 4 rfl (by decide +kernel) (by decide +kernel) (fun _ => rfl) (fun _ => rfl) rfl rfl rfl rfl ⟨Nat.zero_le _, Nat.zero_le _⟩ dX7_tape_60 kc_X4 2 rfl (fun q2 hf => ?_)
              refine j_iconst C (pc := 63) (v := 1) (by decide) dX7_tape_63 ?_
              obtain rfl := Option.some.inj hf
              exact hQ _ _ dX7_tape_64 rfl
            · refine j_bipush C (pc := 49) (v := -14) (by decide) dX7_tape_49 ?_
              obtain rfl := Option.some.inj hf
              exact hQ _ _ dX7_tape_51 rfl
          · refine j_bipush C (pc := 42) (v := -2) (by decide) dX7_tape_42 ?_
            obtain rfl := Option.some.inj hf
            exact hQ _ _ dX7_tape_44 rfl
    · refine j_aload_n C (pc := 14) 0 rfl rfl dX7_tape_14 ?_
      refine j_get C (pc := 15) kc_X7 fl_X7_53 0 rfl rfl dX7_tape_15 ?_
      refine j_iload_n C (pc := 18) 1 rfl rfl dX7_tape_18 ?_
      refine j_aald C (pc := 19) 1 rfl rfl hel0 hf dX7_tape_19 (fun hf => ?_)
      refine j_iconst C (pc := 20) (v := -1) (by decide) dX7_tape_20 ?_
      refine j_iconst C (pc := 21) (v := 0) (by decide) dX7_tape_21 ?_
      refine j_cVZ C (pc := 22) (As := [.int (-1 : Int32), .int (0 : Int32)]) (st := []) (ws' := fun q3 => [oX7 a_t r_t v_isKept v_parishCount, aT G (r_t 9) 6 v_tapes, oX4 a_el0 r_el0 q3.1 q3.2.1, aJ G (r_el0 0) 60 q3.2.2]) ml_X7_256 ms_X4_become hf (fun q3 h => (c_X4_become G K.2.1) a_el0 r_el0 v_el0_sort v_el0_length v_el0_items (-1 : Int32) (0 : Int32) q3 h) [2, 3] [none, none, some 0, some 1] 4 rfl (by decide +kernel) (by decide +kernel) (fun _ => rfl) (fun _ => rfl) rfl rfl rfl rfl ⟨Nat.zero_le _, Nat.zero_le _⟩ dX7_tape_22 kc_X4 2 rfl (fun q3 hf => ?_)
      refine j_iconst C (pc := 25) (v := 1) (by decide) dX7_tape_25 ?_
      obtain rfl := Option.some.inj hf
      exact hQ _ _ dX7_tape_26 rfl
  · refine j_iconst C (pc := 7) (v := -1) (by decide) dX7_tape_7 ?_
    obtain rfl := Option.some.inj hf
    exact hQ _ _ dX7_tape_8 rfl
def ct_X7_tape (G : Gx) (l : Launch) (F : Int32 → Int32 → (Nat → Int64) → Int32 → Int32 → Int32 → Option (Int32 × Int32 × Int32 × (Nat → Int64))) (lv : Nat) : Prop := ∀ (a_t : Nat) (r_t : Nat → Nat) (a_el0 : Nat) (r_el0 : Nat → Nat) (v_isKept : Int32) (v_parishCount : Int32) (v_tapes : Nat → Option Nat) (v_el0_sort : Int32) (v_el0_length : Int32) (v_el0_items : Nat → Int64) (p1 : Int32) (p2 : Int32) (p3 : Int32), v_tapes p1.toNatClampNeg = some a_el0 → ∀ (q : Int32 × Int32 × Int32 × (Nat → Int64)), F v_el0_sort v_el0_length v_el0_items p1 p2 p3 = some q → MI G l yX7_tape cX7_tape 4 .int lv [.ref a_t, .int p1, .int p2, .int p3] [oX7 a_t r_t v_isKept v_parishCount, aT G (r_t 9) 6 v_tapes, oX4 a_el0 r_el0 v_el0_sort v_el0_length, aJ G (r_el0 0) 60 v_el0_items] [oX7 a_t r_t v_isKept v_parishCount, aT G (r_t 9) 6 v_tapes, oX4 a_el0 r_el0 q.2.1 q.2.2.1, aJ G (r_el0 0) 60 q.2.2.2] q.1
theorem c_X7_tape (G : Gx) (l : Launch) : ct_X7_tape G l f_X7_tape 3 := by
  intro a_t r_t a_el0 r_el0 v_isKept v_parishCount v_tapes v_el0_sort v_el0_length v_el0_items p1 p2 p3 hel0 q hf
  exact mI_of (by decide +kernel) rfl (fun K hl C hQ => t_X7_tape C hQ hel0 hf)
-- X7_told
def f_X7_told (v_now_people : Int32) (v_now_day : Int32) (v_now_dead : Int32) (v_now_buried : Int32) (v_now_holding_length : Int32) (v_now_holding_need : Int32) (v_now_hates : Nat → Int32) (v_choices_enemies : Nat → Int32) (v_now_vs : Nat → Int32) (v_now_kinds : Nat → Int32) (v_now_facts : Nat → Int32) (v_now_holding_steps : Nat → Int32) (v_now_holding_numbers : Nat → Int32) (v_now_rows : Nat → Int32) (v_choices_enemiesByDay : Nat → Int32) (v_choices_ways : Nat → Int32) (p1 : Int32) : Option (Int32 × (Nat → Int32) × (Nat → Int32) × (Nat → Int32) × (Nat → Int32)) := (if p1 = (0 : Int32) then (some (v_now_day, v_choices_enemies, v_now_facts, v_choices_enemiesByDay, v_choices_ways)) else (if p1 = (1 : Int32) then (some (v_now_holding_need, v_choices_enemies, v_now_facts, v_choices_enemiesByDay, v_choices_ways)) else (if p1 = (2 : Int32) then (some (v_now_dead, v_choices_enemies, v_now_facts, v_choices_enemiesByDay, v_choices_ways)) else (if p1 = (3 : Int32) then (some (v_now_buried, v_choices_enemies, v_now_facts, v_choices_enemiesByDay, v_choices_ways)) else (if p1 = (4 : Int32) then ((f_X6_allHate v_now_hates).bind fun q1 => (some (q1, v_choices_enemies, v_now_facts, v_choices_enemiesByDay, v_choices_ways))) else (if p1 = (5 : Int32) then ((f_X1_lonely v_now_people v_now_day v_now_dead v_choices_enemies v_now_hates v_now_vs v_now_kinds v_now_facts v_now_holding_length v_now_holding_need v_now_holding_steps v_now_holding_numbers v_now_rows).bind fun q2 => (some (q2.1, q2.2.1, q2.2.2, v_choices_enemiesByDay, v_choices_ways))) else (if p1 = (6 : Int32) then ((f_X1_keep v_now_people v_now_day v_now_dead v_choices_enemies v_now_hates v_now_vs v_now_kinds v_now_facts v_now_holding_length v_now_holding_need v_now_holding_steps v_now_holding_numbers v_now_rows).bind fun q3 => (some (q3.1, q3.2.1, q3.2.2, v_choices_enemiesByDay, v_choices_ways))) else (if p1 = (7 : Int32) then ((f_X1_longest v_now_people v_now_day v_now_dead v_choices_enemiesByDay v_now_hates v_now_vs v_now_kinds v_now_facts v_now_holding_length v_now_holding_need v_now_holding_steps v_now_holding_numbers v_now_rows v_choices_ways).bind fun q4 => (some (q4.1, v_choices_enemies, q4.2.2.1, q4.2.1, q4.2.2.2))) else (some ((-1 : Int32), v_choices_enemies, v_now_facts, v_choices_enemiesByDay, v_choices_ways))))))))))
set_option maxRecDepth 20000 in
set_option maxHeartbeats 1000000 in
theorem t_X7_told {G : Gx} {K : Kx} (C : Cx G K cX7_told RX7 2 7) {a_t : Nat} {r_t : Nat → Nat} {r_now : Nat → Nat} {r_now_holding : Nat → Nat} {r_choices : Nat → Nat} {v_isKept : Int32} {v_parishCount : Int32} {v_now_people : Int32} {v_now_day : Int32} {v_now_dead : Int32} {v_now_buried : Int32} {a_now_holding : Nat} {v_now_holding_length : Int32} {v_now_holding_need : Int32} {v_now_hates : Nat → Int32} {v_choices_enemies : Nat → Int32} {v_now_vs : Nat → Int32} {v_now_kinds : Nat → Int32} {v_now_facts : Nat → Int32} {v_now_holding_steps : Nat → Int32} {v_now_holding_numbers : Nat → Int32} {v_now_rows : Nat → Int32} {v_choices_enemiesByDay : Nat → Int32} {v_choices_ways : Nat → Int32} {p1 : Int32} {q : Int32 × (Nat → Int32) × (Nat → Int32) × (Nat → Int32) × (Nat → Int32)} (hQ : k_retI G K cX7_told 2 .int [oX7 a_t r_t v_isKept v_parishCount, oX6 (r_t 0) r_now v_now_people v_now_day v_now_dead v_now_buried a_now_holding, oX2 a_now_holding r_now_holding v_now_holding_length v_now_holding_need, aI G (r_now 8) 36 v_now_hates, oX1 (r_t 7) r_choices, aI G (r_choices 0) 6 q.2.1, aI G (r_now 6) 6 v_now_vs, aI G (r_now 5) 6 v_now_kinds, aI G (r_now 13) 6 q.2.2.1, aI G (r_now_holding 0) 100 v_now_holding_steps, aI G (r_now_holding 1) 100 v_now_holding_numbers, aI G (r_now 9) 24 v_now_rows, aI G (r_choices 2) 36 q.2.2.2.1, aI G (r_choices 3) 64 q.2.2.2.2] q.1) (hf : f_X7_told v_now_people v_now_day v_now_dead v_now_buried v_now_holding_length v_now_holding_need v_now_hates v_choices_enemies v_now_vs v_now_kinds v_now_facts v_now_holding_steps v_now_holding_numbers v_now_rows v_choices_enemiesByDay v_choices_ways p1 = some q) : J G K 2 0 0 [oX7 a_t r_t v_isKept v_parishCount, oX6 (r_t 0) r_now v_now_people v_now_day v_now_dead v_now_buried a_now_holding, oX2 a_now_holding r_now_holding v_now_holding_length v_now_holding_need, aI G (r_now 8) 36 v_now_hates, oX1 (r_t 7) r_choices, aI G (r_choices 0) 6 v_choices_enemies, aI G (r_now 6) 6 v_now_vs, aI G (r_now 5) 6 v_now_kinds, aI G (r_now 13) 6 v_now_facts, aI G (r_now_holding 0) 100 v_now_holding_steps, aI G (r_now_holding 1) 100 v_now_holding_numbers, aI G (r_now 9) 24 v_now_rows, aI G (r_choices 2) 36 v_choices_enemiesByDay, aI G (r_choices 3) 64 v_choices_ways] [(0, .ref a_t), (1, .int p1)] 0 [] := by
  unfold f_X7_told at hf
  refine j_iload_n C (pc := 0) 1 rfl rfl dX7_told_0 ?_
  obtain ⟨h0, hf⟩ | ⟨h0, hf⟩ := k_or hf
  · refine j_tabIn C (pc := 1) 48 dX7_told_1 (by rw [h0]; decide) (by rw [h0]; decide) (by rw [h0] <;> rfl) (by decide) ?_
    refine j_aload_n C (pc := 48) 0 rfl rfl dX7_told_48 ?_
    refine j_get C (pc := 49) kc_X7 fl_X7_14 0 rfl rfl dX7_told_49 ?_
    refine j_getN C (pc := 52) kc_X6 fl_X7_87 1 rfl rfl dX7_told_52 ?_
    obtain rfl := Option.some.inj hf
    exact hQ _ _ dX7_told_55 rfl
  · skip
    obtain ⟨h1, hf⟩ | ⟨h1, hf⟩ := k_or hf
    · refine j_tabIn C (pc := 1) 56 dX7_told_1 (by rw [h1]; decide) (by rw [h1]; decide) (by rw [h1] <;> rfl) (by decide) ?_
      refine j_aload_n C (pc := 56) 0 rfl rfl dX7_told_56 ?_
      refine j_get C (pc := 57) kc_X7 fl_X7_14 0 rfl rfl dX7_told_57 ?_
      refine j_getN C (pc := 60) kc_X6 fl_X7_135 1 rfl rfl dX7_told_60 ?_
      refine j_getN C (pc := 63) kc_X2 fl_X7_139 2 rfl rfl dX7_told_63 ?_
      obtain rfl := Option.some.inj hf
      exact hQ _ _ dX7_told_66 rfl
    · skip
      obtain ⟨h2, hf⟩ | ⟨h2, hf⟩ := k_or hf
      · refine j_tabIn C (pc := 1) 67 dX7_told_1 (by rw [h2]; decide) (by rw [h2]; decide) (by rw [h2] <;> rfl) (by decide) ?_
        refine j_aload_n C (pc := 67) 0 rfl rfl dX7_told_67 ?_
        refine j_get C (pc := 68) kc_X7 fl_X7_14 0 rfl rfl dX7_told_68 ?_
        refine j_getN C (pc := 71) kc_X6 fl_X7_74 1 rfl rfl dX7_told_71 ?_
        obtain rfl := Option.some.inj hf
        exact hQ _ _ dX7_told_74 rfl
      · skip
        obtain ⟨h3, hf⟩ | ⟨h3, hf⟩ := k_or hf
        · refine j_tabIn C (pc := 1) 75 dX7_told_1 (by rw [h3]; decide) (by rw [h3]; decide) (by rw [h3] <;> rfl) (by decide) ?_
          refine j_aload_n C (pc := 75) 0 rfl rfl dX7_told_75 ?_
          refine j_get C (pc := 76) kc_X7 fl_X7_14 0 rfl rfl dX7_told_76 ?_
          refine j_getN C (pc := 79) kc_X6 fl_X7_81 1 rfl rfl dX7_told_79 ?_
          obtain rfl := Option.some.inj hf
          exact hQ _ _ dX7_told_82 rfl
        · skip
          obtain ⟨h4, hf⟩ | ⟨h4, hf⟩ := k_or hf
          · refine j_tabIn C (pc := 1) 83 dX7_told_1 (by rw [h4]; decide) (by rw [h4]; decide) (by rw [h4] <;> rfl) (by decide) ?_
            refine j_aload_n C (pc := 83) 0 rfl rfl dX7_told_83 ?_
            refine j_get C (pc := 84) kc_X7 fl_X7_14 0 rfl rfl dX7_told_84 ?_
            refine j_cVI C (pc := 87) (As := []) (st := []) (ws' := fun q1 => [oX7 a_t r_t v_isKept v_parishCount, oX6 (r_t 0) r_now v_now_people v_now_day v_now_dead v_now_buried a_now_holding, oX2 a_now_holding r_now_holding v_now_holding_length v_now_holding_need, aI G (r_now 8) 36 v_now_hates, oX1 (r_t 7) r_choices, aI G (r_choices 0) 6 v_choices_enemies, aI G (r_now 6) 6 v_now_vs, aI G (r_now 5) 6 v_now_kinds, aI G (r_now 13) 6 v_now_facts, aI G (r_now_holding 0) 100 v_now_holding_steps, aI G (r_now_holding 1) 100 v_now_holding_numbers, aI G (r_now 9) 24 v_now_rows, aI G (r_choices 2) 36 v_choices_enemiesByDay, aI G (r_choices 3) 64 v_choices_ways]) ml_X7_142 ms_X6_allHate hf (fun q1 h => (c_X6_allHate G K.2.1) (r_t 0) r_now v_now_people v_now_day v_now_dead v_now_buried a_now_holding v_now_hates q1 h) [1, 3] [none, some 0, none, some 1, none, none, none, none, none, none, none, none, none, none] 14 rfl (by decide +kernel) (by decide +kernel) (fun _ => rfl) (fun _ => rfl) rfl rfl rfl rfl ⟨Nat.zero_le _, Nat.zero_le _⟩ dX7_told_87 kc_X6 1 rfl (fun q1 hf => ?_)
            obtain rfl := Option.some.inj hf
            exact hQ _ _ dX7_told_90 rfl
          · skip
            obtain ⟨h5, hf⟩ | ⟨h5, hf⟩ := k_or hf
            · refine j_tabIn C (pc := 1) 91 dX7_told_1 (by rw [h5]; decide) (by rw [h5]; decide) (by rw [h5] <;> rfl) (by decide) ?_
              refine j_aload_n C (pc := 91) 0 rfl rfl dX7_told_91 ?_
              refine j_get C (pc := 92) kc_X7 fl_X7_40 0 rfl rfl dX7_told_92 ?_
              refine j_aload_n C (pc := 95) 0 rfl rfl dX7_told_95 ?_
              refine j_get C (pc := 96) kc_X7 fl_X7_14 0 rfl rfl dX7_told_96 ?_
              refine j_cVI C (pc := 99) (As := [.ref (r_t 0)]) (st := []) (ws' := fun q2 => [oX7 a_t r_t v_isKept v_parishCount, oX6 (r_t 0) r_now v_now_people v_now_day v_now_dead v_now_buried a_now_holding, oX2 a_now_holding r_now_holding v_now_holding_length v_now_holding_need, aI G (r_now 8) 36 v_now_hates, oX1 (r_t 7) r_choices, aI G (r_choices 0) 6 q2.2.1, aI G (r_now 6) 6 v_now_vs, aI G (r_now 5) 6 v_now_kinds, aI G (r_now 13) 6 q2.2.2, aI G (r_now_holding 0) 100 v_now_holding_steps, aI G (r_now_holding 1) 100 v_now_holding_numbers, aI G (r_now 9) 24 v_now_rows, aI G (r_choices 2) 36 v_choices_enemiesByDay, aI G (r_choices 3) 64 v_choices_ways]) ml_X7_146 ms_X1_lonely hf (fun q2 h => (c_X1_lonely G K.2.1) (r_t 7) r_choices (r_t 0) r_now r_now_holding v_now_people v_now_day v_now_dead v_now_buried a_now_holding v_choices_enemies v_now_hates v_now_vs v_now_kinds v_now_facts v_now_holding_length v_now_holding_need v_now_holding_steps v_now_holding_numbers v_now_rows q2 h) [4, 1, 5, 3, 6, 7, 8, 2, 9, 10, 11] [none, some 1, some 7, some 3, some 0, some 2, some 4, some 5, some 6, some 8, some 9, some 10, none, none] 14 rfl (by decide +kernel) (by decide +kernel) (fun _ => rfl) (fun _ => rfl) rfl rfl rfl rfl ⟨Nat.zero_le _, Nat.zero_le _⟩ dX7_told_99 kc_X1 4 rfl (fun q2 hf => ?_)
              obtain rfl := Option.some.inj hf
              exact hQ _ _ dX7_told_102 rfl
            · skip
              obtain ⟨h6, hf⟩ | ⟨h6, hf⟩ := k_or hf
              · refine j_tabIn C (pc := 1) 103 dX7_told_1 (by rw [h6]; decide) (by rw [h6]; decide) (by rw [h6] <;> rfl) (by decide) ?_
                refine j_aload_n C (pc := 103) 0 rfl rfl dX7_told_103 ?_
                refine j_get C (pc := 104) kc_X7 fl_X7_40 0 rfl rfl dX7_told_104 ?_
                refine j_aload_n C (pc := 107) 0 rfl rfl dX7_told_107 ?_
                refine j_get C (pc := 108) kc_X7 fl_X7_14 0 rfl rfl dX7_told_108 ?_
                refine j_cVI C (pc := 111) (As := [.ref (r_t 0)]) (st := []) (ws' := fun q3 => [oX7 a_t r_t v_isKept v_parishCount, oX6 (r_t 0) r_now v_now_people v_now_day v_now_dead v_now_buried a_now_holding, oX2 a_now_holding r_now_holding v_now_holding_length v_now_holding_need, aI G (r_now 8) 36 v_now_hates, oX1 (r_t 7) r_choices, aI G (r_choices 0) 6 q3.2.1, aI G (r_now 6) 6 v_now_vs, aI G (r_now 5) 6 v_now_kinds, aI G (r_now 13) 6 q3.2.2, aI G (r_now_holding 0) 100 v_now_holding_steps, aI G (r_now_holding 1) 100 v_now_holding_numbers, aI G (r_now 9) 24 v_now_rows, aI G (r_choices 2) 36 v_choices_enemiesByDay, aI G (r_choices 3) 64 v_choices_ways]) ml_X7_150 ms_X1_keep hf (fun q3 h => (c_X1_keep G K.2.1) (r_t 7) r_choices (r_t 0) r_now r_now_holding v_now_people v_now_day v_now_dead v_now_buried a_now_holding v_choices_enemies v_now_hates v_now_vs v_now_kinds v_now_facts v_now_holding_length v_now_holding_need v_now_holding_steps v_now_holding_numbers v_now_rows q3 h) [4, 1, 5, 3, 6, 7, 8, 2, 9, 10, 11] [none, some 1, some 7, some 3, some 0, some 2, some 4, some 5, some 6, some 8, some 9, some 10, none, none] 14 rfl (by decide +kernel) (by decide +kernel) (fun _ => rfl) (fun _ => rfl) rfl rfl rfl rfl ⟨Nat.zero_le _, Nat.zero_le _⟩ dX7_told_111 kc_X1 4 rfl (fun q3 hf => ?_)
                obtain rfl := Option.some.inj hf
                exact hQ _ _ dX7_told_114 rfl
              · skip
                obtain ⟨h7, hf⟩ | ⟨h7, hf⟩ := k_or hf
                · refine j_tabIn C (pc := 1) 115 dX7_told_1 (by rw [h7]; decide) (by rw [h7]; decide) (by rw [h7] <;> rfl) (by decide) ?_
                  refine j_aload_n C (pc := 115) 0 rfl rfl dX7_told_115 ?_
                  refine j_get C (pc := 116) kc_X7 fl_X7_40 0 rfl rfl dX7_told_116 ?_
                  refine j_aload_n C (pc := 119) 0 rfl rfl dX7_told_119 ?_
                  refine j_get C (pc := 120) kc_X7 fl_X7_14 0 rfl rfl dX7_told_120 ?_
                  refine j_cVI C (pc := 123) (As := [.ref (r_t 0)]) (st := []) (ws' := fun q4 => [oX7 a_t r_t v_isKept v_parishCount, oX6 (r_t 0) r_now v_now_people v_now_day v_now_dead v_now_buried a_now_holding, oX2 a_now_holding r_now_holding v_now_holding_length v_now_holding_need, aI G (r_now 8) 36 v_now_hates, oX1 (r_t 7) r_choices, aI G (r_choices 0) 6 v_choices_enemies, aI G (r_now 6) 6 v_now_vs, aI G (r_now 5) 6 v_now_kinds, aI G (r_now 13) 6 q4.2.2.1, aI G (r_now_holding 0) 100 v_now_holding_steps, aI G (r_now_holding 1) 100 v_now_holding_numbers, aI G (r_now 9) 24 v_now_rows, aI G (r_choices 2) 36 q4.2.1, aI G (r_choices 3) 64 q4.2.2.2]) ml_X7_153 ms_X1_longest hf (fun q4 h => (c_X1_longest G K.2.1) (r_t 7) r_choices (r_t 0) r_now r_now_holding v_now_people v_now_day v_now_dead v_now_buried a_now_holding v_choices_enemiesByDay v_now_hates v_now_vs v_now_kinds v_now_facts v_now_holding_length v_now_holding_need v_now_holding_steps v_now_holding_numbers v_now_rows v_choices_ways q4 h) [4, 1, 12, 3, 6, 7, 8, 2, 9, 10, 11, 13] [none, some 1, some 7, some 3, some 0, none, some 4, some 5, some 6, some 8, some 9, some 10, some 2, some 11] 14 rfl (by decide +kernel) (by decide +kernel) (fun _ => rfl) (fun _ => rfl) rfl rfl rfl rfl ⟨Nat.zero_le _, Nat.zero_le _⟩ dX7_told_123 kc_X1 4 rfl (fun q4 hf => ?_)
                  obtain rfl := Option.some.inj hf
                  exact hQ _ _ dX7_told_126 rfl
                · skip
                  have hout : (p1).toInt < 0 ∨ 7 < (p1).toInt := by
                    have := lv_neT (a := 0) h0 rfl
                    have := lv_neT (a := 1) h1 rfl
                    have := lv_neT (a := 2) h2 rfl
                    have := lv_neT (a := 3) h3 rfl
                    have := lv_neT (a := 4) h4 rfl
                    have := lv_neT (a := 5) h5 rfl
                    have := lv_neT (a := 6) h6 rfl
                    have := lv_neT (a := 7) h7 rfl
                    omega
                  refine j_tabOut C (pc := 1) 127 dX7_told_1 hout (by decide) ?_
                  refine j_iconst C (pc := 127) (v := -1) (by decide) dX7_told_127 ?_
                  obtain rfl := Option.some.inj hf
                  exact hQ _ _ dX7_told_128 rfl
def ct_X7_told (G : Gx) (l : Launch) (F : Int32 → Int32 → Int32 → Int32 → Int32 → Int32 → (Nat → Int32) → (Nat → Int32) → (Nat → Int32) → (Nat → Int32) → (Nat → Int32) → (Nat → Int32) → (Nat → Int32) → (Nat → Int32) → (Nat → Int32) → (Nat → Int32) → Int32 → Option (Int32 × (Nat → Int32) × (Nat → Int32) × (Nat → Int32) × (Nat → Int32))) (lv : Nat) : Prop := ∀ (a_t : Nat) (r_t : Nat → Nat) (r_now : Nat → Nat) (r_now_holding : Nat → Nat) (r_choices : Nat → Nat) (v_isKept : Int32) (v_parishCount : Int32) (v_now_people : Int32) (v_now_day : Int32) (v_now_dead : Int32) (v_now_buried : Int32) (a_now_holding : Nat) (v_now_holding_length : Int32) (v_now_holding_need : Int32) (v_now_hates : Nat → Int32) (v_choices_enemies : Nat → Int32) (v_now_vs : Nat → Int32) (v_now_kinds : Nat → Int32) (v_now_facts : Nat → Int32) (v_now_holding_steps : Nat → Int32) (v_now_holding_numbers : Nat → Int32) (v_now_rows : Nat → Int32) (v_choices_enemiesByDay : Nat → Int32) (v_choices_ways : Nat → Int32) (p1 : Int32), ∀ (q : Int32 × (Nat → Int32) × (Nat → Int32) × (Nat → Int32) × (Nat → Int32)), F v_now_people v_now_day v_now_dead v_now_buried v_now_holding_length v_now_holding_need v_now_hates v_choices_enemies v_now_vs v_now_kinds v_now_facts v_now_holding_steps v_now_holding_numbers v_now_rows v_choices_enemiesByDay v_choices_ways p1 = some q → MI G l yX7_told cX7_told 2 .int lv [.ref a_t, .int p1] [oX7 a_t r_t v_isKept v_parishCount, oX6 (r_t 0) r_now v_now_people v_now_day v_now_dead v_now_buried a_now_holding, oX2 a_now_holding r_now_holding v_now_holding_length v_now_holding_need, aI G (r_now 8) 36 v_now_hates, oX1 (r_t 7) r_choices, aI G (r_choices 0) 6 v_choices_enemies, aI G (r_now 6) 6 v_now_vs, aI G (r_now 5) 6 v_now_kinds, aI G (r_now 13) 6 v_now_facts, aI G (r_now_holding 0) 100 v_now_holding_steps, aI G (r_now_holding 1) 100 v_now_holding_numbers, aI G (r_now 9) 24 v_now_rows, aI G (r_choices 2) 36 v_choices_enemiesByDay, aI G (r_choices 3) 64 v_choices_ways] [oX7 a_t r_t v_isKept v_parishCount, oX6 (r_t 0) r_now v_now_people v_now_day v_now_dead v_now_buried a_now_holding, oX2 a_now_holding r_now_holding v_now_holding_length v_now_holding_need, aI G (r_now 8) 36 v_now_hates, oX1 (r_t 7) r_choices, aI G (r_choices 0) 6 q.2.1, aI G (r_now 6) 6 v_now_vs, aI G (r_now 5) 6 v_now_kinds, aI G (r_now 13) 6 q.2.2.1, aI G (r_now_holding 0) 100 v_now_holding_steps, aI G (r_now_holding 1) 100 v_now_holding_numbers, aI G (r_now 9) 24 v_now_rows, aI G (r_choices 2) 36 q.2.2.2.1, aI G (r_choices 3) 64 q.2.2.2.2] q.1
theorem c_X7_told (G : Gx) (l : Launch) : ct_X7_told G l f_X7_told 7 := by
  intro a_t r_t r_now r_now_holding r_choices v_isKept v_parishCount v_now_people v_now_day v_now_dead v_now_buried a_now_holding v_now_holding_length v_now_holding_need v_now_hates v_choices_enemies v_now_vs v_now_kinds v_now_facts v_now_holding_steps v_now_holding_numbers v_now_rows v_choices_enemiesByDay v_choices_ways p1 q hf
  exact mI_of (by decide +kernel) rfl (fun K hl C hQ => t_X7_told C hQ hf)
-- X7_trace
def f_X7_trace (v_acts_ran : Int32) (v_acts_bodies : Nat → Int32) (p1 : Int32) : Option (Int32) := (if p1 < 0 then (some (-1 : Int32)) else (if v_acts_ran ≤ p1 then (some (-1 : Int32)) else (if p1 < (20 : Int32) then (gd p1 20 (some (v_acts_bodies p1.toNatClampNeg))) else (some (-1 : Int32)))))
set_option maxRecDepth 20000 in
set_option maxHeartbeats 1000000 in
theorem t_X7_trace {G : Gx} {K : Kx} (C : Cx G K cX7_trace RX7 2 1) {a_t : Nat} {r_t : Nat → Nat} {r_acts : Nat → Nat} {v_isKept : Int32} {v_parishCount : Int32} {v_acts_ran : Int32} {v_acts_number : Int32} {v_acts_kind : Int32} {v_acts_v : Int32} {v_acts_bodies : Nat → Int32} {p1 : Int32} {q : Int32} (hQ : k_retI G K cX7_trace 2 .int [oX7 a_t r_t v_isKept v_parishCount, oX0 (r_t 8) r_acts v_acts_ran v_acts_number v_acts_kind v_acts_v, aI G (r_acts 0) 20 v_acts_bodies] q) (hf : f_X7_trace v_acts_ran v_acts_bodies p1 = some q) : J G K 2 0 0 [oX7 a_t r_t v_isKept v_parishCount, oX0 (r_t 8) r_acts v_acts_ran v_acts_number v_acts_kind v_acts_v, aI G (r_acts 0) 20 v_acts_bodies] [(0, .ref a_t), (1, .int p1)] 0 [] := by
  unfold f_X7_trace at hf
  refine j_iload_n C (pc := 0) 1 rfl rfl dX7_trace_0 ?_
  refine j_if_lt C (pc := 1) 21 dX7_trace_1 (by decide) hf (fun hf => ?_) (fun hf => ?_)
  · refine j_iconst C (pc := 21) (v := -1) (by decide) dX7_trace_21 ?_
    obtain rfl := Option.some.inj hf
    exact hQ _ _ dX7_trace_22 rfl
  · refine j_iload_n C (pc := 4) 1 rfl rfl dX7_trace_4 ?_
    refine j_aload_n C (pc := 5) 0 rfl rfl dX7_trace_5 ?_
    refine j_get C (pc := 6) kc_X7 fl_X7_47 0 rfl rfl dX7_trace_6 ?_
    refine j_getN C (pc := 9) kc_X0 fl_X7_234 1 rfl rfl dX7_trace_9 ?_
    refine j_icmp_ge C (pc := 12) 21 dX7_trace_12 (by decide) hf (fun hf => ?_) (fun hf => ?_)
    · refine j_iconst C (pc := 21) (v := -1) (by decide) dX7_trace_21 ?_
      obtain rfl := Option.some.inj hf
      exact hQ _ _ dX7_trace_22 rfl
    · refine j_iload_n C (pc := 15) 1 rfl rfl dX7_trace_15 ?_
      refine j_bipush C (pc := 16) (v := 20) (by decide) dX7_trace_16 ?_
      refine j_icmp_lt C (pc := 18) 23 dX7_trace_18 (by decide) hf (fun hf => ?_) (fun hf => ?_)
      · refine j_aload_n C (pc := 23) 0 rfl rfl dX7_trace_23 ?_
        refine j_get C (pc := 24) kc_X7 fl_X7_47 0 rfl rfl dX7_trace_24 ?_
        refine j_getN C (pc := 27) kc_X0 fl_X7_250 1 rfl rfl dX7_trace_27 ?_
        refine j_iload_n C (pc := 30) 1 rfl rfl dX7_trace_30 ?_
        refine j_iald C (pc := 31) 2 rfl hf dX7_trace_31 (fun hf => ?_)
        obtain rfl := Option.some.inj hf
        exact hQ _ _ dX7_trace_32 rfl
      · refine j_iconst C (pc := 21) (v := -1) (by decide) dX7_trace_21 ?_
        obtain rfl := Option.some.inj hf
        exact hQ _ _ dX7_trace_22 rfl
def ct_X7_trace (G : Gx) (l : Launch) (F : Int32 → (Nat → Int32) → Int32 → Option (Int32)) (lv : Nat) : Prop := ∀ (a_t : Nat) (r_t : Nat → Nat) (r_acts : Nat → Nat) (v_isKept : Int32) (v_parishCount : Int32) (v_acts_ran : Int32) (v_acts_number : Int32) (v_acts_kind : Int32) (v_acts_v : Int32) (v_acts_bodies : Nat → Int32) (p1 : Int32), ∀ (q : Int32), F v_acts_ran v_acts_bodies p1 = some q → MI G l yX7_trace cX7_trace 2 .int lv [.ref a_t, .int p1] [oX7 a_t r_t v_isKept v_parishCount, oX0 (r_t 8) r_acts v_acts_ran v_acts_number v_acts_kind v_acts_v, aI G (r_acts 0) 20 v_acts_bodies] [oX7 a_t r_t v_isKept v_parishCount, oX0 (r_t 8) r_acts v_acts_ran v_acts_number v_acts_kind v_acts_v, aI G (r_acts 0) 20 v_acts_bodies] q
theorem c_X7_trace (G : Gx) (l : Launch) : ct_X7_trace G l f_X7_trace 1 := by
  intro a_t r_t r_acts v_isKept v_parishCount v_acts_ran v_acts_number v_acts_kind v_acts_v v_acts_bodies p1 q hf
  exact mI_of (by decide +kernel) rfl (fun K hl C hQ => t_X7_trace C hQ hf)
-- X7_undo
def f_X7_undo (v_isKept : Int32) (v_now_people : Int32) (v_now_day : Int32) (v_now_dead : Int32) (v_now_buried : Int32) (a_now_holding : Nat) (v_kept_people : Int32) (v_kept_day : Int32) (v_kept_dead : Int32) (v_kept_buried : Int32) (a_kept_holding : Nat) (v_kept_kinds : Nat → Int32) (v_now_kinds : Nat → Int32) (v_kept_vs : Nat → Int32) (v_now_vs : Nat → Int32) (v_kept_thrown : Nat → Int32) (v_now_thrown : Nat → Int32) (v_kept_hates : Nat → Int32) (v_now_hates : Nat → Int32) (v_kept_rows : Nat → Int32) (v_now_rows : Nat → Int32) (v_now_seen_size : Int32) (v_kept_seen_size : Int32) (v_kept_seen_cells : Nat → Int32) (v_now_seen_cells : Nat → Int32) (v_now_plan_size : Int32) (v_kept_plan_size : Int32) (v_kept_plan_cells : Nat → Int32) (v_now_plan_cells : Nat → Int32) (v_now_book_size : Int32) (v_kept_book_size : Int32) (v_kept_book_cells : Nat → Int32) (v_now_book_cells : Nat → Int32) : Option (Int32 × Int32 × Int32 × Int32 × Int32 × (Nat → Int32) × (Nat → Int32) × (Nat → Int32) × (Nat → Int32) × (Nat → Int32) × Int32 × (Nat → Int32) × Int32 × (Nat → Int32) × Int32 × (Nat → Int32) × Nat) := (if v_isKept = 0 then (some ((-3 : Int32), v_now_people, v_now_day, v_now_dead, v_now_buried, v_now_kinds, v_now_vs, v_now_thrown, v_now_hates, v_now_rows, v_now_seen_size, v_now_seen_cells, v_now_plan_size, v_now_plan_cells, v_now_book_size, v_now_book_cells, a_now_holding)) else ((f_X6_copyFrom v_kept_people v_kept_day v_kept_dead v_kept_buried v_kept_kinds v_now_kinds v_kept_vs v_now_vs v_kept_thrown v_now_thrown v_kept_hates v_now_hates v_kept_rows v_now_rows v_kept_seen_size v_kept_seen_cells v_now_seen_cells v_kept_plan_size v_kept_plan_cells v_now_plan_cells v_kept_book_size v_kept_book_cells v_now_book_cells).bind fun q1 => (some (q1.1, q1.1, q1.2.1, q1.2.2.1, q1.2.2.2.1, q1.2.2.2.2.1, q1.2.2.2.2.2.1, q1.2.2.2.2.2.2.1, q1.2.2.2.2.2.2.2.1, q1.2.2.2.2.2.2.2.2.1, q1.2.2.2.2.2.2.2.2.2.1, q1.2.2.2.2.2.2.2.2.2.2.1, q1.2.2.2.2.2.2.2.2.2.2.2.1, q1.2.2.2.2.2.2.2.2.2.2.2.2.1, q1.2.2.2.2.2.2.2.2.2.2.2.2.2.1, q1.2.2.2.2.2.2.2.2.2.2.2.2.2.2, a_kept_holding))))
set_option maxRecDepth 20000 in
set_option maxHeartbeats 1000000 in
theorem t_X7_undo {G : Gx} {K : Kx} (C : Cx G K cX7_undo RX7 1 3) {a_t : Nat} {r_t : Nat → Nat} {r_now : Nat → Nat} {r_kept : Nat → Nat} {r_now_seen : Nat → Nat} {r_kept_seen : Nat → Nat} {r_now_plan : Nat → Nat} {r_kept_plan : Nat → Nat} {r_now_book : Nat → Nat} {r_kept_book : Nat → Nat} {v_isKept : Int32} {v_parishCount : Int32} {v_now_people : Int32} {v_now_day : Int32} {v_now_dead : Int32} {v_now_buried : Int32} {a_now_holding : Nat} {v_kept_people : Int32} {v_kept_day : Int32} {v_kept_dead : Int32} {v_kept_buried : Int32} {a_kept_holding : Nat} {v_kept_kinds : Nat → Int32} {v_now_kinds : Nat → Int32} {v_kept_vs : Nat → Int32} {v_now_vs : Nat → Int32} {v_kept_thrown : Nat → Int32} {v_now_thrown : Nat → Int32} {v_kept_hates : Nat → Int32} {v_now_hates : Nat → Int32} {v_kept_rows : Nat → Int32} {v_now_rows : Nat → Int32} {v_now_seen_limit : Int32} {v_now_seen_size : Int32} {v_kept_seen_limit : Int32} {v_kept_seen_size : Int32} {v_kept_seen_cells : Nat → Int32} {v_now_seen_cells : Nat → Int32} {v_now_plan_limit : Int32} {v_now_plan_size : Int32} {v_kept_plan_limit : Int32} {v_kept_plan_size : Int32} {v_kept_plan_cells : Nat → Int32} {v_now_plan_cells : Nat → Int32} {v_now_book_limit : Int32} {v_now_book_size : Int32} {v_kept_book_limit : Int32} {v_kept_book_size : Int32} {v_kept_book_cells : Nat → Int32} {v_now_book_cells : Nat → Int32} {q : Int32 × Int32 × Int32 × Int32 × Int32 × (Nat → Int32) × (Nat → Int32) × (Nat → Int32) × (Nat → Int32) × (Nat → Int32) × Int32 × (Nat → Int32) × Int32 × (Nat → Int32) × Int32 × (Nat → Int32) × Nat} (hQ : k_retI G K cX7_undo 1 .int [oX7 a_t r_t v_isKept v_parishCount, oX6 (r_t 0) r_now q.2.1 q.2.2.1 q.2.2.2.1 q.2.2.2.2.1 q.2.2.2.2.2.2.2.2.2.2.2.2.2.2.2.2, oX6 (r_t 1) r_kept v_kept_people v_kept_day v_kept_dead v_kept_buried a_kept_holding, aI G (r_kept 5) 6 v_kept_kinds, aI G (r_now 5) 6 q.2.2.2.2.2.1, aI G (r_kept 6) 6 v_kept_vs, aI G (r_now 6) 6 q.2.2.2.2.2.2.1, aI G (r_kept 7) 6 v_kept_thrown, aI G (r_now 7) 6 q.2.2.2.2.2.2.2.1, aI G (r_kept 8) 36 v_kept_hates, aI G (r_now 8) 36 q.2.2.2.2.2.2.2.2.1, aI G (r_kept 9) 24 v_kept_rows, aI G (r_now 9) 24 q.2.2.2.2.2.2.2.2.2.1, oX3 (r_now 10) r_now_seen v_now_seen_limit q.2.2.2.2.2.2.2.2.2.2.1, oX3 (r_kept 10) r_kept_seen v_kept_seen_limit v_kept_seen_size, aI G (r_kept_seen 0) 40 v_kept_seen_cells, aI G (r_now_seen 0) 40 q.2.2.2.2.2.2.2.2.2.2.2.1, oX3 (r_now 11) r_now_plan v_now_plan_limit q.2.2.2.2.2.2.2.2.2.2.2.2.1, oX3 (r_kept 11) r_kept_plan v_kept_plan_limit v_kept_plan_size, aI G (r_kept_plan 0) 40 v_kept_plan_cells, aI G (r_now_plan 0) 40 q.2.2.2.2.2.2.2.2.2.2.2.2.2.1, oX3 (r_now 12) r_now_book v_now_book_limit q.2.2.2.2.2.2.2.2.2.2.2.2.2.2.1, oX3 (r_kept 12) r_kept_book v_kept_book_limit v_kept_book_size, aI G (r_kept_book 0) 40 v_kept_book_cells, aI G (r_now_book 0) 40 q.2.2.2.2.2.2.2.2.2.2.2.2.2.2.2.1] q.1) (hf : f_X7_undo v_isKept v_now_people v_now_day v_now_dead v_now_buried a_now_holding v_kept_people v_kept_day v_kept_dead v_kept_buried a_kept_holding v_kept_kinds v_now_kinds v_kept_vs v_now_vs v_kept_thrown v_now_thrown v_kept_hates v_now_hates v_kept_rows v_now_rows v_now_seen_size v_kept_seen_size v_kept_seen_cells v_now_seen_cells v_now_plan_size v_kept_plan_size v_kept_plan_cells v_now_plan_cells v_now_book_size v_kept_book_size v_kept_book_cells v_now_book_cells = some q) : J G K 1 0 0 [oX7 a_t r_t v_isKept v_parishCount, oX6 (r_t 0) r_now v_now_people v_now_day v_now_dead v_now_buried a_now_holding, oX6 (r_t 1) r_kept v_kept_people v_kept_day v_kept_dead v_kept_buried a_kept_holding, aI G (r_kept 5) 6 v_kept_kinds, aI G (r_now 5) 6 v_now_kinds, aI G (r_kept 6) 6 v_kept_vs, aI G (r_now 6) 6 v_now_vs, aI G (r_kept 7) 6 v_kept_thrown, aI G (r_now 7) 6 v_now_thrown, aI G (r_kept 8) 36 v_kept_hates, aI G (r_now 8) 36 v_now_hates, aI G (r_kept 9) 24 v_kept_rows, aI G (r_now 9) 24 v_now_rows, oX3 (r_now 10) r_now_seen v_now_seen_limit v_now_seen_size, oX3 (r_kept 10) r_kept_seen v_kept_seen_limit v_kept_seen_size, aI G (r_kept_seen 0) 40 v_kept_seen_cells, aI G (r_now_seen 0) 40 v_now_seen_cells, oX3 (r_now 11) r_now_plan v_now_plan_limit v_now_plan_size, oX3 (r_kept 11) r_kept_plan v_kept_plan_limit v_kept_plan_size, aI G (r_kept_plan 0) 40 v_kept_plan_cells, aI G (r_now_plan 0) 40 v_now_plan_cells, oX3 (r_now 12) r_now_book v_now_book_limit v_now_book_size, oX3 (r_kept 12) r_kept_book v_kept_book_limit v_kept_book_size, aI G (r_kept_book 0) 40 v_kept_book_cells, aI G (r_now_book 0) 40 v_now_book_cells] [(0, .ref a_t)] 0 [] := by
  unfold f_X7_undo at hf
  refine j_aload_n C (pc := 0) 0 rfl rfl dX7_undo_0 ?_
  refine j_get C (pc := 1) kc_X7 fl_X7_230 0 rfl rfl dX7_undo_1 ?_
  refine j_if_ne C (pc := 4) 10 dX7_undo_4 (by decide) hf (fun hf => ?_) (fun hf => ?_)
  · refine j_aload_n C (pc := 10) 0 rfl rfl dX7_undo_10 ?_
    refine j_get C (pc := 11) kc_X7 fl_X7_14 0 rfl rfl dX7_undo_11 ?_
    refine j_aload_n C (pc := 14) 0 rfl rfl dX7_undo_14 ?_
    refine j_get C (pc := 15) kc_X7 fl_X7_18 0 rfl rfl dX7_undo_15 ?_
    refine j_cVZ C (pc := 18) (As := [.ref (r_t 1)]) (st := []) (ws' := fun q1 => [oX7 a_t r_t v_isKept v_parishCount, oX6 (r_t 0) r_now q1.1 q1.2.1 q1.2.2.1 q1.2.2.2.1 a_kept_holding, oX6 (r_t 1) r_kept v_kept_people v_kept_day v_kept_dead v_kept_buried a_kept_holding, aI G (r_kept 5) 6 v_kept_kinds, aI G (r_now 5) 6 q1.2.2.2.2.1, aI G (r_kept 6) 6 v_kept_vs, aI G (r_now 6) 6 q1.2.2.2.2.2.1, aI G (r_kept 7) 6 v_kept_thrown, aI G (r_now 7) 6 q1.2.2.2.2.2.2.1, aI G (r_kept 8) 36 v_kept_hates, aI G (r_now 8) 36 q1.2.2.2.2.2.2.2.1, aI G (r_kept 9) 24 v_kept_rows, aI G (r_now 9) 24 q1.2.2.2.2.2.2.2.2.1, oX3 (r_now 10) r_now_seen v_now_seen_limit q1.2.2.2.2.2.2.2.2.2.1, oX3 (r_kept 10) r_kept_seen v_kept_seen_limit v_kept_seen_size, aI G (r_kept_seen 0) 40 v_kept_seen_cells, aI G (r_now_seen 0) 40 q1.2.2.2.2.2.2.2.2.2.2.1, oX3 (r_now 11) r_now_plan v_now_plan_limit q1.2.2.2.2.2.2.2.2.2.2.2.1, oX3 (r_kept 11) r_kept_plan v_kept_plan_limit v_kept_plan_size, aI G (r_kept_plan 0) 40 v_kept_plan_cells, aI G (r_now_plan 0) 40 q1.2.2.2.2.2.2.2.2.2.2.2.2.1, oX3 (r_now 12) r_now_book v_now_book_limit q1.2.2.2.2.2.2.2.2.2.2.2.2.2.1, oX3 (r_kept 12) r_kept_book v_kept_book_limit v_kept_book_size, aI G (r_kept_book 0) 40 v_kept_book_cells, aI G (r_now_book 0) 40 q1.2.2.2.2.2.2.2.2.2.2.2.2.2.2]) ml_X7_160 ms_X6_copyFrom hf (fun q1 h => (c_X6_copyFrom G K.2.1) (r_t 0) r_now (r_t 1) r_kept r_now_seen r_kept_seen r_now_plan r_kept_plan r_now_book r_kept_book v_now_people v_now_day v_now_dead v_now_buried a_now_holding v_kept_people v_kept_day v_kept_dead v_kept_buried a_kept_holding v_kept_kinds v_now_kinds v_kept_vs v_now_vs v_kept_thrown v_now_thrown v_kept_hates v_now_hates v_kept_rows v_now_rows v_now_seen_limit v_now_seen_size v_kept_seen_limit v_kept_seen_size v_kept_seen_cells v_now_seen_cells v_now_plan_limit v_now_plan_size v_kept_plan_limit v_kept_plan_size v_kept_plan_cells v_now_plan_cells v_now_book_limit v_now_book_size v_kept_book_limit v_kept_book_size v_kept_book_cells v_now_book_cells q1 h) [1, 2, 3, 4, 5, 6, 7, 8, 9, 10, 11, 12, 13, 14, 15, 16, 17, 18, 19, 20, 21, 22, 23, 24] [none, some 0, some 1, some 2, some 3, some 4, some 5, some 6, some 7, some 8, some 9, some 10, some 11, some 12, some 13, some 14, some 15, some 16, some 17, some 18, some 19, some 20, some 21, some 22, some 23] 25 rfl (by decide +kernel) (by decide +kernel) (fun _ => rfl) (fun _ => rfl) rfl rfl rfl rfl ⟨Nat.zero_le _, Nat.zero_le _⟩ dX7_undo_18 kc_X6 1 rfl (fun q1 hf => ?_)
    refine j_aload_n C (pc := 21) 0 rfl rfl dX7_undo_21 ?_
    refine j_get C (pc := 22) kc_X7 fl_X7_14 0 rfl rfl dX7_undo_22 ?_
    refine j_getN C (pc := 25) kc_X6 fl_X7_194 1 rfl rfl dX7_undo_25 ?_
    obtain rfl := Option.some.inj hf
    exact hQ _ _ dX7_undo_28 rfl
  · refine j_bipush C (pc := 7) (v := -3) (by decide) dX7_undo_7 ?_
    obtain rfl := Option.some.inj hf
    exact hQ _ _ dX7_undo_9 rfl
def ct_X7_undo (G : Gx) (l : Launch) (F : Int32 → Int32 → Int32 → Int32 → Int32 → Nat → Int32 → Int32 → Int32 → Int32 → Nat → (Nat → Int32) → (Nat → Int32) → (Nat → Int32) → (Nat → Int32) → (Nat → Int32) → (Nat → Int32) → (Nat → Int32) → (Nat → Int32) → (Nat → Int32) → (Nat → Int32) → Int32 → Int32 → (Nat → Int32) → (Nat → Int32) → Int32 → Int32 → (Nat → Int32) → (Nat → Int32) → Int32 → Int32 → (Nat → Int32) → (Nat → Int32) → Option (Int32 × Int32 × Int32 × Int32 × Int32 × (Nat → Int32) × (Nat → Int32) × (Nat → Int32) × (Nat → Int32) × (Nat → Int32) × Int32 × (Nat → Int32) × Int32 × (Nat → Int32) × Int32 × (Nat → Int32) × Nat)) (lv : Nat) : Prop := ∀ (a_t : Nat) (r_t : Nat → Nat) (r_now : Nat → Nat) (r_kept : Nat → Nat) (r_now_seen : Nat → Nat) (r_kept_seen : Nat → Nat) (r_now_plan : Nat → Nat) (r_kept_plan : Nat → Nat) (r_now_book : Nat → Nat) (r_kept_book : Nat → Nat) (v_isKept : Int32) (v_parishCount : Int32) (v_now_people : Int32) (v_now_day : Int32) (v_now_dead : Int32) (v_now_buried : Int32) (a_now_holding : Nat) (v_kept_people : Int32) (v_kept_day : Int32) (v_kept_dead : Int32) (v_kept_buried : Int32) (a_kept_holding : Nat) (v_kept_kinds : Nat → Int32) (v_now_kinds : Nat → Int32) (v_kept_vs : Nat → Int32) (v_now_vs : Nat → Int32) (v_kept_thrown : Nat → Int32) (v_now_thrown : Nat → Int32) (v_kept_hates : Nat → Int32) (v_now_hates : Nat → Int32) (v_kept_rows : Nat → Int32) (v_now_rows : Nat → Int32) (v_now_seen_limit : Int32) (v_now_seen_size : Int32) (v_kept_seen_limit : Int32) (v_kept_seen_size : Int32) (v_kept_seen_cells : Nat → Int32) (v_now_seen_cells : Nat → Int32) (v_now_plan_limit : Int32) (v_now_plan_size : Int32) (v_kept_plan_limit : Int32) (v_kept_plan_size : Int32) (v_kept_plan_cells : Nat → Int32) (v_now_plan_cells : Nat → Int32) (v_now_book_limit : Int32) (v_now_book_size : Int32) (v_kept_book_limit : Int32) (v_kept_book_size : Int32) (v_kept_book_cells : Nat → Int32) (v_now_book_cells : Nat → Int32), ∀ (q : Int32 × Int32 × Int32 × Int32 × Int32 × (Nat → Int32) × (Nat → Int32) × (Nat → Int32) × (Nat → Int32) × (Nat → Int32) × Int32 × (Nat → Int32) × Int32 × (Nat → Int32) × Int32 × (Nat → Int32) × Nat), F v_isKept v_now_people v_now_day v_now_dead v_now_buried a_now_holding v_kept_people v_kept_day v_kept_dead v_kept_buried a_kept_holding v_kept_kinds v_now_kinds v_kept_vs v_now_vs v_kept_thrown v_now_thrown v_kept_hates v_now_hates v_kept_rows v_now_rows v_now_seen_size v_kept_seen_size v_kept_seen_cells v_now_seen_cells v_now_plan_size v_kept_plan_size v_kept_plan_cells v_now_plan_cells v_now_book_size v_kept_book_size v_kept_book_cells v_now_book_cells = some q → MI G l yX7_undo cX7_undo 1 .int lv [.ref a_t] [oX7 a_t r_t v_isKept v_parishCount, oX6 (r_t 0) r_now v_now_people v_now_day v_now_dead v_now_buried a_now_holding, oX6 (r_t 1) r_kept v_kept_people v_kept_day v_kept_dead v_kept_buried a_kept_holding, aI G (r_kept 5) 6 v_kept_kinds, aI G (r_now 5) 6 v_now_kinds, aI G (r_kept 6) 6 v_kept_vs, aI G (r_now 6) 6 v_now_vs, aI G (r_kept 7) 6 v_kept_thrown, aI G (r_now 7) 6 v_now_thrown, aI G (r_kept 8) 36 v_kept_hates, aI G (r_now 8) 36 v_now_hates, aI G (r_kept 9) 24 v_kept_rows, aI G (r_now 9) 24 v_now_rows, oX3 (r_now 10) r_now_seen v_now_seen_limit v_now_seen_size, oX3 (r_kept 10) r_kept_seen v_kept_seen_limit v_kept_seen_size, aI G (r_kept_seen 0) 40 v_kept_seen_cells, aI G (r_now_seen 0) 40 v_now_seen_cells, oX3 (r_now 11) r_now_plan v_now_plan_limit v_now_plan_size, oX3 (r_kept 11) r_kept_plan v_kept_plan_limit v_kept_plan_size, aI G (r_kept_plan 0) 40 v_kept_plan_cells, aI G (r_now_plan 0) 40 v_now_plan_cells, oX3 (r_now 12) r_now_book v_now_book_limit v_now_book_size, oX3 (r_kept 12) r_kept_book v_kept_book_limit v_kept_book_size, aI G (r_kept_book 0) 40 v_kept_book_cells, aI G (r_now_book 0) 40 v_now_book_cells] [oX7 a_t r_t v_isKept v_parishCount, oX6 (r_t 0) r_now q.2.1 q.2.2.1 q.2.2.2.1 q.2.2.2.2.1 q.2.2.2.2.2.2.2.2.2.2.2.2.2.2.2.2, oX6 (r_t 1) r_kept v_kept_people v_kept_day v_kept_dead v_kept_buried a_kept_holding, aI G (r_kept 5) 6 v_kept_kinds, aI G (r_now 5) 6 q.2.2.2.2.2.1, aI G (r_kept 6) 6 v_kept_vs, aI G (r_now 6) 6 q.2.2.2.2.2.2.1, aI G (r_kept 7) 6 v_kept_thrown, aI G (r_now 7) 6 q.2.2.2.2.2.2.2.1, aI G (r_kept 8) 36 v_kept_hates, aI G (r_now 8) 36 q.2.2.2.2.2.2.2.2.1, aI G (r_kept 9) 24 v_kept_rows, aI G (r_now 9) 24 q.2.2.2.2.2.2.2.2.2.1, oX3 (r_now 10) r_now_seen v_now_seen_limit q.2.2.2.2.2.2.2.2.2.2.1, oX3 (r_kept 10) r_kept_seen v_kept_seen_limit v_kept_seen_size, aI G (r_kept_seen 0) 40 v_kept_seen_cells, aI G (r_now_seen 0) 40 q.2.2.2.2.2.2.2.2.2.2.2.1, oX3 (r_now 11) r_now_plan v_now_plan_limit q.2.2.2.2.2.2.2.2.2.2.2.2.1, oX3 (r_kept 11) r_kept_plan v_kept_plan_limit v_kept_plan_size, aI G (r_kept_plan 0) 40 v_kept_plan_cells, aI G (r_now_plan 0) 40 q.2.2.2.2.2.2.2.2.2.2.2.2.2.1, oX3 (r_now 12) r_now_book v_now_book_limit q.2.2.2.2.2.2.2.2.2.2.2.2.2.2.1, oX3 (r_kept 12) r_kept_book v_kept_book_limit v_kept_book_size, aI G (r_kept_book 0) 40 v_kept_book_cells, aI G (r_now_book 0) 40 q.2.2.2.2.2.2.2.2.2.2.2.2.2.2.2.1] q.1
theorem c_X7_undo (G : Gx) (l : Launch) : ct_X7_undo G l f_X7_undo 3 := by
  intro a_t r_t r_now r_kept r_now_seen r_kept_seen r_now_plan r_kept_plan r_now_book r_kept_book v_isKept v_parishCount v_now_people v_now_day v_now_dead v_now_buried a_now_holding v_kept_people v_kept_day v_kept_dead v_kept_buried a_kept_holding v_kept_kinds v_now_kinds v_kept_vs v_now_vs v_kept_thrown v_now_thrown v_kept_hates v_now_hates v_kept_rows v_now_rows v_now_seen_limit v_now_seen_size v_kept_seen_limit v_kept_seen_size v_kept_seen_cells v_now_seen_cells v_now_plan_limit v_now_plan_size v_kept_plan_limit v_kept_plan_size v_kept_plan_cells v_now_plan_cells v_now_book_limit v_now_book_size v_kept_book_limit v_kept_book_size v_kept_book_cells v_now_book_cells q hf
  exact mI_of (by decide +kernel) rfl (fun K hl C hQ => t_X7_undo C hQ hf)
