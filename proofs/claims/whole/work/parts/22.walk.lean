-- X1_lonely
def f_X1_lonely_16_b (k16 : Int32 → Int32 → Int32 → (Nat → Int32) → (Nat → Int32) → Option (Int32 × (Nat → Int32) × (Nat → Int32))) (x2 : Int32) (x3 : Int32) (x4 : Int32) (w_enemies : Nat → Int32) (w_p1_facts : Nat → Int32) : Option (Int32 × (Nat → Int32) × (Nat → Int32)) := (if (6 : Int32) ≤ x4 then (some (x3, w_enemies, w_p1_facts)) else ((f_X7_bit x2 x4).bind fun q1 => (if q1 = (1 : Int32) then (gd x4 6 (if (w_enemies x4.toNatClampNeg) = 0 then (nm (x3 ||| ((1 : Int32) <<< (x4 &&& 31))) fun y2 => (k16 x2 y2 (x4 + (1 : Int32)) w_enemies w_p1_facts)) else (k16 x2 x3 (x4 + (1 : Int32)) w_enemies w_p1_facts))) else (k16 x2 x3 (x4 + (1 : Int32)) w_enemies w_p1_facts))))
def f_X1_lonely_16 : Nat → Int32 → Int32 → Int32 → (Nat → Int32) → (Nat → Int32) → Option (Int32 × (Nat → Int32) × (Nat → Int32))
  | 0 => fun _ _ _ _ _ => none
  | n + 1 => f_X1_lonely_16_b (f_X1_lonely_16 n)
set_option maxRecDepth 20000 in
set_option maxHeartbeats 1000000 in
theorem t_X1_lonely_16_b {G : Gx} {K : Kx} (C : Cx G K cX1_lonely RX1 5 6) {a_t : Nat} {r_t : Nat → Nat} {a_p1 : Nat} {r_p1 : Nat → Nat} {r_p1_holding : Nat → Nat} {v_p1_people : Int32} {v_p1_day : Int32} {v_p1_dead : Int32} {v_p1_buried : Int32} {a_p1_holding : Nat} {v_p1_hates : Nat → Int32} {v_p1_vs : Nat → Int32} {v_p1_kinds : Nat → Int32} {v_p1_holding_length : Int32} {v_p1_holding_need : Int32} {v_p1_holding_steps : Nat → Int32} {v_p1_holding_numbers : Nat → Int32} {v_p1_rows : Nat → Int32} {q : Int32 × (Nat → Int32) × (Nat → Int32)} (hQ : k_retI G K cX1_lonely 5 .int [oX1 a_t r_t, oX6 a_p1 r_p1 v_p1_people v_p1_day v_p1_dead v_p1_buried a_p1_holding, aI G (r_t 0) 6 q.2.1, aI G (r_p1 8) 36 v_p1_hates, aI G (r_p1 6) 6 v_p1_vs, aI G (r_p1 5) 6 v_p1_kinds, aI G (r_p1 13) 6 q.2.2, oX2 a_p1_holding r_p1_holding v_p1_holding_length v_p1_holding_need, aI G (r_p1_holding 0) 100 v_p1_holding_steps, aI G (r_p1_holding 1) 100 v_p1_holding_numbers, aI G (r_p1 9) 24 v_p1_rows] q.1) {k16 : Int32 → Int32 → Int32 → (Nat → Int32) → (Nat → Int32) → Option (Int32 × (Nat → Int32) × (Nat → Int32))} (hk16 : ∀ (x2 : Int32) (x3 : Int32) (x4 : Int32) (w_enemies : Nat → Int32) (w_p1_facts : Nat → Int32), k16 x2 x3 x4 w_enemies w_p1_facts = some q → J G K 5 0 0 [oX1 a_t r_t, oX6 a_p1 r_p1 v_p1_people v_p1_day v_p1_dead v_p1_buried a_p1_holding, aI G (r_t 0) 6 w_enemies, aI G (r_p1 8) 36 v_p1_hates, aI G (r_p1 6) 6 v_p1_vs, aI G (r_p1 5) 6 v_p1_kinds, aI G (r_p1 13) 6 w_p1_facts, oX2 a_p1_holding r_p1_holding v_p1_holding_length v_p1_holding_need, aI G (r_p1_holding 0) 100 v_p1_holding_steps, aI G (r_p1_holding 1) 100 v_p1_holding_numbers, aI G (r_p1 9) 24 v_p1_rows] [(0, .ref a_t), (2, .int x2), (3, .int x3), (4, .int x4)] 16 []) {x2 : Int32} {x3 : Int32} {x4 : Int32} {w_enemies : Nat → Int32} {w_p1_facts : Nat → Int32} (hf : f_X1_lonely_16_b k16 x2 x3 x4 w_enemies w_p1_facts = some q) : J G K 5 0 0 [oX1 a_t r_t, oX6 a_p1 r_p1 v_p1_people v_p1_day v_p1_dead v_p1_buried a_p1_holding, aI G (r_t 0) 6 w_enemies, aI G (r_p1 8) 36 v_p1_hates, aI G (r_p1 6) 6 v_p1_vs, aI G (r_p1 5) 6 v_p1_kinds, aI G (r_p1 13) 6 w_p1_facts, oX2 a_p1_holding r_p1_holding v_p1_holding_length v_p1_holding_need, aI G (r_p1_holding 0) 100 v_p1_holding_steps, aI G (r_p1_holding 1) 100 v_p1_holding_numbers, aI G (r_p1 9) 24 v_p1_rows] [(0, .ref a_t), (2, .int x2), (3, .int x3), (4, .int x4)] 16 [] := by
  unfold f_X1_lonely_16_b at hf
  refine j_iload C (pc := 16) 3 rfl dX1_lonely_16 ?_
  refine j_bipush C (pc := 18) (v := 6) (by decide) dX1_lonely_18 ?_
  refine j_icmp_ge C (pc := 20) 56 dX1_lonely_20 (by decide) hf (fun hf => ?_) (fun hf => ?_)
  · refine j_iload_n C (pc := 56) 2 rfl rfl dX1_lonely_56 ?_
    obtain rfl := Option.some.inj hf
    exact hQ _ _ dX1_lonely_57 rfl
  · refine j_iload_n C (pc := 23) 1 rfl rfl dX1_lonely_23 ?_
    refine j_iload C (pc := 24) 3 rfl dX1_lonely_24 ?_
    refine j_cSNI C (pc := 26) (As := [.int x2, .int x4]) (st := []) (ws' := fun q1 => [oX1 a_t r_t, oX6 a_p1 r_p1 v_p1_people v_p1_day v_p1_dead v_p1_buried a_p1_holding, aI G (r_t 0) 6 w_enemies, aI G (r_p1 8) 36 v_p1_hates, aI G (r_p1 6) 6 v_p1_vs, aI G (r_p1 5) 6 v_p1_kinds, aI G (r_p1 13) 6 w_p1_facts, oX2 a_p1_holding r_p1_holding v_p1_holding_length v_p1_holding_need, aI G (r_p1_holding 0) 100 v_p1_holding_steps, aI G (r_p1_holding 1) 100 v_p1_holding_numbers, aI G (r_p1 9) 24 v_p1_rows]) ml_X1_24 ms_X7_bit hf (fun q1 h => (c_X7_bit G K.2.1) x2 x4 q1 h) [] [none, none, none, none, none, none, none, none, none, none, none] 11 rfl (by decide +kernel) (by decide +kernel) (fun _ => rfl) (fun _ => rfl) rfl rfl rfl rfl ⟨Nat.zero_le _, Nat.zero_le _⟩ dX1_lonely_26 (fun q1 hf => ?_)
    refine j_iconst C (pc := 29) (v := 1) (by decide) dX1_lonely_29 ?_
    refine j_icmp_ne C (pc := 30) 50 dX1_lonely_30 (by decide) hf (fun hf => ?_) (fun hf => ?_)
    · refine j_iinc C (pc := 50) (L' := [(4, .int (x4 + (1 : Int32))), (0, .ref a_t), (2, .int x2), (3, .int x3)]) (v := x4 + (1 : Int32)) dX1_lonely_50 (t := 3) rfl rfl (by decide) rfl ?_
      refine j_goto C (pc := 53) 16 dX1_lonely_53 (by decide) ?_
      refine j_sub [1, 2, 3, 0] rfl ?_
      exact hk16 _ _ _ _ _ hf
    · refine j_aload_n C (pc := 33) 0 rfl rfl dX1_lonely_33 ?_
      refine j_get C (pc := 34) kc_X1 fl_X1_9 0 rfl rfl dX1_lonely_34 ?_
      refine j_iload C (pc := 37) 3 rfl dX1_lonely_37 ?_
      refine j_iald C (pc := 39) 2 rfl hf dX1_lonely_39 (fun hf => ?_)
      refine j_if_ne C (pc := 40) 50 dX1_lonely_40 (by decide) hf (fun hf => ?_) (fun hf => ?_)
      · refine j_iinc C (pc := 50) (L' := [(4, .int (x4 + (1 : Int32))), (0, .ref a_t), (2, .int x2), (3, .int x3)]) (v := x4 + (1 : Int32)) dX1_lonely_50 (t := 3) rfl rfl (by decide) rfl ?_
        refine j_goto C (pc := 53) 16 dX1_lonely_53 (by decide) ?_
        refine j_sub [1, 2, 3, 0] rfl ?_
        exact hk16 _ _ _ _ _ hf
      · refine j_iload_n C (pc := 43) 2 rfl rfl dX1_lonely_43 ?_
        refine j_iconst C (pc := 44) (v := 1) (by decide) dX1_lonely_44 ?_
        refine j_iload C (pc := 45) 3 rfl dX1_lonely_45 ?_
        refine j_ishl C (pc := 47) dX1_lonely_47 ?_
        refine j_ior C (pc := 48) dX1_lonely_48 ?_
        refine j_nm hf (fun y2 hf => ?_)
        refine j_istore_n C (pc := 49) (L' := [(3, .int y2), (0, .ref a_t), (2, .int x2), (4, .int x4)]) dX1_lonely_49 rfl (by decide) rfl ?_
        refine j_iinc C (pc := 50) (L' := [(4, .int (x4 + (1 : Int32))), (3, .int y2), (0, .ref a_t), (2, .int x2)]) (v := x4 + (1 : Int32)) dX1_lonely_50 (t := 3) rfl rfl (by decide) rfl ?_
        refine j_goto C (pc := 53) 16 dX1_lonely_53 (by decide) ?_
        refine j_sub [2, 3, 1, 0] rfl ?_
        exact hk16 _ _ _ _ _ hf
theorem t_X1_lonely_16 {G : Gx} {K : Kx} (C : Cx G K cX1_lonely RX1 5 6) {a_t : Nat} {r_t : Nat → Nat} {a_p1 : Nat} {r_p1 : Nat → Nat} {r_p1_holding : Nat → Nat} {v_p1_people : Int32} {v_p1_day : Int32} {v_p1_dead : Int32} {v_p1_buried : Int32} {a_p1_holding : Nat} {v_p1_hates : Nat → Int32} {v_p1_vs : Nat → Int32} {v_p1_kinds : Nat → Int32} {v_p1_holding_length : Int32} {v_p1_holding_need : Int32} {v_p1_holding_steps : Nat → Int32} {v_p1_holding_numbers : Nat → Int32} {v_p1_rows : Nat → Int32} {q : Int32 × (Nat → Int32) × (Nat → Int32)} (hQ : k_retI G K cX1_lonely 5 .int [oX1 a_t r_t, oX6 a_p1 r_p1 v_p1_people v_p1_day v_p1_dead v_p1_buried a_p1_holding, aI G (r_t 0) 6 q.2.1, aI G (r_p1 8) 36 v_p1_hates, aI G (r_p1 6) 6 v_p1_vs, aI G (r_p1 5) 6 v_p1_kinds, aI G (r_p1 13) 6 q.2.2, oX2 a_p1_holding r_p1_holding v_p1_holding_length v_p1_holding_need, aI G (r_p1_holding 0) 100 v_p1_holding_steps, aI G (r_p1_holding 1) 100 v_p1_holding_numbers, aI G (r_p1 9) 24 v_p1_rows] q.1) : ∀ (n : Nat) (x2 : Int32) (x3 : Int32) (x4 : Int32) (w_enemies : Nat → Int32) (w_p1_facts : Nat → Int32), f_X1_lonely_16 n x2 x3 x4 w_enemies w_p1_facts = some q → J G K 5 0 0 [oX1 a_t r_t, oX6 a_p1 r_p1 v_p1_people v_p1_day v_p1_dead v_p1_buried a_p1_holding, aI G (r_t 0) 6 w_enemies, aI G (r_p1 8) 36 v_p1_hates, aI G (r_p1 6) 6 v_p1_vs, aI G (r_p1 5) 6 v_p1_kinds, aI G (r_p1 13) 6 w_p1_facts, oX2 a_p1_holding r_p1_holding v_p1_holding_length v_p1_holding_need, aI G (r_p1_holding 0) 100 v_p1_holding_steps, aI G (r_p1_holding 1) 100 v_p1_holding_numbers, aI G (r_p1 9) 24 v_p1_rows] [(0, .ref a_t), (2, .int x2), (3, .int x3), (4, .int x4)] 16 [] := by
  intro n
  induction n with
  | zero => intro x2 x3 x4 w_enemies w_p1_facts hf; cases hf
  | succ n ih => intro x2 x3 x4 w_enemies w_p1_facts hf; exact t_X1_lonely_16_b C hQ ih hf
def f_X1_lonely (v_p1_people : Int32) (v_p1_day : Int32) (v_p1_dead : Int32) (v_enemies : Nat → Int32) (v_p1_hates : Nat → Int32) (v_p1_vs : Nat → Int32) (v_p1_kinds : Nat → Int32) (v_p1_facts : Nat → Int32) (v_p1_holding_length : Int32) (v_p1_holding_need : Int32) (v_p1_holding_steps : Nat → Int32) (v_p1_holding_numbers : Nat → Int32) (v_p1_rows : Nat → Int32) : Option (Int32 × (Nat → Int32) × (Nat → Int32)) := ((f_X6_alive v_p1_people v_p1_dead).bind fun q1 => ((f_X1_findEnemies v_p1_people v_p1_day v_p1_dead v_enemies v_p1_hates v_p1_vs v_p1_kinds v_p1_facts v_p1_holding_length v_p1_holding_need v_p1_holding_steps v_p1_holding_numbers v_p1_rows q1).bind fun q2 => (f_X1_lonely_16 1000 q1 (0 : Int32) (0 : Int32) q2.1 q2.2)))
set_option maxRecDepth 20000 in
set_option maxHeartbeats 1000000 in
theorem t_X1_lonely {G : Gx} {K : Kx} (C : Cx G K cX1_lonely RX1 5 6) {a_t : Nat} {r_t : Nat → Nat} {a_p1 : Nat} {r_p1 : Nat → Nat} {r_p1_holding : Nat → Nat} {v_p1_people : Int32} {v_p1_day : Int32} {v_p1_dead : Int32} {v_p1_buried : Int32} {a_p1_holding : Nat} {v_enemies : Nat → Int32} {v_p1_hates : Nat → Int32} {v_p1_vs : Nat → Int32} {v_p1_kinds : Nat → Int32} {v_p1_facts : Nat → Int32} {v_p1_holding_length : Int32} {v_p1_holding_need : Int32} {v_p1_holding_steps : Nat → Int32} {v_p1_holding_numbers : Nat → Int32} {v_p1_rows : Nat → Int32} {q : Int32 × (Nat → Int32) × (Nat → Int32)} (hQ : k_retI G K cX1_lonely 5 .int [oX1 a_t r_t, oX6 a_p1 r_p1 v_p1_people v_p1_day v_p1_dead v_p1_buried a_p1_holding, aI G (r_t 0) 6 q.2.1, aI G (r_p1 8) 36 v_p1_hates, aI G (r_p1 6) 6 v_p1_vs, aI G (r_p1 5) 6 v_p1_kinds, aI G (r_p1 13) 6 q.2.2, oX2 a_p1_holding r_p1_holding v_p1_holding_length v_p1_holding_need, aI G (r_p1_holding 0) 100 v_p1_holding_steps, aI G (r_p1_holding 1) 100 v_p1_holding_numbers, aI G (r_p1 9) 24 v_p1_rows] q.1) (hf : f_X1_lonely v_p1_people v_p1_day v_p1_dead v_enemies v_p1_hates v_p1_vs v_p1_kinds v_p1_facts v_p1_holding_length v_p1_holding_need v_p1_holding_steps v_p1_holding_numbers v_p1_rows = some q) : J G K 5 0 0 [oX1 a_t r_t, oX6 a_p1 r_p1 v_p1_people v_p1_day v_p1_dead v_p1_buried a_p1_holding, aI G (r_t 0) 6 v_enemies, aI G (r_p1 8) 36 v_p1_hates, aI G (r_p1 6) 6 v_p1_vs, aI G (r_p1 5) 6 v_p1_kinds, aI G (r_p1 13) 6 v_p1_facts, oX2 a_p1_holding r_p1_holding v_p1_holding_length v_p1_holding_need, aI G (r_p1_holding 0) 100 v_p1_holding_steps, aI G (r_p1_holding 1) 100 v_p1_holding_numbers, aI G (r_p1 9) 24 v_p1_rows] [(0, .ref a_t), (1, .ref a_p1)] 0 [] := by
  unfold f_X1_lonely at hf
  refine j_aload_n C (pc := 0) 1 rfl rfl dX1_lonely_0 ?_
  refine j_cVI C (pc := 1) (As := []) (st := []) (ws' := fun q1 => [oX1 a_t r_t, oX6 a_p1 r_p1 v_p1_people v_p1_day v_p1_dead v_p1_buried a_p1_holding, aI G (r_t 0) 6 v_enemies, aI G (r_p1 8) 36 v_p1_hates, aI G (r_p1 6) 6 v_p1_vs, aI G (r_p1 5) 6 v_p1_kinds, aI G (r_p1 13) 6 v_p1_facts, oX2 a_p1_holding r_p1_holding v_p1_holding_length v_p1_holding_need, aI G (r_p1_holding 0) 100 v_p1_holding_steps, aI G (r_p1_holding 1) 100 v_p1_holding_numbers, aI G (r_p1 9) 24 v_p1_rows]) ml_X1_37 ms_X6_alive hf (fun q1 h => (c_X6_alive G K.2.1) a_p1 r_p1 v_p1_people v_p1_day v_p1_dead v_p1_buried a_p1_holding q1 h) [1] [none, some 0, none, none, none, none, none, none, none, none, none] 11 rfl (by decide +kernel) (by decide +kernel) (fun _ => rfl) (fun _ => rfl) rfl rfl rfl rfl ⟨Nat.zero_le _, Nat.zero_le _⟩ dX1_lonely_1 kc_X6 1 rfl (fun q1 hf => ?_)
  refine j_istore_n C (pc := 4) (L' := [(2, .int q1), (0, .ref a_t), (1, .ref a_p1)]) dX1_lonely_4 rfl (by decide) rfl ?_
  refine j_aload_n C (pc := 5) 1 rfl rfl dX1_lonely_5 ?_
  refine j_aload_n C (pc := 6) 2 rfl rfl dX1_lonely_6 ?_
  refine j_iload_n C (pc := 7) 0 rfl rfl dX1_lonely_7 ?_
  refine j_cVZ C (pc := 8) (As := [.ref a_p1, .int q1]) (st := []) (ws' := fun q2 => [oX1 a_t r_t, oX6 a_p1 r_p1 v_p1_people v_p1_day v_p1_dead v_p1_buried a_p1_holding, aI G (r_t 0) 6 q2.1, aI G (r_p1 8) 36 v_p1_hates, aI G (r_p1 6) 6 v_p1_vs, aI G (r_p1 5) 6 v_p1_kinds, aI G (r_p1 13) 6 q2.2, oX2 a_p1_holding r_p1_holding v_p1_holding_length v_p1_holding_need, aI G (r_p1_holding 0) 100 v_p1_holding_steps, aI G (r_p1_holding 1) 100 v_p1_holding_numbers, aI G (r_p1 9) 24 v_p1_rows]) ml_X1_41 ms_X1_findEnemies hf (fun q2 h => (c_X1_findEnemies G K.2.1) a_t r_t a_p1 r_p1 r_p1_holding v_p1_people v_p1_day v_p1_dead v_p1_buried a_p1_holding v_enemies v_p1_hates v_p1_vs v_p1_kinds v_p1_facts v_p1_holding_length v_p1_holding_need v_p1_holding_steps v_p1_holding_numbers v_p1_rows q1 q2 h) [0, 1, 2, 3, 4, 5, 6, 7, 8, 9, 10] [some 0, some 1, some 2, some 3, some 4, some 5, some 6, some 7, some 8, some 9, some 10] 11 rfl (by decide +kernel) (by decide +kernel) (fun _ => rfl) (fun _ => rfl) rfl rfl rfl rfl ⟨Nat.zero_le _, Nat.zero_le _⟩ dX1_lonely_8 kc_X1 0 rfl (fun q2 hf => ?_)
  refine j_iconst C (pc := 11) (v := 0) (by decide) dX1_lonely_11 ?_
  refine j_istore_n C (pc := 12) (L' := [(3, .int (0 : Int32)), (2, .int q1), (0, .ref a_t), (1, .ref a_p1)]) dX1_lonely_12 rfl (by decide) rfl ?_
  refine j_iconst C (pc := 13) (v := 0) (by decide) dX1_lonely_13 ?_
  refine j_istore C (pc := 14) (L' := [(4, .int (0 : Int32)), (3, .int (0 : Int32)), (2, .int q1), (0, .ref a_t), (1, .ref a_p1)]) dX1_lonely_14 (by decide) rfl ?_
  refine j_sub [3, 2, 1, 0] rfl ?_
  exact t_X1_lonely_16 C hQ 1000 _ _ _ _ _ hf
def ct_X1_lonely (G : Gx) (l : Launch) (F : Int32 → Int32 → Int32 → (Nat → Int32) → (Nat → Int32) → (Nat → Int32) → (Nat → Int32) → (Nat → Int32) → Int32 → Int32 → (Nat → Int32) → (Nat → Int32) → (Nat → Int32) → Option (Int32 × (Nat → Int32) × (Nat → Int32))) (lv : Nat) : Prop := ∀ (a_t : Nat) (r_t : Nat → Nat) (a_p1 : Nat) (r_p1 : Nat → Nat) (r_p1_holding : Nat → Nat) (v_p1_people : Int32) (v_p1_day : Int32) (v_p1_dead : Int32) (v_p1_buried : Int32) (a_p1_holding : Nat) (v_enemies : Nat → Int32) (v_p1_hates : Nat → Int32) (v_p1_vs : Nat → Int32) (v_p1_kinds : Nat → Int32) (v_p1_facts : Nat → Int32) (v_p1_holding_length : Int32) (v_p1_holding_need : Int32) (v_p1_holding_steps : Nat → Int32) (v_p1_holding_numbers : Nat → Int32) (v_p1_rows : Nat → Int32), ∀ (q : Int32 × (Nat → Int32) × (Nat → Int32)), F v_p1_people v_p1_day v_p1_dead v_enemies v_p1_hates v_p1_vs v_p1_kinds v_p1_facts v_p1_holding_length v_p1_holding_need v_p1_holding_steps v_p1_holding_numbers v_p1_rows = some q → MI G l yX1_lonely cX1_lonely 5 .int lv [.ref a_t, .ref a_p1] [oX1 a_t r_t, oX6 a_p1 r_p1 v_p1_people v_p1_day v_p1_dead v_p1_buried a_p1_holding, aI G (r_t 0) 6 v_enemies, aI G (r_p1 8) 36 v_p1_hates, aI G (r_p1 6) 6 v_p1_vs, aI G (r_p1 5) 6 v_p1_kinds, aI G (r_p1 13) 6 v_p1_facts, oX2 a_p1_holding r_p1_holding v_p1_holding_length v_p1_holding_need, aI G (r_p1_holding 0) 100 v_p1_holding_steps, aI G (r_p1_holding 1) 100 v_p1_holding_numbers, aI G (r_p1 9) 24 v_p1_rows] [oX1 a_t r_t, oX6 a_p1 r_p1 v_p1_people v_p1_day v_p1_dead v_p1_buried a_p1_holding, aI G (r_t 0) 6 q.2.1, aI G (r_p1 8) 36 v_p1_hates, aI G (r_p1 6) 6 v_p1_vs, aI G (r_p1 5) 6 v_p1_kinds, aI G (r_p1 13) 6 q.2.2, oX2 a_p1_holding r_p1_holding v_p1_holding_length v_p1_holding_need, aI G (r_p1_holding 0) 100 v_p1_holding_steps, aI G (r_p1_holding 1) 100 v_p1_holding_numbers, aI G (r_p1 9) 24 v_p1_rows] q.1
theorem c_X1_lonely (G : Gx) (l : Launch) : ct_X1_lonely G l f_X1_lonely 6 := by
  intro a_t r_t a_p1 r_p1 r_p1_holding v_p1_people v_p1_day v_p1_dead v_p1_buried a_p1_holding v_enemies v_p1_hates v_p1_vs v_p1_kinds v_p1_facts v_p1_holding_length v_p1_holding_need v_p1_holding_steps v_p1_holding_numbers v_p1_rows q hf
  exact mI_of (by decide +kernel) rfl (fun K hl C hQ => t_X1_lonely C hQ hf)
-- X1_longest
def f_X1_longest_14_b (k14 : Int32 → Int32 → (Nat → Int32) → (Nat → Int32) → (Nat → Int32) → Option (Int32 × (Nat → Int32) × (Nat → Int32) × (Nat → Int32))) (x2 : Int32) (x3 : Int32) (w_enemiesByDay : Nat → Int32) (w_p1_facts : Nat → Int32) (w_ways : Nat → Int32) : Option (Int32 × (Nat → Int32) × (Nat → Int32) × (Nat → Int32)) := (if (64 : Int32) ≤ x3 then (some (x2, w_enemiesByDay, w_p1_facts, w_ways)) else (gd x3 64 (if (w_ways x3.toNatClampNeg) ≤ 0 then (k14 x2 (x3 + (1 : Int32)) w_enemiesByDay w_p1_facts w_ways) else ((f_J6_bitCount_0f7a4 x3).bind fun q1 => ((f_J9_max_7cf53 x2 q1).bind fun q2 => (k14 q2 (x3 + (1 : Int32)) w_enemiesByDay w_p1_facts w_ways))))))
def f_X1_longest_14 : Nat → Int32 → Int32 → (Nat → Int32) → (Nat → Int32) → (Nat → Int32) → Option (Int32 × (Nat → Int32) × (Nat → Int32) × (Nat → Int32))
  | 0 => fun _ _ _ _ _ => none
  | n + 1 => f_X1_longest_14_b (f_X1_longest_14 n)
set_option maxRecDepth 20000 in
set_option maxHeartbeats 1000000 in
theorem t_X1_longest_14_b {G : Gx} {K : Kx} (C : Cx G K cX1_longest RX1 4 6) {a_t : Nat} {r_t : Nat → Nat} {a_p1 : Nat} {r_p1 : Nat → Nat} {r_p1_holding : Nat → Nat} {v_p1_people : Int32} {v_p1_day : Int32} {v_p1_dead : Int32} {v_p1_buried : Int32} {a_p1_holding : Nat} {v_p1_hates : Nat → Int32} {v_p1_vs : Nat → Int32} {v_p1_kinds : Nat → Int32} {v_p1_holding_length : Int32} {v_p1_holding_need : Int32} {v_p1_holding_steps : Nat → Int32} {v_p1_holding_numbers : Nat → Int32} {v_p1_rows : Nat → Int32} {q : Int32 × (Nat → Int32) × (Nat → Int32) × (Nat → Int32)} (hQ : k_retI G K cX1_longest 4 .int [oX1 a_t r_t, oX6 a_p1 r_p1 v_p1_people v_p1_day v_p1_dead v_p1_buried a_p1_holding, aI G (r_t 2) 36 q.2.1, aI G (r_p1 8) 36 v_p1_hates, aI G (r_p1 6) 6 v_p1_vs, aI G (r_p1 5) 6 v_p1_kinds, aI G (r_p1 13) 6 q.2.2.1, oX2 a_p1_holding r_p1_holding v_p1_holding_length v_p1_holding_need, aI G (r_p1_holding 0) 100 v_p1_holding_steps, aI G (r_p1_holding 1) 100 v_p1_holding_numbers, aI G (r_p1 9) 24 v_p1_rows, aI G (r_t 3) 64 q.2.2.2] q.1) {k14 : Int32 → Int32 → (Nat → Int32) → (Nat → Int32) → (Nat → Int32) → Option (Int32 × (Nat → Int32) × (Nat → Int32) × (Nat → Int32))} (hk14 : ∀ (x2 : Int32) (x3 : Int32) (w_enemiesByDay : Nat → Int32) (w_p1_facts : Nat → Int32) (w_ways : Nat → Int32), k14 x2 x3 w_enemiesByDay w_p1_facts w_ways = some q → J G K 4 0 0 [oX1 a_t r_t, oX6 a_p1 r_p1 v_p1_people v_p1_day v_p1_dead v_p1_buried a_p1_holding, aI G (r_t 2) 36 w_enemiesByDay, aI G (r_p1 8) 36 v_p1_hates, aI G (r_p1 6) 6 v_p1_vs, aI G (r_p1 5) 6 v_p1_kinds, aI G (r_p1 13) 6 w_p1_facts, oX2 a_p1_holding r_p1_holding v_p1_holding_length v_p1_holding_need, aI G (r_p1_holding 0) 100 v_p1_holding_steps, aI G (r_p1_holding 1) 100 v_p1_holding_numbers, aI G (r_p1 9) 24 v_p1_rows, aI G (r_t 3) 64 w_ways] [(0, .ref a_t), (2, .int x2), (3, .int x3)] 14 []) {x2 : Int32} {x3 : Int32} {w_enemiesByDay : Nat → Int32} {w_p1_facts : Nat → Int32} {w_ways : Nat → Int32} (hf : f_X1_longest_14_b k14 x2 x3 w_enemiesByDay w_p1_facts w_ways = some q) : J G K 4 0 0 [oX1 a_t r_t, oX6 a_p1 r_p1 v_p1_people v_p1_day v_p1_dead v_p1_buried a_p1_holding, aI G (r_t 2) 36 w_enemiesByDay, aI G (r_p1 8) 36 v_p1_hates, aI G (r_p1 6) 6 v_p1_vs, aI G (r_p1 5) 6 v_p1_kinds, aI G (r_p1 13) 6 w_p1_facts, oX2 a_p1_holding r_p1_holding v_p1_holding_length v_p1_holding_need, aI G (r_p1_holding 0) 100 v_p1_holding_steps, aI G (r_p1_holding 1) 100 v_p1_holding_numbers, aI G (r_p1 9) 24 v_p1_rows, aI G (r_t 3) 64 w_ways] [(0, .ref a_t), (2, .int x2), (3, .int x3)] 14 [] := by
  unfold f_X1_longest_14_b at hf
  refine j_iload_n C (pc := 14) 2 rfl rfl dX1_longest_14 ?_
  refine j_bipush C (pc := 15) (v := 64) (by decide) dX1_longest_15 ?_
  refine j_icmp_ge C (pc := 17) 44 dX1_longest_17 (by decide) hf (fun hf => ?_) (fun hf => ?_)
  · refine j_iload_n C (pc := 44) 1 rfl rfl dX1_longest_44 ?_
    obtain rfl := Option.some.inj hf
    exact hQ _ _ dX1_longest_45 rfl
  · refine j_aload_n C (pc := 20) 0 rfl rfl dX1_longest_20 ?_
    refine j_get C (pc := 21) kc_X1 fl_X1_21 0 rfl rfl dX1_longest_21 ?_
    refine j_iload_n C (pc := 24) 2 rfl rfl dX1_longest_24 ?_
    refine j_iald C (pc := 25) 11 rfl hf dX1_longest_25 (fun hf => ?_)
    refine j_if_le C (pc := 26) 38 dX1_longest_26 (by decide) hf (fun hf => ?_) (fun hf => ?_)
    · refine j_iinc C (pc := 38) (L' := [(3, .int (x3 + (1 : Int32))), (0, .ref a_t), (2, .int x2)]) (v := x3 + (1 : Int32)) dX1_longest_38 (t := 2) rfl rfl (by decide) rfl ?_
      refine j_goto C (pc := 41) 14 dX1_longest_41 (by decide) ?_
      refine j_sub [1, 2, 0] rfl ?_
      exact hk14 _ _ _ _ _ hf
    · refine j_iload_n C (pc := 29) 1 rfl rfl dX1_longest_29 ?_
      refine j_iload_n C (pc := 30) 2 rfl rfl dX1_longest_30 ?_
      refine j_cSI C (pc := 31) (As := [.int x3]) (st := [.int x2]) (ws' := fun q1 => [oX1 a_t r_t, oX6 a_p1 r_p1 v_p1_people v_p1_day v_p1_dead v_p1_buried a_p1_holding, aI G (r_t 2) 36 w_enemiesByDay, aI G (r_p1 8) 36 v_p1_hates, aI G (r_p1 6) 6 v_p1_vs, aI G (r_p1 5) 6 v_p1_kinds, aI G (r_p1 13) 6 w_p1_facts, oX2 a_p1_holding r_p1_holding v_p1_holding_length v_p1_holding_need, aI G (r_p1_holding 0) 100 v_p1_holding_steps, aI G (r_p1_holding 1) 100 v_p1_holding_numbers, aI G (r_p1 9) 24 v_p1_rows, aI G (r_t 3) 64 w_ways]) ml_X1_45 ms_J6_bitCount_0f7a4 hf (fun q1 h => (c_J6_bitCount_0f7a4 G K.2.1) x3 q1 h) [] [none, none, none, none, none, none, none, none, none, none, none, none] 12 rfl (by decide +kernel) (by decide +kernel) (fun _ => rfl) (fun _ => rfl) rfl rfl rfl rfl ⟨Nat.zero_le _, Nat.zero_le _⟩ dX1_longest_31 (fun q1 hf => ?_)
      refine j_cSI C (pc := 34) (As := [.int x2, .int q1]) (st := []) (ws' := fun q2 => [oX1 a_t r_t, oX6 a_p1 r_p1 v_p1_people v_p1_day v_p1_dead v_p1_buried a_p1_holding, aI G (r_t 2) 36 w_enemiesByDay, aI G (r_p1 8) 36 v_p1_hates, aI G (r_p1 6) 6 v_p1_vs, aI G (r_p1 5) 6 v_p1_kinds, aI G (r_p1 13) 6 w_p1_facts, oX2 a_p1_holding r_p1_holding v_p1_holding_length v_p1_holding_need, aI G (r_p1_holding 0) 100 v_p1_holding_steps, aI G (r_p1_holding 1) 100 v_p1_holding_numbers, aI G (r_p1 9) 24 v_p1_rows, aI G (r_t 3) 64 w_ways]) ml_X1_65 ms_J9_max_7cf53 hf (fun q2 h => (c_J9_max_7cf53 G K.2.1) x2 q1 q2 h) [] [none, none, none, none, none, none, none, none, none, none, none, none] 12 rfl (by decide +kernel) (by decide +kernel) (fun _ => rfl) (fun _ => rfl) rfl rfl rfl rfl ⟨Nat.zero_le _, Nat.zero_le _⟩ dX1_longest_34 (fun q2 hf => ?_)
      refine j_istore_n C (pc := 37) (L' := [(2, .int q2), (0, .ref a_t), (3, .int x3)]) dX1_longest_37 rfl (by decide) rfl ?_
      refine j_iinc C (pc := 38) (L' := [(3, .int (x3 + (1 : Int32))), (2, .int q2), (0, .ref a_t)]) (v := x3 + (1 : Int32)) dX1_longest_38 (t := 2) rfl rfl (by decide) rfl ?_
      refine j_goto C (pc := 41) 14 dX1_longest_41 (by decide) ?_
      refine j_sub [2, 1, 0] rfl ?_
      exact hk14 _ _ _ _ _ hf
theorem t_X1_longest_14 {G : Gx} {K : Kx} (C : Cx G K cX1_longest RX1 4 6) {a_t : Nat} {r_t : Nat → Nat} {a_p1 : Nat} {r_p1 : Nat → Nat} {r_p1_holding : Nat → Nat} {v_p1_people : Int32} {v_p1_day : Int32} {v_p1_dead : Int32} {v_p1_buried : Int32} {a_p1_holding : Nat} {v_p1_hates : Nat → Int32} {v_p1_vs : Nat → Int32} {v_p1_kinds : Nat → Int32} {v_p1_holding_length : Int32} {v_p1_holding_need : Int32} {v_p1_holding_steps : Nat → Int32} {v_p1_holding_numbers : Nat → Int32} {v_p1_rows : Nat → Int32} {q : Int32 × (Nat → Int32) × (Nat → Int32) × (Nat → Int32)} (hQ : k_retI G K cX1_longest 4 .int [oX1 a_t r_t, oX6 a_p1 r_p1 v_p1_people v_p1_day v_p1_dead v_p1_buried a_p1_holding, aI G (r_t 2) 36 q.2.1, aI G (r_p1 8) 36 v_p1_hates, aI G (r_p1 6) 6 v_p1_vs, aI G (r_p1 5) 6 v_p1_kinds, aI G (r_p1 13) 6 q.2.2.1, oX2 a_p1_holding r_p1_holding v_p1_holding_length v_p1_holding_need, aI G (r_p1_holding 0) 100 v_p1_holding_steps, aI G (r_p1_holding 1) 100 v_p1_holding_numbers, aI G (r_p1 9) 24 v_p1_rows, aI G (r_t 3) 64 q.2.2.2] q.1) : ∀ (n : Nat) (x2 : Int32) (x3 : Int32) (w_enemiesByDay : Nat → Int32) (w_p1_facts : Nat → Int32) (w_ways : Nat → Int32), f_X1_longest_14 n x2 x3 w_enemiesByDay w_p1_facts w_ways = some q → J G K 4 0 0 [oX1 a_t r_t, oX6 a_p1 r_p1 v_p1_people v_p1_day v_p1_dead v_p1_buried a_p1_holding, aI G (r_t 2) 36 w_enemiesByDay, aI G (r_p1 8) 36 v_p1_hates, aI G (r_p1 6) 6 v_p1_vs, aI G (r_p1 5) 6 v_p1_kinds, aI G (r_p1 13) 6 w_p1_facts, oX2 a_p1_holding r_p1_holding v_p1_holding_length v_p1_holding_need, aI G (r_p1_holding 0) 100 v_p1_holding_steps, aI G (r_p1_holding 1) 100 v_p1_holding_numbers, aI G (r_p1 9) 24 v_p1_rows, aI G (r_t 3) 64 w_ways] [(0, .ref a_t), (2, .int x2), (3, .int x3)] 14 [] := by
  intro n
  induction n with
  | zero => intro x2 x3 w_enemiesByDay w_p1_facts w_ways hf; cases hf
  | succ n ih => intro x2 x3 w_enemiesByDay w_p1_facts w_ways hf; exact t_X1_longest_14_b C hQ ih hf
def f_X1_longest (v_p1_people : Int32) (v_p1_day : Int32) (v_p1_dead : Int32) (v_enemiesByDay : Nat → Int32) (v_p1_hates : Nat → Int32) (v_p1_vs : Nat → Int32) (v_p1_kinds : Nat → Int32) (v_p1_facts : Nat → Int32) (v_p1_holding_length : Int32) (v_p1_holding_need : Int32) (v_p1_holding_steps : Nat → Int32) (v_p1_holding_numbers : Nat → Int32) (v_p1_rows : Nat → Int32) (v_ways : Nat → Int32) : Option (Int32 × (Nat → Int32) × (Nat → Int32) × (Nat → Int32)) := ((f_X1_findEnemiesByDay v_p1_people v_p1_day v_p1_dead v_enemiesByDay v_p1_hates v_p1_vs v_p1_kinds v_p1_facts v_p1_holding_length v_p1_holding_need v_p1_holding_steps v_p1_holding_numbers v_p1_rows).bind fun q1 => ((f_X1_findWays v_p1_people v_p1_dead v_ways q1.1).bind fun q2 => (f_X1_longest_14 1000 (0 : Int32) (0 : Int32) q1.1 q1.2 q2)))
set_option maxRecDepth 20000 in
set_option maxHeartbeats 1000000 in
theorem t_X1_longest {G : Gx} {K : Kx} (C : Cx G K cX1_longest RX1 4 6) {a_t : Nat} {r_t : Nat → Nat} {a_p1 : Nat} {r_p1 : Nat → Nat} {r_p1_holding : Nat → Nat} {v_p1_people : Int32} {v_p1_day : Int32} {v_p1_dead : Int32} {v_p1_buried : Int32} {a_p1_holding : Nat} {v_enemiesByDay : Nat → Int32} {v_p1_hates : Nat → Int32} {v_p1_vs : Nat → Int32} {v_p1_kinds : Nat → Int32} {v_p1_facts : Nat → Int32} {v_p1_holding_length : Int32} {v_p1_holding_need : Int32} {v_p1_holding_steps : Nat → Int32} {v_p1_holding_numbers : Nat → Int32} {v_p1_rows : Nat → Int32} {v_ways : Nat → Int32} {q : Int32 × (Nat → Int32) × (Nat → Int32) × (Nat → Int32)} (hQ : k_retI G K cX1_longest 4 .int [oX1 a_t r_t, oX6 a_p1 r_p1 v_p1_people v_p1_day v_p1_dead v_p1_buried a_p1_holding, aI G (r_t 2) 36 q.2.1, aI G (r_p1 8) 36 v_p1_hates, aI G (r_p1 6) 6 v_p1_vs, aI G (r_p1 5) 6 v_p1_kinds, aI G (r_p1 13) 6 q.2.2.1, oX2 a_p1_holding r_p1_holding v_p1_holding_length v_p1_holding_need, aI G (r_p1_holding 0) 100 v_p1_holding_steps, aI G (r_p1_holding 1) 100 v_p1_holding_numbers, aI G (r_p1 9) 24 v_p1_rows, aI G (r_t 3) 64 q.2.2.2] q.1) (hf : f_X1_longest v_p1_people v_p1_day v_p1_dead v_enemiesByDay v_p1_hates v_p1_vs v_p1_kinds v_p1_facts v_p1_holding_length v_p1_holding_need v_p1_holding_steps v_p1_holding_numbers v_p1_rows v_ways = some q) : J G K 4 0 0 [oX1 a_t r_t, oX6 a_p1 r_p1 v_p1_people v_p1_day v_p1_dead v_p1_buried a_p1_holding, aI G (r_t 2) 36 v_enemiesByDay, aI G (r_p1 8) 36 v_p1_hates, aI G (r_p1 6) 6 v_p1_vs, aI G (r_p1 5) 6 v_p1_kinds, aI G (r_p1 13) 6 v_p1_facts, oX2 a_p1_holding r_p1_holding v_p1_holding_length v_p1_holding_need, aI G (r_p1_holding 0) 100 v_p1_holding_steps, aI G (r_p1_holding 1) 100 v_p1_holding_numbers, aI G (r_p1 9) 24 v_p1_rows, aI G (r_t 3) 64 v_ways] [(0, .ref a_t), (1, .ref a_p1)] 0 [] := by
  unfold f_X1_longest at hf
  refine j_aload_n C (pc := 0) 0 rfl rfl dX1_longest_0 ?_
  refine j_aload_n C (pc := 1) 1 rfl rfl dX1_longest_1 ?_
  refine j_cVZ C (pc := 2) (As := [.ref a_p1]) (st := []) (ws' := fun q1 => [oX1 a_t r_t, oX6 a_p1 r_p1 v_p1_people v_p1_day v_p1_dead v_p1_buried a_p1_holding, aI G (r_t 2) 36 q1.1, aI G (r_p1 8) 36 v_p1_hates, aI G (r_p1 6) 6 v_p1_vs, aI G (r_p1 5) 6 v_p1_kinds, aI G (r_p1 13) 6 q1.2, oX2 a_p1_holding r_p1_holding v_p1_holding_length v_p1_holding_need, aI G (r_p1_holding 0) 100 v_p1_holding_steps, aI G (r_p1_holding 1) 100 v_p1_holding_numbers, aI G (r_p1 9) 24 v_p1_rows, aI G (r_t 3) 64 v_ways]) ml_X1_74 ms_X1_findEnemiesByDay hf (fun q1 h => (c_X1_findEnemiesByDay G K.2.1) a_t r_t a_p1 r_p1 r_p1_holding v_p1_people v_p1_day v_p1_dead v_p1_buried a_p1_holding v_enemiesByDay v_p1_hates v_p1_vs v_p1_kinds v_p1_facts v_p1_holding_length v_p1_holding_need v_p1_holding_steps v_p1_holding_numbers v_p1_rows q1 h) [0, 1, 2, 3, 4, 5, 6, 7, 8, 9, 10] [some 0, some 1, some 2, some 3, some 4, some 5, some 6, some 7, some 8, some 9, some 10, none] 12 rfl (by decide +kernel) (by decide +kernel) (fun _ => rfl) (fun _ => rfl) rfl rfl rfl rfl ⟨Nat.zero_le _, Nat.zero_le _⟩ dX1_longest_2 kc_X1 0 rfl (fun q1 hf => ?_)
  refine j_aload_n C (pc := 5) 0 rfl rfl dX1_longest_5 ?_
  refine j_aload_n C (pc := 6) 1 rfl rfl dX1_longest_6 ?_
  refine j_cVZ C (pc := 7) (As := [.ref a_p1]) (st := []) (ws' := fun q2 => [oX1 a_t r_t, oX6 a_p1 r_p1 v_p1_people v_p1_day v_p1_dead v_p1_buried a_p1_holding, aI G (r_t 2) 36 q1.1, aI G (r_p1 8) 36 v_p1_hates, aI G (r_p1 6) 6 v_p1_vs, aI G (r_p1 5) 6 v_p1_kinds, aI G (r_p1 13) 6 q1.2, oX2 a_p1_holding r_p1_holding v_p1_holding_length v_p1_holding_need, aI G (r_p1_holding 0) 100 v_p1_holding_steps, aI G (r_p1_holding 1) 100 v_p1_holding_numbers, aI G (r_p1 9) 24 v_p1_rows, aI G (r_t 3) 64 q2]) ml_X1_78 ms_X1_findWays hf (fun q2 h => (c_X1_findWays G K.2.1) a_t r_t a_p1 r_p1 v_p1_people v_p1_day v_p1_dead v_p1_buried a_p1_holding v_ways q1.1 q2 h) [0, 1, 11, 2] [some 0, some 1, some 3, none, none, none, none, none, none, none, none, some 2] 12 rfl (by decide +kernel) (by decide +kernel) (fun _ => rfl) (fun _ => rfl) rfl rfl rfl rfl ⟨Nat.zero_le _, Nat.zero_le _⟩ dX1_longest_7 kc_X1 0 rfl (fun q2 hf => ?_)
  refine j_iconst C (pc := 10) (v := 0) (by decide) dX1_longest_10 ?_
  refine j_istore_n C (pc := 11) (L' := [(2, .int (0 : Int32)), (0, .ref a_t), (1, .ref a_p1)]) dX1_longest_11 rfl (by decide) rfl ?_
  refine j_iconst C (pc := 12) (v := 0) (by decide) dX1_longest_12 ?_
  refine j_istore_n C (pc := 13) (L' := [(3, .int (0 : Int32)), (2, .int (0 : Int32)), (0, .ref a_t), (1, .ref a_p1)]) dX1_longest_13 rfl (by decide) rfl ?_
  refine j_sub [2, 1, 0] rfl ?_
  exact t_X1_longest_14 C hQ 1000 _ _ _ _ _ hf
def ct_X1_longest (G : Gx) (l : Launch) (F : Int32 → Int32 → Int32 → (Nat → Int32) → (Nat → Int32) → (Nat → Int32) → (Nat → Int32) → (Nat → Int32) → Int32 → Int32 → (Nat → Int32) → (Nat → Int32) → (Nat → Int32) → (Nat → Int32) → Option (Int32 × (Nat → Int32) × (Nat → Int32) × (Nat → Int32))) (lv : Nat) : Prop := ∀ (a_t : Nat) (r_t : Nat → Nat) (a_p1 : Nat) (r_p1 : Nat → Nat) (r_p1_holding : Nat → Nat) (v_p1_people : Int32) (v_p1_day : Int32) (v_p1_dead : Int32) (v_p1_buried : Int32) (a_p1_holding : Nat) (v_enemiesByDay : Nat → Int32) (v_p1_hates : Nat → Int32) (v_p1_vs : Nat → Int32) (v_p1_kinds : Nat → Int32) (v_p1_facts : Nat → Int32) (v_p1_holding_length : Int32) (v_p1_holding_need : Int32) (v_p1_holding_steps : Nat → Int32) (v_p1_holding_numbers : Nat → Int32) (v_p1_rows : Nat → Int32) (v_ways : Nat → Int32), ∀ (q : Int32 × (Nat → Int32) × (Nat → Int32) × (Nat → Int32)), F v_p1_people v_p1_day v_p1_dead v_enemiesByDay v_p1_hates v_p1_vs v_p1_kinds v_p1_facts v_p1_holding_length v_p1_holding_need v_p1_holding_steps v_p1_holding_numbers v_p1_rows v_ways = some q → MI G l yX1_longest cX1_longest 4 .int lv [.ref a_t, .ref a_p1] [oX1 a_t r_t, oX6 a_p1 r_p1 v_p1_people v_p1_day v_p1_dead v_p1_buried a_p1_holding, aI G (r_t 2) 36 v_enemiesByDay, aI G (r_p1 8) 36 v_p1_hates, aI G (r_p1 6) 6 v_p1_vs, aI G (r_p1 5) 6 v_p1_kinds, aI G (r_p1 13) 6 v_p1_facts, oX2 a_p1_holding r_p1_holding v_p1_holding_length v_p1_holding_need, aI G (r_p1_holding 0) 100 v_p1_holding_steps, aI G (r_p1_holding 1) 100 v_p1_holding_numbers, aI G (r_p1 9) 24 v_p1_rows, aI G (r_t 3) 64 v_ways] [oX1 a_t r_t, oX6 a_p1 r_p1 v_p1_people v_p1_day v_p1_dead v_p1_buried a_p1_holding, aI G (r_t 2) 36 q.2.1, aI G (r_p1 8) 36 v_p1_hates, aI G (r_p1 6) 6 v_p1_vs, aI G (r_p1 5) 6 v_p1_kinds, aI G (r_p1 13) 6 q.2.2.1, oX2 a_p1_holding r_p1_holding v_p1_holding_length v_p1_holding_need, aI G (r_p1_holding 0) 100 v_p1_holding_steps, aI G (r_p1_holding 1) 100 v_p1_holding_numbers, aI G (r_p1 9) 24 v_p1_rows, aI G (r_t 3) 64 q.2.2.2] q.1
theorem c_X1_longest (G : Gx) (l : Launch) : ct_X1_longest G l f_X1_longest 6 := by
  intro a_t r_t a_p1 r_p1 r_p1_holding v_p1_people v_p1_day v_p1_dead v_p1_buried a_p1_holding v_enemiesByDay v_p1_hates v_p1_vs v_p1_kinds v_p1_facts v_p1_holding_length v_p1_holding_need v_p1_holding_steps v_p1_holding_numbers v_p1_rows v_ways q hf
  exact mI_of (by decide +kernel) rfl (fun K hl C hQ => t_X1_longest C hQ hf)
-- X1_rowsOf
def f_X1_rowsOf_15_b (p2 : Int32) (k15 : Int32 → Int32 → (Nat → Int32) → (Nat → Int32) → (Nat → Int32) → Option (Int32 × (Nat → Int32) × (Nat → Int32) × (Nat → Int32))) (x3 : Int32) (x4 : Int32) (w_enemiesByDay : Nat → Int32) (w_p1_facts : Nat → Int32) (w_ways : Nat → Int32) : Option (Int32 × (Nat → Int32) × (Nat → Int32) × (Nat → Int32)) := (if (64 : Int32) ≤ x4 then (some (x3, w_enemiesByDay, w_p1_facts, w_ways)) else ((f_J6_bitCount_0f7a4 x4).bind fun q1 => (if q1 = p2 then (gd x4 64 (nm (x3 + (w_ways x4.toNatClampNeg)) fun y2 => (k15 y2 (x4 + (1 : Int32)) w_enemiesByDay w_p1_facts w_ways))) else (k15 x3 (x4 + (1 : Int32)) w_enemiesByDay w_p1_facts w_ways))))
def f_X1_rowsOf_15 (p2 : Int32) : Nat → Int32 → Int32 → (Nat → Int32) → (Nat → Int32) → (Nat → Int32) → Option (Int32 × (Nat → Int32) × (Nat → Int32) × (Nat → Int32))
  | 0 => fun _ _ _ _ _ => none
  | n + 1 => f_X1_rowsOf_15_b p2 (f_X1_rowsOf_15 p2 n)
set_option maxRecDepth 20000 in
set_option maxHeartbeats 1000000 in
theorem t_X1_rowsOf_15_b {G : Gx} {K : Kx} (C : Cx G K cX1_rowsOf RX1 5 6) {a_t : Nat} {r_t : Nat → Nat} {a_p1 : Nat} {r_p1 : Nat → Nat} {r_p1_holding : Nat → Nat} {v_p1_people : Int32} {v_p1_day : Int32} {v_p1_dead : Int32} {v_p1_buried : Int32} {a_p1_holding : Nat} {v_p1_hates : Nat → Int32} {v_p1_vs : Nat → Int32} {v_p1_kinds : Nat → Int32} {v_p1_holding_length : Int32} {v_p1_holding_need : Int32} {v_p1_holding_steps : Nat → Int32} {v_p1_holding_numbers : Nat → Int32} {v_p1_rows : Nat → Int32} {p2 : Int32} {q : Int32 × (Nat → Int32) × (Nat → Int32) × (Nat → Int32)} (hQ : k_retI G K cX1_rowsOf 5 .int [oX1 a_t r_t, oX6 a_p1 r_p1 v_p1_people v_p1_day v_p1_dead v_p1_buried a_p1_holding, aI G (r_t 2) 36 q.2.1, aI G (r_p1 8) 36 v_p1_hates, aI G (r_p1 6) 6 v_p1_vs, aI G (r_p1 5) 6 v_p1_kinds, aI G (r_p1 13) 6 q.2.2.1, oX2 a_p1_holding r_p1_holding v_p1_holding_length v_p1_holding_need, aI G (r_p1_holding 0) 100 v_p1_holding_steps, aI G (r_p1_holding 1) 100 v_p1_holding_numbers, aI G (r_p1 9) 24 v_p1_rows, aI G (r_t 3) 64 q.2.2.2] q.1) {k15 : Int32 → Int32 → (Nat → Int32) → (Nat → Int32) → (Nat → Int32) → Option (Int32 × (Nat → Int32) × (Nat → Int32) × (Nat → Int32))} (hk15 : ∀ (x3 : Int32) (x4 : Int32) (w_enemiesByDay : Nat → Int32) (w_p1_facts : Nat → Int32) (w_ways : Nat → Int32), k15 x3 x4 w_enemiesByDay w_p1_facts w_ways = some q → J G K 5 0 0 [oX1 a_t r_t, oX6 a_p1 r_p1 v_p1_people v_p1_day v_p1_dead v_p1_buried a_p1_holding, aI G (r_t 2) 36 w_enemiesByDay, aI G (r_p1 8) 36 v_p1_hates, aI G (r_p1 6) 6 v_p1_vs, aI G (r_p1 5) 6 v_p1_kinds, aI G (r_p1 13) 6 w_p1_facts, oX2 a_p1_holding r_p1_holding v_p1_holding_length v_p1_holding_need, aI G (r_p1_holding 0) 100 v_p1_holding_steps, aI G (r_p1_holding 1) 100 v_p1_holding_numbers, aI G (r_p1 9) 24 v_p1_rows, aI G (r_t 3) 64 w_ways] [(0, .ref a_t), (2, .int p2), (3, .int x3), (4, .int x4)] 15 []) {x3 : Int32} {x4 : Int32} {w_enemiesByDay : Nat → Int32} {w_p1_facts : Nat → Int32} {w_ways : Nat → Int32} (hf : f_X1_rowsOf_15_b p2 k15 x3 x4 w_enemiesByDay w_p1_facts w_ways = some q) : J G K 5 0 0 [oX1 a_t r_t, oX6 a_p1 r_p1 v_p1_people v_p1_day v_p1_dead v_p1_buried a_p1_holding, aI G (r_t 2) 36 w_enemiesByDay, aI G (r_p1 8) 36 v_p1_hates, aI G (r_p1 6) 6 v_p1_vs, aI G (r_p1 5) 6 v_p1_kinds, aI G (r_p1 13) 6 w_p1_facts, oX2 a_p1_holding r_p1_holding v_p1_holding_length v_p1_holding_need, aI G (r_p1_holding 0) 100 v_p1_holding_steps, aI G (r_p1_holding 1) 100 v_p1_holding_numbers, aI G (r_p1 9) 24 v_p1_rows, aI G (r_t 3) 64 w_ways] [(0, .ref a_t), (2, .int p2), (3, .int x3), (4, .int x4)] 15 [] := by
  unfold f_X1_rowsOf_15_b at hf
  refine j_iload C (pc := 15) 3 rfl dX1_rowsOf_15 ?_
  refine j_bipush C (pc := 17) (v := 64) (by decide) dX1_rowsOf_17 ?_
  refine j_icmp_ge C (pc := 19) 47 dX1_rowsOf_19 (by decide) hf (fun hf => ?_) (fun hf => ?_)
  · refine j_iload_n C (pc := 47) 2 rfl rfl dX1_rowsOf_47 ?_
    obtain rfl := Option.some.inj hf
    exact hQ _ _ dX1_rowsOf_48 rfl
  · refine j_iload C (pc := 22) 3 rfl dX1_rowsOf_22 ?_
    refine j_cSI C (pc := 24) (As := [.int x4]) (st := []) (ws' := fun q1 => [oX1 a_t r_t, oX6 a_p1 r_p1 v_p1_people v_p1_day v_p1_dead v_p1_buried a_p1_holding, aI G (r_t 2) 36 w_enemiesByDay, aI G (r_p1 8) 36 v_p1_hates, aI G (r_p1 6) 6 v_p1_vs, aI G (r_p1 5) 6 v_p1_kinds, aI G (r_p1 13) 6 w_p1_facts, oX2 a_p1_holding r_p1_holding v_p1_holding_length v_p1_holding_need, aI G (r_p1_holding 0) 100 v_p1_holding_steps, aI G (r_p1_holding 1) 100 v_p1_holding_numbers, aI G (r_p1 9) 24 v_p1_rows, aI G (r_t 3) 64 w_ways]) ml_X1_45 ms_J6_bitCount_0f7a4 hf (fun q1 h => (c_J6_bitCount_0f7a4 G K.2.1) x4 q1 h) [] [none, none, none, none, none, none, none, none, none, none, none, none] 12 rfl (by decide +kernel) (by decide +kernel) (fun _ => rfl) (fun _ => rfl) rfl rfl rfl rfl ⟨Nat.zero_le _, Nat.zero_le _⟩ dX1_rowsOf_24 (fun q1 hf => ?_)
    refine j_iload_n C (pc := 27) 1 rfl rfl dX1_rowsOf_27 ?_
    refine j_icmp_ne C (pc := 28) 41 dX1_rowsOf_28 (by decide) hf (fun hf => ?_) (fun hf => ?_)
    · refine j_iinc C (pc := 41) (L' := [(4, .int (x4 + (1 : Int32))), (0, .ref a_t), (2, .int p2), (3, .int x3)]) (v := x4 + (1 : Int32)) dX1_rowsOf_41 (t := 3) rfl rfl (by decide) rfl ?_
      refine j_goto C (pc := 44) 15 dX1_rowsOf_44 (by decide) ?_
      refine j_sub [1, 2, 3, 0] rfl ?_
      exact hk15 _ _ _ _ _ hf
    · refine j_iload_n C (pc := 31) 2 rfl rfl dX1_rowsOf_31 ?_
      refine j_aload_n C (pc := 32) 0 rfl rfl dX1_rowsOf_32 ?_
      refine j_get C (pc := 33) kc_X1 fl_X1_21 0 rfl rfl dX1_rowsOf_33 ?_
      refine j_iload C (pc := 36) 3 rfl dX1_rowsOf_36 ?_
      refine j_iald C (pc := 38) 11 rfl hf dX1_rowsOf_38 (fun hf => ?_)
      refine j_iadd C (pc := 39) dX1_rowsOf_39 ?_
      refine j_nm hf (fun y2 hf => ?_)
      refine j_istore_n C (pc := 40) (L' := [(3, .int y2), (0, .ref a_t), (2, .int p2), (4, .int x4)]) dX1_rowsOf_40 rfl (by decide) rfl ?_
      refine j_iinc C (pc := 41) (L' := [(4, .int (x4 + (1 : Int32))), (3, .int y2), (0, .ref a_t), (2, .int p2)]) (v := x4 + (1 : Int32)) dX1_rowsOf_41 (t := 3) rfl rfl (by decide) rfl ?_
      refine j_goto C (pc := 44) 15 dX1_rowsOf_44 (by decide) ?_
      refine j_sub [2, 3, 1, 0] rfl ?_
      exact hk15 _ _ _ _ _ hf
theorem t_X1_rowsOf_15 {G : Gx} {K : Kx} (C : Cx G K cX1_rowsOf RX1 5 6) {a_t : Nat} {r_t : Nat → Nat} {a_p1 : Nat} {r_p1 : Nat → Nat} {r_p1_holding : Nat → Nat} {v_p1_people : Int32} {v_p1_day : Int32} {v_p1_dead : Int32} {v_p1_buried : Int32} {a_p1_holding : Nat} {v_p1_hates : Nat → Int32} {v_p1_vs : Nat → Int32} {v_p1_kinds : Nat → Int32} {v_p1_holding_length : Int32} {v_p1_holding_need : Int32} {v_p1_holding_steps : Nat → Int32} {v_p1_holding_numbers : Nat → Int32} {v_p1_rows : Nat → Int32} {p2 : Int32} {q : Int32 × (Nat → Int32) × (Nat → Int32) × (Nat → Int32)} (hQ : k_retI G K cX1_rowsOf 5 .int [oX1 a_t r_t, oX6 a_p1 r_p1 v_p1_people v_p1_day v_p1_dead v_p1_buried a_p1_holding, aI G (r_t 2) 36 q.2.1, aI G (r_p1 8) 36 v_p1_hates, aI G (r_p1 6) 6 v_p1_vs, aI G (r_p1 5) 6 v_p1_kinds, aI G (r_p1 13) 6 q.2.2.1, oX2 a_p1_holding r_p1_holding v_p1_holding_length v_p1_holding_need, aI G (r_p1_holding 0) 100 v_p1_holding_steps, aI G (r_p1_holding 1) 100 v_p1_holding_numbers, aI G (r_p1 9) 24 v_p1_rows, aI G (r_t 3) 64 q.2.2.2] q.1) : ∀ (n : Nat) (x3 : Int32) (x4 : Int32) (w_enemiesByDay : Nat → Int32) (w_p1_facts : Nat → Int32) (w_ways : Nat → Int32), f_X1_rowsOf_15 p2 n x3 x4 w_enemiesByDay w_p1_facts w_ways = some q → J G K 5 0 0 [oX1 a_t r_t, oX6 a_p1 r_p1 v_p1_people v_p1_day v_p1_dead v_p1_buried a_p1_holding, aI G (r_t 2) 36 w_enemiesByDay, aI G (r_p1 8) 36 v_p1_hates, aI G (r_p1 6) 6 v_p1_vs, aI G (r_p1 5) 6 v_p1_kinds, aI G (r_p1 13) 6 w_p1_facts, oX2 a_p1_holding r_p1_holding v_p1_holding_length v_p1_holding_need, aI G (r_p1_holding 0) 100 v_p1_holding_steps, aI G (r_p1_holding 1) 100 v_p1_holding_numbers, aI G (r_p1 9) 24 v_p1_rows, aI G (r_t 3) 64 w_ways] [(0, .ref a_t), (2, .int p2), (3, .int x3), (4, .int x4)] 15 [] := by
  intro n
  induction n with
  | zero => intro x3 x4 w_enemiesByDay w_p1_facts w_ways hf; cases hf
  | succ n ih => intro x3 x4 w_enemiesByDay w_p1_facts w_ways hf; exact t_X1_rowsOf_15_b C hQ ih hf
def f_X1_rowsOf (v_p1_people : Int32) (v_p1_day : Int32) (v_p1_dead : Int32) (v_enemiesByDay : Nat → Int32) (v_p1_hates : Nat → Int32) (v_p1_vs : Nat → Int32) (v_p1_kinds : Nat → Int32) (v_p1_facts : Nat → Int32) (v_p1_holding_length : Int32) (v_p1_holding_need : Int32) (v_p1_holding_steps : Nat → Int32) (v_p1_holding_numbers : Nat → Int32) (v_p1_rows : Nat → Int32) (v_ways : Nat → Int32) (p2 : Int32) : Option (Int32 × (Nat → Int32) × (Nat → Int32) × (Nat → Int32)) := ((f_X1_findEnemiesByDay v_p1_people v_p1_day v_p1_dead v_enemiesByDay v_p1_hates v_p1_vs v_p1_kinds v_p1_facts v_p1_holding_length v_p1_holding_need v_p1_holding_steps v_p1_holding_numbers v_p1_rows).bind fun q1 => ((f_X1_findWays v_p1_people v_p1_dead v_ways q1.1).bind fun q2 => (f_X1_rowsOf_15 p2 1000 (0 : Int32) (0 : Int32) q1.1 q1.2 q2)))
set_option maxRecDepth 20000 in
set_option maxHeartbeats 1000000 in
theorem t_X1_rowsOf {G : Gx} {K : Kx} (C : Cx G K cX1_rowsOf RX1 5 6) {a_t : Nat} {r_t : Nat → Nat} {a_p1 : Nat} {r_p1 : Nat → Nat} {r_p1_holding : Nat → Nat} {v_p1_people : Int32} {v_p1_day : Int32} {v_p1_dead : Int32} {v_p1_buried : Int32} {a_p1_holding : Nat} {v_enemiesByDay : Nat → Int32} {v_p1_hates : Nat → Int32} {v_p1_vs : Nat → Int32} {v_p1_kinds : Nat → Int32} {v_p1_facts : Nat → Int32} {v_p1_holding_length : Int32} {v_p1_holding_need : Int32} {v_p1_holding_steps : Nat → Int32} {v_p1_holding_numbers : Nat → Int32} {v_p1_rows : Nat → Int32} {v_ways : Nat → Int32} {p2 : Int32} {q : Int32 × (Nat → Int32) × (Nat → Int32) × (Nat → Int32)} (hQ : k_retI G K cX1_rowsOf 5 .int [oX1 a_t r_t, oX6 a_p1 r_p1 v_p1_people v_p1_day v_p1_dead v_p1_buried a_p1_holding, aI G (r_t 2) 36 q.2.1, aI G (r_p1 8) 36 v_p1_hates, aI G (r_p1 6) 6 v_p1_vs, aI G (r_p1 5) 6 v_p1_kinds, aI G (r_p1 13) 6 q.2.2.1, oX2 a_p1_holding r_p1_holding v_p1_holding_length v_p1_holding_need, aI G (r_p1_holding 0) 100 v_p1_holding_steps, aI G (r_p1_holding 1) 100 v_p1_holding_numbers, aI G (r_p1 9) 24 v_p1_rows, aI G (r_t 3) 64 q.2.2.2] q.1) (hf : f_X1_rowsOf v_p1_people v_p1_day v_p1_dead v_enemiesByDay v_p1_hates v_p1_vs v_p1_kinds v_p1_facts v_p1_holding_length v_p1_holding_need v_p1_holding_steps v_p1_holding_numbers v_p1_rows v_ways p2 = some q) : J G K 5 0 0 [oX1 a_t r_t, oX6 a_p1 r_p1 v_p1_people v_p1_day v_p1_dead v_p1_buried a_p1_holding, aI G (r_t 2) 36 v_enemiesByDay, aI G (r_p1 8) 36 v_p1_hates, aI G (r_p1 6) 6 v_p1_vs, aI G (r_p1 5) 6 v_p1_kinds, aI G (r_p1 13) 6 v_p1_facts, oX2 a_p1_holding r_p1_holding v_p1_holding_length v_p1_holding_need, aI G (r_p1_holding 0) 100 v_p1_holding_steps, aI G (r_p1_holding 1) 100 v_p1_holding_numbers, aI G (r_p1 9) 24 v_p1_rows, aI G (r_t 3) 64 v_ways] [(0, .ref a_t), (1, .ref a_p1), (2, .int p2)] 0 [] := by
  unfold f_X1_rowsOf at hf
  refine j_aload_n C (pc := 0) 0 rfl rfl dX1_rowsOf_0 ?_
  refine j_aload_n C (pc := 1) 1 rfl rfl dX1_rowsOf_1 ?_
  refine j_cVZ C (pc := 2) (As := [.ref a_p1]) (st := []) (ws' := fun q1 => [oX1 a_t r_t, oX6 a_p1 r_p1 v_p1_people v_p1_day v_p1_dead v_p1_buried a_p1_holding, aI G (r_t 2) 36 q1.1, aI G (r_p1 8) 36 v_p1_hates, aI G (r_p1 6) 6 v_p1_vs, aI G (r_p1 5) 6 v_p1_kinds, aI G (r_p1 13) 6 q1.2, oX2 a_p1_holding r_p1_holding v_p1_holding_length v_p1_holding_need, aI G (r_p1_holding 0) 100 v_p1_holding_steps, aI G (r_p1_holding 1) 100 v_p1_holding_numbers, aI G (r_p1 9) 24 v_p1_rows, aI G (r_t 3) 64 v_ways]) ml_X1_74 ms_X1_findEnemiesByDay hf (fun q1 h => (c_X1_findEnemiesByDay G K.2.1) a_t r_t a_p1 r_p1 r_p1_holding v_p1_people v_p1_day v_p1_dead v_p1_buried a_p1_holding v_enemiesByDay v_p1_hates v_p1_vs v_p1_kinds v_p1_facts v_p1_holding_length v_p1_holding_need v_p1_holding_steps v_p1_holding_numbers v_p1_rows q1 h) [0, 1, 2, 3, 4, 5, 6, 7, 8, 9, 10] [some 0, some 1, some 2, some 3, some 4, some 5, some 6, some 7, some 8, some 9, some 10, none] 12 rfl (by decide +kernel) (by decide +kernel) (fun _ => rfl) (fun _ => rfl) rfl rfl rfl rfl ⟨Nat.zero_le _, Nat.zero_le _⟩ dX1_rowsOf_2 kc_X1 0 rfl (fun q1 hf => ?_)
  refine j_aload_n C (pc := 5) 0 rfl rfl dX1_rowsOf_5 ?_
  refine j_aload_n C (pc := 6) 1 rfl rfl dX1_rowsOf_6 ?_
  refine j_cVZ C (pc := 7) (As := [.ref a_p1]) (st := []) (ws' := fun q2 => [oX1 a_t r_t, oX6 a_p1 r_p1 v_p1_people v_p1_day v_p1_dead v_p1_buried a_p1_holding, aI G (r_t 2) 36 q1.1, aI G (r_p1 8) 36 v_p1_hates, aI G (r_p1 6) 6 v_p1_vs, aI G (r_p1 5) 6 v_p1_kinds, aI G (r_p1 13) 6 q1.2, oX2 a_p1_holding r_p1_holding v_p1_holding_length v_p1_holding_need, aI G (r_p1_holding 0) 100 v_p1_holding_steps, aI G (r_p1_holding 1) 100 v_p1_holding_numbers, aI G (r_p1 9) 24 v_p1_rows, aI G (r_t 3) 64 q2]) ml_X1_78 ms_X1_findWays hf (fun q2 h => (c_X1_findWays G K.2.1) a_t r_t a_p1 r_p1 v_p1_people v_p1_day v_p1_dead v_p1_buried a_p1_holding v_ways q1.1 q2 h) [0, 1, 11, 2] [some 0, some 1, some 3, none, none, none, none, none, none, none, none, some 2] 12 rfl (by decide +kernel) (by decide +kernel) (fun _ => rfl) (fun _ => rfl) rfl rfl rfl rfl ⟨Nat.zero_le _, Nat.zero_le _⟩ dX1_rowsOf_7 kc_X1 0 rfl (fun q2 hf => ?_)
  refine j_iconst C (pc := 10) (v := 0) (by decide) dX1_rowsOf_10 ?_
  refine j_istore_n C (pc := 11) (L' := [(3, .int (0 : Int32)), (0, .ref a_t), (1, .ref a_p1), (2, .int p2)]) dX1_rowsOf_11 rfl (by decide) rfl ?_
  refine j_iconst C (pc := 12) (v := 0) (by decide) dX1_rowsOf_12 ?_
  refine j_istore C (pc := 13) (L' := [(4, .int (0 : Int32)), (3, .int (0 : Int32)), (0, .ref a_t), (1, .ref a_p1), (2, .int p2)]) dX1_rowsOf_13 (by decide) rfl ?_
  refine j_sub [2, 4, 1, 0] rfl ?_
  exact t_X1_rowsOf_15 C hQ 1000 _ _ _ _ _ hf
def ct_X1_rowsOf (G : Gx) (l : Launch) (F : Int32 → Int32 → Int32 → (Nat → Int32) → (Nat → Int32) → (Nat → Int32) → (Nat → Int32) → (Nat → Int32) → Int32 → Int32 → (Nat → Int32) → (Nat → Int32) → (Nat → Int32) → (Nat → Int32) → Int32 → Option (Int32 × (Nat → Int32) × (Nat → Int32) × (Nat → Int32))) (lv : Nat) : Prop := ∀ (a_t : Nat) (r_t : Nat → Nat) (a_p1 : Nat) (r_p1 : Nat → Nat) (r_p1_holding : Nat → Nat) (v_p1_people : Int32) (v_p1_day : Int32) (v_p1_dead : Int32) (v_p1_buried : Int32) (a_p1_holding : Nat) (v_enemiesByDay : Nat → Int32) (v_p1_hates : Nat → Int32) (v_p1_vs : Nat → Int32) (v_p1_kinds : Nat → Int32) (v_p1_facts : Nat → Int32) (v_p1_holding_length : Int32) (v_p1_holding_need : Int32) (v_p1_holding_steps : Nat → Int32) (v_p1_holding_numbers : Nat → Int32) (v_p1_rows : Nat → Int32) (v_ways : Nat → Int32) (p2 : Int32), ∀ (q : Int32 × (Nat → Int32) × (Nat → Int32) × (Nat → Int32)), F v_p1_people v_p1_day v_p1_dead v_enemiesByDay v_p1_hates v_p1_vs v_p1_kinds v_p1_facts v_p1_holding_length v_p1_holding_need v_p1_holding_steps v_p1_holding_numbers v_p1_rows v_ways p2 = some q → MI G l yX1_rowsOf cX1_rowsOf 5 .int lv [.ref a_t, .ref a_p1, .int p2] [oX1 a_t r_t, oX6 a_p1 r_p1 v_p1_people v_p1_day v_p1_dead v_p1_buried a_p1_holding, aI G (r_t 2) 36 v_enemiesByDay, aI G (r_p1 8) 36 v_p1_hates, aI G (r_p1 6) 6 v_p1_vs, aI G (r_p1 5) 6 v_p1_kinds, aI G (r_p1 13) 6 v_p1_facts, oX2 a_p1_holding r_p1_holding v_p1_holding_length v_p1_holding_need, aI G (r_p1_holding 0) 100 v_p1_holding_steps, aI G (r_p1_holding 1) 100 v_p1_holding_numbers, aI G (r_p1 9) 24 v_p1_rows, aI G (r_t 3) 64 v_ways] [oX1 a_t r_t, oX6 a_p1 r_p1 v_p1_people v_p1_day v_p1_dead v_p1_buried a_p1_holding, aI G (r_t 2) 36 q.2.1, aI G (r_p1 8) 36 v_p1_hates, aI G (r_p1 6) 6 v_p1_vs, aI G (r_p1 5) 6 v_p1_kinds, aI G (r_p1 13) 6 q.2.2.1, oX2 a_p1_holding r_p1_holding v_p1_holding_length v_p1_holding_need, aI G (r_p1_holding 0) 100 v_p1_holding_steps, aI G (r_p1_holding 1) 100 v_p1_holding_numbers, aI G (r_p1 9) 24 v_p1_rows, aI G (r_t 3) 64 q.2.2.2] q.1
theorem c_X1_rowsOf (G : Gx) (l : Launch) : ct_X1_rowsOf G l f_X1_rowsOf 6 := by
  intro a_t r_t a_p1 r_p1 r_p1_holding v_p1_people v_p1_day v_p1_dead v_p1_buried a_p1_holding v_enemiesByDay v_p1_hates v_p1_vs v_p1_kinds v_p1_facts v_p1_holding_length v_p1_holding_need v_p1_holding_steps v_p1_holding_numbers v_p1_rows v_ways p2 q hf
  exact mI_of (by decide +kernel) rfl (fun K hl C hQ => t_X1_rowsOf C hQ hf)
-- X2_put
def f_X2_put (v_length : Int32) (v_steps : Nat → Int32) (v_numbers : Nat → Int32) (p1 : Int32) (p2 : Int32) : Option ((Nat → Int32) × (Nat → Int32) × Int32) := (if (100 : Int32) ≤ v_length then (some (v_steps, v_numbers, v_length)) else (gd v_length 100 (gd v_length 100 (some (upd v_steps v_length.toNatClampNeg p1, upd v_numbers v_length.toNatClampNeg p2, v_length + (1 : Int32))))))
set_option maxRecDepth 20000 in
set_option maxHeartbeats 1000000 in
theorem t_X2_put {G : Gx} {K : Kx} (C : Cx G K cX2_put RX2 3 1) {a_t : Nat} {r_t : Nat → Nat} {v_length : Int32} {v_need : Int32} {v_steps : Nat → Int32} {v_numbers : Nat → Int32} {p1 : Int32} {p2 : Int32} {q : (Nat → Int32) × (Nat → Int32) × Int32} (hQ : k_retV G K cX2_put 3 [oX2 a_t r_t q.2.2 v_need, aI G (r_t 0) 100 q.1, aI G (r_t 1) 100 q.2.1]) (hf : f_X2_put v_length v_steps v_numbers p1 p2 = some q) : J G K 3 0 0 [oX2 a_t r_t v_length v_need, aI G (r_t 0) 100 v_steps, aI G (r_t 1) 100 v_numbers] [(0, .ref a_t), (1, .int p1), (2, .int p2)] 0 [] := by
  unfold f_X2_put at hf
  refine j_aload_n C (pc := 0) 0 rfl rfl dX2_put_0 ?_
  refine j_get C (pc := 1) kc_X2 fl_X2_22 0 rfl rfl dX2_put_1 ?_
  refine j_bipush C (pc := 4) (v := 100) (by decide) dX2_put_4 ?_
  refine j_icmp_ge C (pc := 6) 39 dX2_put_6 (by decide) hf (fun hf => ?_) (fun hf => ?_)
  · obtain rfl := Option.some.inj hf
    exact hQ _ _ dX2_put_39
  · refine j_aload_n C (pc := 9) 0 rfl rfl dX2_put_9 ?_
    refine j_get C (pc := 10) kc_X2 fl_X2_9 0 rfl rfl dX2_put_10 ?_
    refine j_aload_n C (pc := 13) 0 rfl rfl dX2_put_13 ?_
    refine j_get C (pc := 14) kc_X2 fl_X2_22 0 rfl rfl dX2_put_14 ?_
    refine j_iload_n C (pc := 17) 1 rfl rfl dX2_put_17 ?_
    refine j_iast C (pc := 18) (ws' := [oX2 a_t r_t v_length v_need, aI G (r_t 0) 100 (upd v_steps v_length.toNatClampNeg p1), aI G (r_t 1) 100 v_numbers]) 1 rfl hf rfl dX2_put_18 (fun hf => ?_)
    refine j_aload_n C (pc := 19) 0 rfl rfl dX2_put_19 ?_
    refine j_get C (pc := 20) kc_X2 fl_X2_15 0 rfl rfl dX2_put_20 ?_
    refine j_aload_n C (pc := 23) 0 rfl rfl dX2_put_23 ?_
    refine j_get C (pc := 24) kc_X2 fl_X2_22 0 rfl rfl dX2_put_24 ?_
    refine j_iload_n C (pc := 27) 2 rfl rfl dX2_put_27 ?_
    refine j_iast C (pc := 28) (ws' := [oX2 a_t r_t v_length v_need, aI G (r_t 0) 100 (upd v_steps v_length.toNatClampNeg p1), aI G (r_t 1) 100 (upd v_numbers v_length.toNatClampNeg p2)]) 2 rfl hf rfl dX2_put_28 (fun hf => ?_)
    refine j_aload_n C (pc := 29) 0 rfl rfl dX2_put_29 ?_
    refine j_dup C (pc := 30) rfl dX2_put_30 ?_
    refine j_get C (pc := 31) kc_X2 fl_X2_22 0 rfl rfl dX2_put_31 ?_
    refine j_iconst C (pc := 34) (v := 1) (by decide) dX2_put_34 ?_
    refine j_iadd C (pc := 35) dX2_put_35 ?_
    refine j_put C (pc := 36) (ws' := [oX2 a_t r_t (v_length + (1 : Int32)) v_need, aI G (r_t 0) 100 (upd v_steps v_length.toNatClampNeg p1), aI G (r_t 1) 100 (upd v_numbers v_length.toNatClampNeg p2)]) kc_X2 fl_X2_22 0 rfl rfl rfl rfl rfl rfl dX2_put_36 ?_
    obtain rfl := Option.some.inj hf
    exact hQ _ _ dX2_put_39
def ct_X2_put (G : Gx) (l : Launch) (F : Int32 → (Nat → Int32) → (Nat → Int32) → Int32 → Int32 → Option ((Nat → Int32) × (Nat → Int32) × Int32)) (lv : Nat) : Prop := ∀ (a_t : Nat) (r_t : Nat → Nat) (v_length : Int32) (v_need : Int32) (v_steps : Nat → Int32) (v_numbers : Nat → Int32) (p1 : Int32) (p2 : Int32), ∀ (q : (Nat → Int32) × (Nat → Int32) × Int32), F v_length v_steps v_numbers p1 p2 = some q → MV G l yX2_put cX2_put 3 lv [.ref a_t, .int p1, .int p2] [oX2 a_t r_t v_length v_need, aI G (r_t 0) 100 v_steps, aI G (r_t 1) 100 v_numbers] [oX2 a_t r_t q.2.2 v_need, aI G (r_t 0) 100 q.1, aI G (r_t 1) 100 q.2.1]
theorem c_X2_put (G : Gx) (l : Launch) : ct_X2_put G l f_X2_put 1 := by
  intro a_t r_t v_length v_need v_steps v_numbers p1 p2 q hf
  exact mV_of (by decide +kernel) rfl (fun K hl C hQ => t_X2_put C hQ hf)
-- X2_startOver
def f_X2_startOver : Option (Int32 × Int32) := (some ((0 : Int32), (30 : Int32)))
set_option maxRecDepth 20000 in
set_option maxHeartbeats 1000000 in
theorem t_X2_startOver {G : Gx} {K : Kx} (C : Cx G K cX2_startOver RX2 1 1) {a_t : Nat} {r_t : Nat → Nat} {v_length : Int32} {v_need : Int32} {q : Int32 × Int32} (hQ : k_retV G K cX2_startOver 1 [oX2 a_t r_t q.1 q.2]) (hf : f_X2_startOver = some q) : J G K 1 0 0 [oX2 a_t r_t v_length v_need] [(0, .ref a_t)] 0 [] := by
  unfold f_X2_startOver at hf
  refine j_aload_n C (pc := 0) 0 rfl rfl dX2_startOver_0 ?_
  refine j_iconst C (pc := 1) (v := 0) (by decide) dX2_startOver_1 ?_
  refine j_put C (pc := 2) (ws' := [oX2 a_t r_t (0 : Int32) v_need]) kc_X2 fl_X2_22 0 rfl rfl rfl rfl rfl rfl dX2_startOver_2 ?_
  refine j_aload_n C (pc := 5) 0 rfl rfl dX2_startOver_5 ?_
  refine j_bipush C (pc := 6) (v := 30) (by decide) dX2_startOver_6 ?_
  refine j_put C (pc := 8) (ws' := [oX2 a_t r_t (0 : Int32) (30 : Int32)]) kc_X2 fl_X2_18 0 rfl rfl rfl rfl rfl rfl dX2_startOver_8 ?_
  obtain rfl := Option.some.inj hf
  exact hQ _ _ dX2_startOver_11
def ct_X2_startOver (G : Gx) (l : Launch) (F : Option (Int32 × Int32)) (lv : Nat) : Prop := ∀ (a_t : Nat) (r_t : Nat → Nat) (v_length : Int32) (v_need : Int32), ∀ (q : Int32 × Int32), F = some q → MV G l yX2_startOver cX2_startOver 1 lv [.ref a_t] [oX2 a_t r_t v_length v_need] [oX2 a_t r_t q.1 q.2]
theorem c_X2_startOver (G : Gx) (l : Launch) : ct_X2_startOver G l f_X2_startOver 1 := by
  intro a_t r_t v_length v_need q hf
  exact mV_of (by decide +kernel) rfl (fun K hl C hQ => t_X2_startOver C hQ hf)
-- X3_add
def f_X3_add (v_limit : Int32) (v_size : Int32) (v_cells : Nat → Int32) (p1 : Int32) (p2 : Int32) (p3 : Int32) (p4 : Int32) : Option (Int32 × (Nat → Int32) × Int32) := (if v_size < v_limit then (nm (v_size * (4 : Int32)) fun y1 => (gd y1 40 (gd (y1 + (1 : Int32)) 40 (gd (y1 + (2 : Int32)) 40 (gd (y1 + (3 : Int32)) 40 (some (v_size + (1 : Int32), upd (upd (upd (upd v_cells y1.toNatClampNeg p1) (y1 + (1 : Int32)).toNatClampNeg p2) (y1 + (2 : Int32)).toNatClampNeg p3) (y1 + (3 : Int32)).toNatClampNeg p4, v_size + (1 : Int32)))))))) else (some ((-4 : Int32), v_cells, v_size)))
set_option maxRecDepth 20000 in
set_option maxHeartbeats 1000000 in
theorem t_X3_add {G : Gx} {K : Kx} (C : Cx G K cX3_add RX3 6 1) {a_t : Nat} {r_t : Nat → Nat} {v_limit : Int32} {v_size : Int32} {v_cells : Nat → Int32} {p1 : Int32} {p2 : Int32} {p3 : Int32} {p4 : Int32} {q : Int32 × (Nat → Int32) × Int32} (hQ : k_retI G K cX3_add 6 .int [oX3 a_t r_t v_limit q.2.2, aI G (r_t 0) 40 q.2.1] q.1) (hf : f_X3_add v_limit v_size v_cells p1 p2 p3 p4 = some q) : J G K 6 0 0 [oX3 a_t r_t v_limit v_size, aI G (r_t 0) 40 v_cells] [(0, .ref a_t), (1, .int p1), (2, .int p2), (3, .int p3), (4, .int p4)] 0 [] := by
  unfold f_X3_add at hf
  refine j_aload_n C (pc := 0) 0 rfl rfl dX3_add_0 ?_
  refine j_get C (pc := 1) kc_X3 fl_X3_25 0 rfl rfl dX3_add_1 ?_
  refine j_aload_n C (pc := 4) 0 rfl rfl dX3_add_4 ?_
  refine j_get C (pc := 5) kc_X3 fl_X3_21 0 rfl rfl dX3_add_5 ?_
  refine j_icmp_lt C (pc := 8) 14 dX3_add_8 (by decide) hf (fun hf => ?_) (fun hf => ?_)
  · refine j_aload_n C (pc := 14) 0 rfl rfl dX3_add_14 ?_
    refine j_get C (pc := 15) kc_X3 fl_X3_25 0 rfl rfl dX3_add_15 ?_
    refine j_iconst C (pc := 18) (v := 4) (by decide) dX3_add_18 ?_
    refine j_imul C (pc := 19) dX3_add_19 ?_
    refine j_nm hf (fun y1 hf => ?_)
    refine j_istore C (pc := 20) (L' := [(5, .int y1), (0, .ref a_t), (1, .int p1), (2, .int p2), (3, .int p3), (4, .int p4)]) dX3_add_20 (by decide) rfl ?_
    refine j_aload_n C (pc := 22) 1 rfl rfl dX3_add_22 ?_
    refine j_get C (pc := 23) kc_X3 fl_X3_9 0 rfl rfl dX3_add_23 ?_
    refine j_iload C (pc := 26) 0 rfl dX3_add_26 ?_
    refine j_iload_n C (pc := 28) 2 rfl rfl dX3_add_28 ?_
    refine j_iast C (pc := 29) (ws' := [oX3 a_t r_t v_limit v_size, aI G (r_t 0) 40 (upd v_cells y1.toNatClampNeg p1)]) 1 rfl hf rfl dX3_add_29 (fun hf => ?_)
    refine j_aload_n C (pc := 30) 1 rfl rfl dX3_add_30 ?_
    refine j_get C (pc := 31) kc_X3 fl_X3_9 0 rfl rfl dX3_add_31 ?_
    refine j_iload C (pc := 34) 0 rfl dX3_add_34 ?_
    refine j_iconst C (pc := 36) (v := 1) (by decide) dX3_add_36 ?_
    refine j_iadd C (pc := 37) dX3_add_37 ?_
    refine j_iload_n C (pc := 38) 3 rfl rfl dX3_add_38 ?_
    refine j_iast C (pc := 39) (ws' := [oX3 a_t r_t v_limit v_size, aI G (r_t 0) 40 (upd (upd v_cells y1.toNatClampNeg p1) (y1 + (1 : Int32)).toNatClampNeg p2)]) 1 rfl hf rfl dX3_add_39 (fun hf => ?_)
    refine j_aload_n C (pc := 40) 1 rfl rfl dX3_add_40 ?_
    refine j_get C (pc := 41) kc_X3 fl_X3_9 0 rfl rfl dX3_add_41 ?_
    refine j_iload C (pc := 44) 0 rfl dX3_add_44 ?_
    refine j_iconst C (pc := 46) (v := 2) (by decide) dX3_add_46 ?_
    refine j_iadd C (pc := 47) dX3_add_47 ?_
    refine j_iload_n C (pc := 48) 4 rfl rfl dX3_add_48 ?_
    refine j_iast C (pc := 49) (ws' := [oX3 a_t r_t v_limit v_size, aI G (r_t 0) 40 (upd (upd (upd v_cells y1.toNatClampNeg p1) (y1 + (1 : Int32)).toNatClampNeg p2) (y1 + (2 : Int32)).toNatClampNeg p3)]) 1 rfl hf rfl dX3_add_49 (fun hf => ?_)
    refine j_aload_n C (pc := 50) 1 rfl rfl dX3_add_50 ?_
    refine j_get C (pc := 51) kc_X3 fl_X3_9 0 rfl rfl dX3_add_51 ?_
    refine j_iload C (pc := 54) 0 rfl dX3_add_54 ?_
    refine j_iconst C (pc := 56) (v := 3) (by decide) dX3_add_56 ?_
    refine j_iadd C (pc := 57) dX3_add_57 ?_
    refine j_iload C (pc := 58) 5 rfl dX3_add_58 ?_
    refine j_iast C (pc := 60) (ws' := [oX3 a_t r_t v_limit v_size, aI G (r_t 0) 40 (upd (upd (upd (upd v_cells y1.toNatClampNeg p1) (y1 + (1 : Int32)).toNatClampNeg p2) (y1 + (2 : Int32)).toNatClampNeg p3) (y1 + (3 : Int32)).toNatClampNeg p4)]) 1 rfl hf rfl dX3_add_60 (fun hf => ?_)
    refine j_aload_n C (pc := 61) 1 rfl rfl dX3_add_61 ?_
    refine j_dup C (pc := 62) rfl dX3_add_62 ?_
    refine j_get C (pc := 63) kc_X3 fl_X3_25 0 rfl rfl dX3_add_63 ?_
    refine j_iconst C (pc := 66) (v := 1) (by decide) dX3_add_66 ?_
    refine j_iadd C (pc := 67) dX3_add_67 ?_
    refine j_put C (pc := 68) (ws' := [oX3 a_t r_t v_limit (v_size + (1 : Int32)), aI G (r_t 0) 40 (upd (upd (upd (upd v_cells y1.toNatClampNeg p1) (y1 + (1 : Int32)).toNatClampNeg p2) (y1 + (2 : Int32)).toNatClampNeg p3) (y1 + (3 : Int32)).toNatClampNeg p4)]) kc_X3 fl_X3_25 0 rfl rfl rfl rfl rfl rfl dX3_add_68 ?_
    refine j_aload_n C (pc := 71) 1 rfl rfl dX3_add_71 ?_
    refine j_get C (pc := 72) kc_X3 fl_X3_25 0 rfl rfl dX3_add_72 ?_
    obtain rfl := Option.some.inj hf
    exact hQ _ _ dX3_add_75 rfl
  · refine j_bipush C (pc := 11) (v := -4) (by decide) dX3_add_11 ?_
    obtain rfl := Option.some.inj hf
    exact hQ _ _ dX3_add_13 rfl
def ct_X3_add (G : Gx) (l : Launch) (F : Int32 → Int32 → (Nat → Int32) → Int32 → Int32 → Int32 → Int32 → Option (Int32 × (Nat → Int32) × Int32)) (lv : Nat) : Prop := ∀ (a_t : Nat) (r_t : Nat → Nat) (v_limit : Int32) (v_size : Int32) (v_cells : Nat → Int32) (p1 : Int32) (p2 : Int32) (p3 : Int32) (p4 : Int32), ∀ (q : Int32 × (Nat → Int32) × Int32), F v_limit v_size v_cells p1 p2 p3 p4 = some q → MI G l yX3_add cX3_add 6 .int lv [.ref a_t, .int p1, .int p2, .int p3, .int p4] [oX3 a_t r_t v_limit v_size, aI G (r_t 0) 40 v_cells] [oX3 a_t r_t v_limit q.2.2, aI G (r_t 0) 40 q.2.1] q.1
theorem c_X3_add (G : Gx) (l : Launch) : ct_X3_add G l f_X3_add 1 := by
  intro a_t r_t v_limit v_size v_cells p1 p2 p3 p4 q hf
  exact mI_of (by decide +kernel) rfl (fun K hl C hQ => t_X3_add C hQ hf)
-- X3_cell
def f_X3_cell (v_size : Int32) (v_cells : Nat → Int32) (p1 : Int32) (p2 : Int32) : Option (Int32) := (if p1 < 0 then (some (0 : Int32)) else (if v_size ≤ p1 then (some (0 : Int32)) else (if p2 < 0 then (some (0 : Int32)) else (if p2 < (4 : Int32) then (gd ((p1 * (4 : Int32)) + p2) 40 (some (v_cells ((p1 * (4 : Int32)) + p2).toNatClampNeg))) else (some (0 : Int32))))))
set_option maxRecDepth 20000 in
set_option maxHeartbeats 1000000 in
theorem t_X3_cell {G : Gx} {K : Kx} (C : Cx G K cX3_cell RX3 3 1) {a_t : Nat} {r_t : Nat → Nat} {v_limit : Int32} {v_size : Int32} {v_cells : Nat → Int32} {p1 : Int32} {p2 : Int32} {q : Int32} (hQ : k_retI G K cX3_cell 3 .int [oX3 a_t r_t v_limit v_size, aI G (r_t 0) 40 v_cells] q) (hf : f_X3_cell v_size v_cells p1 p2 = some q) : J G K 3 0 0 [oX3 a_t r_t v_limit v_size, aI G (r_t 0) 40 v_cells] [(0, .ref a_t), (1, .int p1), (2, .int p2)] 0 [] := by
  unfold f_X3_cell at hf
  refine j_iload_n C (pc := 0) 1 rfl rfl dX3_cell_0 ?_
  refine j_if_lt C (pc := 1) 21 dX3_cell_1 (by decide) hf (fun hf => ?_) (fun hf => ?_)
  · refine j_iconst C (pc := 21) (v := 0) (by decide) dX3_cell_21 ?_
    obtain rfl := Option.some.inj hf
    exact hQ _ _ dX3_cell_22 rfl
  · refine j_iload_n C (pc := 4) 1 rfl rfl dX3_cell_4 ?_
    refine j_aload_n C (pc := 5) 0 rfl rfl dX3_cell_5 ?_
    refine j_get C (pc := 6) kc_X3 fl_X3_25 0 rfl rfl dX3_cell_6 ?_
    refine j_icmp_ge C (pc := 9) 21 dX3_cell_9 (by decide) hf (fun hf => ?_) (fun hf => ?_)
    · refine j_iconst C (pc := 21) (v := 0) (by decide) dX3_cell_21 ?_
      obtain rfl := Option.some.inj hf
      exact hQ _ _ dX3_cell_22 rfl
    · refine j_iload_n C (pc := 12) 2 rfl rfl dX3_cell_12 ?_
      refine j_if_lt C (pc := 13) 21 dX3_cell_13 (by decide) hf (fun hf => ?_) (fun hf => ?_)
      · refine j_iconst C (pc := 21) (v := 0) (by decide) dX3_cell_21 ?_
        obtain rfl := Option.some.inj hf
        exact hQ _ _ dX3_cell_22 rfl
      · refine j_iload_n C (pc := 16) 2 rfl rfl dX3_cell_16 ?_
        refine j_iconst C (pc := 17) (v := 4) (by decide) dX3_cell_17 ?_
        refine j_icmp_lt C (pc := 18) 23 dX3_cell_18 (by decide) hf (fun hf => ?_) (fun hf => ?_)
        · refine j_aload_n C (pc := 23) 0 rfl rfl dX3_cell_23 ?_
          refine j_get C (pc := 24) kc_X3 fl_X3_9 0 rfl rfl dX3_cell_24 ?_
          refine j_iload_n C (pc := 27) 1 rfl rfl dX3_cell_27 ?_
          refine j_iconst C (pc := 28) (v := 4) (by decide) dX3_cell_28 ?_
          refine j_imul C (pc := 29) dX3_cell_29 ?_
          refine j_iload_n C (pc := 30) 2 rfl rfl dX3_cell_30 ?_
          refine j_iadd C (pc := 31) dX3_cell_31 ?_
          refine j_iald C (pc := 32) 1 rfl hf dX3_cell_32 (fun hf => ?_)
          obtain rfl := Option.some.inj hf
          exact hQ _ _ dX3_cell_33 rfl
        · refine j_iconst C (pc := 21) (v := 0) (by decide) dX3_cell_21 ?_
          obtain rfl := Option.some.inj hf
          exact hQ _ _ dX3_cell_22 rfl
def ct_X3_cell (G : Gx) (l : Launch) (F : Int32 → (Nat → Int32) → Int32 → Int32 → Option (Int32)) (lv : Nat) : Prop := ∀ (a_t : Nat) (r_t : Nat → Nat) (v_limit : Int32) (v_size : Int32) (v_cells : Nat → Int32) (p1 : Int32) (p2 : Int32), ∀ (q : Int32), F v_size v_cells p1 p2 = some q → MI G l yX3_cell cX3_cell 3 .int lv [.ref a_t, .int p1, .int p2] [oX3 a_t r_t v_limit v_size, aI G (r_t 0) 40 v_cells] [oX3 a_t r_t v_limit v_size, aI G (r_t 0) 40 v_cells] q
theorem c_X3_cell (G : Gx) (l : Launch) : ct_X3_cell G l f_X3_cell 1 := by
  intro a_t r_t v_limit v_size v_cells p1 p2 q hf
  exact mI_of (by decide +kernel) rfl (fun K hl C hQ => t_X3_cell C hQ hf)
-- X3_clear
def f_X3_clear : Option (Int32 × Int32) := (some ((0 : Int32), (0 : Int32)))
set_option maxRecDepth 20000 in
set_option maxHeartbeats 1000000 in
theorem t_X3_clear {G : Gx} {K : Kx} (C : Cx G K cX3_clear RX3 1 1) {a_t : Nat} {r_t : Nat → Nat} {v_limit : Int32} {v_size : Int32} {q : Int32 × Int32} (hQ : k_retI G K cX3_clear 1 .int [oX3 a_t r_t v_limit q.2] q.1) (hf : f_X3_clear = some q) : J G K 1 0 0 [oX3 a_t r_t v_limit v_size] [(0, .ref a_t)] 0 [] := by
  unfold f_X3_clear at hf
  refine j_aload_n C (pc := 0) 0 rfl rfl dX3_clear_0 ?_
  refine j_iconst C (pc := 1) (v := 0) (by decide) dX3_clear_1 ?_
  refine j_put C (pc := 2) (ws' := [oX3 a_t r_t v_limit (0 : Int32)]) kc_X3 fl_X3_25 0 rfl rfl rfl rfl rfl rfl dX3_clear_2 ?_
  refine j_iconst C (pc := 5) (v := 0) (by decide) dX3_clear_5 ?_
  obtain rfl := Option.some.inj hf
  exact hQ _ _ dX3_clear_6 rfl
def ct_X3_clear (G : Gx) (l : Launch) (F : Option (Int32 × Int32)) (lv : Nat) : Prop := ∀ (a_t : Nat) (r_t : Nat → Nat) (v_limit : Int32) (v_size : Int32), ∀ (q : Int32 × Int32), F = some q → MI G l yX3_clear cX3_clear 1 .int lv [.ref a_t] [oX3 a_t r_t v_limit v_size] [oX3 a_t r_t v_limit q.2] q.1
theorem c_X3_clear (G : Gx) (l : Launch) : ct_X3_clear G l f_X3_clear 1 := by
  intro a_t r_t v_limit v_size q hf
  exact mI_of (by decide +kernel) rfl (fun K hl C hQ => t_X3_clear C hQ hf)
-- X3_copyFrom
def f_X3_copyFrom (v_p1_size : Int32) (v_p1_cells : Nat → Int32) (v_cells : Nat → Int32) : Option (Int32 × (Nat → Int32)) := (gcp (0 : Int32) (0 : Int32) (40 : Int32) 40 40 (some (v_p1_size, va_cpy v_p1_cells v_cells (0 : Int32).toNatClampNeg (0 : Int32).toNatClampNeg (40 : Int32).toNatClampNeg)))
set_option maxRecDepth 20000 in
set_option maxHeartbeats 1000000 in
theorem t_X3_copyFrom {G : Gx} {K : Kx} (C : Cx G K cX3_copyFrom RX3 2 1) {a_t : Nat} {r_t : Nat → Nat} {a_p1 : Nat} {r_p1 : Nat → Nat} {v_limit : Int32} {v_size : Int32} {v_p1_limit : Int32} {v_p1_size : Int32} {v_p1_cells : Nat → Int32} {v_cells : Nat → Int32} {q : Int32 × (Nat → Int32)} (hQ : k_retV G K cX3_copyFrom 2 [oX3 a_t r_t v_limit q.1, oX3 a_p1 r_p1 v_p1_limit v_p1_size, aI G (r_p1 0) 40 v_p1_cells, aI G (r_t 0) 40 q.2]) (hf : f_X3_copyFrom v_p1_size v_p1_cells v_cells = some q) : J G K 2 0 0 [oX3 a_t r_t v_limit v_size, oX3 a_p1 r_p1 v_p1_limit v_p1_size, aI G (r_p1 0) 40 v_p1_cells, aI G (r_t 0) 40 v_cells] [(0, .ref a_t), (1, .ref a_p1)] 0 [] := by
  unfold f_X3_copyFrom at hf
  refine j_aload_n C (pc := 0) 0 rfl rfl dX3_copyFrom_0 ?_
  refine j_aload_n C (pc := 1) 1 rfl rfl dX3_copyFrom_1 ?_
  refine j_get C (pc := 2) kc_X3 fl_X3_25 1 rfl rfl dX3_copyFrom_2 ?_
  refine j_put C (pc := 5) (ws' := [oX3 a_t r_t v_limit v_p1_size, oX3 a_p1 r_p1 v_p1_limit v_p1_size, aI G (r_p1 0) 40 v_p1_cells, aI G (r_t 0) 40 v_cells]) kc_X3 fl_X3_25 0 rfl rfl rfl rfl rfl rfl dX3_copyFrom_5 ?_
  refine j_aload_n C (pc := 8) 1 rfl rfl dX3_copyFrom_8 ?_
  refine j_get C (pc := 9) kc_X3 fl_X3_9 1 rfl rfl dX3_copyFrom_9 ?_
  refine j_iconst C (pc := 12) (v := 0) (by decide) dX3_copyFrom_12 ?_
  refine j_aload_n C (pc := 13) 0 rfl rfl dX3_copyFrom_13 ?_
  refine j_get C (pc := 14) kc_X3 fl_X3_9 0 rfl rfl dX3_copyFrom_14 ?_
  refine j_iconst C (pc := 17) (v := 0) (by decide) dX3_copyFrom_17 ?_
  refine j_bipush C (pc := 18) (v := 40) (by decide) dX3_copyFrom_18 ?_
  refine j_copyi C (pc := 20) (ws' := [oX3 a_t r_t v_limit v_p1_size, oX3 a_p1 r_p1 v_p1_limit v_p1_size, aI G (r_p1 0) 40 v_p1_cells, aI G (r_t 0) 40 (va_cpy v_p1_cells v_cells (0 : Int32).toNatClampNeg (0 : Int32).toNatClampNeg (40 : Int32).toNatClampNeg)]) ml_X3_28 2 3 rfl rfl hf rfl (Nat.le_of_ble_eq_true rfl) rfl dX3_copyFrom_20 (fun hf => ?_)
  obtain rfl := Option.some.inj hf
  exact hQ _ _ dX3_copyFrom_23
def ct_X3_copyFrom (G : Gx) (l : Launch) (F : Int32 → (Nat → Int32) → (Nat → Int32) → Option (Int32 × (Nat → Int32))) (lv : Nat) : Prop := ∀ (a_t : Nat) (r_t : Nat → Nat) (a_p1 : Nat) (r_p1 : Nat → Nat) (v_limit : Int32) (v_size : Int32) (v_p1_limit : Int32) (v_p1_size : Int32) (v_p1_cells : Nat → Int32) (v_cells : Nat → Int32), ∀ (q : Int32 × (Nat → Int32)), F v_p1_size v_p1_cells v_cells = some q → MV G l yX3_copyFrom cX3_copyFrom 2 lv [.ref a_t, .ref a_p1] [oX3 a_t r_t v_limit v_size, oX3 a_p1 r_p1 v_p1_limit v_p1_size, aI G (r_p1 0) 40 v_p1_cells, aI G (r_t 0) 40 v_cells] [oX3 a_t r_t v_limit q.1, oX3 a_p1 r_p1 v_p1_limit v_p1_size, aI G (r_p1 0) 40 v_p1_cells, aI G (r_t 0) 40 q.2]
theorem c_X3_copyFrom (G : Gx) (l : Launch) : ct_X3_copyFrom G l f_X3_copyFrom 1 := by
  intro a_t r_t a_p1 r_p1 v_limit v_size v_p1_limit v_p1_size v_p1_cells v_cells q hf
  exact mV_of (by decide +kernel) rfl (fun K hl C hQ => t_X3_copyFrom C hQ hf)
-- X4_become
def f_X4_become_21_b (k21 : Int32 → Int32 → Int32 → (Nat → Int64) → Option (Int32 × Int32 × (Nat → Int64))) (x3 : Int32) (w_sort : Int32) (w_length : Int32) (w_items : Nat → Int64) : Option (Int32 × Int32 × (Nat → Int64)) := (if (60 : Int32) ≤ x3 then (some (w_sort, w_length, w_items)) else (gd x3 60 (k21 (x3 + (1 : Int32)) w_sort w_length (vp_updL w_items x3.toNatClampNeg (0 : Int64)))))
def f_X4_become_21 : Nat → Int32 → Int32 → Int32 → (Nat → Int64) → Option (Int32 × Int32 × (Nat → Int64))
  | 0 => fun _ _ _ _ => none
  | n + 1 => f_X4_become_21_b (f_X4_become_21 n)
set_option maxRecDepth 20000 in
set_option maxHeartbeats 1000000 in
theorem t_X4_become_21_b {G : Gx} {K : Kx} (C : Cx G K cX4_become RX4 4 2) {a_t : Nat} {r_t : Nat → Nat} {q : Int32 × Int32 × (Nat → Int64)} (hQ : k_retV G K cX4_become 4 [oX4 a_t r_t q.1 q.2.1, aJ G (r_t 0) 60 q.2.2]) {k21 : Int32 → Int32 → Int32 → (Nat → Int64) → Option (Int32 × Int32 × (Nat → Int64))} (hk21 : ∀ (x3 : Int32) (w_sort : Int32) (w_length : Int32) (w_items : Nat → Int64), k21 x3 w_sort w_length w_items = some q → J G K 4 0 0 [oX4 a_t r_t w_sort w_length, aJ G (r_t 0) 60 w_items] [(0, .ref a_t), (3, .int x3)] 21 []) {x3 : Int32} {w_sort : Int32} {w_length : Int32} {w_items : Nat → Int64} (hf : f_X4_become_21_b k21 x3 w_sort w_length w_items = some q) : J G K 4 0 0 [oX4 a_t r_t w_sort w_length, aJ G (r_t 0) 60 w_items] [(0, .ref a_t), (3, .int x3)] 21 [] := by
  unfold f_X4_become_21_b at hf
  refine j_iload_n C (pc := 21) 1 rfl rfl dX4_become_21 ?_
  refine j_bipush C (pc := 22) (v := 60) (by decide) dX4_become_22 ?_
  refine j_icmp_ge C (pc := 24) 40 dX4_become_24 (by decide) hf (fun hf => ?_) (fun hf => ?_)
  · obtain rfl := Option.some.inj hf
    exact hQ _ _ dX4_become_40
  · refine j_aload_n C (pc := 27) 0 rfl rfl dX4_become_27 ?_
    refine j_get C (pc := 28) kc_X4 fl_X4_9 0 rfl rfl dX4_become_28 ?_
    refine j_iload_n C (pc := 31) 1 rfl rfl dX4_become_31 ?_
    refine j_lconst C (pc := 32) (v := 0) (by decide) dX4_become_32 ?_
    refine j_last C (pc := 33) (ws' := [oX4 a_t r_t w_sort w_length, aJ G (r_t 0) 60 (vp_updL w_items x3.toNatClampNeg (0 : Int64))]) 1 rfl hf rfl dX4_become_33 (fun hf => ?_)
    refine j_iinc C (pc := 34) (L' := [(3, .int (x3 + (1 : Int32))), (0, .ref a_t)]) (v := x3 + (1 : Int32)) dX4_become_34 (t := 1) rfl rfl (by decide) rfl ?_
    refine j_goto C (pc := 37) 21 dX4_become_37 (by decide) ?_
    refine j_sub [1, 0] rfl ?_
    exact hk21 _ _ _ _ hf
theorem t_X4_become_21 {G : Gx} {K : Kx} (C : Cx G K cX4_become RX4 4 2) {a_t : Nat} {r_t : Nat → Nat} {q : Int32 × Int32 × (Nat → Int64)} (hQ : k_retV G K cX4_become 4 [oX4 a_t r_t q.1 q.2.1, aJ G (r_t 0) 60 q.2.2]) : ∀ (n : Nat) (x3 : Int32) (w_sort : Int32) (w_length : Int32) (w_items : Nat → Int64), f_X4_become_21 n x3 w_sort w_length w_items = some q → J G K 4 0 0 [oX4 a_t r_t w_sort w_length, aJ G (r_t 0) 60 w_items] [(0, .ref a_t), (3, .int x3)] 21 [] := by
  intro n
  induction n with
  | zero => intro x3 w_sort w_length w_items hf; cases hf
  | succ n ih => intro x3 w_sort w_length w_items hf; exact t_X4_become_21_b C hQ ih hf
def f_X4_become (v_items : Nat → Int64) (p1 : Int32) (p2 : Int32) : Option (Int32 × Int32 × (Nat → Int64)) := ((f_J9_min_7cf53 p2 (60 : Int32)).bind fun q1 => ((f_J9_max_7cf53 (0 : Int32) q1).bind fun q2 => (f_X4_become_21 1000 (0 : Int32) p1 q2 v_items)))
set_option maxRecDepth 20000 in
set_option maxHeartbeats 1000000 in
theorem t_X4_become {G : Gx} {K : Kx} (C : Cx G K cX4_become RX4 4 2) {a_t : Nat} {r_t : Nat → Nat} {v_sort : Int32} {v_length : Int32} {v_items : Nat → Int64} {p1 : Int32} {p2 : Int32} {q : Int32 × Int32 × (Nat → Int64)} (hQ : k_retV G K cX4_become 4 [oX4 a_t r_t q.1 q.2.1, aJ G (r_t 0) 60 q.2.2]) (hf : f_X4_become v_items p1 p2 = some q) : J G K 4 0 0 [oX4 a_t r_t v_sort v_length, aJ G (r_t 0) 60 v_items] [(0, .ref a_t), (1, .int p1), (2, .int p2)] 0 [] := by
  unfold f_X4_become at hf
  refine j_aload_n C (pc := 0) 0 rfl rfl dX4_become_0 ?_
  refine j_iload_n C (pc := 1) 1 rfl rfl dX4_become_1 ?_
  refine j_put C (pc := 2) (ws' := [oX4 a_t r_t p1 v_length, aJ G (r_t 0) 60 v_items]) kc_X4 fl_X4_15 0 rfl rfl rfl rfl rfl rfl dX4_become_2 ?_
  refine j_aload_n C (pc := 5) 0 rfl rfl dX4_become_5 ?_
  refine j_iconst C (pc := 6) (v := 0) (by decide) dX4_become_6 ?_
  refine j_iload_n C (pc := 7) 2 rfl rfl dX4_become_7 ?_
  refine j_bipush C (pc := 8) (v := 60) (by decide) dX4_become_8 ?_
  refine j_cSI C (pc := 10) (As := [.int p2, .int (60 : Int32)]) (st := [.int (0 : Int32), .ref a_t]) (ws' := fun q1 => [oX4 a_t r_t p1 v_length, aJ G (r_t 0) 60 v_items]) ml_X4_19 ms_J9_min_7cf53 hf (fun q1 h => (c_J9_min_7cf53 G K.2.1) p2 (60 : Int32) q1 h) [] [none, none] 2 rfl (by decide +kernel) (by decide +kernel) (fun _ => rfl) (fun _ => rfl) rfl rfl rfl rfl ⟨Nat.zero_le _, Nat.zero_le _⟩ dX4_become_10 (fun q1 hf => ?_)
  refine j_cSI C (pc := 13) (As := [.int (0 : Int32), .int q1]) (st := [.ref a_t]) (ws' := fun q2 => [oX4 a_t r_t p1 v_length, aJ G (r_t 0) 60 v_items]) ml_X4_25 ms_J9_max_7cf53 hf (fun q2 h => (c_J9_max_7cf53 G K.2.1) (0 : Int32) q1 q2 h) [] [none, none] 2 rfl (by decide +kernel) (by decide +kernel) (fun _ => rfl) (fun _ => rfl) rfl rfl rfl rfl ⟨Nat.zero_le _, Nat.zero_le _⟩ dX4_become_13 (fun q2 hf => ?_)
  refine j_put C (pc := 16) (ws' := [oX4 a_t r_t p1 q2, aJ G (r_t 0) 60 v_items]) kc_X4 fl_X4_28 0 rfl rfl rfl rfl rfl rfl dX4_become_16 ?_
  refine j_iconst C (pc := 19) (v := 0) (by decide) dX4_become_19 ?_
  refine j_istore_n C (pc := 20) (L' := [(3, .int (0 : Int32)), (0, .ref a_t), (1, .int p1), (2, .int p2)]) dX4_become_20 rfl (by decide) rfl ?_
  refine j_sub [1, 0] rfl ?_
  exact t_X4_become_21 C hQ 1000 _ _ _ _ hf
def ct_X4_become (G : Gx) (l : Launch) (F : (Nat → Int64) → Int32 → Int32 → Option (Int32 × Int32 × (Nat → Int64))) (lv : Nat) : Prop := ∀ (a_t : Nat) (r_t : Nat → Nat) (v_sort : Int32) (v_length : Int32) (v_items : Nat → Int64) (p1 : Int32) (p2 : Int32), ∀ (q : Int32 × Int32 × (Nat → Int64)), F v_items p1 p2 = some q → MV G l yX4_become cX4_become 4 lv [.ref a_t, .int p1, .int p2] [oX4 a_t r_t v_sort v_length, aJ G (r_t 0) 60 v_items] [oX4 a_t r_t q.1 q.2.1, aJ G (r_t 0) 60 q.2.2]
theorem c_X4_become (G : Gx) (l : Launch) : ct_X4_become G l f_X4_become 2 := by
  intro a_t r_t v_sort v_length v_items p1 p2 q hf
  exact mV_of (by decide +kernel) rfl (fun K hl C hQ => t_X4_become C hQ hf)
-- X4_cut
def f_X4_cut (v_sort : Int32) (p1 : Int64) : Option (Int64) := (if v_sort = (0 : Int32) then (some (((p1.toInt32).toInt8.toInt32).toInt64)) else (if v_sort = (1 : Int32) then (some (((p1.toInt32).toInt16.toInt32).toInt64)) else (if v_sort = (2 : Int32) then (some ((p1.toInt32).toInt64)) else (if v_sort = (3 : Int32) then (some p1) else (if v_sort = (4 : Int32) then (if (lg_cmp p1 (0 : Int64)) = 0 then (some (0 : Int64)) else (some (1 : Int64))) else (some p1))))))
set_option maxRecDepth 20000 in
set_option maxHeartbeats 1000000 in
theorem t_X4_cut {G : Gx} {K : Kx} (C : Cx G K cX4_cut RX4 3 1) {a_t : Nat} {r_t : Nat → Nat} {v_sort : Int32} {v_length : Int32} {p1 : Int64} {q : Int64} (hQ : k_retL G K cX4_cut 3 [oX4 a_t r_t v_sort v_length] q) (hf : f_X4_cut v_sort p1 = some q) : J G K 3 0 0 [oX4 a_t r_t v_sort v_length] [(0, .ref a_t), (1, .long p1)] 0 [] := by
  unfold f_X4_cut at hf
  refine j_aload_n C (pc := 0) 0 rfl rfl dX4_cut_0 ?_
  refine j_get C (pc := 1) kc_X4 fl_X4_15 0 rfl rfl dX4_cut_1 ?_
  obtain ⟨h0, hf⟩ | ⟨h0, hf⟩ := k_or hf
  · refine j_tabIn C (pc := 4) 40 dX4_cut_4 (by rw [h0]; decide) (by rw [h0]; decide) (by rw [h0] <;> rfl) (by decide) ?_
    refine j_lload_n C (pc := 40) 1 rfl rfl dX4_cut_40 ?_
    refine j_l2i C (pc := 41) dX4_cut_41 ?_
    refine j_i2b C (pc := 42) dX4_cut_42 ?_
    refine j_i2l C (pc := 43) dX4_cut_43 ?_
    obtain rfl := Option.some.inj hf
    exact hQ _ _ dX4_cut_44
  · skip
    obtain ⟨h1, hf⟩ | ⟨h1, hf⟩ := k_or hf
    · refine j_tabIn C (pc := 4) 45 dX4_cut_4 (by rw [h1]; decide) (by rw [h1]; decide) (by rw [h1] <;> rfl) (by decide) ?_
      refine j_lload_n C (pc := 45) 1 rfl rfl dX4_cut_45 ?_
      refine j_l2i C (pc := 46) dX4_cut_46 ?_
      refine j_i2s C (pc := 47) dX4_cut_47 ?_
      refine j_i2l C (pc := 48) dX4_cut_48 ?_
      obtain rfl := Option.some.inj hf
      exact hQ _ _ dX4_cut_49
    · skip
      obtain ⟨h2, hf⟩ | ⟨h2, hf⟩ := k_or hf
      · refine j_tabIn C (pc := 4) 50 dX4_cut_4 (by rw [h2]; decide) (by rw [h2]; decide) (by rw [h2] <;> rfl) (by decide) ?_
        refine j_lload_n C (pc := 50) 1 rfl rfl dX4_cut_50 ?_
        refine j_l2i C (pc := 51) dX4_cut_51 ?_
        refine j_i2l C (pc := 52) dX4_cut_52 ?_
        obtain rfl := Option.some.inj hf
        exact hQ _ _ dX4_cut_53
      · skip
        obtain ⟨h3, hf⟩ | ⟨h3, hf⟩ := k_or hf
        · refine j_tabIn C (pc := 4) 66 dX4_cut_4 (by rw [h3]; decide) (by rw [h3]; decide) (by rw [h3] <;> rfl) (by decide) ?_
          refine j_lload_n C (pc := 66) 1 rfl rfl dX4_cut_66 ?_
          obtain rfl := Option.some.inj hf
          exact hQ _ _ dX4_cut_67
        · skip
          obtain ⟨h4, hf⟩ | ⟨h4, hf⟩ := k_or hf
          · refine j_tabIn C (pc := 4) 54 dX4_cut_4 (by rw [h4]; decide) (by rw [h4]; decide) (by rw [h4] <;> rfl) (by decide) ?_
            refine j_lload_n C (pc := 54) 1 rfl rfl dX4_cut_54 ?_
            refine j_lconst C (pc := 55) (v := 0) (by decide) dX4_cut_55 ?_
            refine j_lcmp C (pc := 56) dX4_cut_56 ?_
            refine j_if_eq C (pc := 57) 64 dX4_cut_57 (by decide) hf (fun hf => ?_) (fun hf => ?_)
            · refine j_lconst C (pc := 64) (v := 0) (by decide) dX4_cut_64 ?_
              obtain rfl := Option.some.inj hf
              exact hQ _ _ dX4_cut_65
            · refine j_lconst C (pc := 60) (v := 1) (by decide) dX4_cut_60 ?_
              refine j_goto C (pc := 61) 65 dX4_cut_61 (by decide) ?_
              obtain rfl := Option.some.inj hf
              exact hQ _ _ dX4_cut_65
          · skip
            have hout : (v_sort).toInt < 0 ∨ 4 < (v_sort).toInt := by
              have := lv_neT (a := 0) h0 rfl
              have := lv_neT (a := 1) h1 rfl
              have := lv_neT (a := 2) h2 rfl
              have := lv_neT (a := 3) h3 rfl
              have := lv_neT (a := 4) h4 rfl
              omega
            refine j_tabOut C (pc := 4) 66 dX4_cut_4 hout (by decide) ?_
            refine j_lload_n C (pc := 66) 1 rfl rfl dX4_cut_66 ?_
            obtain rfl := Option.some.inj hf
            exact hQ _ _ dX4_cut_67
def ct_X4_cut (G : Gx) (l : Launch) (F : Int32 → Int64 → Option (Int64)) (lv : Nat) : Prop := ∀ (a_t : Nat) (r_t : Nat → Nat) (v_sort : Int32) (v_length : Int32) (p1 : Int64), ∀ (q : Int64), F v_sort p1 = some q → ML G l yX4_cut cX4_cut 3 .long lv [.ref a_t, .long p1] [oX4 a_t r_t v_sort v_length] [oX4 a_t r_t v_sort v_length] q
theorem c_X4_cut (G : Gx) (l : Launch) : ct_X4_cut G l f_X4_cut 1 := by
  intro a_t r_t v_sort v_length p1 q hf
  exact mL_of (by decide +kernel) rfl (fun K hl C hQ => t_X4_cut C hQ hf)
-- X4_has
def f_X4_has (v_length : Int32) (p1 : Int32) : Option (Int32) := (if p1 < 0 then (some (0 : Int32)) else (if v_length ≤ p1 then (some (0 : Int32)) else (some (1 : Int32))))
set_option maxRecDepth 20000 in
set_option maxHeartbeats 1000000 in
theorem t_X4_has {G : Gx} {K : Kx} (C : Cx G K cX4_has RX4 2 1) {a_t : Nat} {r_t : Nat → Nat} {v_sort : Int32} {v_length : Int32} {p1 : Int32} {q : Int32} (hQ : k_retI G K cX4_has 2 .boolean [oX4 a_t r_t v_sort v_length] q) (hf : f_X4_has v_length p1 = some q) : J G K 2 0 0 [oX4 a_t r_t v_sort v_length] [(0, .ref a_t), (1, .int p1)] 0 [] := by
  unfold f_X4_has at hf
  refine j_iload_n C (pc := 0) 1 rfl rfl dX4_has_0 ?_
  refine j_if_lt C (pc := 1) 16 dX4_has_1 (by decide) hf (fun hf => ?_) (fun hf => ?_)
  · refine j_iconst C (pc := 16) (v := 0) (by decide) dX4_has_16 ?_
    obtain rfl := Option.some.inj hf
    exact hQ _ _ dX4_has_17 (show narrow .boolean (.int (0 : Int32)) = .int (0 : Int32) from rfl)
  · refine j_iload_n C (pc := 4) 1 rfl rfl dX4_has_4 ?_
    refine j_aload_n C (pc := 5) 0 rfl rfl dX4_has_5 ?_
    refine j_get C (pc := 6) kc_X4 fl_X4_28 0 rfl rfl dX4_has_6 ?_
    refine j_icmp_ge C (pc := 9) 16 dX4_has_9 (by decide) hf (fun hf => ?_) (fun hf => ?_)
    · refine j_iconst C (pc := 16) (v := 0) (by decide) dX4_has_16 ?_
      obtain rfl := Option.some.inj hf
      exact hQ _ _ dX4_has_17 (show narrow .boolean (.int (0 : Int32)) = .int (0 : Int32) from rfl)
    · refine j_iconst C (pc := 12) (v := 1) (by decide) dX4_has_12 ?_
      refine j_goto C (pc := 13) 17 dX4_has_13 (by decide) ?_
      obtain rfl := Option.some.inj hf
      exact hQ _ _ dX4_has_17 (show narrow .boolean (.int (1 : Int32)) = .int (1 : Int32) from rfl)
def ct_X4_has (G : Gx) (l : Launch) (F : Int32 → Int32 → Option (Int32)) (lv : Nat) : Prop := ∀ (a_t : Nat) (r_t : Nat → Nat) (v_sort : Int32) (v_length : Int32) (p1 : Int32), ∀ (q : Int32), F v_length p1 = some q → MI G l yX4_has cX4_has 2 .boolean lv [.ref a_t, .int p1] [oX4 a_t r_t v_sort v_length] [oX4 a_t r_t v_sort v_length] q
theorem c_X4_has (G : Gx) (l : Launch) : ct_X4_has G l f_X4_has 1 := by
  intro a_t r_t v_sort v_length p1 q hf
  exact mI_of (by decide +kernel) rfl (fun K hl C hQ => t_X4_has C hQ hf)
-- X4_hasPart
def f_X4_hasPart (v_length : Int32) (p1 : Int32) (p2 : Int32) : Option (Int32) := (if p2 < 0 then (some (0 : Int32)) else (if v_length < p2 then (some (0 : Int32)) else (if p1 < 0 then (some (0 : Int32)) else (if (v_length - p2) < p1 then (some (0 : Int32)) else (some (1 : Int32))))))
set_option maxRecDepth 20000 in
set_option maxHeartbeats 1000000 in
theorem t_X4_hasPart {G : Gx} {K : Kx} (C : Cx G K cX4_hasPart RX4 3 1) {a_t : Nat} {r_t : Nat → Nat} {v_sort : Int32} {v_length : Int32} {p1 : Int32} {p2 : Int32} {q : Int32} (hQ : k_retI G K cX4_hasPart 3 .boolean [oX4 a_t r_t v_sort v_length] q) (hf : f_X4_hasPart v_length p1 p2 = some q) : J G K 3 0 0 [oX4 a_t r_t v_sort v_length] [(0, .ref a_t), (1, .int p1), (2, .int p2)] 0 [] := by
  unfold f_X4_hasPart at hf
  refine j_iload_n C (pc := 0) 2 rfl rfl dX4_hasPart_0 ?_
  refine j_if_lt C (pc := 1) 30 dX4_hasPart_1 (by decide) hf (fun hf => ?_) (fun hf => ?_)
  · refine j_iconst C (pc := 30) (v := 0) (by decide) dX4_hasPart_30 ?_
    obtain rfl := Option.some.inj hf
    exact hQ _ _ dX4_hasPart_31 (show narrow .boolean (.int (0 : Int32)) = .int (0 : Int32) from rfl)
  · refine j_iload_n C (pc := 4) 2 rfl rfl dX4_hasPart_4 ?_
    refine j_aload_n C (pc := 5) 0 rfl rfl dX4_hasPart_5 ?_
    refine j_get C (pc := 6) kc_X4 fl_X4_28 0 rfl rfl dX4_hasPart_6 ?_
    refine j_icmp_gt C (pc := 9) 30 dX4_hasPart_9 (by decide) hf (fun hf => ?_) (fun hf => ?_)
    · refine j_iconst C (pc := 30) (v := 0) (by decide) dX4_hasPart_30 ?_
      obtain rfl := Option.some.inj hf
      exact hQ _ _ dX4_hasPart_31 (show narrow .boolean (.int (0 : Int32)) = .int (0 : Int32) from rfl)
    · refine j_iload_n C (pc := 12) 1 rfl rfl dX4_hasPart_12 ?_
      refine j_if_lt C (pc := 13) 30 dX4_hasPart_13 (by decide) hf (fun hf => ?_) (fun hf => ?_)
      · refine j_iconst C (pc := 30) (v := 0) (by decide) dX4_hasPart_30 ?_
        obtain rfl := Option.some.inj hf
        exact hQ _ _ dX4_hasPart_31 (show narrow .boolean (.int (0 : Int32)) = .int (0 : Int32) from rfl)
      · refine j_iload_n C (pc := 16) 1 rfl rfl dX4_hasPart_16 ?_
        refine j_aload_n C (pc := 17) 0 rfl rfl dX4_hasPart_17 ?_
        refine j_get C (pc := 18) kc_X4 fl_X4_28 0 rfl rfl dX4_hasPart_18 ?_
        refine j_iload_n C (pc := 21) 2 rfl rfl dX4_hasPart_21 ?_
        refine j_isub C (pc := 22) dX4_hasPart_22 ?_
        refine j_icmp_gt C (pc := 23) 30 dX4_hasPart_23 (by decide) hf (fun hf => ?_) (fun hf => ?_)
        · refine j_iconst C (pc := 30) (v := 0) (by decide) dX4_hasPart_30 ?_
          obtain rfl := Option.some.inj hf
          exact hQ _ _ dX4_hasPart_31 (show narrow .boolean (.int (0 : Int32)) = .int (0 : Int32) from rfl)
        · refine j_iconst C (pc := 26) (v := 1) (by decide) dX4_hasPart_26 ?_
          refine j_goto C (pc := 27) 31 dX4_hasPart_27 (by decide) ?_
          obtain rfl := Option.some.inj hf
          exact hQ _ _ dX4_hasPart_31 (show narrow .boolean (.int (1 : Int32)) = .int (1 : Int32) from rfl)
def ct_X4_hasPart (G : Gx) (l : Launch) (F : Int32 → Int32 → Int32 → Option (Int32)) (lv : Nat) : Prop := ∀ (a_t : Nat) (r_t : Nat → Nat) (v_sort : Int32) (v_length : Int32) (p1 : Int32) (p2 : Int32), ∀ (q : Int32), F v_length p1 p2 = some q → MI G l yX4_hasPart cX4_hasPart 3 .boolean lv [.ref a_t, .int p1, .int p2] [oX4 a_t r_t v_sort v_length] [oX4 a_t r_t v_sort v_length] q
theorem c_X4_hasPart (G : Gx) (l : Launch) : ct_X4_hasPart G l f_X4_hasPart 1 := by
  intro a_t r_t v_sort v_length p1 p2 q hf
  exact mI_of (by decide +kernel) rfl (fun K hl C hQ => t_X4_hasPart C hQ hf)
-- X5_add
def f_X5_add (v_length : Int32) (v_signs : Nat → Int32) (p1 : Int32) : Option (Int32 × (Nat → Int32) × Int32) := (if v_length < (100 : Int32) then (gd v_length 100 (some ((1 : Int32), upd v_signs v_length.toNatClampNeg (vp_nar .char p1), v_length + (1 : Int32)))) else (some ((0 : Int32), v_signs, v_length)))
set_option maxRecDepth 20000 in
set_option maxHeartbeats 1000000 in
theorem t_X5_add {G : Gx} {K : Kx} (C : Cx G K cX5_add RX5 2 1) {a_t : Nat} {r_t : Nat → Nat} {v_length : Int32} {v_at : Int32} {v_number : Int32} {v_signs : Nat → Int32} {p1 : Int32} {q : Int32 × (Nat → Int32) × Int32} (hQ : k_retI G K cX5_add 2 .boolean [oX5 a_t r_t q.2.2 v_at v_number, aC G (r_t 0) 100 q.2.1] q.1) (hf : f_X5_add v_length v_signs p1 = some q) : J G K 2 0 0 [oX5 a_t r_t v_length v_at v_number, aC G (r_t 0) 100 v_signs] [(0, .ref a_t), (1, .int p1)] 0 [] := by
  unfold f_X5_add at hf
  refine j_aload_n C (pc := 0) 0 rfl rfl dX5_add_0 ?_
  refine j_get C (pc := 1) kc_X5 fl_X5_15 0 rfl rfl dX5_add_1 ?_
  refine j_bipush C (pc := 4) (v := 100) (by decide) dX5_add_4 ?_
  refine j_icmp_lt C (pc := 6) 11 dX5_add_6 (by decide) hf (fun hf => ?_) (fun hf => ?_)
  · refine j_aload_n C (pc := 11) 0 rfl rfl dX5_add_11 ?_
    refine j_get C (pc := 12) kc_X5 fl_X5_9 0 rfl rfl dX5_add_12 ?_
    refine j_aload_n C (pc := 15) 0 rfl rfl dX5_add_15 ?_
    refine j_get C (pc := 16) kc_X5 fl_X5_15 0 rfl rfl dX5_add_16 ?_
    refine j_iload_n C (pc := 19) 1 rfl rfl dX5_add_19 ?_
    refine j_cast C (pc := 20) (ws' := [oX5 a_t r_t v_length v_at v_number, aC G (r_t 0) 100 (upd v_signs v_length.toNatClampNeg (vp_nar .char p1))]) 1 rfl hf rfl dX5_add_20 (fun hf => ?_)
    refine j_aload_n C (pc := 21) 0 rfl rfl dX5_add_21 ?_
    refine j_dup C (pc := 22) rfl dX5_add_22 ?_
    refine j_get C (pc := 23) kc_X5 fl_X5_15 0 rfl rfl dX5_add_23 ?_
    refine j_iconst C (pc := 26) (v := 1) (by decide) dX5_add_26 ?_
    refine j_iadd C (pc := 27) dX5_add_27 ?_
    refine j_put C (pc := 28) (ws' := [oX5 a_t r_t (v_length + (1 : Int32)) v_at v_number, aC G (r_t 0) 100 (upd v_signs v_length.toNatClampNeg (vp_nar .char p1))]) kc_X5 fl_X5_15 0 rfl rfl rfl rfl rfl rfl dX5_add_28 ?_
    refine j_iconst C (pc := 31) (v := 1) (by decide) dX5_add_31 ?_
    obtain rfl := Option.some.inj hf
    exact hQ _ _ dX5_add_32 (show narrow .boolean (.int (1 : Int32)) = .int (1 : Int32) from rfl)
  · refine j_iconst C (pc := 9) (v := 0) (by decide) dX5_add_9 ?_
    obtain rfl := Option.some.inj hf
    exact hQ _ _ dX5_add_10 (show narrow .boolean (.int (0 : Int32)) = .int (0 : Int32) from rfl)
def ct_X5_add (G : Gx) (l : Launch) (F : Int32 → (Nat → Int32) → Int32 → Option (Int32 × (Nat → Int32) × Int32)) (lv : Nat) : Prop := ∀ (a_t : Nat) (r_t : Nat → Nat) (v_length : Int32) (v_at : Int32) (v_number : Int32) (v_signs : Nat → Int32) (p1 : Int32), ∀ (q : Int32 × (Nat → Int32) × Int32), F v_length v_signs p1 = some q → MI G l yX5_add cX5_add 2 .boolean lv [.ref a_t, .int p1] [oX5 a_t r_t v_length v_at v_number, aC G (r_t 0) 100 v_signs] [oX5 a_t r_t q.2.2 v_at v_number, aC G (r_t 0) 100 q.2.1] q.1
theorem c_X5_add (G : Gx) (l : Launch) : ct_X5_add G l f_X5_add 1 := by
  intro a_t r_t v_length v_at v_number v_signs p1 q hf
  exact mI_of (by decide +kernel) rfl (fun K hl C hQ => t_X5_add C hQ hf)
-- X5_next
def f_X5_next (v_length : Int32) (v_at : Int32) (v_signs : Nat → Int32) : Option (Int32) := (if v_at < 0 then (some (0 : Int32)) else (if v_length ≤ v_at then (some (0 : Int32)) else (if (100 : Int32) ≤ v_at then (some (0 : Int32)) else (gd v_at 100 (gn .char (v_signs v_at.toNatClampNeg) (some (v_signs v_at.toNatClampNeg)))))))
set_option maxRecDepth 20000 in
set_option maxHeartbeats 1000000 in
theorem t_X5_next {G : Gx} {K : Kx} (C : Cx G K cX5_next RX5 1 1) {a_t : Nat} {r_t : Nat → Nat} {v_length : Int32} {v_at : Int32} {v_number : Int32} {v_signs : Nat → Int32} {q : Int32} (hQ : k_retI G K cX5_next 1 .char [oX5 a_t r_t v_length v_at v_number, aC G (r_t 0) 100 v_signs] q) (hf : f_X5_next v_length v_at v_signs = some q) : J G K 1 0 0 [oX5 a_t r_t v_length v_at v_number, aC G (r_t 0) 100 v_signs] [(0, .ref a_t)] 0 [] := by
  unfold f_X5_next at hf
  refine j_aload_n C (pc := 0) 0 rfl rfl dX5_next_0 ?_
  refine j_get C (pc := 1) kc_X5 fl_X5_24 0 rfl rfl dX5_next_1 ?_
  refine j_if_lt C (pc := 4) 39 dX5_next_4 (by decide) hf (fun hf => ?_) (fun hf => ?_)
  · refine j_iconst C (pc := 39) (v := 0) (by decide) dX5_next_39 ?_
    obtain rfl := Option.some.inj hf
    exact hQ _ _ dX5_next_40 (show narrow .char (.int (0 : Int32)) = .int (0 : Int32) from rfl)
  · refine j_aload_n C (pc := 7) 0 rfl rfl dX5_next_7 ?_
    refine j_get C (pc := 8) kc_X5 fl_X5_24 0 rfl rfl dX5_next_8 ?_
    refine j_aload_n C (pc := 11) 0 rfl rfl dX5_next_11 ?_
    refine j_get C (pc := 12) kc_X5 fl_X5_15 0 rfl rfl dX5_next_12 ?_
    refine j_icmp_ge C (pc := 15) 39 dX5_next_15 (by decide) hf (fun hf => ?_) (fun hf => ?_)
    · refine j_iconst C (pc := 39) (v := 0) (by decide) dX5_next_39 ?_
      obtain rfl := Option.some.inj hf
      exact hQ _ _ dX5_next_40 (show narrow .char (.int (0 : Int32)) = .int (0 : Int32) from rfl)
    · refine j_aload_n C (pc := 18) 0 rfl rfl dX5_next_18 ?_
      refine j_get C (pc := 19) kc_X5 fl_X5_24 0 rfl rfl dX5_next_19 ?_
      refine j_bipush C (pc := 22) (v := 100) (by decide) dX5_next_22 ?_
      refine j_icmp_ge C (pc := 24) 39 dX5_next_24 (by decide) hf (fun hf => ?_) (fun hf => ?_)
      · refine j_iconst C (pc := 39) (v := 0) (by decide) dX5_next_39 ?_
        obtain rfl := Option.some.inj hf
        exact hQ _ _ dX5_next_40 (show narrow .char (.int (0 : Int32)) = .int (0 : Int32) from rfl)
      · refine j_aload_n C (pc := 27) 0 rfl rfl dX5_next_27 ?_
        refine j_get C (pc := 28) kc_X5 fl_X5_9 0 rfl rfl dX5_next_28 ?_
        refine j_aload_n C (pc := 31) 0 rfl rfl dX5_next_31 ?_
        refine j_get C (pc := 32) kc_X5 fl_X5_24 0 rfl rfl dX5_next_32 ?_
        refine j_cald C (pc := 35) 1 rfl hf dX5_next_35 (fun hf => ?_)
        refine j_goto C (pc := 36) 40 dX5_next_36 (by decide) ?_
        obtain ⟨hn, hf⟩ := gn_char hf
        obtain rfl := Option.some.inj hf
        exact hQ _ _ dX5_next_40 hn
def ct_X5_next (G : Gx) (l : Launch) (F : Int32 → Int32 → (Nat → Int32) → Option (Int32)) (lv : Nat) : Prop := ∀ (a_t : Nat) (r_t : Nat → Nat) (v_length : Int32) (v_at : Int32) (v_number : Int32) (v_signs : Nat → Int32), ∀ (q : Int32), F v_length v_at v_signs = some q → MI G l yX5_next cX5_next 1 .char lv [.ref a_t] [oX5 a_t r_t v_length v_at v_number, aC G (r_t 0) 100 v_signs] [oX5 a_t r_t v_length v_at v_number, aC G (r_t 0) 100 v_signs] q
theorem c_X5_next (G : Gx) (l : Launch) : ct_X5_next G l f_X5_next 1 := by
  intro a_t r_t v_length v_at v_number v_signs q hf
  exact mI_of (by decide +kernel) rfl (fun K hl C hQ => t_X5_next C hQ hf)
-- X5_take
def f_X5_take (v_length : Int32) (v_at : Int32) (v_signs : Nat → Int32) (p1 : Int32) : Option (Int32 × Int32) := ((f_X5_next v_length v_at v_signs).bind fun q1 => (if q1 = p1 then (some ((1 : Int32), v_at + (1 : Int32))) else (some ((0 : Int32), v_at))))
set_option maxRecDepth 20000 in
set_option maxHeartbeats 1000000 in
theorem t_X5_take {G : Gx} {K : Kx} (C : Cx G K cX5_take RX5 2 2) {a_t : Nat} {r_t : Nat → Nat} {v_length : Int32} {v_at : Int32} {v_number : Int32} {v_signs : Nat → Int32} {p1 : Int32} {q : Int32 × Int32} (hQ : k_retI G K cX5_take 2 .boolean [oX5 a_t r_t v_length q.2 v_number, aC G (r_t 0) 100 v_signs] q.1) (hf : f_X5_take v_length v_at v_signs p1 = some q) : J G K 2 0 0 [oX5 a_t r_t v_length v_at v_number, aC G (r_t 0) 100 v_signs] [(0, .ref a_t), (1, .int p1)] 0 [] := by
  unfold f_X5_take at hf
  refine j_aload_n C (pc := 0) 0 rfl rfl dX5_take_0 ?_
  refine j_cVI C (pc := 1) (As := []) (st := []) (ws' := fun q1 => [oX5 a_t r_t v_length v_at v_number, aC G (r_t 0) 100 v_signs]) ml_X5_35 ms_X5_next hf (fun q1 h => (c_X5_next G K.2.1) a_t r_t v_length v_at v_number v_signs q1 h) [0, 1] [some 0, some 1] 2 rfl (by decide +kernel) (by decide +kernel) (fun _ => rfl) (fun _ => rfl) rfl rfl rfl rfl ⟨Nat.zero_le _, Nat.zero_le _⟩ dX5_take_1 kc_X5 0 rfl (fun q1 hf => ?_)
  refine j_iload_n C (pc := 4) 1 rfl rfl dX5_take_4 ?_
  refine j_icmp_eq C (pc := 5) 10 dX5_take_5 (by decide) hf (fun hf => ?_) (fun hf => ?_)
  · refine j_aload_n C (pc := 10) 0 rfl rfl dX5_take_10 ?_
    refine j_dup C (pc := 11) rfl dX5_take_11 ?_
    refine j_get C (pc := 12) kc_X5 fl_X5_24 0 rfl rfl dX5_take_12 ?_
    refine j_iconst C (pc := 15) (v := 1) (by decide) dX5_take_15 ?_
    refine j_iadd C (pc := 16) dX5_take_16 ?_
    refine j_put C (pc := 17) (ws' := [oX5 a_t r_t v_length (v_at + (1 : Int32)) v_number, aC G (r_t 0) 100 v_signs]) kc_X5 fl_X5_24 0 rfl rfl rfl rfl rfl rfl dX5_take_17 ?_
    refine j_iconst C (pc := 20) (v := 1) (by decide) dX5_take_20 ?_
    obtain rfl := Option.some.inj hf
    exact hQ _ _ dX5_take_21 (show narrow .boolean (.int (1 : Int32)) = .int (1 : Int32) from rfl)
  · refine j_iconst C (pc := 8) (v := 0) (by decide) dX5_take_8 ?_
    obtain rfl := Option.some.inj hf
    exact hQ _ _ dX5_take_9 (show narrow .boolean (.int (0 : Int32)) = .int (0 : Int32) from rfl)
def ct_X5_take (G : Gx) (l : Launch) (F : Int32 → Int32 → (Nat → Int32) → Int32 → Option (Int32 × Int32)) (lv : Nat) : Prop := ∀ (a_t : Nat) (r_t : Nat → Nat) (v_length : Int32) (v_at : Int32) (v_number : Int32) (v_signs : Nat → Int32) (p1 : Int32), ∀ (q : Int32 × Int32), F v_length v_at v_signs p1 = some q → MI G l yX5_take cX5_take 2 .boolean lv [.ref a_t, .int p1] [oX5 a_t r_t v_length v_at v_number, aC G (r_t 0) 100 v_signs] [oX5 a_t r_t v_length q.2 v_number, aC G (r_t 0) 100 v_signs] q.1
theorem c_X5_take (G : Gx) (l : Launch) : ct_X5_take G l f_X5_take 2 := by
  intro a_t r_t v_length v_at v_number v_signs p1 q hf
  exact mI_of (by decide +kernel) rfl (fun K hl C hQ => t_X5_take C hQ hf)
-- X5_takeNumber
def f_X5_takeNumber_7_b (v_length : Int32) (v_signs : Nat → Int32) (k7 : Int32 → Int32 → Int32 → Option (Int32 × Int32 × Int32)) (x1 : Int32) (w_number : Int32) (w_at : Int32) : Option (Int32 × Int32 × Int32) := (if (2 : Int32) ≤ x1 then (if x1 ≤ 0 then (some ((0 : Int32), w_number, w_at)) else (some ((1 : Int32), w_number, w_at))) else ((f_X5_next v_length w_at v_signs).bind fun q1 => (if q1 < (48 : Int32) then (if x1 ≤ 0 then (some ((0 : Int32), w_number, w_at)) else (some ((1 : Int32), w_number, w_at))) else ((f_X5_next v_length w_at v_signs).bind fun q2 => (if (57 : Int32) < q2 then (if x1 ≤ 0 then (some ((0 : Int32), w_number, w_at)) else (some ((1 : Int32), w_number, w_at))) else ((f_X5_next v_length w_at v_signs).bind fun q3 => (k7 (x1 + (1 : Int32)) ((w_number * (10 : Int32)) + (q3 - (48 : Int32))) (w_at + (1 : Int32)))))))))
def f_X5_takeNumber_7 (v_length : Int32) (v_signs : Nat → Int32) : Nat → Int32 → Int32 → Int32 → Option (Int32 × Int32 × Int32)
  | 0 => fun _ _ _ => none
  | n + 1 => f_X5_takeNumber_7_b v_length v_signs (f_X5_takeNumber_7 v_length v_signs n)
set_option maxRecDepth 20000 in
set_option maxHeartbeats 1000000 in
theorem t_X5_takeNumber_7_b {G : Gx} {K : Kx} (C : Cx G K cX5_takeNumber RX5 2 2) {a_t : Nat} {r_t : Nat → Nat} {v_length : Int32} {v_signs : Nat → Int32} {q : Int32 × Int32 × Int32} (hQ : k_retI G K cX5_takeNumber 2 .boolean [oX5 a_t r_t v_length q.2.2 q.2.1, aC G (r_t 0) 100 v_signs] q.1) {k7 : Int32 → Int32 → Int32 → Option (Int32 × Int32 × Int32)} (hk7 : ∀ (x1 : Int32) (w_number : Int32) (w_at : Int32), k7 x1 w_number w_at = some q → J G K 2 0 0 [oX5 a_t r_t v_length w_at w_number, aC G (r_t 0) 100 v_signs] [(0, .ref a_t), (1, .int x1)] 7 []) {x1 : Int32} {w_number : Int32} {w_at : Int32} (hf : f_X5_takeNumber_7_b v_length v_signs k7 x1 w_number w_at = some q) : J G K 2 0 0 [oX5 a_t r_t v_length w_at w_number, aC G (r_t 0) 100 v_signs] [(0, .ref a_t), (1, .int x1)] 7 [] := by
  unfold f_X5_takeNumber_7_b at hf
  refine j_iload_n C (pc := 7) 1 rfl rfl dX5_takeNumber_7 ?_
  refine j_iconst C (pc := 8) (v := 2) (by decide) dX5_takeNumber_8 ?_
  refine j_icmp_ge C (pc := 9) 65 dX5_takeNumber_9 (by decide) hf (fun hf => ?_) (fun hf => ?_)
  · refine j_iload_n C (pc := 65) 1 rfl rfl dX5_takeNumber_65 ?_
    refine j_if_le C (pc := 66) 73 dX5_takeNumber_66 (by decide) hf (fun hf => ?_) (fun hf => ?_)
    · refine j_iconst C (pc := 73) (v := 0) (by decide) dX5_takeNumber_73 ?_
      obtain rfl := Option.some.inj hf
      exact hQ _ _ dX5_takeNumber_74 (show narrow .boolean (.int (0 : Int32)) = .int (0 : Int32) from rfl)
    · refine j_iconst C (pc := 69) (v := 1) (by decide) dX5_takeNumber_69 ?_
      refine j_goto C (pc := 70) 74 dX5_takeNumber_70 (by decide) ?_
      obtain rfl := Option.some.inj hf
      exact hQ _ _ dX5_takeNumber_74 (show narrow .boolean (.int (1 : Int32)) = .int (1 : Int32) from rfl)
  · refine j_aload_n C (pc := 12) 0 rfl rfl dX5_takeNumber_12 ?_
    refine j_cVI C (pc := 13) (As := []) (st := []) (ws' := fun q1 => [oX5 a_t r_t v_length w_at w_number, aC G (r_t 0) 100 v_signs]) ml_X5_35 ms_X5_next hf (fun q1 h => (c_X5_next G K.2.1) a_t r_t v_length w_at w_number v_signs q1 h) [0, 1] [some 0, some 1] 2 rfl (by decide +kernel) (by decide +kernel) (fun _ => rfl) (fun _ => rfl) rfl rfl rfl rfl ⟨Nat.zero_le _, Nat.zero_le _⟩ dX5_takeNumber_13 kc_X5 0 rfl (fun q1 hf => ?_)
    refine j_bipush C (pc := 16) (v := 48) (by decide) dX5_takeNumber_16 ?_
    refine j_icmp_lt C (pc := 18) 65 dX5_takeNumber_18 (by decide) hf (fun hf => ?_) (fun hf => ?_)
    · refine j_iload_n C (pc := 65) 1 rfl rfl dX5_takeNumber_65 ?_
      refine j_if_le C (pc := 66) 73 dX5_takeNumber_66 (by decide) hf (fun hf => ?_) (fun hf => ?_)
      · refine j_iconst C (pc := 73) (v := 0) (by decide) dX5_takeNumber_73 ?_
        obtain rfl := Option.some.inj hf
        exact hQ _ _ dX5_takeNumber_74 (show narrow .boolean (.int (0 : Int32)) = .int (0 : Int32) from rfl)
      · refine j_iconst C (pc := 69) (v := 1) (by decide) dX5_takeNumber_69 ?_
        refine j_goto C (pc := 70) 74 dX5_takeNumber_70 (by decide) ?_
        obtain rfl := Option.some.inj hf
        exact hQ _ _ dX5_takeNumber_74 (show narrow .boolean (.int (1 : Int32)) = .int (1 : Int32) from rfl)
    · refine j_aload_n C (pc := 21) 0 rfl rfl dX5_takeNumber_21 ?_
      refine j_cVI C (pc := 22) (As := []) (st := []) (ws' := fun q2 => [oX5 a_t r_t v_length w_at w_number, aC G (r_t 0) 100 v_signs]) ml_X5_35 ms_X5_next hf (fun q2 h => (c_X5_next G K.2.1) a_t r_t v_length w_at w_number v_signs q2 h) [0, 1] [some 0, some 1] 2 rfl (by decide +kernel) (by decide +kernel) (fun _ => rfl) (fun _ => rfl) rfl rfl rfl rfl ⟨Nat.zero_le _, Nat.zero_le _⟩ dX5_takeNumber_22 kc_X5 0 rfl (fun q2 hf => ?_)
      refine j_bipush C (pc := 25) (v := 57) (by decide) dX5_takeNumber_25 ?_
      refine j_icmp_gt C (pc := 27) 65 dX5_takeNumber_27 (by decide) hf (fun hf => ?_) (fun hf => ?_)
      · refine j_iload_n C (pc := 65) 1 rfl rfl dX5_takeNumber_65 ?_
        refine j_if_le C (pc := 66) 73 dX5_takeNumber_66 (by decide) hf (fun hf => ?_) (fun hf => ?_)
        · refine j_iconst C (pc := 73) (v := 0) (by decide) dX5_takeNumber_73 ?_
          obtain rfl := Option.some.inj hf
          exact hQ _ _ dX5_takeNumber_74 (show narrow .boolean (.int (0 : Int32)) = .int (0 : Int32) from rfl)
        · refine j_iconst C (pc := 69) (v := 1) (by decide) dX5_takeNumber_69 ?_
          refine j_goto C (pc := 70) 74 dX5_takeNumber_70 (by decide) ?_
          obtain rfl := Option.some.inj hf
          exact hQ _ _ dX5_takeNumber_74 (show narrow .boolean (.int (1 : Int32)) = .int (1 : Int32) from rfl)
      · refine j_aload_n C (pc := 30) 0 rfl rfl dX5_takeNumber_30 ?_
        refine j_aload_n C (pc := 31) 0 rfl rfl dX5_takeNumber_31 ?_
        refine j_get C (pc := 32) kc_X5 fl_X5_62 0 rfl rfl dX5_takeNumber_32 ?_
        refine j_bipush C (pc := 35) (v := 10) (by decide) dX5_takeNumber_35 ?_
        refine j_imul C (pc := 37) dX5_takeNumber_37 ?_
        refine j_aload_n C (pc := 38) 0 rfl rfl dX5_takeNumber_38 ?_
        refine j_cVI C (pc := 39) (As := []) (st := [.int (w_number * (10 : Int32)), .ref a_t]) (ws' := fun q3 => [oX5 a_t r_t v_length w_at w_number, aC G (r_t 0) 100 v_signs]) ml_X5_35 ms_X5_next hf (fun q3 h => (c_X5_next G K.2.1) a_t r_t v_length w_at w_number v_signs q3 h) [0, 1] [some 0, some 1] 2 rfl (by decide +kernel) (by decide +kernel) (fun _ => rfl) (fun _ => rfl) rfl rfl rfl rfl ⟨Nat.zero_le _, Nat.zero_le _⟩ dX5_takeNumber_39 kc_X5 0 rfl (fun q3 hf => ?_)
        refine j_bipush C (pc := 42) (v := 48) (by decide) dX5_takeNumber_42 ?_
        refine j_isub C (pc := 44) dX5_takeNumber_44 ?_
        refine j_iadd C (pc := 45) dX5_takeNumber_45 ?_
        refine j_put C (pc := 46) (ws' := [oX5 a_t r_t v_length w_at ((w_number * (10 : Int32)) + (q3 - (48 : Int32))), aC G (r_t 0) 100 v_signs]) kc_X5 fl_X5_62 0 rfl rfl rfl rfl rfl rfl dX5_takeNumber_46 ?_
        refine j_aload_n C (pc := 49) 0 rfl rfl dX5_takeNumber_49 ?_
        refine j_dup C (pc := 50) rfl dX5_takeNumber_50 ?_
        refine j_get C (pc := 51) kc_X5 fl_X5_24 0 rfl rfl dX5_takeNumber_51 ?_
        refine j_iconst C (pc := 54) (v := 1) (by decide) dX5_takeNumber_54 ?_
        refine j_iadd C (pc := 55) dX5_takeNumber_55 ?_
        refine j_put C (pc := 56) (ws' := [oX5 a_t r_t v_length (w_at + (1 : Int32)) ((w_number * (10 : Int32)) + (q3 - (48 : Int32))), aC G (r_t 0) 100 v_signs]) kc_X5 fl_X5_24 0 rfl rfl rfl rfl rfl rfl dX5_takeNumber_56 ?_
        refine j_iinc C (pc := 59) (L' := [(1, .int (x1 + (1 : Int32))), (0, .ref a_t)]) (v := x1 + (1 : Int32)) dX5_takeNumber_59 (t := 1) rfl rfl (by decide) rfl ?_
        refine j_goto C (pc := 62) 7 dX5_takeNumber_62 (by decide) ?_
        refine j_sub [1, 0] rfl ?_
        exact hk7 _ _ _ hf
theorem t_X5_takeNumber_7 {G : Gx} {K : Kx} (C : Cx G K cX5_takeNumber RX5 2 2) {a_t : Nat} {r_t : Nat → Nat} {v_length : Int32} {v_signs : Nat → Int32} {q : Int32 × Int32 × Int32} (hQ : k_retI G K cX5_takeNumber 2 .boolean [oX5 a_t r_t v_length q.2.2 q.2.1, aC G (r_t 0) 100 v_signs] q.1) : ∀ (n : Nat) (x1 : Int32) (w_number : Int32) (w_at : Int32), f_X5_takeNumber_7 v_length v_signs n x1 w_number w_at = some q → J G K 2 0 0 [oX5 a_t r_t v_length w_at w_number, aC G (r_t 0) 100 v_signs] [(0, .ref a_t), (1, .int x1)] 7 [] := by
  intro n
  induction n with
  | zero => intro x1 w_number w_at hf; cases hf
  | succ n ih => intro x1 w_number w_at hf; exact t_X5_takeNumber_7_b C hQ ih hf
def f_X5_takeNumber (v_length : Int32) (v_at : Int32) (v_signs : Nat → Int32) : Option (Int32 × Int32 × Int32) := (f_X5_takeNumber_7 v_length v_signs 1000 (0 : Int32) (0 : Int32) v_at)
set_option maxRecDepth 20000 in
set_option maxHeartbeats 1000000 in
theorem t_X5_takeNumber {G : Gx} {K : Kx} (C : Cx G K cX5_takeNumber RX5 2 2) {a_t : Nat} {r_t : Nat → Nat} {v_length : Int32} {v_at : Int32} {v_number : Int32} {v_signs : Nat → Int32} {q : Int32 × Int32 × Int32} (hQ : k_retI G K cX5_takeNumber 2 .boolean [oX5 a_t r_t v_length q.2.2 q.2.1, aC G (r_t 0) 100 v_signs] q.1) (hf : f_X5_takeNumber v_length v_at v_signs = some q) : J G K 2 0 0 [oX5 a_t r_t v_length v_at v_number, aC G (r_t 0) 100 v_signs] [(0, .ref a_t)] 0 [] := by
  unfold f_X5_takeNumber at hf
  refine j_aload_n C (pc := 0) 0 rfl rfl dX5_takeNumber_0 ?_
  refine j_iconst C (pc := 1) (v := 0) (by decide) dX5_takeNumber_1 ?_
  refine j_put C (pc := 2) (ws' := [oX5 a_t r_t v_length v_at (0 : Int32), aC G (r_t 0) 100 v_signs]) kc_X5 fl_X5_62 0 rfl rfl rfl rfl rfl rfl dX5_takeNumber_2 ?_
  refine j_iconst C (pc := 5) (v := 0) (by decide) dX5_takeNumber_5 ?_
  refine j_istore_n C (pc := 6) (L' := [(1, .int (0 : Int32)), (0, .ref a_t)]) dX5_takeNumber_6 rfl (by decide) rfl ?_
  refine j_sub [1, 0] rfl ?_
  exact t_X5_takeNumber_7 C hQ 1000 _ _ _ hf
def ct_X5_takeNumber (G : Gx) (l : Launch) (F : Int32 → Int32 → (Nat → Int32) → Option (Int32 × Int32 × Int32)) (lv : Nat) : Prop := ∀ (a_t : Nat) (r_t : Nat → Nat) (v_length : Int32) (v_at : Int32) (v_number : Int32) (v_signs : Nat → Int32), ∀ (q : Int32 × Int32 × Int32), F v_length v_at v_signs = some q → MI G l yX5_takeNumber cX5_takeNumber 2 .boolean lv [.ref a_t] [oX5 a_t r_t v_length v_at v_number, aC G (r_t 0) 100 v_signs] [oX5 a_t r_t v_length q.2.2 q.2.1, aC G (r_t 0) 100 v_signs] q.1
theorem c_X5_takeNumber (G : Gx) (l : Launch) : ct_X5_takeNumber G l f_X5_takeNumber 2 := by
  intro a_t r_t v_length v_at v_number v_signs q hf
  exact mI_of (by decide +kernel) rfl (fun K hl C hQ => t_X5_takeNumber C hQ hf)
-- X5_test
def f_X5_test (v_length : Int32) (v_at : Int32) (v_number : Int32) (v_p1_length : Int32) (v_signs : Nat → Int32) (v_p1_steps : Nat → Int32) (v_p1_numbers : Nat → Int32) : Option (Int32 × Int32 × Int32 × (Nat → Int32) × (Nat → Int32) × Int32) := ((f_X5_next v_length v_at v_signs).bind fun q1 => ((f_J0_indexOf_0f7a4 3 q1).bind fun q2 => (if 0 ≤ q2 then ((f_X5_next v_length (v_at + (1 : Int32)) v_signs).bind fun q3 => ((f_J0_indexOf_0f7a4 4 q3).bind fun q4 => (if 0 ≤ q4 then ((f_X5_takeNumber v_length ((v_at + (1 : Int32)) + (1 : Int32)) v_signs).bind fun q5 => (if q5.1 = 0 then (some ((0 : Int32), q5.2.2, q5.2.1, v_p1_steps, v_p1_numbers, v_p1_length)) else ((f_X2_put v_p1_length v_p1_steps v_p1_numbers ((q2 * (3 : Int32)) + q4) q5.2.1).bind fun q6 => (some ((1 : Int32), q5.2.2, q5.2.1, q6.1, q6.2.1, q6.2.2))))) else (some ((0 : Int32), v_at + (1 : Int32), v_number, v_p1_steps, v_p1_numbers, v_p1_length))))) else (some ((0 : Int32), v_at, v_number, v_p1_steps, v_p1_numbers, v_p1_length)))))
set_option maxRecDepth 20000 in
set_option maxHeartbeats 1000000 in
theorem t_X5_test {G : Gx} {K : Kx} (C : Cx G K cX5_test RX5 4 5) {a_t : Nat} {r_t : Nat → Nat} {a_p1 : Nat} {r_p1 : Nat → Nat} {v_length : Int32} {v_at : Int32} {v_number : Int32} {v_p1_length : Int32} {v_p1_need : Int32} {v_signs : Nat → Int32} {v_p1_steps : Nat → Int32} {v_p1_numbers : Nat → Int32} {q : Int32 × Int32 × Int32 × (Nat → Int32) × (Nat → Int32) × Int32} (hQ : k_retI G K cX5_test 4 .boolean [oX5 a_t r_t v_length q.2.1 q.2.2.1, oX2 a_p1 r_p1 q.2.2.2.2.2 v_p1_need, aC G (r_t 0) 100 v_signs, aI G (r_p1 0) 100 q.2.2.2.1, aI G (r_p1 1) 100 q.2.2.2.2.1] q.1) (hf : f_X5_test v_length v_at v_number v_p1_length v_signs v_p1_steps v_p1_numbers = some q) : J G K 4 0 0 [oX5 a_t r_t v_length v_at v_number, oX2 a_p1 r_p1 v_p1_length v_p1_need, aC G (r_t 0) 100 v_signs, aI G (r_p1 0) 100 v_p1_steps, aI G (r_p1 1) 100 v_p1_numbers] [(0, .ref a_t), (1, .ref a_p1)] 0 [] := by
  unfold f_X5_test at hf
  refine j_ldcS C (pc := 0) (tx := "pqkvhd") (i := 3) (by decide) dX5_test_0 ?_
  refine j_aload_n C (pc := 2) 0 rfl rfl dX5_test_2 ?_
  refine j_cVI C (pc := 3) (As := []) (st := [.ref (G.2.2 (10 + 3))]) (ws' := fun q1 => [oX5 a_t r_t v_length v_at v_number, oX2 a_p1 r_p1 v_p1_length v_p1_need, aC G (r_t 0) 100 v_signs, aI G (r_p1 0) 100 v_p1_steps, aI G (r_p1 1) 100 v_p1_numbers]) ml_X5_35 ms_X5_next hf (fun q1 h => (c_X5_next G K.2.1) a_t r_t v_length v_at v_number v_signs q1 h) [0, 2] [some 0, none, some 1, none, none] 5 rfl (by decide +kernel) (by decide +kernel) (fun _ => rfl) (fun _ => rfl) rfl rfl rfl rfl ⟨Nat.zero_le _, Nat.zero_le _⟩ dX5_test_3 kc_X5 0 rfl (fun q1 hf => ?_)
  refine j_cTI C (pc := 6) (As := [.int q1]) (st := []) (ws' := fun q2 => [oX5 a_t r_t v_length v_at v_number, oX2 a_p1 r_p1 v_p1_length v_p1_need, aC G (r_t 0) 100 v_signs, aI G (r_p1 0) 100 v_p1_steps, aI G (r_p1 1) 100 v_p1_numbers]) ml_X5_87 ms_J0_indexOf_0f7a4 hf (fun q2 h => (c_J0_indexOf_0f7a4 G K.2.1) 3 q1 q2 h) [] [none, none, none, none, none] 5 rfl (by decide +kernel) (by decide +kernel) (fun _ => rfl) (fun _ => rfl) rfl rfl rfl rfl ⟨Nat.zero_le _, Nat.zero_le _⟩ dX5_test_6 3 (by decide) rfl rfl (fun q2 hf => ?_)
  refine j_istore_n C (pc := 9) (L' := [(2, .int q2), (0, .ref a_t), (1, .ref a_p1)]) dX5_test_9 rfl (by decide) rfl ?_
  refine j_iload_n C (pc := 10) 0 rfl rfl dX5_test_10 ?_
  refine j_if_ge C (pc := 11) 16 dX5_test_11 (by decide) hf (fun hf => ?_) (fun hf => ?_)
  · refine j_aload_n C (pc := 16) 1 rfl rfl dX5_test_16 ?_
    refine j_dup C (pc := 17) rfl dX5_test_17 ?_
    refine j_get C (pc := 18) kc_X5 fl_X5_24 0 rfl rfl dX5_test_18 ?_
    refine j_iconst C (pc := 21) (v := 1) (by decide) dX5_test_21 ?_
    refine j_iadd C (pc := 22) dX5_test_22 ?_
    refine j_put C (pc := 23) (ws' := [oX5 a_t r_t v_length (v_at + (1 : Int32)) v_number, oX2 a_p1 r_p1 v_p1_length v_p1_need, aC G (r_t 0) 100 v_signs, aI G (r_p1 0) 100 v_p1_steps, aI G (r_p1 1) 100 v_p1_numbers]) kc_X5 fl_X5_24 0 rfl rfl rfl rfl rfl rfl dX5_test_23 ?_
    refine j_ldcS C (pc := 26) (tx := "<=>") (i := 4) (by decide) dX5_test_26 ?_
    refine j_aload_n C (pc := 28) 1 rfl rfl dX5_test_28 ?_
    refine j_cVI C (pc := 29) (As := []) (st := [.ref (G.2.2 (10 + 4))]) (ws' := fun q3 => [oX5 a_t r_t v_length (v_at + (1 : Int32)) v_number, oX2 a_p1 r_p1 v_p1_length v_p1_need, aC G (r_t 0) 100 v_signs, aI G (r_p1 0) 100 v_p1_steps, aI G (r_p1 1) 100 v_p1_numbers]) ml_X5_35 ms_X5_next hf (fun q3 h => (c_X5_next G K.2.1) a_t r_t v_length (v_at + (1 : Int32)) v_number v_signs q3 h) [0, 2] [some 0, none, some 1, none, none] 5 rfl (by decide +kernel) (by decide +kernel) (fun _ => rfl) (fun _ => rfl) rfl rfl rfl rfl ⟨Nat.zero_le _, Nat.zero_le _⟩ dX5_test_29 kc_X5 0 rfl (fun q3 hf => ?_)
    refine j_cTI C (pc := 32) (As := [.int q3]) (st := []) (ws' := fun q4 => [oX5 a_t r_t v_length (v_at + (1 : Int32)) v_number, oX2 a_p1 r_p1 v_p1_length v_p1_need, aC G (r_t 0) 100 v_signs, aI G (r_p1 0) 100 v_p1_steps, aI G (r_p1 1) 100 v_p1_numbers]) ml_X5_87 ms_J0_indexOf_0f7a4 hf (fun q4 h => (c_J0_indexOf_0f7a4 G K.2.1) 4 q3 q4 h) [] [none, none, none, none, none] 5 rfl (by decide +kernel) (by decide +kernel) (fun _ => rfl) (fun _ => rfl) rfl rfl rfl rfl ⟨Nat.zero_le _, Nat.zero_le _⟩ dX5_test_32 4 (by decide) rfl rfl (fun q4 hf => ?_)
    refine j_istore_n C (pc := 35) (L' := [(3, .int q4), (2, .int q2), (0, .ref a_t), (1, .ref a_p1)]) dX5_test_35 rfl (by decide) rfl ?_
    refine j_iload_n C (pc := 36) 0 rfl rfl dX5_test_36 ?_
    refine j_if_ge C (pc := 37) 42 dX5_test_37 (by decide) hf (fun hf => ?_) (fun hf => ?_)
    · refine j_aload_n C (pc := 42) 2 rfl rfl dX5_test_42 ?_
      refine j_dup C (pc := 43) rfl dX5_test_43 ?_
      refine j_get C (pc := 44) kc_X5 fl_X5_24 0 rfl rfl dX5_test_44 ?_
      refine j_iconst C (pc := 47) (v := 1) (by decide) dX5_test_47 ?_
      refine j_iadd C (pc := 48) dX5_test_48 ?_
      refine j_put C (pc := 49) (ws' := [oX5 a_t r_t v_length ((v_at + (1 : Int32)) + (1 : Int32)) v_number, oX2 a_p1 r_p1 v_p1_length v_p1_need, aC G (r_t 0) 100 v_signs, aI G (r_p1 0) 100 v_p1_steps, aI G (r_p1 1) 100 v_p1_numbers]) kc_X5 fl_X5_24 0 rfl rfl rfl rfl rfl rfl dX5_test_49 ?_
      refine j_aload_n C (pc := 52) 2 rfl rfl dX5_test_52 ?_
      refine j_cVI C (pc := 53) (As := []) (st := []) (ws' := fun q5 => [oX5 a_t r_t v_length q5.2.2 q5.2.1, oX2 a_p1 r_p1 v_p1_length v_p1_need, aC G (r_t 0) 100 v_signs, aI G (r_p1 0) 100 v_p1_steps, aI G (r_p1 1) 100 v_p1_numbers]) ml_X5_58 ms_X5_takeNumber hf (fun q5 h => (c_X5_takeNumber G K.2.1) a_t r_t v_length ((v_at + (1 : Int32)) + (1 : Int32)) v_number v_signs q5 h) [0, 2] [some 0, none, some 1, none, none] 5 rfl (by decide +kernel) (by decide +kernel) (fun _ => rfl) (fun _ => rfl) rfl rfl rfl rfl ⟨Nat.zero_le _, Nat.zero_le _⟩ dX5_test_53 kc_X5 0 rfl (fun q5 hf => ?_)
      refine j_if_ne C (pc := 56) 61 dX5_test_56 (by decide) hf (fun hf => ?_) (fun hf => ?_)
      · refine j_aload_n C (pc := 61) 3 rfl rfl dX5_test_61 ?_
        refine j_iload_n C (pc := 62) 1 rfl rfl dX5_test_62 ?_
        refine j_iconst C (pc := 63) (v := 3) (by decide) dX5_test_63 ?_
        refine j_imul C (pc := 64) dX5_test_64 ?_
        refine j_iload_n C (pc := 65) 0 rfl rfl dX5_test_65 ?_
        refine j_iadd C (pc := 66) dX5_test_66 ?_
        refine j_aload_n C (pc := 67) 2 rfl rfl dX5_test_67 ?_
        refine j_get C (pc := 68) kc_X5 fl_X5_62 0 rfl rfl dX5_test_68 ?_
        refine j_cVZ C (pc := 71) (As := [.int ((q2 * (3 : Int32)) + q4), .int q5.2.1]) (st := []) (ws' := fun q6 => [oX5 a_t r_t v_length q5.2.2 q5.2.1, oX2 a_p1 r_p1 q6.2.2 v_p1_need, aC G (r_t 0) 100 v_signs, aI G (r_p1 0) 100 q6.1, aI G (r_p1 1) 100 q6.2.1]) ml_X5_72 ms_X2_put hf (fun q6 h => (c_X2_put G K.2.1) a_p1 r_p1 v_p1_length v_p1_need v_p1_steps v_p1_numbers ((q2 * (3 : Int32)) + q4) q5.2.1 q6 h) [1, 3, 4] [none, some 0, none, some 1, some 2] 5 rfl (by decide +kernel) (by decide +kernel) (fun _ => rfl) (fun _ => rfl) rfl rfl rfl rfl ⟨Nat.zero_le _, Nat.zero_le _⟩ dX5_test_71 kc_X2 1 rfl (fun q6 hf => ?_)
        refine j_iconst C (pc := 74) (v := 1) (by decide) dX5_test_74 ?_
        obtain rfl := Option.some.inj hf
        exact hQ _ _ dX5_test_75 (show narrow .boolean (.int (1 : Int32)) = .int (1 : Int32) from rfl)
      · refine j_iconst C (pc := 59) (v := 0) (by decide) dX5_test_59 ?_
        obtain rfl := Option.some.inj hf
        exact hQ _ _ dX5_test_60 (show narrow .boolean (.int (0 : Int32)) = .int (0 : Int32) from rfl)
    · refine j_iconst C (pc := 40) (v := 0) (by decide) dX5_test_40 ?_
      obtain rfl := Option.some.inj hf
      exact hQ _ _ dX5_test_41 (show narrow .boolean (.int (0 : Int32)) = .int (0 : Int32) from rfl)
  · refine j_iconst C (pc := 14) (v := 0) (by decide) dX5_test_14 ?_
    obtain rfl := Option.some.inj hf
    exact hQ _ _ dX5_test_15 (show narrow .boolean (.int (0 : Int32)) = .int (0 : Int32) from rfl)
def ct_X5_test (G : Gx) (l : Launch) (F : Int32 → Int32 → Int32 → Int32 → (Nat → Int32) → (Nat → Int32) → (Nat → Int32) → Option (Int32 × Int32 × Int32 × (Nat → Int32) × (Nat → Int32) × Int32)) (lv : Nat) : Prop := ∀ (a_t : Nat) (r_t : Nat → Nat) (a_p1 : Nat) (r_p1 : Nat → Nat) (v_length : Int32) (v_at : Int32) (v_number : Int32) (v_p1_length : Int32) (v_p1_need : Int32) (v_signs : Nat → Int32) (v_p1_steps : Nat → Int32) (v_p1_numbers : Nat → Int32), ∀ (q : Int32 × Int32 × Int32 × (Nat → Int32) × (Nat → Int32) × Int32), F v_length v_at v_number v_p1_length v_signs v_p1_steps v_p1_numbers = some q → MI G l yX5_test cX5_test 4 .boolean lv [.ref a_t, .ref a_p1] [oX5 a_t r_t v_length v_at v_number, oX2 a_p1 r_p1 v_p1_length v_p1_need, aC G (r_t 0) 100 v_signs, aI G (r_p1 0) 100 v_p1_steps, aI G (r_p1 1) 100 v_p1_numbers] [oX5 a_t r_t v_length q.2.1 q.2.2.1, oX2 a_p1 r_p1 q.2.2.2.2.2 v_p1_need, aC G (r_t 0) 100 v_signs, aI G (r_p1 0) 100 q.2.2.2.1, aI G (r_p1 1) 100 q.2.2.2.2.1] q.1
theorem c_X5_test (G : Gx) (l : Launch) : ct_X5_test G l f_X5_test 5 := by
  intro a_t r_t a_p1 r_p1 v_length v_at v_number v_p1_length v_p1_need v_signs v_p1_steps v_p1_numbers q hf
  exact mI_of (by decide +kernel) rfl (fun K hl C hQ => t_X5_test C hQ hf)
def ct_X5_either (G : Gx) (l : Launch) (F : Int32 → Int32 → Int32 → Int32 → (Nat → Int32) → (Nat → Int32) → (Nat → Int32) → Int32 → Option (Int32 × Int32 × (Nat → Int32) × (Nat → Int32) × Int32 × Int32)) (lv : Nat) : Prop := ∀ (a_t : Nat) (r_t : Nat → Nat) (a_p1 : Nat) (r_p1 : Nat → Nat) (v_length : Int32) (v_at : Int32) (v_number : Int32) (v_p1_length : Int32) (v_p1_need : Int32) (v_signs : Nat → Int32) (v_p1_steps : Nat → Int32) (v_p1_numbers : Nat → Int32) (p2 : Int32), ∀ (q : Int32 × Int32 × (Nat → Int32) × (Nat → Int32) × Int32 × Int32), F v_length v_at v_number v_p1_length v_signs v_p1_steps v_p1_numbers p2 = some q → MI G l yX5_either cX5_either 5 .boolean lv [.ref a_t, .ref a_p1, .int p2] [oX5 a_t r_t v_length v_at v_number, oX2 a_p1 r_p1 v_p1_length v_p1_need, aC G (r_t 0) 100 v_signs, aI G (r_p1 0) 100 v_p1_steps, aI G (r_p1 1) 100 v_p1_numbers] [oX5 a_t r_t v_length q.2.1 q.2.2.2.2.2, oX2 a_p1 r_p1 q.2.2.2.2.1 v_p1_need, aC G (r_t 0) 100 v_signs, aI G (r_p1 0) 100 q.2.2.1, aI G (r_p1 1) 100 q.2.2.2.1] q.1
def ct_X5_both (G : Gx) (l : Launch) (F : Int32 → Int32 → Int32 → Int32 → (Nat → Int32) → (Nat → Int32) → (Nat → Int32) → Int32 → Option (Int32 × Int32 × (Nat → Int32) × (Nat → Int32) × Int32 × Int32)) (lv : Nat) : Prop := ∀ (a_t : Nat) (r_t : Nat → Nat) (a_p1 : Nat) (r_p1 : Nat → Nat) (v_length : Int32) (v_at : Int32) (v_number : Int32) (v_p1_length : Int32) (v_p1_need : Int32) (v_signs : Nat → Int32) (v_p1_steps : Nat → Int32) (v_p1_numbers : Nat → Int32) (p2 : Int32), ∀ (q : Int32 × Int32 × (Nat → Int32) × (Nat → Int32) × Int32 × Int32), F v_length v_at v_number v_p1_length v_signs v_p1_steps v_p1_numbers p2 = some q → MI G l yX5_both cX5_both 5 .boolean lv [.ref a_t, .ref a_p1, .int p2] [oX5 a_t r_t v_length v_at v_number, oX2 a_p1 r_p1 v_p1_length v_p1_need, aC G (r_t 0) 100 v_signs, aI G (r_p1 0) 100 v_p1_steps, aI G (r_p1 1) 100 v_p1_numbers] [oX5 a_t r_t v_length q.2.1 q.2.2.2.2.2, oX2 a_p1 r_p1 q.2.2.2.2.1 v_p1_need, aC G (r_t 0) 100 v_signs, aI G (r_p1 0) 100 q.2.2.1, aI G (r_p1 1) 100 q.2.2.2.1] q.1
def ct_X5_factor (G : Gx) (l : Launch) (F : Int32 → Int32 → Int32 → Int32 → (Nat → Int32) → (Nat → Int32) → (Nat → Int32) → Int32 → Option (Int32 × Int32 × Int32 × (Nat → Int32) × (Nat → Int32) × Int32)) (lv : Nat) : Prop := ∀ (a_t : Nat) (r_t : Nat → Nat) (a_p1 : Nat) (r_p1 : Nat → Nat) (v_length : Int32) (v_at : Int32) (v_number : Int32) (v_p1_length : Int32) (v_p1_need : Int32) (v_signs : Nat → Int32) (v_p1_steps : Nat → Int32) (v_p1_numbers : Nat → Int32) (p2 : Int32), ∀ (q : Int32 × Int32 × Int32 × (Nat → Int32) × (Nat → Int32) × Int32), F v_length v_at v_number v_p1_length v_signs v_p1_steps v_p1_numbers p2 = some q → MI G l yX5_factor cX5_factor 5 .boolean lv [.ref a_t, .ref a_p1, .int p2] [oX5 a_t r_t v_length v_at v_number, oX2 a_p1 r_p1 v_p1_length v_p1_need, aC G (r_t 0) 100 v_signs, aI G (r_p1 0) 100 v_p1_steps, aI G (r_p1 1) 100 v_p1_numbers] [oX5 a_t r_t v_length q.2.1 q.2.2.1, oX2 a_p1 r_p1 q.2.2.2.2.2 v_p1_need, aC G (r_t 0) 100 v_signs, aI G (r_p1 0) 100 q.2.2.2.1, aI G (r_p1 1) 100 q.2.2.2.2.1] q.1
-- X5_either
def f_X5_either_10_b (rec_X5_either : Int32 → Int32 → Int32 → Int32 → (Nat → Int32) → (Nat → Int32) → (Nat → Int32) → Int32 → Option (Int32 × Int32 × (Nat → Int32) × (Nat → Int32) × Int32 × Int32)) (rec_X5_both : Int32 → Int32 → Int32 → Int32 → (Nat → Int32) → (Nat → Int32) → (Nat → Int32) → Int32 → Option (Int32 × Int32 × (Nat → Int32) × (Nat → Int32) × Int32 × Int32)) (rec_X5_factor : Int32 → Int32 → Int32 → Int32 → (Nat → Int32) → (Nat → Int32) → (Nat → Int32) → Int32 → Option (Int32 × Int32 × Int32 × (Nat → Int32) × (Nat → Int32) × Int32)) (v_length : Int32) (v_signs : Nat → Int32) (p2 : Int32) (k10 : Int32 → Int32 → Int32 → (Nat → Int32) → (Nat → Int32) → Int32 → Int32 → Option (Int32 × Int32 × (Nat → Int32) × (Nat → Int32) × Int32 × Int32)) (x3 : Int32) (x4 : Int32) (w_at : Int32) (w_p1_steps : Nat → Int32) (w_p1_numbers : Nat → Int32) (w_p1_length : Int32) (w_number : Int32) : Option (Int32 × Int32 × (Nat → Int32) × (Nat → Int32) × Int32 × Int32) := (if (100 : Int32) ≤ x4 then (gn .boolean x3 (some (x3, w_at, w_p1_steps, w_p1_numbers, w_p1_length, w_number))) else (if x3 = 0 then (gn .boolean x3 (some (x3, w_at, w_p1_steps, w_p1_numbers, w_p1_length, w_number))) else ((f_X5_take v_length w_at v_signs (124 : Int32)).bind fun q1 => (if q1.1 = 0 then (gn .boolean x3 (some (x3, q1.2, w_p1_steps, w_p1_numbers, w_p1_length, w_number))) else ((rec_X5_both v_length q1.2 w_number w_p1_length v_signs w_p1_steps w_p1_numbers p2).bind fun q2 => ((f_X2_put q2.2.2.2.2.1 q2.2.2.1 q2.2.2.2.1 (-3 : Int32) (0 : Int32)).bind fun q3 => (k10 q2.1 (x4 + (1 : Int32)) q2.2.1 q3.1 q3.2.1 q3.2.2 q2.2.2.2.2.2)))))))
def f_X5_either_10 (rec_X5_either : Int32 → Int32 → Int32 → Int32 → (Nat → Int32) → (Nat → Int32) → (Nat → Int32) → Int32 → Option (Int32 × Int32 × (Nat → Int32) × (Nat → Int32) × Int32 × Int32)) (rec_X5_both : Int32 → Int32 → Int32 → Int32 → (Nat → Int32) → (Nat → Int32) → (Nat → Int32) → Int32 → Option (Int32 × Int32 × (Nat → Int32) × (Nat → Int32) × Int32 × Int32)) (rec_X5_factor : Int32 → Int32 → Int32 → Int32 → (Nat → Int32) → (Nat → Int32) → (Nat → Int32) → Int32 → Option (Int32 × Int32 × Int32 × (Nat → Int32) × (Nat → Int32) × Int32)) (v_length : Int32) (v_signs : Nat → Int32) (p2 : Int32) : Nat → Int32 → Int32 → Int32 → (Nat → Int32) → (Nat → Int32) → Int32 → Int32 → Option (Int32 × Int32 × (Nat → Int32) × (Nat → Int32) × Int32 × Int32)
  | 0 => fun _ _ _ _ _ _ _ => none
  | n + 1 => f_X5_either_10_b rec_X5_either rec_X5_both rec_X5_factor v_length v_signs p2 (f_X5_either_10 rec_X5_either rec_X5_both rec_X5_factor v_length v_signs p2 n)
set_option maxRecDepth 20000 in
set_option maxHeartbeats 1000000 in
theorem t_X5_either_10_b {G : Gx} {K : Kx} {d : Nat} {rec_X5_either : Int32 → Int32 → Int32 → Int32 → (Nat → Int32) → (Nat → Int32) → (Nat → Int32) → Int32 → Option (Int32 × Int32 × (Nat → Int32) × (Nat → Int32) × Int32 × Int32)} {rec_X5_both : Int32 → Int32 → Int32 → Int32 → (Nat → Int32) → (Nat → Int32) → (Nat → Int32) → Int32 → Option (Int32 × Int32 × (Nat → Int32) × (Nat → Int32) × Int32 × Int32)} {rec_X5_factor : Int32 → Int32 → Int32 → Int32 → (Nat → Int32) → (Nat → Int32) → (Nat → Int32) → Int32 → Option (Int32 × Int32 × Int32 × (Nat → Int32) × (Nat → Int32) × Int32)} (C : Cx G K cX5_either RX5 5 (6 + (d + 1))) {a_t : Nat} {r_t : Nat → Nat} {a_p1 : Nat} {r_p1 : Nat → Nat} {v_length : Int32} {v_p1_need : Int32} {v_signs : Nat → Int32} {p2 : Int32} {q : Int32 × Int32 × (Nat → Int32) × (Nat → Int32) × Int32 × Int32} (hQ : k_retI G K cX5_either 5 .boolean [oX5 a_t r_t v_length q.2.1 q.2.2.2.2.2, oX2 a_p1 r_p1 q.2.2.2.2.1 v_p1_need, aC G (r_t 0) 100 v_signs, aI G (r_p1 0) 100 q.2.2.1, aI G (r_p1 1) 100 q.2.2.2.1] q.1) (ih_X5_either : ct_X5_either G K.2.1 rec_X5_either (6 + d)) (ih_X5_both : ct_X5_both G K.2.1 rec_X5_both (6 + d)) (ih_X5_factor : ct_X5_factor G K.2.1 rec_X5_factor (6 + d)) {k10 : Int32 → Int32 → Int32 → (Nat → Int32) → (Nat → Int32) → Int32 → Int32 → Option (Int32 × Int32 × (Nat → Int32) × (Nat → Int32) × Int32 × Int32)} (hk10 : ∀ (x3 : Int32) (x4 : Int32) (w_at : Int32) (w_p1_steps : Nat → Int32) (w_p1_numbers : Nat → Int32) (w_p1_length : Int32) (w_number : Int32), k10 x3 x4 w_at w_p1_steps w_p1_numbers w_p1_length w_number = some q → J G K 5 0 0 [oX5 a_t r_t v_length w_at w_number, oX2 a_p1 r_p1 w_p1_length v_p1_need, aC G (r_t 0) 100 v_signs, aI G (r_p1 0) 100 w_p1_steps, aI G (r_p1 1) 100 w_p1_numbers] [(0, .ref a_t), (1, .ref a_p1), (2, .int p2), (3, .int x3), (4, .int x4)] 10 []) {x3 : Int32} {x4 : Int32} {w_at : Int32} {w_p1_steps : Nat → Int32} {w_p1_numbers : Nat → Int32} {w_p1_length : Int32} {w_number : Int32} (hf : f_X5_either_10_b rec_X5_either rec_X5_both rec_X5_factor v_length v_signs p2 k10 x3 x4 w_at w_p1_steps w_p1_numbers w_p1_length w_number = some q) : J G K 5 0 0 [oX5 a_t r_t v_length w_at w_number, oX2 a_p1 r_p1 w_p1_length v_p1_need, aC G (r_t 0) 100 v_signs, aI G (r_p1 0) 100 w_p1_steps, aI G (r_p1 1) 100 w_p1_numbers] [(0, .ref a_t), (1, .ref a_p1), (2, .int p2), (3, .int x3), (4, .int x4)] 10 [] := by
  unfold f_X5_either_10_b at hf
  refine j_iload C (pc := 10) 4 rfl dX5_either_10 ?_
  refine j_bipush C (pc := 12) (v := 100) (by decide) dX5_either_12 ?_
  refine j_icmp_ge C (pc := 14) 50 dX5_either_14 (by decide) hf (fun hf => ?_) (fun hf => ?_)
  · refine j_iload_n C (pc := 50) 3 rfl rfl dX5_either_50 ?_
    obtain ⟨hn, hf⟩ := gn_boolean hf
    obtain rfl := Option.some.inj hf
    exact hQ _ _ dX5_either_51 hn
  · refine j_iload_n C (pc := 17) 3 rfl rfl dX5_either_17 ?_
    refine j_if_eq C (pc := 18) 50 dX5_either_18 (by decide) hf (fun hf => ?_) (fun hf => ?_)
    · refine j_iload_n C (pc := 50) 3 rfl rfl dX5_either_50 ?_
      obtain ⟨hn, hf⟩ := gn_boolean hf
      obtain rfl := Option.some.inj hf
      exact hQ _ _ dX5_either_51 hn
    · refine j_aload_n C (pc := 21) 0 rfl rfl dX5_either_21 ?_
      refine j_bipush C (pc := 22) (v := 124) (by decide) dX5_either_22 ?_
      refine j_cVI C (pc := 24) (As := [.int (124 : Int32)]) (st := []) (ws' := fun q1 => [oX5 a_t r_t v_length q1.2 w_number, oX2 a_p1 r_p1 w_p1_length v_p1_need, aC G (r_t 0) 100 v_signs, aI G (r_p1 0) 100 w_p1_steps, aI G (r_p1 1) 100 w_p1_numbers]) ml_X5_27 ms_X5_take hf (fun q1 h => (c_X5_take G K.2.1) a_t r_t v_length w_at w_number v_signs (124 : Int32) q1 h) [0, 2] [some 0, none, some 1, none, none] 5 rfl (by decide +kernel) (by decide +kernel) (fun _ => rfl) (fun _ => rfl) (Nat.ble_eq_true_of_le (by omega)) rfl rfl rfl ⟨Nat.zero_le _, Nat.zero_le _⟩ dX5_either_24 kc_X5 0 rfl (fun q1 hf => ?_)
      refine j_if_eq C (pc := 27) 50 dX5_either_27 (by decide) hf (fun hf => ?_) (fun hf => ?_)
      · refine j_iload_n C (pc := 50) 3 rfl rfl dX5_either_50 ?_
        obtain ⟨hn, hf⟩ := gn_boolean hf
        obtain rfl := Option.some.inj hf
        exact hQ _ _ dX5_either_51 hn
      · refine j_aload_n C (pc := 30) 0 rfl rfl dX5_either_30 ?_
        refine j_aload_n C (pc := 31) 1 rfl rfl dX5_either_31 ?_
        refine j_iload_n C (pc := 32) 2 rfl rfl dX5_either_32 ?_
        refine j_cVI C (pc := 33) (As := [.ref a_p1, .int p2]) (st := []) (ws' := fun q2 => [oX5 a_t r_t v_length q2.2.1 q2.2.2.2.2.2, oX2 a_p1 r_p1 q2.2.2.2.2.1 v_p1_need, aC G (r_t 0) 100 v_signs, aI G (r_p1 0) 100 q2.2.2.1, aI G (r_p1 1) 100 q2.2.2.2.1]) ml_X5_76 ms_X5_both hf (fun q2 h => ih_X5_both a_t r_t a_p1 r_p1 v_length q1.2 w_number w_p1_length v_p1_need v_signs w_p1_steps w_p1_numbers p2 q2 h) [0, 1, 2, 3, 4] [some 0, some 1, some 2, some 3, some 4] 5 rfl (by decide +kernel) (by decide +kernel) (fun _ => rfl) (fun _ => rfl) (Nat.ble_eq_true_of_le (by omega)) rfl rfl rfl ⟨Nat.zero_le _, Nat.zero_le _⟩ dX5_either_33 kc_X5 0 rfl (fun q2 hf => ?_)
        refine j_istore_n C (pc := 36) (L' := [(3, .int q2.1), (0, .ref a_t), (1, .ref a_p1), (2, .int p2), (4, .int x4)]) dX5_either_36 rfl (by decide) rfl ?_
        refine j_aload_n C (pc := 37) 2 rfl rfl dX5_either_37 ?_
        refine j_bipush C (pc := 38) (v := -3) (by decide) dX5_either_38 ?_
        refine j_iconst C (pc := 40) (v := 0) (by decide) dX5_either_40 ?_
        refine j_cVZ C (pc := 41) (As := [.int (-3 : Int32), .int (0 : Int32)]) (st := []) (ws' := fun q3 => [oX5 a_t r_t v_length q2.2.1 q2.2.2.2.2.2, oX2 a_p1 r_p1 q3.2.2 v_p1_need, aC G (r_t 0) 100 v_signs, aI G (r_p1 0) 100 q3.1, aI G (r_p1 1) 100 q3.2.1]) ml_X5_72 ms_X2_put hf (fun q3 h => (c_X2_put G K.2.1) a_p1 r_p1 q2.2.2.2.2.1 v_p1_need q2.2.2.1 q2.2.2.2.1 (-3 : Int32) (0 : Int32) q3 h) [1, 3, 4] [none, some 0, none, some 1, some 2] 5 rfl (by decide +kernel) (by decide +kernel) (fun _ => rfl) (fun _ => rfl) (Nat.ble_eq_true_of_le (by omega)) rfl rfl rfl ⟨Nat.zero_le _, Nat.zero_le _⟩ dX5_either_41 kc_X2 1 rfl (fun q3 hf => ?_)
        refine j_iinc C (pc := 44) (L' := [(4, .int (x4 + (1 : Int32))), (3, .int q2.1), (0, .ref a_t), (1, .ref a_p1), (2, .int p2)]) (v := x4 + (1 : Int32)) dX5_either_44 (t := 4) rfl rfl (by decide) rfl ?_
        refine j_goto C (pc := 47) 10 dX5_either_47 (by decide) ?_
        refine j_sub [2, 3, 4, 1, 0] rfl ?_
        exact hk10 _ _ _ _ _ _ _ hf
theorem t_X5_either_10 {G : Gx} {K : Kx} {d : Nat} {rec_X5_either : Int32 → Int32 → Int32 → Int32 → (Nat → Int32) → (Nat → Int32) → (Nat → Int32) → Int32 → Option (Int32 × Int32 × (Nat → Int32) × (Nat → Int32) × Int32 × Int32)} {rec_X5_both : Int32 → Int32 → Int32 → Int32 → (Nat → Int32) → (Nat → Int32) → (Nat → Int32) → Int32 → Option (Int32 × Int32 × (Nat → Int32) × (Nat → Int32) × Int32 × Int32)} {rec_X5_factor : Int32 → Int32 → Int32 → Int32 → (Nat → Int32) → (Nat → Int32) → (Nat → Int32) → Int32 → Option (Int32 × Int32 × Int32 × (Nat → Int32) × (Nat → Int32) × Int32)} (C : Cx G K cX5_either RX5 5 (6 + (d + 1))) {a_t : Nat} {r_t : Nat → Nat} {a_p1 : Nat} {r_p1 : Nat → Nat} {v_length : Int32} {v_p1_need : Int32} {v_signs : Nat → Int32} {p2 : Int32} {q : Int32 × Int32 × (Nat → Int32) × (Nat → Int32) × Int32 × Int32} (hQ : k_retI G K cX5_either 5 .boolean [oX5 a_t r_t v_length q.2.1 q.2.2.2.2.2, oX2 a_p1 r_p1 q.2.2.2.2.1 v_p1_need, aC G (r_t 0) 100 v_signs, aI G (r_p1 0) 100 q.2.2.1, aI G (r_p1 1) 100 q.2.2.2.1] q.1) (ih_X5_either : ct_X5_either G K.2.1 rec_X5_either (6 + d)) (ih_X5_both : ct_X5_both G K.2.1 rec_X5_both (6 + d)) (ih_X5_factor : ct_X5_factor G K.2.1 rec_X5_factor (6 + d)) : ∀ (n : Nat) (x3 : Int32) (x4 : Int32) (w_at : Int32) (w_p1_steps : Nat → Int32) (w_p1_numbers : Nat → Int32) (w_p1_length : Int32) (w_number : Int32), f_X5_either_10 rec_X5_either rec_X5_both rec_X5_factor v_length v_signs p2 n x3 x4 w_at w_p1_steps w_p1_numbers w_p1_length w_number = some q → J G K 5 0 0 [oX5 a_t r_t v_length w_at w_number, oX2 a_p1 r_p1 w_p1_length v_p1_need, aC G (r_t 0) 100 v_signs, aI G (r_p1 0) 100 w_p1_steps, aI G (r_p1 1) 100 w_p1_numbers] [(0, .ref a_t), (1, .ref a_p1), (2, .int p2), (3, .int x3), (4, .int x4)] 10 [] := by
  intro n
  induction n with
  | zero => intro x3 x4 w_at w_p1_steps w_p1_numbers w_p1_length w_number hf; cases hf
  | succ n ih => intro x3 x4 w_at w_p1_steps w_p1_numbers w_p1_length w_number hf; exact t_X5_either_10_b C hQ ih_X5_either ih_X5_both ih_X5_factor ih hf
def f_X5_either_b (rec_X5_either : Int32 → Int32 → Int32 → Int32 → (Nat → Int32) → (Nat → Int32) → (Nat → Int32) → Int32 → Option (Int32 × Int32 × (Nat → Int32) × (Nat → Int32) × Int32 × Int32)) (rec_X5_both : Int32 → Int32 → Int32 → Int32 → (Nat → Int32) → (Nat → Int32) → (Nat → Int32) → Int32 → Option (Int32 × Int32 × (Nat → Int32) × (Nat → Int32) × Int32 × Int32)) (rec_X5_factor : Int32 → Int32 → Int32 → Int32 → (Nat → Int32) → (Nat → Int32) → (Nat → Int32) → Int32 → Option (Int32 × Int32 × Int32 × (Nat → Int32) × (Nat → Int32) × Int32)) (v_length : Int32) (v_at : Int32) (v_number : Int32) (v_p1_length : Int32) (v_signs : Nat → Int32) (v_p1_steps : Nat → Int32) (v_p1_numbers : Nat → Int32) (p2 : Int32) : Option (Int32 × Int32 × (Nat → Int32) × (Nat → Int32) × Int32 × Int32) := ((rec_X5_both v_length v_at v_number v_p1_length v_signs v_p1_steps v_p1_numbers p2).bind fun q1 => (f_X5_either_10 rec_X5_either rec_X5_both rec_X5_factor v_length v_signs p2 1000 q1.1 (0 : Int32) q1.2.1 q1.2.2.1 q1.2.2.2.1 q1.2.2.2.2.1 q1.2.2.2.2.2))
set_option maxRecDepth 20000 in
set_option maxHeartbeats 1000000 in
theorem t_X5_either {G : Gx} {K : Kx} {d : Nat} {rec_X5_either : Int32 → Int32 → Int32 → Int32 → (Nat → Int32) → (Nat → Int32) → (Nat → Int32) → Int32 → Option (Int32 × Int32 × (Nat → Int32) × (Nat → Int32) × Int32 × Int32)} {rec_X5_both : Int32 → Int32 → Int32 → Int32 → (Nat → Int32) → (Nat → Int32) → (Nat → Int32) → Int32 → Option (Int32 × Int32 × (Nat → Int32) × (Nat → Int32) × Int32 × Int32)} {rec_X5_factor : Int32 → Int32 → Int32 → Int32 → (Nat → Int32) → (Nat → Int32) → (Nat → Int32) → Int32 → Option (Int32 × Int32 × Int32 × (Nat → Int32) × (Nat → Int32) × Int32)} (C : Cx G K cX5_either RX5 5 (6 + (d + 1))) {a_t : Nat} {r_t : Nat → Nat} {a_p1 : Nat} {r_p1 : Nat → Nat} {v_length : Int32} {v_at : Int32} {v_number : Int32} {v_p1_length : Int32} {v_p1_need : Int32} {v_signs : Nat → Int32} {v_p1_steps : Nat → Int32} {v_p1_numbers : Nat → Int32} {p2 : Int32} {q : Int32 × Int32 × (Nat → Int32) × (Nat → Int32) × Int32 × Int32} (hQ : k_retI G K cX5_either 5 .boolean [oX5 a_t r_t v_length q.2.1 q.2.2.2.2.2, oX2 a_p1 r_p1 q.2.2.2.2.1 v_p1_need, aC G (r_t 0) 100 v_signs, aI G (r_p1 0) 100 q.2.2.1, aI G (r_p1 1) 100 q.2.2.2.1] q.1) (ih_X5_either : ct_X5_either G K.2.1 rec_X5_either (6 + d)) (ih_X5_both : ct_X5_both G K.2.1 rec_X5_both (6 + d)) (ih_X5_factor : ct_X5_factor G K.2.1 rec_X5_factor (6 + d)) (hf : f_X5_either_b rec_X5_either rec_X5_both rec_X5_factor v_length v_at v_number v_p1_length v_signs v_p1_steps v_p1_numbers p2 = some q) : J G K 5 0 0 [oX5 a_t r_t v_length v_at v_number, oX2 a_p1 r_p1 v_p1_length v_p1_need, aC G (r_t 0) 100 v_signs, aI G (r_p1 0) 100 v_p1_steps, aI G (r_p1 1) 100 v_p1_numbers] [(0, .ref a_t), (1, .ref a_p1), (2, .int p2)] 0 [] := by
  unfold f_X5_either_b at hf
  refine j_aload_n C (pc := 0) 0 rfl rfl dX5_either_0 ?_
  refine j_aload_n C (pc := 1) 1 rfl rfl dX5_either_1 ?_
  refine j_iload_n C (pc := 2) 2 rfl rfl dX5_either_2 ?_
  refine j_cVI C (pc := 3) (As := [.ref a_p1, .int p2]) (st := []) (ws' := fun q1 => [oX5 a_t r_t v_length q1.2.1 q1.2.2.2.2.2, oX2 a_p1 r_p1 q1.2.2.2.2.1 v_p1_need, aC G (r_t 0) 100 v_signs, aI G (r_p1 0) 100 q1.2.2.1, aI G (r_p1 1) 100 q1.2.2.2.1]) ml_X5_76 ms_X5_both hf (fun q1 h => ih_X5_both a_t r_t a_p1 r_p1 v_length v_at v_number v_p1_length v_p1_need v_signs v_p1_steps v_p1_numbers p2 q1 h) [0, 1, 2, 3, 4] [some 0, some 1, some 2, some 3, some 4] 5 rfl (by decide +kernel) (by decide +kernel) (fun _ => rfl) (fun _ => rfl) (Nat.ble_eq_true_of_le (by omega)) rfl rfl rfl ⟨Nat.zero_le _, Nat.zero_le _⟩ dX5_either_3 kc_X5 0 rfl (fun q1 hf => ?_)
  refine j_istore_n C (pc := 6) (L' := [(3, .int q1.1), (0, .ref a_t), (1, .ref a_p1), (2, .int p2)]) dX5_either_6 rfl (by decide) rfl ?_
  refine j_iconst C (pc := 7) (v := 0) (by decide) dX5_either_7 ?_
  refine j_istore C (pc := 8) (L' := [(4, .int (0 : Int32)), (3, .int q1.1), (0, .ref a_t), (1, .ref a_p1), (2, .int p2)]) dX5_either_8 (by decide) rfl ?_
  refine j_sub [2, 3, 4, 1, 0] rfl ?_
  exact t_X5_either_10 C hQ ih_X5_either ih_X5_both ih_X5_factor 1000 _ _ _ _ _ _ _ hf
-- X5_both
def f_X5_both_10_b (rec_X5_either : Int32 → Int32 → Int32 → Int32 → (Nat → Int32) → (Nat → Int32) → (Nat → Int32) → Int32 → Option (Int32 × Int32 × (Nat → Int32) × (Nat → Int32) × Int32 × Int32)) (rec_X5_both : Int32 → Int32 → Int32 → Int32 → (Nat → Int32) → (Nat → Int32) → (Nat → Int32) → Int32 → Option (Int32 × Int32 × (Nat → Int32) × (Nat → Int32) × Int32 × Int32)) (rec_X5_factor : Int32 → Int32 → Int32 → Int32 → (Nat → Int32) → (Nat → Int32) → (Nat → Int32) → Int32 → Option (Int32 × Int32 × Int32 × (Nat → Int32) × (Nat → Int32) × Int32)) (v_length : Int32) (v_signs : Nat → Int32) (p2 : Int32) (k10 : Int32 → Int32 → Int32 → (Nat → Int32) → (Nat → Int32) → Int32 → Int32 → Option (Int32 × Int32 × (Nat → Int32) × (Nat → Int32) × Int32 × Int32)) (x3 : Int32) (x4 : Int32) (w_at : Int32) (w_p1_steps : Nat → Int32) (w_p1_numbers : Nat → Int32) (w_p1_length : Int32) (w_number : Int32) : Option (Int32 × Int32 × (Nat → Int32) × (Nat → Int32) × Int32 × Int32) := (if (100 : Int32) ≤ x4 then (gn .boolean x3 (some (x3, w_at, w_p1_steps, w_p1_numbers, w_p1_length, w_number))) else (if x3 = 0 then (gn .boolean x3 (some (x3, w_at, w_p1_steps, w_p1_numbers, w_p1_length, w_number))) else ((f_X5_take v_length w_at v_signs (38 : Int32)).bind fun q1 => (if q1.1 = 0 then (gn .boolean x3 (some (x3, q1.2, w_p1_steps, w_p1_numbers, w_p1_length, w_number))) else ((rec_X5_factor v_length q1.2 w_number w_p1_length v_signs w_p1_steps w_p1_numbers p2).bind fun q2 => ((f_X2_put q2.2.2.2.2.2 q2.2.2.2.1 q2.2.2.2.2.1 (-2 : Int32) (0 : Int32)).bind fun q3 => (k10 q2.1 (x4 + (1 : Int32)) q2.2.1 q3.1 q3.2.1 q3.2.2 q2.2.2.1)))))))
def f_X5_both_10 (rec_X5_either : Int32 → Int32 → Int32 → Int32 → (Nat → Int32) → (Nat → Int32) → (Nat → Int32) → Int32 → Option (Int32 × Int32 × (Nat → Int32) × (Nat → Int32) × Int32 × Int32)) (rec_X5_both : Int32 → Int32 → Int32 → Int32 → (Nat → Int32) → (Nat → Int32) → (Nat → Int32) → Int32 → Option (Int32 × Int32 × (Nat → Int32) × (Nat → Int32) × Int32 × Int32)) (rec_X5_factor : Int32 → Int32 → Int32 → Int32 → (Nat → Int32) → (Nat → Int32) → (Nat → Int32) → Int32 → Option (Int32 × Int32 × Int32 × (Nat → Int32) × (Nat → Int32) × Int32)) (v_length : Int32) (v_signs : Nat → Int32) (p2 : Int32) : Nat → Int32 → Int32 → Int32 → (Nat → Int32) → (Nat → Int32) → Int32 → Int32 → Option (Int32 × Int32 × (Nat → Int32) × (Nat → Int32) × Int32 × Int32)
  | 0 => fun _ _ _ _ _ _ _ => none
  | n + 1 => f_X5_both_10_b rec_X5_either rec_X5_both rec_X5_factor v_length v_signs p2 (f_X5_both_10 rec_X5_either rec_X5_both rec_X5_factor v_length v_signs p2 n)
set_option maxRecDepth 20000 in
set_option maxHeartbeats 1000000 in
theorem t_X5_both_10_b {G : Gx} {K : Kx} {d : Nat} {rec_X5_either : Int32 → Int32 → Int32 → Int32 → (Nat → Int32) → (Nat → Int32) → (Nat → Int32) → Int32 → Option (Int32 × Int32 × (Nat → Int32) × (Nat → Int32) × Int32 × Int32)} {rec_X5_both : Int32 → Int32 → Int32 → Int32 → (Nat → Int32) → (Nat → Int32) → (Nat → Int32) → Int32 → Option (Int32 × Int32 × (Nat → Int32) × (Nat → Int32) × Int32 × Int32)} {rec_X5_factor : Int32 → Int32 → Int32 → Int32 → (Nat → Int32) → (Nat → Int32) → (Nat → Int32) → Int32 → Option (Int32 × Int32 × Int32 × (Nat → Int32) × (Nat → Int32) × Int32)} (C : Cx G K cX5_both RX5 5 (6 + (d + 1))) {a_t : Nat} {r_t : Nat → Nat} {a_p1 : Nat} {r_p1 : Nat → Nat} {v_length : Int32} {v_p1_need : Int32} {v_signs : Nat → Int32} {p2 : Int32} {q : Int32 × Int32 × (Nat → Int32) × (Nat → Int32) × Int32 × Int32} (hQ : k_retI G K cX5_both 5 .boolean [oX5 a_t r_t v_length q.2.1 q.2.2.2.2.2, oX2 a_p1 r_p1 q.2.2.2.2.1 v_p1_need, aC G (r_t 0) 100 v_signs, aI G (r_p1 0) 100 q.2.2.1, aI G (r_p1 1) 100 q.2.2.2.1] q.1) (ih_X5_either : ct_X5_either G K.2.1 rec_X5_either (6 + d)) (ih_X5_both : ct_X5_both G K.2.1 rec_X5_both (6 + d)) (ih_X5_factor : ct_X5_factor G K.2.1 rec_X5_factor (6 + d)) {k10 : Int32 → Int32 → Int32 → (Nat → Int32) → (Nat → Int32) → Int32 → Int32 → Option (Int32 × Int32 × (Nat → Int32) × (Nat → Int32) × Int32 × Int32)} (hk10 : ∀ (x3 : Int32) (x4 : Int32) (w_at : Int32) (w_p1_steps : Nat → Int32) (w_p1_numbers : Nat → Int32) (w_p1_length : Int32) (w_number : Int32), k10 x3 x4 w_at w_p1_steps w_p1_numbers w_p1_length w_number = some q → J G K 5 0 0 [oX5 a_t r_t v_length w_at w_number, oX2 a_p1 r_p1 w_p1_length v_p1_need, aC G (r_t 0) 100 v_signs, aI G (r_p1 0) 100 w_p1_steps, aI G (r_p1 1) 100 w_p1_numbers] [(0, .ref a_t), (1, .ref a_p1), (2, .int p2), (3, .int x3), (4, .int x4)] 10 []) {x3 : Int32} {x4 : Int32} {w_at : Int32} {w_p1_steps : Nat → Int32} {w_p1_numbers : Nat → Int32} {w_p1_length : Int32} {w_number : Int32} (hf : f_X5_both_10_b rec_X5_either rec_X5_both rec_X5_factor v_length v_signs p2 k10 x3 x4 w_at w_p1_steps w_p1_numbers w_p1_length w_number = some q) : J G K 5 0 0 [oX5 a_t r_t v_length w_at w_number, oX2 a_p1 r_p1 w_p1_length v_p1_need, aC G (r_t 0) 100 v_signs, aI G (r_p1 0) 100 w_p1_steps, aI G (r_p1 1) 100 w_p1_numbers] [(0, .ref a_t), (1, .ref a_p1), (2, .int p2), (3, .int x3), (4, .int x4)] 10 [] := by
  unfold f_X5_both_10_b at hf
  refine j_iload C (pc := 10) 4 rfl dX5_both_10 ?_
  refine j_bipush C (pc := 12) (v := 100) (by decide) dX5_both_12 ?_
  refine j_icmp_ge C (pc := 14) 50 dX5_both_14 (by decide) hf (fun hf => ?_) (fun hf => ?_)
  · refine j_iload_n C (pc := 50) 3 rfl rfl dX5_both_50 ?_
    obtain ⟨hn, hf⟩ := gn_boolean hf
    obtain rfl := Option.some.inj hf
    exact hQ _ _ dX5_both_51 hn
  · refine j_iload_n C (pc := 17) 3 rfl rfl dX5_both_17 ?_
    refine j_if_eq C (pc := 18) 50 dX5_both_18 (by decide) hf (fun hf => ?_) (fun hf => ?_)
    · refine j_iload_n C (pc := 50) 3 rfl rfl dX5_both_50 ?_
      obtain ⟨hn, hf⟩ := gn_boolean hf
      obtain rfl := Option.some.inj hf
      exact hQ _ _ dX5_both_51 hn
    · refine j_aload_n C (pc := 21) 0 rfl rfl dX5_both_21 ?_
      refine j_bipush C (pc := 22) (v := 38) (by decide) dX5_both_22 ?_
      refine j_cVI C (pc := 24) (As := [.int (38 : Int32)]) (st := []) (ws' := fun q1 => [oX5 a_t r_t v_length q1.2 w_number, oX2 a_p1 r_p1 w_p1_length v_p1_need, aC G (r_t 0) 100 v_signs, aI G (r_p1 0) 100 w_p1_steps, aI G (r_p1 1) 100 w_p1_numbers]) ml_X5_27 ms_X5_take hf (fun q1 h => (c_X5_take G K.2.1) a_t r_t v_length w_at w_number v_signs (38 : Int32) q1 h) [0, 2] [some 0, none, some 1, none, none] 5 rfl (by decide +kernel) (by decide +kernel) (fun _ => rfl) (fun _ => rfl) (Nat.ble_eq_true_of_le (by omega)) rfl rfl rfl ⟨Nat.zero_le _, Nat.zero_le _⟩ dX5_both_24 kc_X5 0 rfl (fun q1 hf => ?_)
      refine j_if_eq C (pc := 27) 50 dX5_both_27 (by decide) hf (fun hf => ?_) (fun hf => ?_)
      · refine j_iload_n C (pc := 50) 3 rfl rfl dX5_both_50 ?_
        obtain ⟨hn, hf⟩ := gn_boolean hf
        obtain rfl := Option.some.inj hf
        exact hQ _ _ dX5_both_51 hn
      · refine j_aload_n C (pc := 30) 0 rfl rfl dX5_both_30 ?_
        refine j_aload_n C (pc := 31) 1 rfl rfl dX5_both_31 ?_
        refine j_iload_n C (pc := 32) 2 rfl rfl dX5_both_32 ?_
        refine j_cVI C (pc := 33) (As := [.ref a_p1, .int p2]) (st := []) (ws' := fun q2 => [oX5 a_t r_t v_length q2.2.1 q2.2.2.1, oX2 a_p1 r_p1 q2.2.2.2.2.2 v_p1_need, aC G (r_t 0) 100 v_signs, aI G (r_p1 0) 100 q2.2.2.2.1, aI G (r_p1 1) 100 q2.2.2.2.2.1]) ml_X5_79 ms_X5_factor hf (fun q2 h => ih_X5_factor a_t r_t a_p1 r_p1 v_length q1.2 w_number w_p1_length v_p1_need v_signs w_p1_steps w_p1_numbers p2 q2 h) [0, 1, 2, 3, 4] [some 0, some 1, some 2, some 3, some 4] 5 rfl (by decide +kernel) (by decide +kernel) (fun _ => rfl) (fun _ => rfl) (Nat.ble_eq_true_of_le (by omega)) rfl rfl rfl ⟨Nat.zero_le _, Nat.zero_le _⟩ dX5_both_33 kc_X5 0 rfl (fun q2 hf => ?_)
        refine j_istore_n C (pc := 36) (L' := [(3, .int q2.1), (0, .ref a_t), (1, .ref a_p1), (2, .int p2), (4, .int x4)]) dX5_both_36 rfl (by decide) rfl ?_
        refine j_aload_n C (pc := 37) 2 rfl rfl dX5_both_37 ?_
        refine j_bipush C (pc := 38) (v := -2) (by decide) dX5_both_38 ?_
        refine j_iconst C (pc := 40) (v := 0) (by decide) dX5_both_40 ?_
        refine j_cVZ C (pc := 41) (As := [.int (-2 : Int32), .int (0 : Int32)]) (st := []) (ws' := fun q3 => [oX5 a_t r_t v_length q2.2.1 q2.2.2.1, oX2 a_p1 r_p1 q3.2.2 v_p1_need, aC G (r_t 0) 100 v_signs, aI G (r_p1 0) 100 q3.1, aI G (r_p1 1) 100 q3.2.1]) ml_X5_72 ms_X2_put hf (fun q3 h => (c_X2_put G K.2.1) a_p1 r_p1 q2.2.2.2.2.2 v_p1_need q2.2.2.2.1 q2.2.2.2.2.1 (-2 : Int32) (0 : Int32) q3 h) [1, 3, 4] [none, some 0, none, some 1, some 2] 5 rfl (by decide +kernel) (by decide +kernel) (fun _ => rfl) (fun _ => rfl) (Nat.ble_eq_true_of_le (by omega)) rfl rfl rfl ⟨Nat.zero_le _, Nat.zero_le _⟩ dX5_both_41 kc_X2 1 rfl (fun q3 hf => ?_)
        refine j_iinc C (pc := 44) (L' := [(4, .int (x4 + (1 : Int32))), (3, .int q2.1), (0, .ref a_t), (1, .ref a_p1), (2, .int p2)]) (v := x4 + (1 : Int32)) dX5_both_44 (t := 4) rfl rfl (by decide) rfl ?_
        refine j_goto C (pc := 47) 10 dX5_both_47 (by decide) ?_
        refine j_sub [2, 3, 4, 1, 0] rfl ?_
        exact hk10 _ _ _ _ _ _ _ hf
theorem t_X5_both_10 {G : Gx} {K : Kx} {d : Nat} {rec_X5_either : Int32 → Int32 → Int32 → Int32 → (Nat → Int32) → (Nat → Int32) → (Nat → Int32) → Int32 → Option (Int32 × Int32 × (Nat → Int32) × (Nat → Int32) × Int32 × Int32)} {rec_X5_both : Int32 → Int32 → Int32 → Int32 → (Nat → Int32) → (Nat → Int32) → (Nat → Int32) → Int32 → Option (Int32 × Int32 × (Nat → Int32) × (Nat → Int32) × Int32 × Int32)} {rec_X5_factor : Int32 → Int32 → Int32 → Int32 → (Nat → Int32) → (Nat → Int32) → (Nat → Int32) → Int32 → Option (Int32 × Int32 × Int32 × (Nat → Int32) × (Nat → Int32) × Int32)} (C : Cx G K cX5_both RX5 5 (6 + (d + 1))) {a_t : Nat} {r_t : Nat → Nat} {a_p1 : Nat} {r_p1 : Nat → Nat} {v_length : Int32} {v_p1_need : Int32} {v_signs : Nat → Int32} {p2 : Int32} {q : Int32 × Int32 × (Nat → Int32) × (Nat → Int32) × Int32 × Int32} (hQ : k_retI G K cX5_both 5 .boolean [oX5 a_t r_t v_length q.2.1 q.2.2.2.2.2, oX2 a_p1 r_p1 q.2.2.2.2.1 v_p1_need, aC G (r_t 0) 100 v_signs, aI G (r_p1 0) 100 q.2.2.1, aI G (r_p1 1) 100 q.2.2.2.1] q.1) (ih_X5_either : ct_X5_either G K.2.1 rec_X5_either (6 + d)) (ih_X5_both : ct_X5_both G K.2.1 rec_X5_both (6 + d)) (ih_X5_factor : ct_X5_factor G K.2.1 rec_X5_factor (6 + d)) : ∀ (n : Nat) (x3 : Int32) (x4 : Int32) (w_at : Int32) (w_p1_steps : Nat → Int32) (w_p1_numbers : Nat → Int32) (w_p1_length : Int32) (w_number : Int32), f_X5_both_10 rec_X5_either rec_X5_both rec_X5_factor v_length v_signs p2 n x3 x4 w_at w_p1_steps w_p1_numbers w_p1_length w_number = some q → J G K 5 0 0 [oX5 a_t r_t v_length w_at w_number, oX2 a_p1 r_p1 w_p1_length v_p1_need, aC G (r_t 0) 100 v_signs, aI G (r_p1 0) 100 w_p1_steps, aI G (r_p1 1) 100 w_p1_numbers] [(0, .ref a_t), (1, .ref a_p1), (2, .int p2), (3, .int x3), (4, .int x4)] 10 [] := by
  intro n
  induction n with
  | zero => intro x3 x4 w_at w_p1_steps w_p1_numbers w_p1_length w_number hf; cases hf
  | succ n ih => intro x3 x4 w_at w_p1_steps w_p1_numbers w_p1_length w_number hf; exact t_X5_both_10_b C hQ ih_X5_either ih_X5_both ih_X5_factor ih hf
def f_X5_both_b (rec_X5_either : Int32 → Int32 → Int32 → Int32 → (Nat → Int32) → (Nat → Int32) → (Nat → Int32) → Int32 → Option (Int32 × Int32 × (Nat → Int32) × (Nat → Int32) × Int32 × Int32)) (rec_X5_both : Int32 → Int32 → Int32 → Int32 → (Nat → Int32) → (Nat → Int32) → (Nat → Int32) → Int32 → Option (Int32 × Int32 × (Nat → Int32) × (Nat → Int32) × Int32 × Int32)) (rec_X5_factor : Int32 → Int32 → Int32 → Int32 → (Nat → Int32) → (Nat → Int32) → (Nat → Int32) → Int32 → Option (Int32 × Int32 × Int32 × (Nat → Int32) × (Nat → Int32) × Int32)) (v_length : Int32) (v_at : Int32) (v_number : Int32) (v_p1_length : Int32) (v_signs : Nat → Int32) (v_p1_steps : Nat → Int32) (v_p1_numbers : Nat → Int32) (p2 : Int32) : Option (Int32 × Int32 × (Nat → Int32) × (Nat → Int32) × Int32 × Int32) := ((rec_X5_factor v_length v_at v_number v_p1_length v_signs v_p1_steps v_p1_numbers p2).bind fun q1 => (f_X5_both_10 rec_X5_either rec_X5_both rec_X5_factor v_length v_signs p2 1000 q1.1 (0 : Int32) q1.2.1 q1.2.2.2.1 q1.2.2.2.2.1 q1.2.2.2.2.2 q1.2.2.1))
set_option maxRecDepth 20000 in
set_option maxHeartbeats 1000000 in
theorem t_X5_both {G : Gx} {K : Kx} {d : Nat} {rec_X5_either : Int32 → Int32 → Int32 → Int32 → (Nat → Int32) → (Nat → Int32) → (Nat → Int32) → Int32 → Option (Int32 × Int32 × (Nat → Int32) × (Nat → Int32) × Int32 × Int32)} {rec_X5_both : Int32 → Int32 → Int32 → Int32 → (Nat → Int32) → (Nat → Int32) → (Nat → Int32) → Int32 → Option (Int32 × Int32 × (Nat → Int32) × (Nat → Int32) × Int32 × Int32)} {rec_X5_factor : Int32 → Int32 → Int32 → Int32 → (Nat → Int32) → (Nat → Int32) → (Nat → Int32) → Int32 → Option (Int32 × Int32 × Int32 × (Nat → Int32) × (Nat → Int32) × Int32)} (C : Cx G K cX5_both RX5 5 (6 + (d + 1))) {a_t : Nat} {r_t : Nat → Nat} {a_p1 : Nat} {r_p1 : Nat → Nat} {v_length : Int32} {v_at : Int32} {v_number : Int32} {v_p1_length : Int32} {v_p1_need : Int32} {v_signs : Nat → Int32} {v_p1_steps : Nat → Int32} {v_p1_numbers : Nat → Int32} {p2 : Int32} {q : Int32 × Int32 × (Nat → Int32) × (Nat → Int32) × Int32 × Int32} (hQ : k_retI G K cX5_both 5 .boolean [oX5 a_t r_t v_length q.2.1 q.2.2.2.2.2, oX2 a_p1 r_p1 q.2.2.2.2.1 v_p1_need, aC G (r_t 0) 100 v_signs, aI G (r_p1 0) 100 q.2.2.1, aI G (r_p1 1) 100 q.2.2.2.1] q.1) (ih_X5_either : ct_X5_either G K.2.1 rec_X5_either (6 + d)) (ih_X5_both : ct_X5_both G K.2.1 rec_X5_both (6 + d)) (ih_X5_factor : ct_X5_factor G K.2.1 rec_X5_factor (6 + d)) (hf : f_X5_both_b rec_X5_either rec_X5_both rec_X5_factor v_length v_at v_number v_p1_length v_signs v_p1_steps v_p1_numbers p2 = some q) : J G K 5 0 0 [oX5 a_t r_t v_length v_at v_number, oX2 a_p1 r_p1 v_p1_length v_p1_need, aC G (r_t 0) 100 v_signs, aI G (r_p1 0) 100 v_p1_steps, aI G (r_p1 1) 100 v_p1_numbers] [(0, .ref a_t), (1, .ref a_p1), (2, .int p2)] 0 [] := by
  unfold f_X5_both_b at hf
  refine j_aload_n C (pc := 0) 0 rfl rfl dX5_both_0 ?_
  refine j_aload_n C (pc := 1) 1 rfl rfl dX5_both_1 ?_
  refine j_iload_n C (pc := 2) 2 rfl rfl dX5_both_2 ?_
  refine j_cVI C (pc := 3) (As := [.ref a_p1, .int p2]) (st := []) (ws' := fun q1 => [oX5 a_t r_t v_length q1.2.1 q1.2.2.1, oX2 a_p1 r_p1 q1.2.2.2.2.2 v_p1_need, aC G (r_t 0) 100 v_signs, aI G (r_p1 0) 100 q1.2.2.2.1, aI G (r_p1 1) 100 q1.2.2.2.2.1]) ml_X5_79 ms_X5_factor hf (fun q1 h => ih_X5_factor a_t r_t a_p1 r_p1 v_length v_at v_number v_p1_length v_p1_need v_signs v_p1_steps v_p1_numbers p2 q1 h) [0, 1, 2, 3, 4] [some 0, some 1, some 2, some 3, some 4] 5 rfl (by decide +kernel) (by decide +kernel) (fun _ => rfl) (fun _ => rfl) (Nat.ble_eq_true_of_le (by omega)) rfl rfl rfl ⟨Nat.zero_le _, Nat.zero_le _⟩ dX5_both_3 kc_X5 0 rfl (fun q1 hf => ?_)
  refine j_istore_n C (pc := 6) (L' := [(3, .int q1.1), (0, .ref a_t), (1, .ref a_p1), (2, .int p2)]) dX5_both_6 rfl (by decide) rfl ?_
  refine j_iconst C (pc := 7) (v := 0) (by decide) dX5_both_7 ?_
  refine j_istore C (pc := 8) (L' := [(4, .int (0 : Int32)), (3, .int q1.1), (0, .ref a_t), (1, .ref a_p1), (2, .int p2)]) dX5_both_8 (by decide) rfl ?_
  refine j_sub [2, 3, 4, 1, 0] rfl ?_
  exact t_X5_both_10 C hQ ih_X5_either ih_X5_both ih_X5_factor 1000 _ _ _ _ _ _ _ hf
-- X5_factor
def f_X5_factor_34 (rec_X5_either : Int32 → Int32 → Int32 → Int32 → (Nat → Int32) → (Nat → Int32) → (Nat → Int32) → Int32 → Option (Int32 × Int32 × (Nat → Int32) × (Nat → Int32) × Int32 × Int32)) (rec_X5_both : Int32 → Int32 → Int32 → Int32 → (Nat → Int32) → (Nat → Int32) → (Nat → Int32) → Int32 → Option (Int32 × Int32 × (Nat → Int32) × (Nat → Int32) × Int32 × Int32)) (rec_X5_factor : Int32 → Int32 → Int32 → Int32 → (Nat → Int32) → (Nat → Int32) → (Nat → Int32) → Int32 → Option (Int32 × Int32 × Int32 × (Nat → Int32) × (Nat → Int32) × Int32)) (v_length : Int32) (v_at : Int32) (v_number : Int32) (v_p1_length : Int32) (v_signs : Nat → Int32) (v_p1_steps : Nat → Int32) (v_p1_numbers : Nat → Int32) (p2 : Int32) (x3 : Int32) : Option (Int32 × Int32 × Int32 × (Nat → Int32) × (Nat → Int32) × Int32) := (if p2 < (4 : Int32) then (if x3 = 0 then ((rec_X5_either v_length (v_at + (1 : Int32)) v_number v_p1_length v_signs v_p1_steps v_p1_numbers (p2 + (1 : Int32))).bind fun q3 => (if q3.1 = 0 then (some ((0 : Int32), q3.2.1, q3.2.2.2.2.2, q3.2.2.1, q3.2.2.2.1, q3.2.2.2.2.1)) else ((f_X5_take v_length q3.2.1 v_signs (41 : Int32)).bind fun q4 => (if q4.1 = 0 then (some ((0 : Int32), q4.2, q3.2.2.2.2.2, q3.2.2.1, q3.2.2.2.1, q3.2.2.2.2.1)) else (some ((1 : Int32), q4.2, q3.2.2.2.2.2, q3.2.2.1, q3.2.2.2.1, q3.2.2.2.2.1)))))) else ((rec_X5_factor v_length (v_at + (1 : Int32)) v_number v_p1_length v_signs v_p1_steps v_p1_numbers (p2 + (1 : Int32))).bind fun q1 => ((f_X2_put q1.2.2.2.2.2 q1.2.2.2.1 q1.2.2.2.2.1 (-1 : Int32) (0 : Int32)).bind fun q2 => (gn .boolean q1.1 (some (q1.1, q1.2.1, q1.2.2.1, q2.1, q2.2.1, q2.2.2)))))) else (some ((0 : Int32), v_at, v_number, v_p1_steps, v_p1_numbers, v_p1_length)))
set_option maxRecDepth 20000 in
set_option maxHeartbeats 1000000 in
theorem t_X5_factor_34 {G : Gx} {K : Kx} {d : Nat} {rec_X5_either : Int32 → Int32 → Int32 → Int32 → (Nat → Int32) → (Nat → Int32) → (Nat → Int32) → Int32 → Option (Int32 × Int32 × (Nat → Int32) × (Nat → Int32) × Int32 × Int32)} {rec_X5_both : Int32 → Int32 → Int32 → Int32 → (Nat → Int32) → (Nat → Int32) → (Nat → Int32) → Int32 → Option (Int32 × Int32 × (Nat → Int32) × (Nat → Int32) × Int32 × Int32)} {rec_X5_factor : Int32 → Int32 → Int32 → Int32 → (Nat → Int32) → (Nat → Int32) → (Nat → Int32) → Int32 → Option (Int32 × Int32 × Int32 × (Nat → Int32) × (Nat → Int32) × Int32)} (C : Cx G K cX5_factor RX5 5 (6 + (d + 1))) {a_t : Nat} {r_t : Nat → Nat} {a_p1 : Nat} {r_p1 : Nat → Nat} {v_length : Int32} {v_at : Int32} {v_number : Int32} {v_p1_length : Int32} {v_p1_need : Int32} {v_signs : Nat → Int32} {v_p1_steps : Nat → Int32} {v_p1_numbers : Nat → Int32} {p2 : Int32} {q : Int32 × Int32 × Int32 × (Nat → Int32) × (Nat → Int32) × Int32} (hQ : k_retI G K cX5_factor 5 .boolean [oX5 a_t r_t v_length q.2.1 q.2.2.1, oX2 a_p1 r_p1 q.2.2.2.2.2 v_p1_need, aC G (r_t 0) 100 v_signs, aI G (r_p1 0) 100 q.2.2.2.1, aI G (r_p1 1) 100 q.2.2.2.2.1] q.1) (ih_X5_either : ct_X5_either G K.2.1 rec_X5_either (6 + d)) (ih_X5_both : ct_X5_both G K.2.1 rec_X5_both (6 + d)) (ih_X5_factor : ct_X5_factor G K.2.1 rec_X5_factor (6 + d)) {x3 : Int32} (hf : f_X5_factor_34 rec_X5_either rec_X5_both rec_X5_factor v_length v_at v_number v_p1_length v_signs v_p1_steps v_p1_numbers p2 x3 = some q) : J G K 5 0 0 [oX5 a_t r_t v_length v_at v_number, oX2 a_p1 r_p1 v_p1_length v_p1_need, aC G (r_t 0) 100 v_signs, aI G (r_p1 0) 100 v_p1_steps, aI G (r_p1 1) 100 v_p1_numbers] [(0, .ref a_t), (1, .ref a_p1), (2, .int p2), (3, .int x3)] 34 [] := by
  unfold f_X5_factor_34 at hf
  refine j_iload_n C (pc := 34) 2 rfl rfl dX5_factor_34 ?_
  refine j_iconst C (pc := 35) (v := 4) (by decide) dX5_factor_35 ?_
  refine j_icmp_lt C (pc := 36) 41 dX5_factor_36 (by decide) hf (fun hf => ?_) (fun hf => ?_)
  · refine j_aload_n C (pc := 41) 0 rfl rfl dX5_factor_41 ?_
    refine j_dup C (pc := 42) rfl dX5_factor_42 ?_
    refine j_get C (pc := 43) kc_X5 fl_X5_24 0 rfl rfl dX5_factor_43 ?_
    refine j_iconst C (pc := 46) (v := 1) (by decide) dX5_factor_46 ?_
    refine j_iadd C (pc := 47) dX5_factor_47 ?_
    refine j_put C (pc := 48) (ws' := [oX5 a_t r_t v_length (v_at + (1 : Int32)) v_number, oX2 a_p1 r_p1 v_p1_length v_p1_need, aC G (r_t 0) 100 v_signs, aI G (r_p1 0) 100 v_p1_steps, aI G (r_p1 1) 100 v_p1_numbers]) kc_X5 fl_X5_24 0 rfl rfl rfl rfl rfl rfl dX5_factor_48 ?_
    refine j_iload_n C (pc := 51) 3 rfl rfl dX5_factor_51 ?_
    refine j_if_ne C (pc := 52) 81 dX5_factor_52 (by decide) hf (fun hf => ?_) (fun hf => ?_)
    · refine j_aload_n C (pc := 81) 0 rfl rfl dX5_factor_81 ?_
      refine j_aload_n C (pc := 82) 1 rfl rfl dX5_factor_82 ?_
      refine j_iload_n C (pc := 83) 2 rfl rfl dX5_factor_83 ?_
      refine j_iconst C (pc := 84) (v := 1) (by decide) dX5_factor_84 ?_
      refine j_iadd C (pc := 85) dX5_factor_85 ?_
      refine j_cVI C (pc := 86) (As := [.ref a_p1, .int (p2 + (1 : Int32))]) (st := []) (ws' := fun q1 => [oX5 a_t r_t v_length q1.2.1 q1.2.2.1, oX2 a_p1 r_p1 q1.2.2.2.2.2 v_p1_need, aC G (r_t 0) 100 v_signs, aI G (r_p1 0) 100 q1.2.2.2.1, aI G (r_p1 1) 100 q1.2.2.2.2.1]) ml_X5_79 ms_X5_factor hf (fun q1 h => ih_X5_factor a_t r_t a_p1 r_p1 v_length (v_at + (1 : Int32)) v_number v_p1_length v_p1_need v_signs v_p1_steps v_p1_numbers (p2 + (1 : Int32)) q1 h) [0, 1, 2, 3, 4] [some 0, some 1, some 2, some 3, some 4] 5 rfl (by decide +kernel) (by decide +kernel) (fun _ => rfl) (fun _ => rfl) (Nat.ble_eq_true_of_le (by omega)) rfl rfl rfl ⟨Nat.zero_le _, Nat.zero_le _⟩ dX5_factor_86 kc_X5 0 rfl (fun q1 hf => ?_)
      refine j_istore C (pc := 89) (L' := [(4, .int q1.1), (0, .ref a_t), (1, .ref a_p1), (2, .int p2), (3, .int x3)]) dX5_factor_89 (by decide) rfl ?_
      refine j_aload_n C (pc := 91) 2 rfl rfl dX5_factor_91 ?_
      refine j_iconst C (pc := 92) (v := -1) (by decide) dX5_factor_92 ?_
      refine j_iconst C (pc := 93) (v := 0) (by decide) dX5_factor_93 ?_
      refine j_cVZ C (pc := 94) (As := [.int (-1 : Int32), .int (0 : Int32)]) (st := []) (ws' := fun q2 => [oX5 a_t r_t v_length q1.2.1 q1.2.2.1, oX2 a_p1 r_p1 q2.2.2 v_p1_need, aC G (r_t 0) 100 v_signs, aI G (r_p1 0) 100 q2.1, aI G (r_p1 1) 100 q2.2.1]) ml_X5_72 ms_X2_put hf (fun q2 h => (c_X2_put G K.2.1) a_p1 r_p1 q1.2.2.2.2.2 v_p1_need q1.2.2.2.1 q1.2.2.2.2.1 (-1 : Int32) (0 : Int32) q2 h) [1, 3, 4] [none, some 0, none, some 1, some 2] 5 rfl (by decide +kernel) (by decide +kernel) (fun _ => rfl) (fun _ => rfl) (Nat.ble_eq_true_of_le (by omega)) rfl rfl rfl ⟨Nat.zero_le _, Nat.zero_le _⟩ dX5_factor_94 kc_X2 1 rfl (fun q2 hf => ?_)
      refine j_iload C (pc := 97) 0 rfl dX5_factor_97 ?_
      obtain ⟨hn, hf⟩ := gn_boolean hf
      obtain rfl := Option.some.inj hf
      exact hQ _ _ dX5_factor_99 hn
    · refine j_aload_n C (pc := 55) 0 rfl rfl dX5_factor_55 ?_
      refine j_aload_n C (pc := 56) 1 rfl rfl dX5_factor_56 ?_
      refine j_iload_n C (pc := 57) 2 rfl rfl dX5_factor_57 ?_
      refine j_iconst C (pc := 58) (v := 1) (by decide) dX5_factor_58 ?_
      refine j_iadd C (pc := 59) dX5_factor_59 ?_
      refine j_cVI C (pc := 60) (As := [.ref a_p1, .int (p2 + (1 : Int32))]) (st := []) (ws' := fun q3 => [oX5 a_t r_t v_length q3.2.1 q3.2.2.2.2.2, oX2 a_p1 r_p1 q3.2.2.2.2.1 v_p1_need, aC G (r_t 0) 100 v_signs, aI G (r_p1 0) 100 q3.2.2.1, aI G (r_p1 1) 100 q3.2.2.2.1]) ml_X5_68 ms_X5_either hf (fun q3 h => ih_X5_either a_t r_t a_p1 r_p1 v_length (v_at + (1 : Int32)) v_number v_p1_length v_p1_need v_signs v_p1_steps v_p1_numbers (p2 + (1 : Int32)) q3 h) [0, 1, 2, 3, 4] [some 0, some 1, some 2, some 3, some 4] 5 rfl (by decide +kernel) (by decide +kernel) (fun _ => rfl) (fun _ => rfl) (Nat.ble_eq_true_of_le (by omega)) rfl rfl rfl ⟨Nat.zero_le _, Nat.zero_le _⟩ dX5_factor_60 kc_X5 0 rfl (fun q3 hf => ?_)
      refine j_if_eq C (pc := 63) 79 dX5_factor_63 (by decide) hf (fun hf => ?_) (fun hf => ?_)
      · refine j_iconst C (pc := 79) (v := 0) (by decide) dX5_factor_79 ?_
        obtain rfl := Option.some.inj hf
        exact hQ _ _ dX5_factor_80 (show narrow .boolean (.int (0 : Int32)) = .int (0 : Int32) from rfl)
      · refine j_aload_n C (pc := 66) 0 rfl rfl dX5_factor_66 ?_
        refine j_bipush C (pc := 67) (v := 41) (by decide) dX5_factor_67 ?_
        refine j_cVI C (pc := 69) (As := [.int (41 : Int32)]) (st := []) (ws' := fun q4 => [oX5 a_t r_t v_length q4.2 q3.2.2.2.2.2, oX2 a_p1 r_p1 q3.2.2.2.2.1 v_p1_need, aC G (r_t 0) 100 v_signs, aI G (r_p1 0) 100 q3.2.2.1, aI G (r_p1 1) 100 q3.2.2.2.1]) ml_X5_27 ms_X5_take hf (fun q4 h => (c_X5_take G K.2.1) a_t r_t v_length q3.2.1 q3.2.2.2.2.2 v_signs (41 : Int32) q4 h) [0, 2] [some 0, none, some 1, none, none] 5 rfl (by decide +kernel) (by decide +kernel) (fun _ => rfl) (fun _ => rfl) (Nat.ble_eq_true_of_le (by omega)) rfl rfl rfl ⟨Nat.zero_le _, Nat.zero_le _⟩ dX5_factor_69 kc_X5 0 rfl (fun q4 hf => ?_)
        refine j_if_eq C (pc := 72) 79 dX5_factor_72 (by decide) hf (fun hf => ?_) (fun hf => ?_)
        · refine j_iconst C (pc := 79) (v := 0) (by decide) dX5_factor_79 ?_
          obtain rfl := Option.some.inj hf
          exact hQ _ _ dX5_factor_80 (show narrow .boolean (.int (0 : Int32)) = .int (0 : Int32) from rfl)
        · refine j_iconst C (pc := 75) (v := 1) (by decide) dX5_factor_75 ?_
          refine j_goto C (pc := 76) 80 dX5_factor_76 (by decide) ?_
          obtain rfl := Option.some.inj hf
          exact hQ _ _ dX5_factor_80 (show narrow .boolean (.int (1 : Int32)) = .int (1 : Int32) from rfl)
  · refine j_iconst C (pc := 39) (v := 0) (by decide) dX5_factor_39 ?_
    obtain rfl := Option.some.inj hf
    exact hQ _ _ dX5_factor_40 (show narrow .boolean (.int (0 : Int32)) = .int (0 : Int32) from rfl)
def f_X5_factor_14 (rec_X5_either : Int32 → Int32 → Int32 → Int32 → (Nat → Int32) → (Nat → Int32) → (Nat → Int32) → Int32 → Option (Int32 × Int32 × (Nat → Int32) × (Nat → Int32) × Int32 × Int32)) (rec_X5_both : Int32 → Int32 → Int32 → Int32 → (Nat → Int32) → (Nat → Int32) → (Nat → Int32) → Int32 → Option (Int32 × Int32 × (Nat → Int32) × (Nat → Int32) × Int32 × Int32)) (rec_X5_factor : Int32 → Int32 → Int32 → Int32 → (Nat → Int32) → (Nat → Int32) → (Nat → Int32) → Int32 → Option (Int32 × Int32 × Int32 × (Nat → Int32) × (Nat → Int32) × Int32)) (v_length : Int32) (v_at : Int32) (v_number : Int32) (v_p1_length : Int32) (v_signs : Nat → Int32) (v_p1_steps : Nat → Int32) (v_p1_numbers : Nat → Int32) (p2 : Int32) (k0 : Int32) : Option (Int32 × Int32 × Int32 × (Nat → Int32) × (Nat → Int32) × Int32) := (if k0 = 0 then ((f_X5_next v_length v_at v_signs).bind fun q1 => (if q1 = (40 : Int32) then (f_X5_factor_34 rec_X5_either rec_X5_both rec_X5_factor v_length v_at v_number v_p1_length v_signs v_p1_steps v_p1_numbers p2 k0) else ((f_X5_test v_length v_at v_number v_p1_length v_signs v_p1_steps v_p1_numbers).bind fun q2 => (gn .boolean q2.1 (some (q2.1, q2.2.1, q2.2.2.1, q2.2.2.2.1, q2.2.2.2.2.1, q2.2.2.2.2.2)))))) else (f_X5_factor_34 rec_X5_either rec_X5_both rec_X5_factor v_length v_at v_number v_p1_length v_signs v_p1_steps v_p1_numbers p2 k0))
set_option maxRecDepth 20000 in
set_option maxHeartbeats 1000000 in
theorem t_X5_factor_14 {G : Gx} {K : Kx} {d : Nat} {rec_X5_either : Int32 → Int32 → Int32 → Int32 → (Nat → Int32) → (Nat → Int32) → (Nat → Int32) → Int32 → Option (Int32 × Int32 × (Nat → Int32) × (Nat → Int32) × Int32 × Int32)} {rec_X5_both : Int32 → Int32 → Int32 → Int32 → (Nat → Int32) → (Nat → Int32) → (Nat → Int32) → Int32 → Option (Int32 × Int32 × (Nat → Int32) × (Nat → Int32) × Int32 × Int32)} {rec_X5_factor : Int32 → Int32 → Int32 → Int32 → (Nat → Int32) → (Nat → Int32) → (Nat → Int32) → Int32 → Option (Int32 × Int32 × Int32 × (Nat → Int32) × (Nat → Int32) × Int32)} (C : Cx G K cX5_factor RX5 5 (6 + (d + 1))) {a_t : Nat} {r_t : Nat → Nat} {a_p1 : Nat} {r_p1 : Nat → Nat} {v_length : Int32} {v_at : Int32} {v_number : Int32} {v_p1_length : Int32} {v_p1_need : Int32} {v_signs : Nat → Int32} {v_p1_steps : Nat → Int32} {v_p1_numbers : Nat → Int32} {p2 : Int32} {q : Int32 × Int32 × Int32 × (Nat → Int32) × (Nat → Int32) × Int32} (hQ : k_retI G K cX5_factor 5 .boolean [oX5 a_t r_t v_length q.2.1 q.2.2.1, oX2 a_p1 r_p1 q.2.2.2.2.2 v_p1_need, aC G (r_t 0) 100 v_signs, aI G (r_p1 0) 100 q.2.2.2.1, aI G (r_p1 1) 100 q.2.2.2.2.1] q.1) (ih_X5_either : ct_X5_either G K.2.1 rec_X5_either (6 + d)) (ih_X5_both : ct_X5_both G K.2.1 rec_X5_both (6 + d)) (ih_X5_factor : ct_X5_factor G K.2.1 rec_X5_factor (6 + d)) {k0 : Int32} (hf : f_X5_factor_14 rec_X5_either rec_X5_both rec_X5_factor v_length v_at v_number v_p1_length v_signs v_p1_steps v_p1_numbers p2 k0 = some q) : J G K 5 0 0 [oX5 a_t r_t v_length v_at v_number, oX2 a_p1 r_p1 v_p1_length v_p1_need, aC G (r_t 0) 100 v_signs, aI G (r_p1 0) 100 v_p1_steps, aI G (r_p1 1) 100 v_p1_numbers] [(0, .ref a_t), (1, .ref a_p1), (2, .int p2)] 14 [.int k0] := by
  unfold f_X5_factor_14 at hf
  refine j_istore_n C (pc := 14) (L' := [(3, .int k0), (0, .ref a_t), (1, .ref a_p1), (2, .int p2)]) dX5_factor_14 rfl (by decide) rfl ?_
  refine j_iload_n C (pc := 15) 0 rfl rfl dX5_factor_15 ?_
  refine j_if_ne C (pc := 16) 34 dX5_factor_16 (by decide) hf (fun hf => ?_) (fun hf => ?_)
  · refine j_sub [1, 2, 3, 0] rfl ?_
    exact t_X5_factor_34 C hQ ih_X5_either ih_X5_both ih_X5_factor hf
  · refine j_aload_n C (pc := 19) 1 rfl rfl dX5_factor_19 ?_
    refine j_cVI C (pc := 20) (As := []) (st := []) (ws' := fun q1 => [oX5 a_t r_t v_length v_at v_number, oX2 a_p1 r_p1 v_p1_length v_p1_need, aC G (r_t 0) 100 v_signs, aI G (r_p1 0) 100 v_p1_steps, aI G (r_p1 1) 100 v_p1_numbers]) ml_X5_35 ms_X5_next hf (fun q1 h => (c_X5_next G K.2.1) a_t r_t v_length v_at v_number v_signs q1 h) [0, 2] [some 0, none, some 1, none, none] 5 rfl (by decide +kernel) (by decide +kernel) (fun _ => rfl) (fun _ => rfl) (Nat.ble_eq_true_of_le (by omega)) rfl rfl rfl ⟨Nat.zero_le _, Nat.zero_le _⟩ dX5_factor_20 kc_X5 0 rfl (fun q1 hf => ?_)
    refine j_bipush C (pc := 23) (v := 40) (by decide) dX5_factor_23 ?_
    refine j_icmp_eq C (pc := 25) 34 dX5_factor_25 (by decide) hf (fun hf => ?_) (fun hf => ?_)
    · refine j_sub [1, 2, 3, 0] rfl ?_
      exact t_X5_factor_34 C hQ ih_X5_either ih_X5_both ih_X5_factor hf
    · refine j_aload_n C (pc := 28) 1 rfl rfl dX5_factor_28 ?_
      refine j_aload_n C (pc := 29) 2 rfl rfl dX5_factor_29 ?_
      refine j_cVI C (pc := 30) (As := [.ref a_p1]) (st := []) (ws' := fun q2 => [oX5 a_t r_t v_length q2.2.1 q2.2.2.1, oX2 a_p1 r_p1 q2.2.2.2.2.2 v_p1_need, aC G (r_t 0) 100 v_signs, aI G (r_p1 0) 100 q2.2.2.2.1, aI G (r_p1 1) 100 q2.2.2.2.2.1]) ml_X5_82 ms_X5_test hf (fun q2 h => (c_X5_test G K.2.1) a_t r_t a_p1 r_p1 v_length v_at v_number v_p1_length v_p1_need v_signs v_p1_steps v_p1_numbers q2 h) [0, 1, 2, 3, 4] [some 0, some 1, some 2, some 3, some 4] 5 rfl (by decide +kernel) (by decide +kernel) (fun _ => rfl) (fun _ => rfl) (Nat.ble_eq_true_of_le (by omega)) rfl rfl rfl ⟨Nat.zero_le _, Nat.zero_le _⟩ dX5_factor_30 kc_X5 0 rfl (fun q2 hf => ?_)
      obtain ⟨hn, hf⟩ := gn_boolean hf
      obtain rfl := Option.some.inj hf
      exact hQ _ _ dX5_factor_33 hn
def f_X5_factor_b (rec_X5_either : Int32 → Int32 → Int32 → Int32 → (Nat → Int32) → (Nat → Int32) → (Nat → Int32) → Int32 → Option (Int32 × Int32 × (Nat → Int32) × (Nat → Int32) × Int32 × Int32)) (rec_X5_both : Int32 → Int32 → Int32 → Int32 → (Nat → Int32) → (Nat → Int32) → (Nat → Int32) → Int32 → Option (Int32 × Int32 × (Nat → Int32) × (Nat → Int32) × Int32 × Int32)) (rec_X5_factor : Int32 → Int32 → Int32 → Int32 → (Nat → Int32) → (Nat → Int32) → (Nat → Int32) → Int32 → Option (Int32 × Int32 × Int32 × (Nat → Int32) × (Nat → Int32) × Int32)) (v_length : Int32) (v_at : Int32) (v_number : Int32) (v_p1_length : Int32) (v_signs : Nat → Int32) (v_p1_steps : Nat → Int32) (v_p1_numbers : Nat → Int32) (p2 : Int32) : Option (Int32 × Int32 × Int32 × (Nat → Int32) × (Nat → Int32) × Int32) := ((f_X5_next v_length v_at v_signs).bind fun q1 => (if q1 = (33 : Int32) then (f_X5_factor_14 rec_X5_either rec_X5_both rec_X5_factor v_length v_at v_number v_p1_length v_signs v_p1_steps v_p1_numbers p2 (1 : Int32)) else (f_X5_factor_14 rec_X5_either rec_X5_both rec_X5_factor v_length v_at v_number v_p1_length v_signs v_p1_steps v_p1_numbers p2 (0 : Int32))))
set_option maxRecDepth 20000 in
set_option maxHeartbeats 1000000 in
theorem t_X5_factor {G : Gx} {K : Kx} {d : Nat} {rec_X5_either : Int32 → Int32 → Int32 → Int32 → (Nat → Int32) → (Nat → Int32) → (Nat → Int32) → Int32 → Option (Int32 × Int32 × (Nat → Int32) × (Nat → Int32) × Int32 × Int32)} {rec_X5_both : Int32 → Int32 → Int32 → Int32 → (Nat → Int32) → (Nat → Int32) → (Nat → Int32) → Int32 → Option (Int32 × Int32 × (Nat → Int32) × (Nat → Int32) × Int32 × Int32)} {rec_X5_factor : Int32 → Int32 → Int32 → Int32 → (Nat → Int32) → (Nat → Int32) → (Nat → Int32) → Int32 → Option (Int32 × Int32 × Int32 × (Nat → Int32) × (Nat → Int32) × Int32)} (C : Cx G K cX5_factor RX5 5 (6 + (d + 1))) {a_t : Nat} {r_t : Nat → Nat} {a_p1 : Nat} {r_p1 : Nat → Nat} {v_length : Int32} {v_at : Int32} {v_number : Int32} {v_p1_length : Int32} {v_p1_need : Int32} {v_signs : Nat → Int32} {v_p1_steps : Nat → Int32} {v_p1_numbers : Nat → Int32} {p2 : Int32} {q : Int32 × Int32 × Int32 × (Nat → Int32) × (Nat → Int32) × Int32} (hQ : k_retI G K cX5_factor 5 .boolean [oX5 a_t r_t v_length q.2.1 q.2.2.1, oX2 a_p1 r_p1 q.2.2.2.2.2 v_p1_need, aC G (r_t 0) 100 v_signs, aI G (r_p1 0) 100 q.2.2.2.1, aI G (r_p1 1) 100 q.2.2.2.2.1] q.1) (ih_X5_either : ct_X5_either G K.2.1 rec_X5_either (6 + d)) (ih_X5_both : ct_X5_both G K.2.1 rec_X5_both (6 + d)) (ih_X5_factor : ct_X5_factor G K.2.1 rec_X5_factor (6 + d)) (hf : f_X5_factor_b rec_X5_either rec_X5_both rec_X5_factor v_length v_at v_number v_p1_length v_signs v_p1_steps v_p1_numbers p2 = some q) : J G K 5 0 0 [oX5 a_t r_t v_length v_at v_number, oX2 a_p1 r_p1 v_p1_length v_p1_need, aC G (r_t 0) 100 v_signs, aI G (r_p1 0) 100 v_p1_steps, aI G (r_p1 1) 100 v_p1_numbers] [(0, .ref a_t), (1, .ref a_p1), (2, .int p2)] 0 [] := by
  unfold f_X5_factor_b at hf
  refine j_aload_n C (pc := 0) 0 rfl rfl dX5_factor_0 ?_
  refine j_cVI C (pc := 1) (As := []) (st := []) (ws' := fun q1 => [oX5 a_t r_t v_length v_at v_number, oX2 a_p1 r_p1 v_p1_length v_p1_need, aC G (r_t 0) 100 v_signs, aI G (r_p1 0) 100 v_p1_steps, aI G (r_p1 1) 100 v_p1_numbers]) ml_X5_35 ms_X5_next hf (fun q1 h => (c_X5_next G K.2.1) a_t r_t v_length v_at v_number v_signs q1 h) [0, 2] [some 0, none, some 1, none, none] 5 rfl (by decide +kernel) (by decide +kernel) (fun _ => rfl) (fun _ => rfl) (Nat.ble_eq_true_of_le (by omega)) rfl rfl rfl ⟨Nat.zero_le _, Nat.zero_le _⟩ dX5_factor_1 kc_X5 0 rfl (fun q1 hf => ?_)
  refine j_bipush C (pc := 4) (v := 33) (by decide) dX5_factor_4 ?_
  refine j_icmp_ne C (pc := 6) 13 dX5_factor_6 (by decide) hf (fun hf => ?_) (fun hf => ?_)
  · refine j_iconst C (pc := 13) (v := 0) (by decide) dX5_factor_13 ?_
    exact t_X5_factor_14 C hQ ih_X5_either ih_X5_both ih_X5_factor hf
  · refine j_iconst C (pc := 9) (v := 1) (by decide) dX5_factor_9 ?_
    refine j_goto C (pc := 10) 14 dX5_factor_10 (by decide) ?_
    exact t_X5_factor_14 C hQ ih_X5_either ih_X5_both ih_X5_factor hf
def g_X5_either_X5_both_X5_factor : Nat → (Int32 → Int32 → Int32 → Int32 → (Nat → Int32) → (Nat → Int32) → (Nat → Int32) → Int32 → Option (Int32 × Int32 × (Nat → Int32) × (Nat → Int32) × Int32 × Int32)) × (Int32 → Int32 → Int32 → Int32 → (Nat → Int32) → (Nat → Int32) → (Nat → Int32) → Int32 → Option (Int32 × Int32 × (Nat → Int32) × (Nat → Int32) × Int32 × Int32)) × (Int32 → Int32 → Int32 → Int32 → (Nat → Int32) → (Nat → Int32) → (Nat → Int32) → Int32 → Option (Int32 × Int32 × Int32 × (Nat → Int32) × (Nat → Int32) × Int32))
  | 0 => (fun _ _ _ _ _ _ _ _ => none, fun _ _ _ _ _ _ _ _ => none, fun _ _ _ _ _ _ _ _ => none)
  | d + 1 => (f_X5_either_b (g_X5_either_X5_both_X5_factor d).1 (g_X5_either_X5_both_X5_factor d).2.1 (g_X5_either_X5_both_X5_factor d).2.2, f_X5_both_b (g_X5_either_X5_both_X5_factor d).1 (g_X5_either_X5_both_X5_factor d).2.1 (g_X5_either_X5_both_X5_factor d).2.2, f_X5_factor_b (g_X5_either_X5_both_X5_factor d).1 (g_X5_either_X5_both_X5_factor d).2.1 (g_X5_either_X5_both_X5_factor d).2.2)
def f_X5_either (d : Nat) : Int32 → Int32 → Int32 → Int32 → (Nat → Int32) → (Nat → Int32) → (Nat → Int32) → Int32 → Option (Int32 × Int32 × (Nat → Int32) × (Nat → Int32) × Int32 × Int32) := (g_X5_either_X5_both_X5_factor d).1
def f_X5_both (d : Nat) : Int32 → Int32 → Int32 → Int32 → (Nat → Int32) → (Nat → Int32) → (Nat → Int32) → Int32 → Option (Int32 × Int32 × (Nat → Int32) × (Nat → Int32) × Int32 × Int32) := (g_X5_either_X5_both_X5_factor d).2.1
def f_X5_factor (d : Nat) : Int32 → Int32 → Int32 → Int32 → (Nat → Int32) → (Nat → Int32) → (Nat → Int32) → Int32 → Option (Int32 × Int32 × Int32 × (Nat → Int32) × (Nat → Int32) × Int32) := (g_X5_either_X5_both_X5_factor d).2.2
theorem cg_X5_either_X5_both_X5_factor (G : Gx) (l : Launch) : ∀ d : Nat, ct_X5_either G l (f_X5_either d) (6 + d) ∧ ct_X5_both G l (f_X5_both d) (6 + d) ∧ ct_X5_factor G l (f_X5_factor d) (6 + d) := by
  intro d
  induction d with
  | zero => exact ⟨(by intro a_t r_t a_p1 r_p1 v_length v_at v_number v_p1_length v_p1_need v_signs v_p1_steps v_p1_numbers p2 q hf; cases (show (none : Option _) = some q from hf)), (by intro a_t r_t a_p1 r_p1 v_length v_at v_number v_p1_length v_p1_need v_signs v_p1_steps v_p1_numbers p2 q hf; cases (show (none : Option _) = some q from hf)), (by intro a_t r_t a_p1 r_p1 v_length v_at v_number v_p1_length v_p1_need v_signs v_p1_steps v_p1_numbers p2 q hf; cases (show (none : Option _) = some q from hf))⟩
  | succ d ih =>
    refine ⟨?_, ?_, ?_⟩
    · intro a_t r_t a_p1 r_p1 v_length v_at v_number v_p1_length v_p1_need v_signs v_p1_steps v_p1_numbers p2 q hf
      exact mI_of (by decide +kernel) rfl (fun K hl C hQ => by subst hl; exact t_X5_either C hQ ih.1 ih.2.1 ih.2.2 hf)
    · intro a_t r_t a_p1 r_p1 v_length v_at v_number v_p1_length v_p1_need v_signs v_p1_steps v_p1_numbers p2 q hf
      exact mI_of (by decide +kernel) rfl (fun K hl C hQ => by subst hl; exact t_X5_both C hQ ih.1 ih.2.1 ih.2.2 hf)
    · intro a_t r_t a_p1 r_p1 v_length v_at v_number v_p1_length v_p1_need v_signs v_p1_steps v_p1_numbers p2 q hf
      exact mI_of (by decide +kernel) rfl (fun K hl C hQ => by subst hl; exact t_X5_factor C hQ ih.1 ih.2.1 ih.2.2 hf)
theorem c_X5_either (G : Gx) (l : Launch) (d : Nat) : ct_X5_either G l (f_X5_either d) (6 + d) := (cg_X5_either_X5_both_X5_factor G l d).1
theorem c_X5_both (G : Gx) (l : Launch) (d : Nat) : ct_X5_both G l (f_X5_both d) (6 + d) := (cg_X5_either_X5_both_X5_factor G l d).2.1
theorem c_X5_factor (G : Gx) (l : Launch) (d : Nat) : ct_X5_factor G l (f_X5_factor d) (6 + d) := (cg_X5_either_X5_both_X5_factor G l d).2.2
-- X5_takeWord
def f_X5_takeWord_2_b (v_length : Int32) (v_signs : Nat → Int32) (p1 : Nat) (k2 : Int32 → Int32 → Option (Int32 × Int32)) (x2 : Int32) (w_at : Int32) : Option (Int32 × Int32) := (gl p1 ((f_J0_length_8abf5 p1).bind fun q1 => (if q1 ≤ x2 then (some ((1 : Int32), w_at)) else (gl p1 ((f_J0_charAt_5068e p1 x2).bind fun q2 => ((f_X5_take v_length w_at v_signs q2).bind fun q3 => (if q3.1 = 0 then (some ((0 : Int32), q3.2)) else (k2 (x2 + (1 : Int32)) q3.2))))))))
def f_X5_takeWord_2 (v_length : Int32) (v_signs : Nat → Int32) (p1 : Nat) : Nat → Int32 → Int32 → Option (Int32 × Int32)
  | 0 => fun _ _ => none
  | n + 1 => f_X5_takeWord_2_b v_length v_signs p1 (f_X5_takeWord_2 v_length v_signs p1 n)
set_option maxRecDepth 20000 in
set_option maxHeartbeats 1000000 in
theorem t_X5_takeWord_2_b {G : Gx} {K : Kx} (C : Cx G K cX5_takeWord RX5 3 5) {a_t : Nat} {r_t : Nat → Nat} {v_length : Int32} {v_number : Int32} {v_signs : Nat → Int32} {p1 : Nat} {q : Int32 × Int32} (hQ : k_retI G K cX5_takeWord 3 .boolean [oX5 a_t r_t v_length q.2 v_number, aC G (r_t 0) 100 v_signs] q.1) {k2 : Int32 → Int32 → Option (Int32 × Int32)} (hk2 : ∀ (x2 : Int32) (w_at : Int32), k2 x2 w_at = some q → J G K 3 0 0 [oX5 a_t r_t v_length w_at v_number, aC G (r_t 0) 100 v_signs] [(0, .ref a_t), (1, .ref (G.2.2 (10 + p1))), (2, .int x2)] 2 []) {x2 : Int32} {w_at : Int32} (hf : f_X5_takeWord_2_b v_length v_signs p1 k2 x2 w_at = some q) : J G K 3 0 0 [oX5 a_t r_t v_length w_at v_number, aC G (r_t 0) 100 v_signs] [(0, .ref a_t), (1, .ref (G.2.2 (10 + p1))), (2, .int x2)] 2 [] := by
  unfold f_X5_takeWord_2_b at hf
  refine j_iload_n C (pc := 2) 2 rfl rfl dX5_takeWord_2 ?_
  refine j_aload_n C (pc := 3) 1 rfl rfl dX5_takeWord_3 ?_
  obtain ⟨hi, hf⟩ := gl_some hf
  refine j_cTI C (pc := 4) (As := []) (st := [.int x2]) (ws' := fun q1 => [oX5 a_t r_t v_length w_at v_number, aC G (r_t 0) 100 v_signs]) ml_X5_39 ms_J0_length_8abf5 hf (fun q1 h => (c_J0_length_8abf5 G K.2.1) p1 q1 h) [] [none, none] 2 rfl (by decide +kernel) (by decide +kernel) (fun _ => rfl) (fun _ => rfl) rfl rfl rfl rfl ⟨Nat.zero_le _, Nat.zero_le _⟩ dX5_takeWord_4 p1 hi rfl rfl (fun q1 hf => ?_)
  refine j_icmp_ge C (pc := 7) 30 dX5_takeWord_7 (by decide) hf (fun hf => ?_) (fun hf => ?_)
  · refine j_iconst C (pc := 30) (v := 1) (by decide) dX5_takeWord_30 ?_
    obtain rfl := Option.some.inj hf
    exact hQ _ _ dX5_takeWord_31 (show narrow .boolean (.int (1 : Int32)) = .int (1 : Int32) from rfl)
  · refine j_aload_n C (pc := 10) 0 rfl rfl dX5_takeWord_10 ?_
    refine j_aload_n C (pc := 11) 1 rfl rfl dX5_takeWord_11 ?_
    refine j_iload_n C (pc := 12) 2 rfl rfl dX5_takeWord_12 ?_
    obtain ⟨hi, hf⟩ := gl_some hf
    refine j_cTI C (pc := 13) (As := [.int x2]) (st := [.ref a_t]) (ws' := fun q2 => [oX5 a_t r_t v_length w_at v_number, aC G (r_t 0) 100 v_signs]) ml_X5_44 ms_J0_charAt_5068e hf (fun q2 h => (c_J0_charAt_5068e G K.2.1) p1 x2 q2 h) [] [none, none] 2 rfl (by decide +kernel) (by decide +kernel) (fun _ => rfl) (fun _ => rfl) rfl rfl rfl rfl ⟨Nat.zero_le _, Nat.zero_le _⟩ dX5_takeWord_13 p1 hi rfl rfl (fun q2 hf => ?_)
    refine j_cVI C (pc := 16) (As := [.int q2]) (st := []) (ws' := fun q3 => [oX5 a_t r_t v_length q3.2 v_number, aC G (r_t 0) 100 v_signs]) ml_X5_27 ms_X5_take hf (fun q3 h => (c_X5_take G K.2.1) a_t r_t v_length w_at v_number v_signs q2 q3 h) [0, 1] [some 0, some 1] 2 rfl (by decide +kernel) (by decide +kernel) (fun _ => rfl) (fun _ => rfl) rfl rfl rfl rfl ⟨Nat.zero_le _, Nat.zero_le _⟩ dX5_takeWord_16 kc_X5 0 rfl (fun q3 hf => ?_)
    refine j_if_ne C (pc := 19) 24 dX5_takeWord_19 (by decide) hf (fun hf => ?_) (fun hf => ?_)
    · refine j_iinc C (pc := 24) (L' := [(2, .int (x2 + (1 : Int32))), (0, .ref a_t), (1, .ref (G.2.2 (10 + p1)))]) (v := x2 + (1 : Int32)) dX5_takeWord_24 (t := 2) rfl rfl (by decide) rfl ?_
      refine j_goto C (pc := 27) 2 dX5_takeWord_27 (by decide) ?_
      refine j_sub [1, 2, 0] rfl ?_
      exact hk2 _ _ hf
    · refine j_iconst C (pc := 22) (v := 0) (by decide) dX5_takeWord_22 ?_
      obtain rfl := Option.some.inj hf
      exact hQ _ _ dX5_takeWord_23 (show narrow .boolean (.int (0 : Int32)) = .int (0 : Int32) from rfl)
theorem t_X5_takeWord_2 {G : Gx} {K : Kx} (C : Cx G K cX5_takeWord RX5 3 5) {a_t : Nat} {r_t : Nat → Nat} {v_length : Int32} {v_number : Int32} {v_signs : Nat → Int32} {p1 : Nat} {q : Int32 × Int32} (hQ : k_retI G K cX5_takeWord 3 .boolean [oX5 a_t r_t v_length q.2 v_number, aC G (r_t 0) 100 v_signs] q.1) : ∀ (n : Nat) (x2 : Int32) (w_at : Int32), f_X5_takeWord_2 v_length v_signs p1 n x2 w_at = some q → J G K 3 0 0 [oX5 a_t r_t v_length w_at v_number, aC G (r_t 0) 100 v_signs] [(0, .ref a_t), (1, .ref (G.2.2 (10 + p1))), (2, .int x2)] 2 [] := by
  intro n
  induction n with
  | zero => intro x2 w_at hf; cases hf
  | succ n ih => intro x2 w_at hf; exact t_X5_takeWord_2_b C hQ ih hf
def f_X5_takeWord (v_length : Int32) (v_at : Int32) (v_signs : Nat → Int32) (p1 : Nat) : Option (Int32 × Int32) := (f_X5_takeWord_2 v_length v_signs p1 1000 (0 : Int32) v_at)
set_option maxRecDepth 20000 in
set_option maxHeartbeats 1000000 in
theorem t_X5_takeWord {G : Gx} {K : Kx} (C : Cx G K cX5_takeWord RX5 3 5) {a_t : Nat} {r_t : Nat → Nat} {v_length : Int32} {v_at : Int32} {v_number : Int32} {v_signs : Nat → Int32} {p1 : Nat} {q : Int32 × Int32} (hQ : k_retI G K cX5_takeWord 3 .boolean [oX5 a_t r_t v_length q.2 v_number, aC G (r_t 0) 100 v_signs] q.1) (hf : f_X5_takeWord v_length v_at v_signs p1 = some q) : J G K 3 0 0 [oX5 a_t r_t v_length v_at v_number, aC G (r_t 0) 100 v_signs] [(0, .ref a_t), (1, .ref (G.2.2 (10 + p1)))] 0 [] := by
  unfold f_X5_takeWord at hf
  refine j_iconst C (pc := 0) (v := 0) (by decide) dX5_takeWord_0 ?_
  refine j_istore_n C (pc := 1) (L' := [(2, .int (0 : Int32)), (0, .ref a_t), (1, .ref (G.2.2 (10 + p1)))]) dX5_takeWord_1 rfl (by decide) rfl ?_
  refine j_sub [1, 2, 0] rfl ?_
  exact t_X5_takeWord_2 C hQ 1000 _ _ hf
def ct_X5_takeWord (G : Gx) (l : Launch) (F : Int32 → Int32 → (Nat → Int32) → Nat → Option (Int32 × Int32)) (lv : Nat) : Prop := ∀ (a_t : Nat) (r_t : Nat → Nat) (v_length : Int32) (v_at : Int32) (v_number : Int32) (v_signs : Nat → Int32) (p1 : Nat), ∀ (q : Int32 × Int32), F v_length v_at v_signs p1 = some q → MI G l yX5_takeWord cX5_takeWord 3 .boolean lv [.ref a_t, .ref (G.2.2 (10 + p1))] [oX5 a_t r_t v_length v_at v_number, aC G (r_t 0) 100 v_signs] [oX5 a_t r_t v_length q.2 v_number, aC G (r_t 0) 100 v_signs] q.1
theorem c_X5_takeWord (G : Gx) (l : Launch) : ct_X5_takeWord G l f_X5_takeWord 5 := by
  intro a_t r_t v_length v_at v_number v_signs p1 q hf
  exact mI_of (by decide +kernel) rfl (fun K hl C hQ => t_X5_takeWord C hQ hf)
-- X5_clause
def f_X5_clause_29 (v_length : Int32) (v_at : Int32) (v_number : Int32) (v_p1_length : Int32) (v_p1_need : Int32) (v_signs : Nat → Int32) (v_p1_steps : Nat → Int32) (v_p1_numbers : Nat → Int32) (k0 : Nat) (x2 : Int32) : Option (Int32 × Int32 × Int32 × (Nat → Int32) × (Nat → Int32) × Int32 × Int32) := ((f_X5_takeWord v_length v_at v_signs k0).bind fun q1 => (if q1.1 = 0 then (some ((0 : Int32), q1.2, v_number, v_p1_steps, v_p1_numbers, v_p1_length, v_p1_need)) else ((f_X5_takeNumber v_length q1.2 v_signs).bind fun q2 => (if q2.1 = 0 then (some ((0 : Int32), q2.2.2, q2.2.1, v_p1_steps, v_p1_numbers, v_p1_length, v_p1_need)) else (if x2 = (110 : Int32) then (some ((1 : Int32), q2.2.2, q2.2.1, v_p1_steps, v_p1_numbers, v_p1_length, q2.2.1)) else ((f_X5_take v_length q2.2.2 v_signs (32 : Int32)).bind fun q3 => (if q3.1 = 0 then (some ((0 : Int32), q3.2, q2.2.1, v_p1_steps, v_p1_numbers, v_p1_length, v_p1_need)) else ((f_X5_either 60 v_length q3.2 q2.2.1 v_p1_length v_signs v_p1_steps v_p1_numbers (0 : Int32)).bind fun q4 => (if q4.1 = 0 then (some ((0 : Int32), q4.2.1, q4.2.2.2.2.2, q4.2.2.1, q4.2.2.2.1, q4.2.2.2.2.1, v_p1_need)) else (if x2 = (115 : Int32) then ((f_X2_put q4.2.2.2.2.1 q4.2.2.1 q4.2.2.2.1 (-4 : Int32) q2.2.1).bind fun q6 => (some ((1 : Int32), q4.2.1, q4.2.2.2.2.2, q6.1, q6.2.1, q6.2.2, v_p1_need))) else ((f_X2_put q4.2.2.2.2.1 q4.2.2.1 q4.2.2.2.1 (-4 : Int32) (-q2.2.1)).bind fun q5 => (some ((1 : Int32), q4.2.1, q4.2.2.2.2.2, q5.1, q5.2.1, q5.2.2, v_p1_need)))))))))))))
set_option maxRecDepth 20000 in
set_option maxHeartbeats 1000000 in
theorem t_X5_clause_29 {G : Gx} {K : Kx} (C : Cx G K cX5_clause RX5 5 67) {a_t : Nat} {r_t : Nat → Nat} {a_p1 : Nat} {r_p1 : Nat → Nat} {v_length : Int32} {v_at : Int32} {v_number : Int32} {v_p1_length : Int32} {v_p1_need : Int32} {v_signs : Nat → Int32} {v_p1_steps : Nat → Int32} {v_p1_numbers : Nat → Int32} {q : Int32 × Int32 × Int32 × (Nat → Int32) × (Nat → Int32) × Int32 × Int32} (hQ : k_retI G K cX5_clause 5 .boolean [oX5 a_t r_t v_length q.2.1 q.2.2.1, oX2 a_p1 r_p1 q.2.2.2.2.2.1 q.2.2.2.2.2.2, aC G (r_t 0) 100 v_signs, aI G (r_p1 0) 100 q.2.2.2.1, aI G (r_p1 1) 100 q.2.2.2.2.1] q.1) {k0 : Nat} {x2 : Int32} (hf : f_X5_clause_29 v_length v_at v_number v_p1_length v_p1_need v_signs v_p1_steps v_p1_numbers k0 x2 = some q) : J G K 5 0 0 [oX5 a_t r_t v_length v_at v_number, oX2 a_p1 r_p1 v_p1_length v_p1_need, aC G (r_t 0) 100 v_signs, aI G (r_p1 0) 100 v_p1_steps, aI G (r_p1 1) 100 v_p1_numbers] [(0, .ref a_t), (1, .ref a_p1), (2, .int x2)] 29 [.ref (G.2.2 (10 + k0))] := by
  unfold f_X5_clause_29 at hf
  refine j_astore_n C (pc := 29) (L' := [(3, .ref (G.2.2 (10 + k0))), (0, .ref a_t), (1, .ref a_p1), (2, .int x2)]) dX5_clause_29 rfl (by decide) rfl ?_
  refine j_aload_n C (pc := 30) 1 rfl rfl dX5_clause_30 ?_
  refine j_aload_n C (pc := 31) 0 rfl rfl dX5_clause_31 ?_
  refine j_cVI C (pc := 32) (As := [.ref (G.2.2 (10 + k0))]) (st := []) (ws' := fun q1 => [oX5 a_t r_t v_length q1.2 v_number, oX2 a_p1 r_p1 v_p1_length v_p1_need, aC G (r_t 0) 100 v_signs, aI G (r_p1 0) 100 v_p1_steps, aI G (r_p1 1) 100 v_p1_numbers]) ml_X5_54 ms_X5_takeWord hf (fun q1 h => (c_X5_takeWord G K.2.1) a_t r_t v_length v_at v_number v_signs k0 q1 h) [0, 2] [some 0, none, some 1, none, none] 5 rfl (by decide +kernel) (by decide +kernel) (fun _ => rfl) (fun _ => rfl) rfl rfl rfl rfl ⟨Nat.zero_le _, Nat.zero_le _⟩ dX5_clause_32 kc_X5 0 rfl (fun q1 hf => ?_)
  refine j_if_eq C (pc := 35) 45 dX5_clause_35 (by decide) hf (fun hf => ?_) (fun hf => ?_)
  · refine j_iconst C (pc := 45) (v := 0) (by decide) dX5_clause_45 ?_
    obtain rfl := Option.some.inj hf
    exact hQ _ _ dX5_clause_46 (show narrow .boolean (.int (0 : Int32)) = .int (0 : Int32) from rfl)
  · refine j_aload_n C (pc := 38) 1 rfl rfl dX5_clause_38 ?_
    refine j_cVI C (pc := 39) (As := []) (st := []) (ws' := fun q2 => [oX5 a_t r_t v_length q2.2.2 q2.2.1, oX2 a_p1 r_p1 v_p1_length v_p1_need, aC G (r_t 0) 100 v_signs, aI G (r_p1 0) 100 v_p1_steps, aI G (r_p1 1) 100 v_p1_numbers]) ml_X5_58 ms_X5_takeNumber hf (fun q2 h => (c_X5_takeNumber G K.2.1) a_t r_t v_length q1.2 v_number v_signs q2 h) [0, 2] [some 0, none, some 1, none, none] 5 rfl (by decide +kernel) (by decide +kernel) (fun _ => rfl) (fun _ => rfl) rfl rfl rfl rfl ⟨Nat.zero_le _, Nat.zero_le _⟩ dX5_clause_39 kc_X5 0 rfl (fun q2 hf => ?_)
    refine j_if_ne C (pc := 42) 47 dX5_clause_42 (by decide) hf (fun hf => ?_) (fun hf => ?_)
    · refine j_aload_n C (pc := 47) 1 rfl rfl dX5_clause_47 ?_
      refine j_get C (pc := 48) kc_X5 fl_X5_62 0 rfl rfl dX5_clause_48 ?_
      refine j_istore C (pc := 51) (L' := [(4, .int q2.2.1), (3, .ref (G.2.2 (10 + k0))), (0, .ref a_t), (1, .ref a_p1), (2, .int x2)]) dX5_clause_51 (by decide) rfl ?_
      refine j_iload_n C (pc := 53) 4 rfl rfl dX5_clause_53 ?_
      refine j_bipush C (pc := 54) (v := 110) (by decide) dX5_clause_54 ?_
      refine j_icmp_ne C (pc := 56) 67 dX5_clause_56 (by decide) hf (fun hf => ?_) (fun hf => ?_)
      · refine j_aload_n C (pc := 67) 2 rfl rfl dX5_clause_67 ?_
        refine j_bipush C (pc := 68) (v := 32) (by decide) dX5_clause_68 ?_
        refine j_cVI C (pc := 70) (As := [.int (32 : Int32)]) (st := []) (ws' := fun q3 => [oX5 a_t r_t v_length q3.2 q2.2.1, oX2 a_p1 r_p1 v_p1_length v_p1_need, aC G (r_t 0) 100 v_signs, aI G (r_p1 0) 100 v_p1_steps, aI G (r_p1 1) 100 v_p1_numbers]) ml_X5_27 ms_X5_take hf (fun q3 h => (c_X5_take G K.2.1) a_t r_t v_length q2.2.2 q2.2.1 v_signs (32 : Int32) q3 h) [0, 2] [some 0, none, some 1, none, none] 5 rfl (by decide +kernel) (by decide +kernel) (fun _ => rfl) (fun _ => rfl) rfl rfl rfl rfl ⟨Nat.zero_le _, Nat.zero_le _⟩ dX5_clause_70 kc_X5 0 rfl (fun q3 hf => ?_)
        refine j_if_eq C (pc := 73) 85 dX5_clause_73 (by decide) hf (fun hf => ?_) (fun hf => ?_)
        · refine j_iconst C (pc := 85) (v := 0) (by decide) dX5_clause_85 ?_
          obtain rfl := Option.some.inj hf
          exact hQ _ _ dX5_clause_86 (show narrow .boolean (.int (0 : Int32)) = .int (0 : Int32) from rfl)
        · refine j_aload_n C (pc := 76) 2 rfl rfl dX5_clause_76 ?_
          refine j_aload_n C (pc := 77) 3 rfl rfl dX5_clause_77 ?_
          refine j_iconst C (pc := 78) (v := 0) (by decide) dX5_clause_78 ?_
          refine j_cVI C (pc := 79) (As := [.ref a_p1, .int (0 : Int32)]) (st := []) (ws' := fun q4 => [oX5 a_t r_t v_length q4.2.1 q4.2.2.2.2.2, oX2 a_p1 r_p1 q4.2.2.2.2.1 v_p1_need, aC G (r_t 0) 100 v_signs, aI G (r_p1 0) 100 q4.2.2.1, aI G (r_p1 1) 100 q4.2.2.2.1]) ml_X5_68 ms_X5_either hf (fun q4 h => (c_X5_either G K.2.1 60) a_t r_t a_p1 r_p1 v_length q3.2 q2.2.1 v_p1_length v_p1_need v_signs v_p1_steps v_p1_numbers (0 : Int32) q4 h) [0, 1, 2, 3, 4] [some 0, some 1, some 2, some 3, some 4] 5 rfl (by decide +kernel) (by decide +kernel) (fun _ => rfl) (fun _ => rfl) rfl rfl rfl rfl ⟨Nat.zero_le _, Nat.zero_le _⟩ dX5_clause_79 kc_X5 0 rfl (fun q4 hf => ?_)
          refine j_if_ne C (pc := 82) 87 dX5_clause_82 (by decide) hf (fun hf => ?_) (fun hf => ?_)
          · refine j_aload_n C (pc := 87) 3 rfl rfl dX5_clause_87 ?_
            refine j_bipush C (pc := 88) (v := -4) (by decide) dX5_clause_88 ?_
            refine j_iload_n C (pc := 90) 4 rfl rfl dX5_clause_90 ?_
            refine j_bipush C (pc := 91) (v := 115) (by decide) dX5_clause_91 ?_
            refine j_icmp_ne C (pc := 93) 101 dX5_clause_93 (by decide) hf (fun hf => ?_) (fun hf => ?_)
            · refine j_iload C (pc := 101) 0 rfl dX5_clause_101 ?_
              refine j_ineg C (pc := 103) dX5_clause_103 ?_
              refine j_cVZ C (pc := 104) (As := [.int (-4 : Int32), .int (-q2.2.1)]) (st := []) (ws' := fun q5 => [oX5 a_t r_t v_length q4.2.1 q4.2.2.2.2.2, oX2 a_p1 r_p1 q5.2.2 v_p1_need, aC G (r_t 0) 100 v_signs, aI G (r_p1 0) 100 q5.1, aI G (r_p1 1) 100 q5.2.1]) ml_X5_72 ms_X2_put hf (fun q5 h => (c_X2_put G K.2.1) a_p1 r_p1 q4.2.2.2.2.1 v_p1_need q4.2.2.1 q4.2.2.2.1 (-4 : Int32) (-q2.2.1) q5 h) [1, 3, 4] [none, some 0, none, some 1, some 2] 5 rfl (by decide +kernel) (by decide +kernel) (fun _ => rfl) (fun _ => rfl) rfl rfl rfl rfl ⟨Nat.zero_le _, Nat.zero_le _⟩ dX5_clause_104 kc_X2 1 rfl (fun q5 hf => ?_)
              refine j_iconst C (pc := 107) (v := 1) (by decide) dX5_clause_107 ?_
              obtain rfl := Option.some.inj hf
              exact hQ _ _ dX5_clause_108 (show narrow .boolean (.int (1 : Int32)) = .int (1 : Int32) from rfl)
            · refine j_iload C (pc := 96) 0 rfl dX5_clause_96 ?_
              refine j_goto C (pc := 98) 104 dX5_clause_98 (by decide) ?_
              refine j_cVZ C (pc := 104) (As := [.int (-4 : Int32), .int q2.2.1]) (st := []) (ws' := fun q6 => [oX5 a_t r_t v_length q4.2.1 q4.2.2.2.2.2, oX2 a_p1 r_p1 q6.2.2 v_p1_need, aC G (r_t 0) 100 v_signs, aI G (r_p1 0) 100 q6.1, aI G (r_p1 1) 100 q6.2.1]) ml_X5_72 ms_X2_put hf (fun q6 h => (c_X2_put G K.2.1) a_p1 r_p1 q4.2.2.2.2.1 v_p1_need q4.2.2.1 q4.2.2.2.1 (-4 : Int32) q2.2.1 q6 h) [1, 3, 4] [none, some 0, none, some 1, some 2] 5 rfl (by decide +kernel) (by decide +kernel) (fun _ => rfl) (fun _ => rfl) rfl rfl rfl rfl ⟨Nat.zero_le _, Nat.zero_le _⟩ dX5_clause_104 kc_X2 1 rfl (fun q6 hf => ?_)
              refine j_iconst C (pc := 107) (v := 1) (by decide) dX5_clause_107 ?_
              obtain rfl := Option.some.inj hf
              exact hQ _ _ dX5_clause_108 (show narrow .boolean (.int (1 : Int32)) = .int (1 : Int32) from rfl)
          · refine j_iconst C (pc := 85) (v := 0) (by decide) dX5_clause_85 ?_
            obtain rfl := Option.some.inj hf
            exact hQ _ _ dX5_clause_86 (show narrow .boolean (.int (0 : Int32)) = .int (0 : Int32) from rfl)
      · refine j_aload_n C (pc := 59) 3 rfl rfl dX5_clause_59 ?_
        refine j_iload C (pc := 60) 0 rfl dX5_clause_60 ?_
        refine j_putN C (pc := 62) (ws' := [oX5 a_t r_t v_length q2.2.2 q2.2.1, oX2 a_p1 r_p1 v_p1_length q2.2.1, aC G (r_t 0) 100 v_signs, aI G (r_p1 0) 100 v_p1_steps, aI G (r_p1 1) 100 v_p1_numbers]) kc_X2 fl_X5_65 1 rfl rfl rfl rfl rfl rfl dX5_clause_62 ?_
        refine j_iconst C (pc := 65) (v := 1) (by decide) dX5_clause_65 ?_
        obtain rfl := Option.some.inj hf
        exact hQ _ _ dX5_clause_66 (show narrow .boolean (.int (1 : Int32)) = .int (1 : Int32) from rfl)
    · refine j_iconst C (pc := 45) (v := 0) (by decide) dX5_clause_45 ?_
      obtain rfl := Option.some.inj hf
      exact hQ _ _ dX5_clause_46 (show narrow .boolean (.int (0 : Int32)) = .int (0 : Int32) from rfl)
def f_X5_clause (v_length : Int32) (v_at : Int32) (v_number : Int32) (v_p1_length : Int32) (v_p1_need : Int32) (v_signs : Nat → Int32) (v_p1_steps : Nat → Int32) (v_p1_numbers : Nat → Int32) : Option (Int32 × Int32 × Int32 × (Nat → Int32) × (Nat → Int32) × Int32 × Int32) := ((f_X5_next v_length v_at v_signs).bind fun q1 => (if q1 = (115 : Int32) then (f_X5_clause_29 v_length v_at v_number v_p1_length v_p1_need v_signs v_p1_steps v_p1_numbers 0 q1) else (if q1 = (98 : Int32) then (f_X5_clause_29 v_length v_at v_number v_p1_length v_p1_need v_signs v_p1_steps v_p1_numbers 1 q1) else (f_X5_clause_29 v_length v_at v_number v_p1_length v_p1_need v_signs v_p1_steps v_p1_numbers 2 q1))))
set_option maxRecDepth 20000 in
set_option maxHeartbeats 1000000 in
theorem t_X5_clause {G : Gx} {K : Kx} (C : Cx G K cX5_clause RX5 5 67) {a_t : Nat} {r_t : Nat → Nat} {a_p1 : Nat} {r_p1 : Nat → Nat} {v_length : Int32} {v_at : Int32} {v_number : Int32} {v_p1_length : Int32} {v_p1_need : Int32} {v_signs : Nat → Int32} {v_p1_steps : Nat → Int32} {v_p1_numbers : Nat → Int32} {q : Int32 × Int32 × Int32 × (Nat → Int32) × (Nat → Int32) × Int32 × Int32} (hQ : k_retI G K cX5_clause 5 .boolean [oX5 a_t r_t v_length q.2.1 q.2.2.1, oX2 a_p1 r_p1 q.2.2.2.2.2.1 q.2.2.2.2.2.2, aC G (r_t 0) 100 v_signs, aI G (r_p1 0) 100 q.2.2.2.1, aI G (r_p1 1) 100 q.2.2.2.2.1] q.1) (hf : f_X5_clause v_length v_at v_number v_p1_length v_p1_need v_signs v_p1_steps v_p1_numbers = some q) : J G K 5 0 0 [oX5 a_t r_t v_length v_at v_number, oX2 a_p1 r_p1 v_p1_length v_p1_need, aC G (r_t 0) 100 v_signs, aI G (r_p1 0) 100 v_p1_steps, aI G (r_p1 1) 100 v_p1_numbers] [(0, .ref a_t), (1, .ref a_p1)] 0 [] := by
  unfold f_X5_clause at hf
  refine j_aload_n C (pc := 0) 0 rfl rfl dX5_clause_0 ?_
  refine j_cVI C (pc := 1) (As := []) (st := []) (ws' := fun q1 => [oX5 a_t r_t v_length v_at v_number, oX2 a_p1 r_p1 v_p1_length v_p1_need, aC G (r_t 0) 100 v_signs, aI G (r_p1 0) 100 v_p1_steps, aI G (r_p1 1) 100 v_p1_numbers]) ml_X5_35 ms_X5_next hf (fun q1 h => (c_X5_next G K.2.1) a_t r_t v_length v_at v_number v_signs q1 h) [0, 2] [some 0, none, some 1, none, none] 5 rfl (by decide +kernel) (by decide +kernel) (fun _ => rfl) (fun _ => rfl) rfl rfl rfl rfl ⟨Nat.zero_le _, Nat.zero_le _⟩ dX5_clause_1 kc_X5 0 rfl (fun q1 hf => ?_)
  refine j_istore_n C (pc := 4) (L' := [(2, .int q1), (0, .ref a_t), (1, .ref a_p1)]) dX5_clause_4 rfl (by decide) rfl ?_
  refine j_iload_n C (pc := 5) 0 rfl rfl dX5_clause_5 ?_
  refine j_bipush C (pc := 6) (v := 115) (by decide) dX5_clause_6 ?_
  refine j_icmp_ne C (pc := 8) 16 dX5_clause_8 (by decide) hf (fun hf => ?_) (fun hf => ?_)
  · refine j_iload_n C (pc := 16) 0 rfl rfl dX5_clause_16 ?_
    refine j_bipush C (pc := 17) (v := 98) (by decide) dX5_clause_17 ?_
    refine j_icmp_ne C (pc := 19) 27 dX5_clause_19 (by decide) hf (fun hf => ?_) (fun hf => ?_)
    · refine j_ldcS C (pc := 27) (tx := "need ") (i := 2) (by decide) dX5_clause_27 ?_
      refine j_sub [1, 2, 0] rfl ?_
      exact t_X5_clause_29 C hQ hf
    · refine j_ldcS C (pc := 22) (tx := "balm ") (i := 1) (by decide) dX5_clause_22 ?_
      refine j_goto C (pc := 24) 29 dX5_clause_24 (by decide) ?_
      refine j_sub [1, 2, 0] rfl ?_
      exact t_X5_clause_29 C hQ hf
  · refine j_ldcS C (pc := 11) (tx := "sting ") (i := 0) (by decide) dX5_clause_11 ?_
    refine j_goto C (pc := 13) 29 dX5_clause_13 (by decide) ?_
    refine j_sub [1, 2, 0] rfl ?_
    exact t_X5_clause_29 C hQ hf
def ct_X5_clause (G : Gx) (l : Launch) (F : Int32 → Int32 → Int32 → Int32 → Int32 → (Nat → Int32) → (Nat → Int32) → (Nat → Int32) → Option (Int32 × Int32 × Int32 × (Nat → Int32) × (Nat → Int32) × Int32 × Int32)) (lv : Nat) : Prop := ∀ (a_t : Nat) (r_t : Nat → Nat) (a_p1 : Nat) (r_p1 : Nat → Nat) (v_length : Int32) (v_at : Int32) (v_number : Int32) (v_p1_length : Int32) (v_p1_need : Int32) (v_signs : Nat → Int32) (v_p1_steps : Nat → Int32) (v_p1_numbers : Nat → Int32), ∀ (q : Int32 × Int32 × Int32 × (Nat → Int32) × (Nat → Int32) × Int32 × Int32), F v_length v_at v_number v_p1_length v_p1_need v_signs v_p1_steps v_p1_numbers = some q → MI G l yX5_clause cX5_clause 5 .boolean lv [.ref a_t, .ref a_p1] [oX5 a_t r_t v_length v_at v_number, oX2 a_p1 r_p1 v_p1_length v_p1_need, aC G (r_t 0) 100 v_signs, aI G (r_p1 0) 100 v_p1_steps, aI G (r_p1 1) 100 v_p1_numbers] [oX5 a_t r_t v_length q.2.1 q.2.2.1, oX2 a_p1 r_p1 q.2.2.2.2.2.1 q.2.2.2.2.2.2, aC G (r_t 0) 100 v_signs, aI G (r_p1 0) 100 q.2.2.2.1, aI G (r_p1 1) 100 q.2.2.2.2.1] q.1
theorem c_X5_clause (G : Gx) (l : Launch) : ct_X5_clause G l f_X5_clause 67 := by
  intro a_t r_t a_p1 r_p1 v_length v_at v_number v_p1_length v_p1_need v_signs v_p1_steps v_p1_numbers q hf
  exact mI_of (by decide +kernel) rfl (fun K hl C hQ => t_X5_clause C hQ hf)
-- X5_parse
def f_X5_parse_30 (v_length : Int32) (v_signs : Nat → Int32) (k11 : Int32 → Int32 → Int32 → Int32 → Int32 → (Nat → Int32) → (Nat → Int32) → Option (Int32 × Int32 × Int32 × Int32 × Int32 × (Nat → Int32) × (Nat → Int32))) (x2 : Int32) (w_p1_length : Int32) (w_p1_need : Int32) (w_at : Int32) (w_number : Int32) (w_p1_steps : Nat → Int32) (w_p1_numbers : Nat → Int32) : Option (Int32 × Int32 × Int32 × Int32 × Int32 × (Nat → Int32) × (Nat → Int32)) := ((f_X5_clause v_length w_at w_number w_p1_length w_p1_need v_signs w_p1_steps w_p1_numbers).bind fun q1 => (if q1.1 = 0 then (some ((0 : Int32), q1.2.2.2.2.2.1, q1.2.2.2.2.2.2, q1.2.1, q1.2.2.1, q1.2.2.2.1, q1.2.2.2.2.1)) else (if q1.2.1 = v_length then (some ((1 : Int32), q1.2.2.2.2.2.1, q1.2.2.2.2.2.2, q1.2.1, q1.2.2.1, q1.2.2.2.1, q1.2.2.2.2.1)) else (k11 (x2 + (1 : Int32)) q1.2.2.2.2.2.1 q1.2.2.2.2.2.2 q1.2.1 q1.2.2.1 q1.2.2.2.1 q1.2.2.2.2.1))))
set_option maxRecDepth 20000 in
set_option maxHeartbeats 1000000 in
theorem t_X5_parse_30 {G : Gx} {K : Kx} (C : Cx G K cX5_parse RX5 3 68) {a_t : Nat} {r_t : Nat → Nat} {a_p1 : Nat} {r_p1 : Nat → Nat} {v_length : Int32} {v_signs : Nat → Int32} {q : Int32 × Int32 × Int32 × Int32 × Int32 × (Nat → Int32) × (Nat → Int32)} (hQ : k_retI G K cX5_parse 3 .boolean [oX5 a_t r_t v_length q.2.2.2.1 q.2.2.2.2.1, oX2 a_p1 r_p1 q.2.1 q.2.2.1, aC G (r_t 0) 100 v_signs, aI G (r_p1 0) 100 q.2.2.2.2.2.1, aI G (r_p1 1) 100 q.2.2.2.2.2.2] q.1) {k11 : Int32 → Int32 → Int32 → Int32 → Int32 → (Nat → Int32) → (Nat → Int32) → Option (Int32 × Int32 × Int32 × Int32 × Int32 × (Nat → Int32) × (Nat → Int32))} (hk11 : ∀ (x2 : Int32) (w_p1_length : Int32) (w_p1_need : Int32) (w_at : Int32) (w_number : Int32) (w_p1_steps : Nat → Int32) (w_p1_numbers : Nat → Int32), k11 x2 w_p1_length w_p1_need w_at w_number w_p1_steps w_p1_numbers = some q → J G K 3 0 0 [oX5 a_t r_t v_length w_at w_number, oX2 a_p1 r_p1 w_p1_length w_p1_need, aC G (r_t 0) 100 v_signs, aI G (r_p1 0) 100 w_p1_steps, aI G (r_p1 1) 100 w_p1_numbers] [(0, .ref a_t), (1, .ref a_p1), (2, .int x2)] 11 []) {x2 : Int32} {w_p1_length : Int32} {w_p1_need : Int32} {w_at : Int32} {w_number : Int32} {w_p1_steps : Nat → Int32} {w_p1_numbers : Nat → Int32} (hf : f_X5_parse_30 v_length v_signs k11 x2 w_p1_length w_p1_need w_at w_number w_p1_steps w_p1_numbers = some q) : J G K 3 0 0 [oX5 a_t r_t v_length w_at w_number, oX2 a_p1 r_p1 w_p1_length w_p1_need, aC G (r_t 0) 100 v_signs, aI G (r_p1 0) 100 w_p1_steps, aI G (r_p1 1) 100 w_p1_numbers] [(0, .ref a_t), (1, .ref a_p1), (2, .int x2)] 30 [] := by
  unfold f_X5_parse_30 at hf
  refine j_aload_n C (pc := 30) 0 rfl rfl dX5_parse_30 ?_
  refine j_aload_n C (pc := 31) 1 rfl rfl dX5_parse_31 ?_
  refine j_cVI C (pc := 32) (As := [.ref a_p1]) (st := []) (ws' := fun q1 => [oX5 a_t r_t v_length q1.2.1 q1.2.2.1, oX2 a_p1 r_p1 q1.2.2.2.2.2.1 q1.2.2.2.2.2.2, aC G (r_t 0) 100 v_signs, aI G (r_p1 0) 100 q1.2.2.2.1, aI G (r_p1 1) 100 q1.2.2.2.2.1]) ml_X5_31 ms_X5_clause hf (fun q1 h => (c_X5_clause G K.2.1) a_t r_t a_p1 r_p1 v_length w_at w_number w_p1_length w_p1_need v_signs w_p1_steps w_p1_numbers q1 h) [0, 1, 2, 3, 4] [some 0, some 1, some 2, some 3, some 4] 5 rfl (by decide +kernel) (by decide +kernel) (fun _ => rfl) (fun _ => rfl) rfl rfl rfl rfl ⟨Nat.zero_le _, Nat.zero_le _⟩ dX5_parse_32 kc_X5 0 rfl (fun q1 hf => ?_)
  refine j_if_ne C (pc := 35) 40 dX5_parse_35 (by decide) hf (fun hf => ?_) (fun hf => ?_)
  · refine j_aload_n C (pc := 40) 0 rfl rfl dX5_parse_40 ?_
    refine j_get C (pc := 41) kc_X5 fl_X5_24 0 rfl rfl dX5_parse_41 ?_
    refine j_aload_n C (pc := 44) 0 rfl rfl dX5_parse_44 ?_
    refine j_get C (pc := 45) kc_X5 fl_X5_15 0 rfl rfl dX5_parse_45 ?_
    refine j_icmp_ne C (pc := 48) 53 dX5_parse_48 (by decide) hf (fun hf => ?_) (fun hf => ?_)
    · refine j_iinc C (pc := 53) (L' := [(2, .int (x2 + (1 : Int32))), (0, .ref a_t), (1, .ref a_p1)]) (v := x2 + (1 : Int32)) dX5_parse_53 (t := 2) rfl rfl (by decide) rfl ?_
      refine j_goto C (pc := 56) 11 dX5_parse_56 (by decide) ?_
      refine j_sub [1, 2, 0] rfl ?_
      exact hk11 _ _ _ _ _ _ _ hf
    · refine j_iconst C (pc := 51) (v := 1) (by decide) dX5_parse_51 ?_
      obtain rfl := Option.some.inj hf
      exact hQ _ _ dX5_parse_52 (show narrow .boolean (.int (1 : Int32)) = .int (1 : Int32) from rfl)
  · refine j_iconst C (pc := 38) (v := 0) (by decide) dX5_parse_38 ?_
    obtain rfl := Option.some.inj hf
    exact hQ _ _ dX5_parse_39 (show narrow .boolean (.int (0 : Int32)) = .int (0 : Int32) from rfl)
def f_X5_parse_11_b (v_length : Int32) (v_signs : Nat → Int32) (k11 : Int32 → Int32 → Int32 → Int32 → Int32 → (Nat → Int32) → (Nat → Int32) → Option (Int32 × Int32 × Int32 × Int32 × Int32 × (Nat → Int32) × (Nat → Int32))) (x2 : Int32) (w_p1_length : Int32) (w_p1_need : Int32) (w_at : Int32) (w_number : Int32) (w_p1_steps : Nat → Int32) (w_p1_numbers : Nat → Int32) : Option (Int32 × Int32 × Int32 × Int32 × Int32 × (Nat → Int32) × (Nat → Int32)) := (if (10 : Int32) ≤ x2 then (some ((0 : Int32), w_p1_length, w_p1_need, w_at, w_number, w_p1_steps, w_p1_numbers)) else (if x2 ≤ 0 then (f_X5_parse_30 v_length v_signs k11 x2 w_p1_length w_p1_need w_at w_number w_p1_steps w_p1_numbers) else ((f_X5_take v_length w_at v_signs (59 : Int32)).bind fun q1 => (if q1.1 = 0 then (some ((0 : Int32), w_p1_length, w_p1_need, q1.2, w_number, w_p1_steps, w_p1_numbers)) else (f_X5_parse_30 v_length v_signs k11 x2 w_p1_length w_p1_need q1.2 w_number w_p1_steps w_p1_numbers)))))
def f_X5_parse_11 (v_length : Int32) (v_signs : Nat → Int32) : Nat → Int32 → Int32 → Int32 → Int32 → Int32 → (Nat → Int32) → (Nat → Int32) → Option (Int32 × Int32 × Int32 × Int32 × Int32 × (Nat → Int32) × (Nat → Int32))
  | 0 => fun _ _ _ _ _ _ _ => none
  | n + 1 => f_X5_parse_11_b v_length v_signs (f_X5_parse_11 v_length v_signs n)
set_option maxRecDepth 20000 in
set_option maxHeartbeats 1000000 in
theorem t_X5_parse_11_b {G : Gx} {K : Kx} (C : Cx G K cX5_parse RX5 3 68) {a_t : Nat} {r_t : Nat → Nat} {a_p1 : Nat} {r_p1 : Nat → Nat} {v_length : Int32} {v_signs : Nat → Int32} {q : Int32 × Int32 × Int32 × Int32 × Int32 × (Nat → Int32) × (Nat → Int32)} (hQ : k_retI G K cX5_parse 3 .boolean [oX5 a_t r_t v_length q.2.2.2.1 q.2.2.2.2.1, oX2 a_p1 r_p1 q.2.1 q.2.2.1, aC G (r_t 0) 100 v_signs, aI G (r_p1 0) 100 q.2.2.2.2.2.1, aI G (r_p1 1) 100 q.2.2.2.2.2.2] q.1) {k11 : Int32 → Int32 → Int32 → Int32 → Int32 → (Nat → Int32) → (Nat → Int32) → Option (Int32 × Int32 × Int32 × Int32 × Int32 × (Nat → Int32) × (Nat → Int32))} (hk11 : ∀ (x2 : Int32) (w_p1_length : Int32) (w_p1_need : Int32) (w_at : Int32) (w_number : Int32) (w_p1_steps : Nat → Int32) (w_p1_numbers : Nat → Int32), k11 x2 w_p1_length w_p1_need w_at w_number w_p1_steps w_p1_numbers = some q → J G K 3 0 0 [oX5 a_t r_t v_length w_at w_number, oX2 a_p1 r_p1 w_p1_length w_p1_need, aC G (r_t 0) 100 v_signs, aI G (r_p1 0) 100 w_p1_steps, aI G (r_p1 1) 100 w_p1_numbers] [(0, .ref a_t), (1, .ref a_p1), (2, .int x2)] 11 []) {x2 : Int32} {w_p1_length : Int32} {w_p1_need : Int32} {w_at : Int32} {w_number : Int32} {w_p1_steps : Nat → Int32} {w_p1_numbers : Nat → Int32} (hf : f_X5_parse_11_b v_length v_signs k11 x2 w_p1_length w_p1_need w_at w_number w_p1_steps w_p1_numbers = some q) : J G K 3 0 0 [oX5 a_t r_t v_length w_at w_number, oX2 a_p1 r_p1 w_p1_length w_p1_need, aC G (r_t 0) 100 v_signs, aI G (r_p1 0) 100 w_p1_steps, aI G (r_p1 1) 100 w_p1_numbers] [(0, .ref a_t), (1, .ref a_p1), (2, .int x2)] 11 [] := by
  unfold f_X5_parse_11_b at hf
  refine j_iload_n C (pc := 11) 2 rfl rfl dX5_parse_11 ?_
  refine j_bipush C (pc := 12) (v := 10) (by decide) dX5_parse_12 ?_
  refine j_icmp_ge C (pc := 14) 59 dX5_parse_14 (by decide) hf (fun hf => ?_) (fun hf => ?_)
  · refine j_iconst C (pc := 59) (v := 0) (by decide) dX5_parse_59 ?_
    obtain rfl := Option.some.inj hf
    exact hQ _ _ dX5_parse_60 (show narrow .boolean (.int (0 : Int32)) = .int (0 : Int32) from rfl)
  · refine j_iload_n C (pc := 17) 2 rfl rfl dX5_parse_17 ?_
    refine j_if_le C (pc := 18) 30 dX5_parse_18 (by decide) hf (fun hf => ?_) (fun hf => ?_)
    · exact t_X5_parse_30 C hQ hk11 hf
    · refine j_aload_n C (pc := 21) 0 rfl rfl dX5_parse_21 ?_
      refine j_bipush C (pc := 22) (v := 59) (by decide) dX5_parse_22 ?_
      refine j_cVI C (pc := 24) (As := [.int (59 : Int32)]) (st := []) (ws' := fun q1 => [oX5 a_t r_t v_length q1.2 w_number, oX2 a_p1 r_p1 w_p1_length w_p1_need, aC G (r_t 0) 100 v_signs, aI G (r_p1 0) 100 w_p1_steps, aI G (r_p1 1) 100 w_p1_numbers]) ml_X5_27 ms_X5_take hf (fun q1 h => (c_X5_take G K.2.1) a_t r_t v_length w_at w_number v_signs (59 : Int32) q1 h) [0, 2] [some 0, none, some 1, none, none] 5 rfl (by decide +kernel) (by decide +kernel) (fun _ => rfl) (fun _ => rfl) rfl rfl rfl rfl ⟨Nat.zero_le _, Nat.zero_le _⟩ dX5_parse_24 kc_X5 0 rfl (fun q1 hf => ?_)
      refine j_if_eq C (pc := 27) 38 dX5_parse_27 (by decide) hf (fun hf => ?_) (fun hf => ?_)
      · refine j_iconst C (pc := 38) (v := 0) (by decide) dX5_parse_38 ?_
        obtain rfl := Option.some.inj hf
        exact hQ _ _ dX5_parse_39 (show narrow .boolean (.int (0 : Int32)) = .int (0 : Int32) from rfl)
      · exact t_X5_parse_30 C hQ hk11 hf
theorem t_X5_parse_11 {G : Gx} {K : Kx} (C : Cx G K cX5_parse RX5 3 68) {a_t : Nat} {r_t : Nat → Nat} {a_p1 : Nat} {r_p1 : Nat → Nat} {v_length : Int32} {v_signs : Nat → Int32} {q : Int32 × Int32 × Int32 × Int32 × Int32 × (Nat → Int32) × (Nat → Int32)} (hQ : k_retI G K cX5_parse 3 .boolean [oX5 a_t r_t v_length q.2.2.2.1 q.2.2.2.2.1, oX2 a_p1 r_p1 q.2.1 q.2.2.1, aC G (r_t 0) 100 v_signs, aI G (r_p1 0) 100 q.2.2.2.2.2.1, aI G (r_p1 1) 100 q.2.2.2.2.2.2] q.1) : ∀ (n : Nat) (x2 : Int32) (w_p1_length : Int32) (w_p1_need : Int32) (w_at : Int32) (w_number : Int32) (w_p1_steps : Nat → Int32) (w_p1_numbers : Nat → Int32), f_X5_parse_11 v_length v_signs n x2 w_p1_length w_p1_need w_at w_number w_p1_steps w_p1_numbers = some q → J G K 3 0 0 [oX5 a_t r_t v_length w_at w_number, oX2 a_p1 r_p1 w_p1_length w_p1_need, aC G (r_t 0) 100 v_signs, aI G (r_p1 0) 100 w_p1_steps, aI G (r_p1 1) 100 w_p1_numbers] [(0, .ref a_t), (1, .ref a_p1), (2, .int x2)] 11 [] := by
  intro n
  induction n with
  | zero => intro x2 w_p1_length w_p1_need w_at w_number w_p1_steps w_p1_numbers hf; cases hf
  | succ n ih => intro x2 w_p1_length w_p1_need w_at w_number w_p1_steps w_p1_numbers hf; exact t_X5_parse_11_b C hQ ih hf
def f_X5_parse (v_length : Int32) (v_number : Int32) (v_signs : Nat → Int32) (v_p1_steps : Nat → Int32) (v_p1_numbers : Nat → Int32) : Option (Int32 × Int32 × Int32 × Int32 × Int32 × (Nat → Int32) × (Nat → Int32)) := ((f_X2_startOver).bind fun q1 => (f_X5_parse_11 v_length v_signs 1000 (0 : Int32) q1.1 q1.2 (0 : Int32) v_number v_p1_steps v_p1_numbers))
set_option maxRecDepth 20000 in
set_option maxHeartbeats 1000000 in
theorem t_X5_parse {G : Gx} {K : Kx} (C : Cx G K cX5_parse RX5 3 68) {a_t : Nat} {r_t : Nat → Nat} {a_p1 : Nat} {r_p1 : Nat → Nat} {v_length : Int32} {v_at : Int32} {v_number : Int32} {v_p1_length : Int32} {v_p1_need : Int32} {v_signs : Nat → Int32} {v_p1_steps : Nat → Int32} {v_p1_numbers : Nat → Int32} {q : Int32 × Int32 × Int32 × Int32 × Int32 × (Nat → Int32) × (Nat → Int32)} (hQ : k_retI G K cX5_parse 3 .boolean [oX5 a_t r_t v_length q.2.2.2.1 q.2.2.2.2.1, oX2 a_p1 r_p1 q.2.1 q.2.2.1, aC G (r_t 0) 100 v_signs, aI G (r_p1 0) 100 q.2.2.2.2.2.1, aI G (r_p1 1) 100 q.2.2.2.2.2.2] q.1) (hf : f_X5_parse v_length v_number v_signs v_p1_steps v_p1_numbers = some q) : J G K 3 0 0 [oX5 a_t r_t v_length v_at v_number, oX2 a_p1 r_p1 v_p1_length v_p1_need, aC G (r_t 0) 100 v_signs, aI G (r_p1 0) 100 v_p1_steps, aI G (r_p1 1) 100 v_p1_numbers] [(0, .ref a_t), (1, .ref a_p1)] 0 [] := by
  unfold f_X5_parse at hf
  refine j_aload_n C (pc := 0) 1 rfl rfl dX5_parse_0 ?_
  refine j_cVZ C (pc := 1) (As := []) (st := []) (ws' := fun q1 => [oX5 a_t r_t v_length v_at v_number, oX2 a_p1 r_p1 q1.1 q1.2, aC G (r_t 0) 100 v_signs, aI G (r_p1 0) 100 v_p1_steps, aI G (r_p1 1) 100 v_p1_numbers]) ml_X5_19 ms_X2_startOver hf (fun q1 h => (c_X2_startOver G K.2.1) a_p1 r_p1 v_p1_length v_p1_need q1 h) [1] [none, some 0, none, none, none] 5 rfl (by decide +kernel) (by decide +kernel) (fun _ => rfl) (fun _ => rfl) rfl rfl rfl rfl ⟨Nat.zero_le _, Nat.zero_le _⟩ dX5_parse_1 kc_X2 1 rfl (fun q1 hf => ?_)
  refine j_aload_n C (pc := 4) 0 rfl rfl dX5_parse_4 ?_
  refine j_iconst C (pc := 5) (v := 0) (by decide) dX5_parse_5 ?_
  refine j_put C (pc := 6) (ws' := [oX5 a_t r_t v_length (0 : Int32) v_number, oX2 a_p1 r_p1 q1.1 q1.2, aC G (r_t 0) 100 v_signs, aI G (r_p1 0) 100 v_p1_steps, aI G (r_p1 1) 100 v_p1_numbers]) kc_X5 fl_X5_24 0 rfl rfl rfl rfl rfl rfl dX5_parse_6 ?_
  refine j_iconst C (pc := 9) (v := 0) (by decide) dX5_parse_9 ?_
  refine j_istore_n C (pc := 10) (L' := [(2, .int (0 : Int32)), (0, .ref a_t), (1, .ref a_p1)]) dX5_parse_10 rfl (by decide) rfl ?_
  refine j_sub [1, 2, 0] rfl ?_
  exact t_X5_parse_11 C hQ 1000 _ _ _ _ _ _ _ hf
def ct_X5_parse (G : Gx) (l : Launch) (F : Int32 → Int32 → (Nat → Int32) → (Nat → Int32) → (Nat → Int32) → Option (Int32 × Int32 × Int32 × Int32 × Int32 × (Nat → Int32) × (Nat → Int32))) (lv : Nat) : Prop := ∀ (a_t : Nat) (r_t : Nat → Nat) (a_p1 : Nat) (r_p1 : Nat → Nat) (v_length : Int32) (v_at : Int32) (v_number : Int32) (v_p1_length : Int32) (v_p1_need : Int32) (v_signs : Nat → Int32) (v_p1_steps : Nat → Int32) (v_p1_numbers : Nat → Int32), ∀ (q : Int32 × Int32 × Int32 × Int32 × Int32 × (Nat → Int32) × (Nat → Int32)), F v_length v_number v_signs v_p1_steps v_p1_numbers = some q → MI G l yX5_parse cX5_parse 3 .boolean lv [.ref a_t, .ref a_p1] [oX5 a_t r_t v_length v_at v_number, oX2 a_p1 r_p1 v_p1_length v_p1_need, aC G (r_t 0) 100 v_signs, aI G (r_p1 0) 100 v_p1_steps, aI G (r_p1 1) 100 v_p1_numbers] [oX5 a_t r_t v_length q.2.2.2.1 q.2.2.2.2.1, oX2 a_p1 r_p1 q.2.1 q.2.2.1, aC G (r_t 0) 100 v_signs, aI G (r_p1 0) 100 q.2.2.2.2.2.1, aI G (r_p1 1) 100 q.2.2.2.2.2.2] q.1
theorem c_X5_parse (G : Gx) (l : Launch) : ct_X5_parse G l f_X5_parse 68 := by
  intro a_t r_t a_p1 r_p1 v_length v_at v_number v_p1_length v_p1_need v_signs v_p1_steps v_p1_numbers q hf
  exact mI_of (by decide +kernel) rfl (fun K hl C hQ => t_X5_parse C hQ hf)
-- X6_allHate
def f_X6_allHate_4_b (v_hates : Nat → Int32) (k4 : Int32 → Int32 → Option (Int32)) (x1 : Int32) (x2 : Int32) : Option (Int32) := (if (36 : Int32) ≤ x2 then (some x1) else (gd x2 36 (nm (x1 + (v_hates x2.toNatClampNeg)) fun y1 => (k4 y1 (x2 + (1 : Int32))))))
def f_X6_allHate_4 (v_hates : Nat → Int32) : Nat → Int32 → Int32 → Option (Int32)
  | 0 => fun _ _ => none
  | n + 1 => f_X6_allHate_4_b v_hates (f_X6_allHate_4 v_hates n)
set_option maxRecDepth 20000 in
set_option maxHeartbeats 1000000 in
theorem t_X6_allHate_4_b {G : Gx} {K : Kx} (C : Cx G K cX6_allHate RX6 3 1) {a_t : Nat} {r_t : Nat → Nat} {v_people : Int32} {v_day : Int32} {v_dead : Int32} {v_buried : Int32} {a_holding : Nat} {v_hates : Nat → Int32} {q : Int32} (hQ : k_retI G K cX6_allHate 3 .int [oX6 a_t r_t v_people v_day v_dead v_buried a_holding, aI G (r_t 8) 36 v_hates] q) {k4 : Int32 → Int32 → Option (Int32)} (hk4 : ∀ (x1 : Int32) (x2 : Int32), k4 x1 x2 = some q → J G K 3 0 0 [oX6 a_t r_t v_people v_day v_dead v_buried a_holding, aI G (r_t 8) 36 v_hates] [(0, .ref a_t), (1, .int x1), (2, .int x2)] 4 []) {x1 : Int32} {x2 : Int32} (hf : f_X6_allHate_4_b v_hates k4 x1 x2 = some q) : J G K 3 0 0 [oX6 a_t r_t v_people v_day v_dead v_buried a_holding, aI G (r_t 8) 36 v_hates] [(0, .ref a_t), (1, .int x1), (2, .int x2)] 4 [] := by
  unfold f_X6_allHate_4_b at hf
  refine j_iload_n C (pc := 4) 2 rfl rfl dX6_allHate_4 ?_
  refine j_bipush C (pc := 5) (v := 36) (by decide) dX6_allHate_5 ?_
  refine j_icmp_ge C (pc := 7) 25 dX6_allHate_7 (by decide) hf (fun hf => ?_) (fun hf => ?_)
  · refine j_iload_n C (pc := 25) 1 rfl rfl dX6_allHate_25 ?_
    obtain rfl := Option.some.inj hf
    exact hQ _ _ dX6_allHate_26 rfl
  · refine j_iload_n C (pc := 10) 1 rfl rfl dX6_allHate_10 ?_
    refine j_aload_n C (pc := 11) 0 rfl rfl dX6_allHate_11 ?_
    refine j_get C (pc := 12) kc_X6 fl_X6_28 0 rfl rfl dX6_allHate_12 ?_
    refine j_iload_n C (pc := 15) 2 rfl rfl dX6_allHate_15 ?_
    refine j_iald C (pc := 16) 1 rfl hf dX6_allHate_16 (fun hf => ?_)
    refine j_iadd C (pc := 17) dX6_allHate_17 ?_
    refine j_nm hf (fun y1 hf => ?_)
    refine j_istore_n C (pc := 18) (L' := [(1, .int y1), (0, .ref a_t), (2, .int x2)]) dX6_allHate_18 rfl (by decide) rfl ?_
    refine j_iinc C (pc := 19) (L' := [(2, .int (x2 + (1 : Int32))), (1, .int y1), (0, .ref a_t)]) (v := x2 + (1 : Int32)) dX6_allHate_19 (t := 2) rfl rfl (by decide) rfl ?_
    refine j_goto C (pc := 22) 4 dX6_allHate_22 (by decide) ?_
    refine j_sub [2, 1, 0] rfl ?_
    exact hk4 _ _ hf
theorem t_X6_allHate_4 {G : Gx} {K : Kx} (C : Cx G K cX6_allHate RX6 3 1) {a_t : Nat} {r_t : Nat → Nat} {v_people : Int32} {v_day : Int32} {v_dead : Int32} {v_buried : Int32} {a_holding : Nat} {v_hates : Nat → Int32} {q : Int32} (hQ : k_retI G K cX6_allHate 3 .int [oX6 a_t r_t v_people v_day v_dead v_buried a_holding, aI G (r_t 8) 36 v_hates] q) : ∀ (n : Nat) (x1 : Int32) (x2 : Int32), f_X6_allHate_4 v_hates n x1 x2 = some q → J G K 3 0 0 [oX6 a_t r_t v_people v_day v_dead v_buried a_holding, aI G (r_t 8) 36 v_hates] [(0, .ref a_t), (1, .int x1), (2, .int x2)] 4 [] := by
  intro n
  induction n with
  | zero => intro x1 x2 hf; cases hf
  | succ n ih => intro x1 x2 hf; exact t_X6_allHate_4_b C hQ ih hf
def f_X6_allHate (v_hates : Nat → Int32) : Option (Int32) := (f_X6_allHate_4 v_hates 1000 (0 : Int32) (0 : Int32))
set_option maxRecDepth 20000 in
set_option maxHeartbeats 1000000 in
theorem t_X6_allHate {G : Gx} {K : Kx} (C : Cx G K cX6_allHate RX6 3 1) {a_t : Nat} {r_t : Nat → Nat} {v_people : Int32} {v_day : Int32} {v_dead : Int32} {v_buried : Int32} {a_holding : Nat} {v_hates : Nat → Int32} {q : Int32} (hQ : k_retI G K cX6_allHate 3 .int [oX6 a_t r_t v_people v_day v_dead v_buried a_holding, aI G (r_t 8) 36 v_hates] q) (hf : f_X6_allHate v_hates = some q) : J G K 3 0 0 [oX6 a_t r_t v_people v_day v_dead v_buried a_holding, aI G (r_t 8) 36 v_hates] [(0, .ref a_t)] 0 [] := by
  unfold f_X6_allHate at hf
  refine j_iconst C (pc := 0) (v := 0) (by decide) dX6_allHate_0 ?_
  refine j_istore_n C (pc := 1) (L' := [(1, .int (0 : Int32)), (0, .ref a_t)]) dX6_allHate_1 rfl (by decide) rfl ?_
  refine j_iconst C (pc := 2) (v := 0) (by decide) dX6_allHate_2 ?_
  refine j_istore_n C (pc := 3) (L' := [(2, .int (0 : Int32)), (1, .int (0 : Int32)), (0, .ref a_t)]) dX6_allHate_3 rfl (by decide) rfl ?_
  refine j_sub [2, 1, 0] rfl ?_
  exact t_X6_allHate_4 C hQ 1000 _ _ hf
def ct_X6_allHate (G : Gx) (l : Launch) (F : (Nat → Int32) → Option (Int32)) (lv : Nat) : Prop := ∀ (a_t : Nat) (r_t : Nat → Nat) (v_people : Int32) (v_day : Int32) (v_dead : Int32) (v_buried : Int32) (a_holding : Nat) (v_hates : Nat → Int32), ∀ (q : Int32), F v_hates = some q → MI G l yX6_allHate cX6_allHate 3 .int lv [.ref a_t] [oX6 a_t r_t v_people v_day v_dead v_buried a_holding, aI G (r_t 8) 36 v_hates] [oX6 a_t r_t v_people v_day v_dead v_buried a_holding, aI G (r_t 8) 36 v_hates] q
theorem c_X6_allHate (G : Gx) (l : Launch) : ct_X6_allHate G l f_X6_allHate 1 := by
  intro a_t r_t v_people v_day v_dead v_buried a_holding v_hates q hf
  exact mI_of (by decide +kernel) rfl (fun K hl C hQ => t_X6_allHate C hQ hf)
-- X6_come
def f_X6_come (v_people : Int32) (v_kinds : Nat → Int32) (v_vs : Nat → Int32) (p1 : Int32) (p2 : Int32) : Option (Int32 × (Nat → Int32) × (Nat → Int32) × Int32) := (if v_people < (6 : Int32) then (gd v_people 6 (gd v_people 6 (some ((v_people + (1 : Int32)) - (1 : Int32), upd v_kinds v_people.toNatClampNeg p1, upd v_vs v_people.toNatClampNeg p2, v_people + (1 : Int32))))) else (some ((-4 : Int32), v_kinds, v_vs, v_people)))
set_option maxRecDepth 20000 in
set_option maxHeartbeats 1000000 in
theorem t_X6_come {G : Gx} {K : Kx} (C : Cx G K cX6_come RX6 3 1) {a_t : Nat} {r_t : Nat → Nat} {v_people : Int32} {v_day : Int32} {v_dead : Int32} {v_buried : Int32} {a_holding : Nat} {v_kinds : Nat → Int32} {v_vs : Nat → Int32} {p1 : Int32} {p2 : Int32} {q : Int32 × (Nat → Int32) × (Nat → Int32) × Int32} (hQ : k_retI G K cX6_come 3 .int [oX6 a_t r_t q.2.2.2 v_day v_dead v_buried a_holding, aI G (r_t 5) 6 q.2.1, aI G (r_t 6) 6 q.2.2.1] q.1) (hf : f_X6_come v_people v_kinds v_vs p1 p2 = some q) : J G K 3 0 0 [oX6 a_t r_t v_people v_day v_dead v_buried a_holding, aI G (r_t 5) 6 v_kinds, aI G (r_t 6) 6 v_vs] [(0, .ref a_t), (1, .int p1), (2, .int p2)] 0 [] := by
  unfold f_X6_come at hf
  refine j_aload_n C (pc := 0) 0 rfl rfl dX6_come_0 ?_
  refine j_get C (pc := 1) kc_X6 fl_X6_52 0 rfl rfl dX6_come_1 ?_
  refine j_bipush C (pc := 4) (v := 6) (by decide) dX6_come_4 ?_
  refine j_icmp_lt C (pc := 6) 12 dX6_come_6 (by decide) hf (fun hf => ?_) (fun hf => ?_)
  · refine j_aload_n C (pc := 12) 0 rfl rfl dX6_come_12 ?_
    refine j_get C (pc := 13) kc_X6 fl_X6_18 0 rfl rfl dX6_come_13 ?_
    refine j_aload_n C (pc := 16) 0 rfl rfl dX6_come_16 ?_
    refine j_get C (pc := 17) kc_X6 fl_X6_52 0 rfl rfl dX6_come_17 ?_
    refine j_iload_n C (pc := 20) 1 rfl rfl dX6_come_20 ?_
    refine j_iast C (pc := 21) (ws' := [oX6 a_t r_t v_people v_day v_dead v_buried a_holding, aI G (r_t 5) 6 (upd v_kinds v_people.toNatClampNeg p1), aI G (r_t 6) 6 v_vs]) 1 rfl hf rfl dX6_come_21 (fun hf => ?_)
    refine j_aload_n C (pc := 22) 0 rfl rfl dX6_come_22 ?_
    refine j_get C (pc := 23) kc_X6 fl_X6_22 0 rfl rfl dX6_come_23 ?_
    refine j_aload_n C (pc := 26) 0 rfl rfl dX6_come_26 ?_
    refine j_get C (pc := 27) kc_X6 fl_X6_52 0 rfl rfl dX6_come_27 ?_
    refine j_iload_n C (pc := 30) 2 rfl rfl dX6_come_30 ?_
    refine j_iast C (pc := 31) (ws' := [oX6 a_t r_t v_people v_day v_dead v_buried a_holding, aI G (r_t 5) 6 (upd v_kinds v_people.toNatClampNeg p1), aI G (r_t 6) 6 (upd v_vs v_people.toNatClampNeg p2)]) 2 rfl hf rfl dX6_come_31 (fun hf => ?_)
    refine j_aload_n C (pc := 32) 0 rfl rfl dX6_come_32 ?_
    refine j_dup C (pc := 33) rfl dX6_come_33 ?_
    refine j_get C (pc := 34) kc_X6 fl_X6_52 0 rfl rfl dX6_come_34 ?_
    refine j_iconst C (pc := 37) (v := 1) (by decide) dX6_come_37 ?_
    refine j_iadd C (pc := 38) dX6_come_38 ?_
    refine j_put C (pc := 39) (ws' := [oX6 a_t r_t (v_people + (1 : Int32)) v_day v_dead v_buried a_holding, aI G (r_t 5) 6 (upd v_kinds v_people.toNatClampNeg p1), aI G (r_t 6) 6 (upd v_vs v_people.toNatClampNeg p2)]) kc_X6 fl_X6_52 0 rfl rfl rfl rfl rfl rfl dX6_come_39 ?_
    refine j_aload_n C (pc := 42) 0 rfl rfl dX6_come_42 ?_
    refine j_get C (pc := 43) kc_X6 fl_X6_52 0 rfl rfl dX6_come_43 ?_
    refine j_iconst C (pc := 46) (v := 1) (by decide) dX6_come_46 ?_
    refine j_isub C (pc := 47) dX6_come_47 ?_
    obtain rfl := Option.some.inj hf
    exact hQ _ _ dX6_come_48 rfl
  · refine j_bipush C (pc := 9) (v := -4) (by decide) dX6_come_9 ?_
    obtain rfl := Option.some.inj hf
    exact hQ _ _ dX6_come_11 rfl
def ct_X6_come (G : Gx) (l : Launch) (F : Int32 → (Nat → Int32) → (Nat → Int32) → Int32 → Int32 → Option (Int32 × (Nat → Int32) × (Nat → Int32) × Int32)) (lv : Nat) : Prop := ∀ (a_t : Nat) (r_t : Nat → Nat) (v_people : Int32) (v_day : Int32) (v_dead : Int32) (v_buried : Int32) (a_holding : Nat) (v_kinds : Nat → Int32) (v_vs : Nat → Int32) (p1 : Int32) (p2 : Int32), ∀ (q : Int32 × (Nat → Int32) × (Nat → Int32) × Int32), F v_people v_kinds v_vs p1 p2 = some q → MI G l yX6_come cX6_come 3 .int lv [.ref a_t, .int p1, .int p2] [oX6 a_t r_t v_people v_day v_dead v_buried a_holding, aI G (r_t 5) 6 v_kinds, aI G (r_t 6) 6 v_vs] [oX6 a_t r_t q.2.2.2 v_day v_dead v_buried a_holding, aI G (r_t 5) 6 q.2.1, aI G (r_t 6) 6 q.2.2.1] q.1
theorem c_X6_come (G : Gx) (l : Launch) : ct_X6_come G l f_X6_come 1 := by
  intro a_t r_t v_people v_day v_dead v_buried a_holding v_kinds v_vs p1 p2 q hf
  exact mI_of (by decide +kernel) rfl (fun K hl C hQ => t_X6_come C hQ hf)
-- X6_copyFrom
def f_X6_copyFrom (v_p1_people : Int32) (v_p1_day : Int32) (v_p1_dead : Int32) (v_p1_buried : Int32) (v_p1_kinds : Nat → Int32) (v_kinds : Nat → Int32) (v_p1_vs : Nat → Int32) (v_vs : Nat → Int32) (v_p1_thrown : Nat → Int32) (v_thrown : Nat → Int32) (v_p1_hates : Nat → Int32) (v_hates : Nat → Int32) (v_p1_rows : Nat → Int32) (v_rows : Nat → Int32) (v_p1_seen_size : Int32) (v_p1_seen_cells : Nat → Int32) (v_seen_cells : Nat → Int32) (v_p1_plan_size : Int32) (v_p1_plan_cells : Nat → Int32) (v_plan_cells : Nat → Int32) (v_p1_book_size : Int32) (v_p1_book_cells : Nat → Int32) (v_book_cells : Nat → Int32) : Option (Int32 × Int32 × Int32 × Int32 × (Nat → Int32) × (Nat → Int32) × (Nat → Int32) × (Nat → Int32) × (Nat → Int32) × Int32 × (Nat → Int32) × Int32 × (Nat → Int32) × Int32 × (Nat → Int32)) := (gcp (0 : Int32) (0 : Int32) (6 : Int32) 6 6 (gcp (0 : Int32) (0 : Int32) (6 : Int32) 6 6 (gcp (0 : Int32) (0 : Int32) (6 : Int32) 6 6 (gcp (0 : Int32) (0 : Int32) (36 : Int32) 36 36 (gcp (0 : Int32) (0 : Int32) (24 : Int32) 24 24 ((f_X3_copyFrom v_p1_seen_size v_p1_seen_cells v_seen_cells).bind fun q1 => ((f_X3_copyFrom v_p1_plan_size v_p1_plan_cells v_plan_cells).bind fun q2 => ((f_X3_copyFrom v_p1_book_size v_p1_book_cells v_book_cells).bind fun q3 => (some (v_p1_people, v_p1_day, v_p1_dead, v_p1_buried, va_cpy v_p1_kinds v_kinds (0 : Int32).toNatClampNeg (0 : Int32).toNatClampNeg (6 : Int32).toNatClampNeg, va_cpy v_p1_vs v_vs (0 : Int32).toNatClampNeg (0 : Int32).toNatClampNeg (6 : Int32).toNatClampNeg, va_cpy v_p1_thrown v_thrown (0 : Int32).toNatClampNeg (0 : Int32).toNatClampNeg (6 : Int32).toNatClampNeg, va_cpy v_p1_hates v_hates (0 : Int32).toNatClampNeg (0 : Int32).toNatClampNeg (36 : Int32).toNatClampNeg, va_cpy v_p1_rows v_rows (0 : Int32).toNatClampNeg (0 : Int32).toNatClampNeg (24 : Int32).toNatClampNeg, q1.1, q1.2, q2.1, q2.2, q3.1, q3.2))))))))))
set_option maxRecDepth 20000 in
set_option maxHeartbeats 1000000 in
theorem t_X6_copyFrom {G : Gx} {K : Kx} (C : Cx G K cX6_copyFrom RX6 2 2) {a_t : Nat} {r_t : Nat → Nat} {a_p1 : Nat} {r_p1 : Nat → Nat} {r_seen : Nat → Nat} {r_p1_seen : Nat → Nat} {r_plan : Nat → Nat} {r_p1_plan : Nat → Nat} {r_book : Nat → Nat} {r_p1_book : Nat → Nat} {v_people : Int32} {v_day : Int32} {v_dead : Int32} {v_buried : Int32} {a_holding : Nat} {v_p1_people : Int32} {v_p1_day : Int32} {v_p1_dead : Int32} {v_p1_buried : Int32} {a_p1_holding : Nat} {v_p1_kinds : Nat → Int32} {v_kinds : Nat → Int32} {v_p1_vs : Nat → Int32} {v_vs : Nat → Int32} {v_p1_thrown : Nat → Int32} {v_thrown : Nat → Int32} {v_p1_hates : Nat → Int32} {v_hates : Nat → Int32} {v_p1_rows : Nat → Int32} {v_rows : Nat → Int32} {v_seen_limit : Int32} {v_seen_size : Int32} {v_p1_seen_limit : Int32} {v_p1_seen_size : Int32} {v_p1_seen_cells : Nat → Int32} {v_seen_cells : Nat → Int32} {v_plan_limit : Int32} {v_plan_size : Int32} {v_p1_plan_limit : Int32} {v_p1_plan_size : Int32} {v_p1_plan_cells : Nat → Int32} {v_plan_cells : Nat → Int32} {v_book_limit : Int32} {v_book_size : Int32} {v_p1_book_limit : Int32} {v_p1_book_size : Int32} {v_p1_book_cells : Nat → Int32} {v_book_cells : Nat → Int32} {q : Int32 × Int32 × Int32 × Int32 × (Nat → Int32) × (Nat → Int32) × (Nat → Int32) × (Nat → Int32) × (Nat → Int32) × Int32 × (Nat → Int32) × Int32 × (Nat → Int32) × Int32 × (Nat → Int32)} (hQ : k_retV G K cX6_copyFrom 2 [oX6 a_t r_t q.1 q.2.1 q.2.2.1 q.2.2.2.1 a_p1_holding, oX6 a_p1 r_p1 v_p1_people v_p1_day v_p1_dead v_p1_buried a_p1_holding, aI G (r_p1 5) 6 v_p1_kinds, aI G (r_t 5) 6 q.2.2.2.2.1, aI G (r_p1 6) 6 v_p1_vs, aI G (r_t 6) 6 q.2.2.2.2.2.1, aI G (r_p1 7) 6 v_p1_thrown, aI G (r_t 7) 6 q.2.2.2.2.2.2.1, aI G (r_p1 8) 36 v_p1_hates, aI G (r_t 8) 36 q.2.2.2.2.2.2.2.1, aI G (r_p1 9) 24 v_p1_rows, aI G (r_t 9) 24 q.2.2.2.2.2.2.2.2.1, oX3 (r_t 10) r_seen v_seen_limit q.2.2.2.2.2.2.2.2.2.1, oX3 (r_p1 10) r_p1_seen v_p1_seen_limit v_p1_seen_size, aI G (r_p1_seen 0) 40 v_p1_seen_cells, aI G (r_seen 0) 40 q.2.2.2.2.2.2.2.2.2.2.1, oX3 (r_t 11) r_plan v_plan_limit q.2.2.2.2.2.2.2.2.2.2.2.1, oX3 (r_p1 11) r_p1_plan v_p1_plan_limit v_p1_plan_size, aI G (r_p1_plan 0) 40 v_p1_plan_cells, aI G (r_plan 0) 40 q.2.2.2.2.2.2.2.2.2.2.2.2.1, oX3 (r_t 12) r_book v_book_limit q.2.2.2.2.2.2.2.2.2.2.2.2.2.1, oX3 (r_p1 12) r_p1_book v_p1_book_limit v_p1_book_size, aI G (r_p1_book 0) 40 v_p1_book_cells, aI G (r_book 0) 40 q.2.2.2.2.2.2.2.2.2.2.2.2.2.2]) (hf : f_X6_copyFrom v_p1_people v_p1_day v_p1_dead v_p1_buried v_p1_kinds v_kinds v_p1_vs v_vs v_p1_thrown v_thrown v_p1_hates v_hates v_p1_rows v_rows v_p1_seen_size v_p1_seen_cells v_seen_cells v_p1_plan_size v_p1_plan_cells v_plan_cells v_p1_book_size v_p1_book_cells v_book_cells = some q) : J G K 2 0 0 [oX6 a_t r_t v_people v_day v_dead v_buried a_holding, oX6 a_p1 r_p1 v_p1_people v_p1_day v_p1_dead v_p1_buried a_p1_holding, aI G (r_p1 5) 6 v_p1_kinds, aI G (r_t 5) 6 v_kinds, aI G (r_p1 6) 6 v_p1_vs, aI G (r_t 6) 6 v_vs, aI G (r_p1 7) 6 v_p1_thrown, aI G (r_t 7) 6 v_thrown, aI G (r_p1 8) 36 v_p1_hates, aI G (r_t 8) 36 v_hates, aI G (r_p1 9) 24 v_p1_rows, aI G (r_t 9) 24 v_rows, oX3 (r_t 10) r_seen v_seen_limit v_seen_size, oX3 (r_p1 10) r_p1_seen v_p1_seen_limit v_p1_seen_size, aI G (r_p1_seen 0) 40 v_p1_seen_cells, aI G (r_seen 0) 40 v_seen_cells, oX3 (r_t 11) r_plan v_plan_limit v_plan_size, oX3 (r_p1 11) r_p1_plan v_p1_plan_limit v_p1_plan_size, aI G (r_p1_plan 0) 40 v_p1_plan_cells, aI G (r_plan 0) 40 v_plan_cells, oX3 (r_t 12) r_book v_book_limit v_book_size, oX3 (r_p1 12) r_p1_book v_p1_book_limit v_p1_book_size, aI G (r_p1_book 0) 40 v_p1_book_cells, aI G (r_book 0) 40 v_book_cells] [(0, .ref a_t), (1, .ref a_p1)] 0 [] := by
  unfold f_X6_copyFrom at hf
  refine j_aload_n C (pc := 0) 0 rfl rfl dX6_copyFrom_0 ?_
  refine j_aload_n C (pc := 1) 1 rfl rfl dX6_copyFrom_1 ?_
  refine j_get C (pc := 2) kc_X6 fl_X6_52 1 rfl rfl dX6_copyFrom_2 ?_
  refine j_put C (pc := 5) (ws' := [oX6 a_t r_t v_p1_people v_day v_dead v_buried a_holding, oX6 a_p1 r_p1 v_p1_people v_p1_day v_p1_dead v_p1_buried a_p1_holding, aI G (r_p1 5) 6 v_p1_kinds, aI G (r_t 5) 6 v_kinds, aI G (r_p1 6) 6 v_p1_vs, aI G (r_t 6) 6 v_vs, aI G (r_p1 7) 6 v_p1_thrown, aI G (r_t 7) 6 v_thrown, aI G (r_p1 8) 36 v_p1_hates, aI G (r_t 8) 36 v_hates, aI G (r_p1 9) 24 v_p1_rows, aI G (r_t 9) 24 v_rows, oX3 (r_t 10) r_seen v_seen_limit v_seen_size, oX3 (r_p1 10) r_p1_seen v_p1_seen_limit v_p1_seen_size, aI G (r_p1_seen 0) 40 v_p1_seen_cells, aI G (r_seen 0) 40 v_seen_cells, oX3 (r_t 11) r_plan v_plan_limit v_plan_size, oX3 (r_p1 11) r_p1_plan v_p1_plan_limit v_p1_plan_size, aI G (r_p1_plan 0) 40 v_p1_plan_cells, aI G (r_plan 0) 40 v_plan_cells, oX3 (r_t 12) r_book v_book_limit v_book_size, oX3 (r_p1 12) r_p1_book v_p1_book_limit v_p1_book_size, aI G (r_p1_book 0) 40 v_p1_book_cells, aI G (r_book 0) 40 v_book_cells]) kc_X6 fl_X6_52 0 rfl rfl rfl rfl rfl rfl dX6_copyFrom_5 ?_
  refine j_aload_n C (pc := 8) 0 rfl rfl dX6_copyFrom_8 ?_
  refine j_aload_n C (pc := 9) 1 rfl rfl dX6_copyFrom_9 ?_
  refine j_get C (pc := 10) kc_X6 fl_X6_93 1 rfl rfl dX6_copyFrom_10 ?_
  refine j_put C (pc := 13) (ws' := [oX6 a_t r_t v_p1_people v_p1_day v_dead v_buried a_holding, oX6 a_p1 r_p1 v_p1_people v_p1_day v_p1_dead v_p1_buried a_p1_holding, aI G (r_p1 5) 6 v_p1_kinds, aI G (r_t 5) 6 v_kinds, aI G (r_p1 6) 6 v_p1_vs, aI G (r_t 6) 6 v_vs, aI G (r_p1 7) 6 v_p1_thrown, aI G (r_t 7) 6 v_thrown, aI G (r_p1 8) 36 v_p1_hates, aI G (r_t 8) 36 v_hates, aI G (r_p1 9) 24 v_p1_rows, aI G (r_t 9) 24 v_rows, oX3 (r_t 10) r_seen v_seen_limit v_seen_size, oX3 (r_p1 10) r_p1_seen v_p1_seen_limit v_p1_seen_size, aI G (r_p1_seen 0) 40 v_p1_seen_cells, aI G (r_seen 0) 40 v_seen_cells, oX3 (r_t 11) r_plan v_plan_limit v_plan_size, oX3 (r_p1 11) r_p1_plan v_p1_plan_limit v_p1_plan_size, aI G (r_p1_plan 0) 40 v_p1_plan_cells, aI G (r_plan 0) 40 v_plan_cells, oX3 (r_t 12) r_book v_book_limit v_book_size, oX3 (r_p1 12) r_p1_book v_p1_book_limit v_p1_book_size, aI G (r_p1_book 0) 40 v_p1_book_cells, aI G (r_book 0) 40 v_book_cells]) kc_X6 fl_X6_93 0 rfl rfl rfl rfl rfl rfl dX6_copyFrom_13 ?_
  refine j_aload_n C (pc := 16) 0 rfl rfl dX6_copyFrom_16 ?_
  refine j_aload_n C (pc := 17) 1 rfl rfl dX6_copyFrom_17 ?_
  refine j_get C (pc := 18) kc_X6 fl_X6_60 1 rfl rfl dX6_copyFrom_18 ?_
  refine j_put C (pc := 21) (ws' := [oX6 a_t r_t v_p1_people v_p1_day v_p1_dead v_buried a_holding, oX6 a_p1 r_p1 v_p1_people v_p1_day v_p1_dead v_p1_buried a_p1_holding, aI G (r_p1 5) 6 v_p1_kinds, aI G (r_t 5) 6 v_kinds, aI G (r_p1 6) 6 v_p1_vs, aI G (r_t 6) 6 v_vs, aI G (r_p1 7) 6 v_p1_thrown, aI G (r_t 7) 6 v_thrown, aI G (r_p1 8) 36 v_p1_hates, aI G (r_t 8) 36 v_hates, aI G (r_p1 9) 24 v_p1_rows, aI G (r_t 9) 24 v_rows, oX3 (r_t 10) r_seen v_seen_limit v_seen_size, oX3 (r_p1 10) r_p1_seen v_p1_seen_limit v_p1_seen_size, aI G (r_p1_seen 0) 40 v_p1_seen_cells, aI G (r_seen 0) 40 v_seen_cells, oX3 (r_t 11) r_plan v_plan_limit v_plan_size, oX3 (r_p1 11) r_p1_plan v_p1_plan_limit v_p1_plan_size, aI G (r_p1_plan 0) 40 v_p1_plan_cells, aI G (r_plan 0) 40 v_plan_cells, oX3 (r_t 12) r_book v_book_limit v_book_size, oX3 (r_p1 12) r_p1_book v_p1_book_limit v_p1_book_size, aI G (r_p1_book 0) 40 v_p1_book_cells, aI G (r_book 0) 40 v_book_cells]) kc_X6 fl_X6_60 0 rfl rfl rfl rfl rfl rfl dX6_copyFrom_21 ?_
  refine j_aload_n C (pc := 24) 0 rfl rfl dX6_copyFrom_24 ?_
  refine j_aload_n C (pc := 25) 1 rfl rfl dX6_copyFrom_25 ?_
  refine j_get C (pc := 26) kc_X6 fl_X6_90 1 rfl rfl dX6_copyFrom_26 ?_
  refine j_put C (pc := 29) (ws' := [oX6 a_t r_t v_p1_people v_p1_day v_p1_dead v_p1_buried a_holding, oX6 a_p1 r_p1 v_p1_people v_p1_day v_p1_dead v_p1_buried a_p1_holding, aI G (r_p1 5) 6 v_p1_kinds, aI G (r_t 5) 6 v_kinds, aI G (r_p1 6) 6 v_p1_vs, aI G (r_t 6) 6 v_vs, aI G (r_p1 7) 6 v_p1_thrown, aI G (r_t 7) 6 v_thrown, aI G (r_p1 8) 36 v_p1_hates, aI G (r_t 8) 36 v_hates, aI G (r_p1 9) 24 v_p1_rows, aI G (r_t 9) 24 v_rows, oX3 (r_t 10) r_seen v_seen_limit v_seen_size, oX3 (r_p1 10) r_p1_seen v_p1_seen_limit v_p1_seen_size, aI G (r_p1_seen 0) 40 v_p1_seen_cells, aI G (r_seen 0) 40 v_seen_cells, oX3 (r_t 11) r_plan v_plan_limit v_plan_size, oX3 (r_p1 11) r_p1_plan v_p1_plan_limit v_p1_plan_size, aI G (r_p1_plan 0) 40 v_p1_plan_cells, aI G (r_plan 0) 40 v_plan_cells, oX3 (r_t 12) r_book v_book_limit v_book_size, oX3 (r_p1 12) r_p1_book v_p1_book_limit v_p1_book_size, aI G (r_p1_book 0) 40 v_p1_book_cells, aI G (r_book 0) 40 v_book_cells]) kc_X6 fl_X6_90 0 rfl rfl rfl rfl rfl rfl dX6_copyFrom_29 ?_
  refine j_aload_n C (pc := 32) 0 rfl rfl dX6_copyFrom_32 ?_
  refine j_aload_n C (pc := 33) 1 rfl rfl dX6_copyFrom_33 ?_
  refine j_get C (pc := 34) kc_X6 fl_X6_12 1 rfl rfl dX6_copyFrom_34 ?_
  refine j_put C (pc := 37) (ws' := [oX6 a_t r_t v_p1_people v_p1_day v_p1_dead v_p1_buried a_p1_holding, oX6 a_p1 r_p1 v_p1_people v_p1_day v_p1_dead v_p1_buried a_p1_holding, aI G (r_p1 5) 6 v_p1_kinds, aI G (r_t 5) 6 v_kinds, aI G (r_p1 6) 6 v_p1_vs, aI G (r_t 6) 6 v_vs, aI G (r_p1 7) 6 v_p1_thrown, aI G (r_t 7) 6 v_thrown, aI G (r_p1 8) 36 v_p1_hates, aI G (r_t 8) 36 v_hates, aI G (r_p1 9) 24 v_p1_rows, aI G (r_t 9) 24 v_rows, oX3 (r_t 10) r_seen v_seen_limit v_seen_size, oX3 (r_p1 10) r_p1_seen v_p1_seen_limit v_p1_seen_size, aI G (r_p1_seen 0) 40 v_p1_seen_cells, aI G (r_seen 0) 40 v_seen_cells, oX3 (r_t 11) r_plan v_plan_limit v_plan_size, oX3 (r_p1 11) r_p1_plan v_p1_plan_limit v_p1_plan_size, aI G (r_p1_plan 0) 40 v_p1_plan_cells, aI G (r_plan 0) 40 v_plan_cells, oX3 (r_t 12) r_book v_book_limit v_book_size, oX3 (r_p1 12) r_p1_book v_p1_book_limit v_p1_book_size, aI G (r_p1_book 0) 40 v_p1_book_cells, aI G (r_book 0) 40 v_book_cells]) kc_X6 fl_X6_12 0 rfl rfl rfl rfl rfl rfl dX6_copyFrom_37 ?_
  refine j_aload_n C (pc := 40) 1 rfl rfl dX6_copyFrom_40 ?_
  refine j_get C (pc := 41) kc_X6 fl_X6_18 1 rfl rfl dX6_copyFrom_41 ?_
  refine j_iconst C (pc := 44) (v := 0) (by decide) dX6_copyFrom_44 ?_
  refine j_aload_n C (pc := 45) 0 rfl rfl dX6_copyFrom_45 ?_
  refine j_get C (pc := 46) kc_X6 fl_X6_18 0 rfl rfl dX6_copyFrom_46 ?_
  refine j_iconst C (pc := 49) (v := 0) (by decide) dX6_copyFrom_49 ?_
  refine j_bipush C (pc := 50) (v := 6) (by decide) dX6_copyFrom_50 ?_
  refine j_copyi C (pc := 52) (ws' := [oX6 a_t r_t v_p1_people v_p1_day v_p1_dead v_p1_buried a_p1_holding, oX6 a_p1 r_p1 v_p1_people v_p1_day v_p1_dead v_p1_buried a_p1_holding, aI G (r_p1 5) 6 v_p1_kinds, aI G (r_t 5) 6 (va_cpy v_p1_kinds v_kinds (0 : Int32).toNatClampNeg (0 : Int32).toNatClampNeg (6 : Int32).toNatClampNeg), aI G (r_p1 6) 6 v_p1_vs, aI G (r_t 6) 6 v_vs, aI G (r_p1 7) 6 v_p1_thrown, aI G (r_t 7) 6 v_thrown, aI G (r_p1 8) 36 v_p1_hates, aI G (r_t 8) 36 v_hates, aI G (r_p1 9) 24 v_p1_rows, aI G (r_t 9) 24 v_rows, oX3 (r_t 10) r_seen v_seen_limit v_seen_size, oX3 (r_p1 10) r_p1_seen v_p1_seen_limit v_p1_seen_size, aI G (r_p1_seen 0) 40 v_p1_seen_cells, aI G (r_seen 0) 40 v_seen_cells, oX3 (r_t 11) r_plan v_plan_limit v_plan_size, oX3 (r_p1 11) r_p1_plan v_p1_plan_limit v_p1_plan_size, aI G (r_p1_plan 0) 40 v_p1_plan_cells, aI G (r_plan 0) 40 v_plan_cells, oX3 (r_t 12) r_book v_book_limit v_book_size, oX3 (r_p1 12) r_p1_book v_p1_book_limit v_p1_book_size, aI G (r_p1_book 0) 40 v_p1_book_cells, aI G (r_book 0) 40 v_book_cells]) ml_X6_116 2 3 rfl rfl hf rfl (Nat.le_of_ble_eq_true rfl) rfl dX6_copyFrom_52 (fun hf => ?_)
  refine j_aload_n C (pc := 55) 1 rfl rfl dX6_copyFrom_55 ?_
  refine j_get C (pc := 56) kc_X6 fl_X6_22 1 rfl rfl dX6_copyFrom_56 ?_
  refine j_iconst C (pc := 59) (v := 0) (by decide) dX6_copyFrom_59 ?_
  refine j_aload_n C (pc := 60) 0 rfl rfl dX6_copyFrom_60 ?_
  refine j_get C (pc := 61) kc_X6 fl_X6_22 0 rfl rfl dX6_copyFrom_61 ?_
  refine j_iconst C (pc := 64) (v := 0) (by decide) dX6_copyFrom_64 ?_
  refine j_bipush C (pc := 65) (v := 6) (by decide) dX6_copyFrom_65 ?_
  refine j_copyi C (pc := 67) (ws' := [oX6 a_t r_t v_p1_people v_p1_day v_p1_dead v_p1_buried a_p1_holding, oX6 a_p1 r_p1 v_p1_people v_p1_day v_p1_dead v_p1_buried a_p1_holding, aI G (r_p1 5) 6 v_p1_kinds, aI G (r_t 5) 6 (va_cpy v_p1_kinds v_kinds (0 : Int32).toNatClampNeg (0 : Int32).toNatClampNeg (6 : Int32).toNatClampNeg), aI G (r_p1 6) 6 v_p1_vs, aI G (r_t 6) 6 (va_cpy v_p1_vs v_vs (0 : Int32).toNatClampNeg (0 : Int32).toNatClampNeg (6 : Int32).toNatClampNeg), aI G (r_p1 7) 6 v_p1_thrown, aI G (r_t 7) 6 v_thrown, aI G (r_p1 8) 36 v_p1_hates, aI G (r_t 8) 36 v_hates, aI G (r_p1 9) 24 v_p1_rows, aI G (r_t 9) 24 v_rows, oX3 (r_t 10) r_seen v_seen_limit v_seen_size, oX3 (r_p1 10) r_p1_seen v_p1_seen_limit v_p1_seen_size, aI G (r_p1_seen 0) 40 v_p1_seen_cells, aI G (r_seen 0) 40 v_seen_cells, oX3 (r_t 11) r_plan v_plan_limit v_plan_size, oX3 (r_p1 11) r_p1_plan v_p1_plan_limit v_p1_plan_size, aI G (r_p1_plan 0) 40 v_p1_plan_cells, aI G (r_plan 0) 40 v_plan_cells, oX3 (r_t 12) r_book v_book_limit v_book_size, oX3 (r_p1 12) r_p1_book v_p1_book_limit v_p1_book_size, aI G (r_p1_book 0) 40 v_p1_book_cells, aI G (r_book 0) 40 v_book_cells]) ml_X6_116 4 5 rfl rfl hf rfl (Nat.le_of_ble_eq_true rfl) rfl dX6_copyFrom_67 (fun hf => ?_)
  refine j_aload_n C (pc := 70) 1 rfl rfl dX6_copyFrom_70 ?_
  refine j_get C (pc := 71) kc_X6 fl_X6_25 1 rfl rfl dX6_copyFrom_71 ?_
  refine j_iconst C (pc := 74) (v := 0) (by decide) dX6_copyFrom_74 ?_
  refine j_aload_n C (pc := 75) 0 rfl rfl dX6_copyFrom_75 ?_
  refine j_get C (pc := 76) kc_X6 fl_X6_25 0 rfl rfl dX6_copyFrom_76 ?_
  refine j_iconst C (pc := 79) (v := 0) (by decide) dX6_copyFrom_79 ?_
  refine j_bipush C (pc := 80) (v := 6) (by decide) dX6_copyFrom_80 ?_
  refine j_copyi C (pc := 82) (ws' := [oX6 a_t r_t v_p1_people v_p1_day v_p1_dead v_p1_buried a_p1_holding, oX6 a_p1 r_p1 v_p1_people v_p1_day v_p1_dead v_p1_buried a_p1_holding, aI G (r_p1 5) 6 v_p1_kinds, aI G (r_t 5) 6 (va_cpy v_p1_kinds v_kinds (0 : Int32).toNatClampNeg (0 : Int32).toNatClampNeg (6 : Int32).toNatClampNeg), aI G (r_p1 6) 6 v_p1_vs, aI G (r_t 6) 6 (va_cpy v_p1_vs v_vs (0 : Int32).toNatClampNeg (0 : Int32).toNatClampNeg (6 : Int32).toNatClampNeg), aI G (r_p1 7) 6 v_p1_thrown, aI G (r_t 7) 6 (va_cpy v_p1_thrown v_thrown (0 : Int32).toNatClampNeg (0 : Int32).toNatClampNeg (6 : Int32).toNatClampNeg), aI G (r_p1 8) 36 v_p1_hates, aI G (r_t 8) 36 v_hates, aI G (r_p1 9) 24 v_p1_rows, aI G (r_t 9) 24 v_rows, oX3 (r_t 10) r_seen v_seen_limit v_seen_size, oX3 (r_p1 10) r_p1_seen v_p1_seen_limit v_p1_seen_size, aI G (r_p1_seen 0) 40 v_p1_seen_cells, aI G (r_seen 0) 40 v_seen_cells, oX3 (r_t 11) r_plan v_plan_limit v_plan_size, oX3 (r_p1 11) r_p1_plan v_p1_plan_limit v_p1_plan_size, aI G (r_p1_plan 0) 40 v_p1_plan_cells, aI G (r_plan 0) 40 v_plan_cells, oX3 (r_t 12) r_book v_book_limit v_book_size, oX3 (r_p1 12) r_p1_book v_p1_book_limit v_p1_book_size, aI G (r_p1_book 0) 40 v_p1_book_cells, aI G (r_book 0) 40 v_book_cells]) ml_X6_116 6 7 rfl rfl hf rfl (Nat.le_of_ble_eq_true rfl) rfl dX6_copyFrom_82 (fun hf => ?_)
  refine j_aload_n C (pc := 85) 1 rfl rfl dX6_copyFrom_85 ?_
  refine j_get C (pc := 86) kc_X6 fl_X6_28 1 rfl rfl dX6_copyFrom_86 ?_
  refine j_iconst C (pc := 89) (v := 0) (by decide) dX6_copyFrom_89 ?_
  refine j_aload_n C (pc := 90) 0 rfl rfl dX6_copyFrom_90 ?_
  refine j_get C (pc := 91) kc_X6 fl_X6_28 0 rfl rfl dX6_copyFrom_91 ?_
  refine j_iconst C (pc := 94) (v := 0) (by decide) dX6_copyFrom_94 ?_
  refine j_bipush C (pc := 95) (v := 36) (by decide) dX6_copyFrom_95 ?_
  refine j_copyi C (pc := 97) (ws' := [oX6 a_t r_t v_p1_people v_p1_day v_p1_dead v_p1_buried a_p1_holding, oX6 a_p1 r_p1 v_p1_people v_p1_day v_p1_dead v_p1_buried a_p1_holding, aI G (r_p1 5) 6 v_p1_kinds, aI G (r_t 5) 6 (va_cpy v_p1_kinds v_kinds (0 : Int32).toNatClampNeg (0 : Int32).toNatClampNeg (6 : Int32).toNatClampNeg), aI G (r_p1 6) 6 v_p1_vs, aI G (r_t 6) 6 (va_cpy v_p1_vs v_vs (0 : Int32).toNatClampNeg (0 : Int32).toNatClampNeg (6 : Int32).toNatClampNeg), aI G (r_p1 7) 6 v_p1_thrown, aI G (r_t 7) 6 (va_cpy v_p1_thrown v_thrown (0 : Int32).toNatClampNeg (0 : Int32).toNatClampNeg (6 : Int32).toNatClampNeg), aI G (r_p1 8) 36 v_p1_hates, aI G (r_t 8) 36 (va_cpy v_p1_hates v_hates (0 : Int32).toNatClampNeg (0 : Int32).toNatClampNeg (36 : Int32).toNatClampNeg), aI G (r_p1 9) 24 v_p1_rows, aI G (r_t 9) 24 v_rows, oX3 (r_t 10) r_seen v_seen_limit v_seen_size, oX3 (r_p1 10) r_p1_seen v_p1_seen_limit v_p1_seen_size, aI G (r_p1_seen 0) 40 v_p1_seen_cells, aI G (r_seen 0) 40 v_seen_cells, oX3 (r_t 11) r_plan v_plan_limit v_plan_size, oX3 (r_p1 11) r_p1_plan v_p1_plan_limit v_p1_plan_size, aI G (r_p1_plan 0) 40 v_p1_plan_cells, aI G (r_plan 0) 40 v_plan_cells, oX3 (r_t 12) r_book v_book_limit v_book_size, oX3 (r_p1 12) r_p1_book v_p1_book_limit v_p1_book_size, aI G (r_p1_book 0) 40 v_p1_book_cells, aI G (r_book 0) 40 v_book_cells]) ml_X6_116 8 9 rfl rfl hf rfl (Nat.le_of_ble_eq_true rfl) rfl dX6_copyFrom_97 (fun hf => ?_)
  refine j_aload_n C (pc := 100) 1 rfl rfl dX6_copyFrom_100 ?_
  refine j_get C (pc := 101) kc_X6 fl_X6_31 1 rfl rfl dX6_copyFrom_101 ?_
  refine j_iconst C (pc := 104) (v := 0) (by decide) dX6_copyFrom_104 ?_
  refine j_aload_n C (pc := 105) 0 rfl rfl dX6_copyFrom_105 ?_
  refine j_get C (pc := 106) kc_X6 fl_X6_31 0 rfl rfl dX6_copyFrom_106 ?_
  refine j_iconst C (pc := 109) (v := 0) (by decide) dX6_copyFrom_109 ?_
  refine j_bipush C (pc := 110) (v := 24) (by decide) dX6_copyFrom_110 ?_
  refine j_copyi C (pc := 112) (ws' := [oX6 a_t r_t v_p1_people v_p1_day v_p1_dead v_p1_buried a_p1_holding, oX6 a_p1 r_p1 v_p1_people v_p1_day v_p1_dead v_p1_buried a_p1_holding, aI G (r_p1 5) 6 v_p1_kinds, aI G (r_t 5) 6 (va_cpy v_p1_kinds v_kinds (0 : Int32).toNatClampNeg (0 : Int32).toNatClampNeg (6 : Int32).toNatClampNeg), aI G (r_p1 6) 6 v_p1_vs, aI G (r_t 6) 6 (va_cpy v_p1_vs v_vs (0 : Int32).toNatClampNeg (0 : Int32).toNatClampNeg (6 : Int32).toNatClampNeg), aI G (r_p1 7) 6 v_p1_thrown, aI G (r_t 7) 6 (va_cpy v_p1_thrown v_thrown (0 : Int32).toNatClampNeg (0 : Int32).toNatClampNeg (6 : Int32).toNatClampNeg), aI G (r_p1 8) 36 v_p1_hates, aI G (r_t 8) 36 (va_cpy v_p1_hates v_hates (0 : Int32).toNatClampNeg (0 : Int32).toNatClampNeg (36 : Int32).toNatClampNeg), aI G (r_p1 9) 24 v_p1_rows, aI G (r_t 9) 24 (va_cpy v_p1_rows v_rows (0 : Int32).toNatClampNeg (0 : Int32).toNatClampNeg (24 : Int32).toNatClampNeg), oX3 (r_t 10) r_seen v_seen_limit v_seen_size, oX3 (r_p1 10) r_p1_seen v_p1_seen_limit v_p1_seen_size, aI G (r_p1_seen 0) 40 v_p1_seen_cells, aI G (r_seen 0) 40 v_seen_cells, oX3 (r_t 11) r_plan v_plan_limit v_plan_size, oX3 (r_p1 11) r_p1_plan v_p1_plan_limit v_p1_plan_size, aI G (r_p1_plan 0) 40 v_p1_plan_cells, aI G (r_plan 0) 40 v_plan_cells, oX3 (r_t 12) r_book v_book_limit v_book_size, oX3 (r_p1 12) r_p1_book v_p1_book_limit v_p1_book_size, aI G (r_p1_book 0) 40 v_p1_book_cells, aI G (r_book 0) 40 v_book_cells]) ml_X6_116 10 11 rfl rfl hf rfl (Nat.le_of_ble_eq_true rfl) rfl dX6_copyFrom_112 (fun hf => ?_)
  refine j_aload_n C (pc := 115) 0 rfl rfl dX6_copyFrom_115 ?_
  refine j_get C (pc := 116) kc_X6 fl_X6_39 0 rfl rfl dX6_copyFrom_116 ?_
  refine j_aload_n C (pc := 119) 1 rfl rfl dX6_copyFrom_119 ?_
  refine j_get C (pc := 120) kc_X6 fl_X6_39 1 rfl rfl dX6_copyFrom_120 ?_
  refine j_cVZ C (pc := 123) (As := [.ref (r_p1 10)]) (st := []) (ws' := fun q1 => [oX6 a_t r_t v_p1_people v_p1_day v_p1_dead v_p1_buried a_p1_holding, oX6 a_p1 r_p1 v_p1_people v_p1_day v_p1_dead v_p1_buried a_p1_holding, aI G (r_p1 5) 6 v_p1_kinds, aI G (r_t 5) 6 (va_cpy v_p1_kinds v_kinds (0 : Int32).toNatClampNeg (0 : Int32).toNatClampNeg (6 : Int32).toNatClampNeg), aI G (r_p1 6) 6 v_p1_vs, aI G (r_t 6) 6 (va_cpy v_p1_vs v_vs (0 : Int32).toNatClampNeg (0 : Int32).toNatClampNeg (6 : Int32).toNatClampNeg), aI G (r_p1 7) 6 v_p1_thrown, aI G (r_t 7) 6 (va_cpy v_p1_thrown v_thrown (0 : Int32).toNatClampNeg (0 : Int32).toNatClampNeg (6 : Int32).toNatClampNeg), aI G (r_p1 8) 36 v_p1_hates, aI G (r_t 8) 36 (va_cpy v_p1_hates v_hates (0 : Int32).toNatClampNeg (0 : Int32).toNatClampNeg (36 : Int32).toNatClampNeg), aI G (r_p1 9) 24 v_p1_rows, aI G (r_t 9) 24 (va_cpy v_p1_rows v_rows (0 : Int32).toNatClampNeg (0 : Int32).toNatClampNeg (24 : Int32).toNatClampNeg), oX3 (r_t 10) r_seen v_seen_limit q1.1, oX3 (r_p1 10) r_p1_seen v_p1_seen_limit v_p1_seen_size, aI G (r_p1_seen 0) 40 v_p1_seen_cells, aI G (r_seen 0) 40 q1.2, oX3 (r_t 11) r_plan v_plan_limit v_plan_size, oX3 (r_p1 11) r_p1_plan v_p1_plan_limit v_p1_plan_size, aI G (r_p1_plan 0) 40 v_p1_plan_cells, aI G (r_plan 0) 40 v_plan_cells, oX3 (r_t 12) r_book v_book_limit v_book_size, oX3 (r_p1 12) r_p1_book v_p1_book_limit v_p1_book_size, aI G (r_p1_book 0) 40 v_p1_book_cells, aI G (r_book 0) 40 v_book_cells]) ml_X6_122 ms_X3_copyFrom hf (fun q1 h => (c_X3_copyFrom G K.2.1) (r_t 10) r_seen (r_p1 10) r_p1_seen v_seen_limit v_seen_size v_p1_seen_limit v_p1_seen_size v_p1_seen_cells v_seen_cells q1 h) [12, 13, 14, 15] [none, none, none, none, none, none, none, none, none, none, none, none, some 0, some 1, some 2, some 3, none, none, none, none, none, none, none, none] 24 rfl (by decide +kernel) (by decide +kernel) (fun _ => rfl) (fun _ => rfl) rfl rfl rfl rfl ⟨Nat.zero_le _, Nat.zero_le _⟩ dX6_copyFrom_123 kc_X3 12 rfl (fun q1 hf => ?_)
  refine j_aload_n C (pc := 126) 0 rfl rfl dX6_copyFrom_126 ?_
  refine j_get C (pc := 127) kc_X6 fl_X6_43 0 rfl rfl dX6_copyFrom_127 ?_
  refine j_aload_n C (pc := 130) 1 rfl rfl dX6_copyFrom_130 ?_
  refine j_get C (pc := 131) kc_X6 fl_X6_43 1 rfl rfl dX6_copyFrom_131 ?_
  refine j_cVZ C (pc := 134) (As := [.ref (r_p1 11)]) (st := []) (ws' := fun q2 => [oX6 a_t r_t v_p1_people v_p1_day v_p1_dead v_p1_buried a_p1_holding, oX6 a_p1 r_p1 v_p1_people v_p1_day v_p1_dead v_p1_buried a_p1_holding, aI G (r_p1 5) 6 v_p1_kinds, aI G (r_t 5) 6 (va_cpy v_p1_kinds v_kinds (0 : Int32).toNatClampNeg (0 : Int32).toNatClampNeg (6 : Int32).toNatClampNeg), aI G (r_p1 6) 6 v_p1_vs, aI G (r_t 6) 6 (va_cpy v_p1_vs v_vs (0 : Int32).toNatClampNeg (0 : Int32).toNatClampNeg (6 : Int32).toNatClampNeg), aI G (r_p1 7) 6 v_p1_thrown, aI G (r_t 7) 6 (va_cpy v_p1_thrown v_thrown (0 : Int32).toNatClampNeg (0 : Int32).toNatClampNeg (6 : Int32).toNatClampNeg), aI G (r_p1 8) 36 v_p1_hates, aI G (r_t 8) 36 (va_cpy v_p1_hates v_hates (0 : Int32).toNatClampNeg (0 : Int32).toNatClampNeg (36 : Int32).toNatClampNeg), aI G (r_p1 9) 24 v_p1_rows, aI G (r_t 9) 24 (va_cpy v_p1_rows v_rows (0 : Int32).toNatClampNeg (0 : Int32).toNatClampNeg (24 : Int32).toNatClampNeg), oX3 (r_t 10) r_seen v_seen_limit q1.1, oX3 (r_p1 10) r_p1_seen v_p1_seen_limit v_p1_seen_size, aI G (r_p1_seen 0) 40 v_p1_seen_cells, aI G (r_seen 0) 40 q1.2, oX3 (r_t 11) r_plan v_plan_limit q2.1, oX3 (r_p1 11) r_p1_plan v_p1_plan_limit v_p1_plan_size, aI G (r_p1_plan 0) 40 v_p1_plan_cells, aI G (r_plan 0) 40 q2.2, oX3 (r_t 12) r_book v_book_limit v_book_size, oX3 (r_p1 12) r_p1_book v_p1_book_limit v_p1_book_size, aI G (r_p1_book 0) 40 v_p1_book_cells, aI G (r_book 0) 40 v_book_cells]) ml_X6_122 ms_X3_copyFrom hf (fun q2 h => (c_X3_copyFrom G K.2.1) (r_t 11) r_plan (r_p1 11) r_p1_plan v_plan_limit v_plan_size v_p1_plan_limit v_p1_plan_size v_p1_plan_cells v_plan_cells q2 h) [16, 17, 18, 19] [none, none, none, none, none, none, none, none, none, none, none, none, none, none, none, none, some 0, some 1, some 2, some 3, none, none, none, none] 24 rfl (by decide +kernel) (by decide +kernel) (fun _ => rfl) (fun _ => rfl) rfl rfl rfl rfl ⟨Nat.zero_le _, Nat.zero_le _⟩ dX6_copyFrom_134 kc_X3 16 rfl (fun q2 hf => ?_)
  refine j_aload_n C (pc := 137) 0 rfl rfl dX6_copyFrom_137 ?_
  refine j_get C (pc := 138) kc_X6 fl_X6_46 0 rfl rfl dX6_copyFrom_138 ?_
  refine j_aload_n C (pc := 141) 1 rfl rfl dX6_copyFrom_141 ?_
  refine j_get C (pc := 142) kc_X6 fl_X6_46 1 rfl rfl dX6_copyFrom_142 ?_
  refine j_cVZ C (pc := 145) (As := [.ref (r_p1 12)]) (st := []) (ws' := fun q3 => [oX6 a_t r_t v_p1_people v_p1_day v_p1_dead v_p1_buried a_p1_holding, oX6 a_p1 r_p1 v_p1_people v_p1_day v_p1_dead v_p1_buried a_p1_holding, aI G (r_p1 5) 6 v_p1_kinds, aI G (r_t 5) 6 (va_cpy v_p1_kinds v_kinds (0 : Int32).toNatClampNeg (0 : Int32).toNatClampNeg (6 : Int32).toNatClampNeg), aI G (r_p1 6) 6 v_p1_vs, aI G (r_t 6) 6 (va_cpy v_p1_vs v_vs (0 : Int32).toNatClampNeg (0 : Int32).toNatClampNeg (6 : Int32).toNatClampNeg), aI G (r_p1 7) 6 v_p1_thrown, aI G (r_t 7) 6 (va_cpy v_p1_thrown v_thrown (0 : Int32).toNatClampNeg (0 : Int32).toNatClampNeg (6 : Int32).toNatClampNeg), aI G (r_p1 8) 36 v_p1_hates, aI G (r_t 8) 36 (va_cpy v_p1_hates v_hates (0 : Int32).toNatClampNeg (0 : Int32).toNatClampNeg (36 : Int32).toNatClampNeg), aI G (r_p1 9) 24 v_p1_rows, aI G (r_t 9) 24 (va_cpy v_p1_rows v_rows (0 : Int32).toNatClampNeg (0 : Int32).toNatClampNeg (24 : Int32).toNatClampNeg), oX3 (r_t 10) r_seen v_seen_limit q1.1, oX3 (r_p1 10) r_p1_seen v_p1_seen_limit v_p1_seen_size, aI G (r_p1_seen 0) 40 v_p1_seen_cells, aI G (r_seen 0) 40 q1.2, oX3 (r_t 11) r_plan v_plan_limit q2.1, oX3 (r_p1 11) r_p1_plan v_p1_plan_limit v_p1_plan_size, aI G (r_p1_plan 0) 40 v_p1_plan_cells, aI G (r_plan 0) 40 q2.2, oX3 (r_t 12) r_book v_book_limit q3.1, oX3 (r_p1 12) r_p1_book v_p1_book_limit v_p1_book_size, aI G (r_p1_book 0) 40 v_p1_book_cells, aI G (r_book 0) 40 q3.2]) ml_X6_122 ms_X3_copyFrom hf (fun q3 h => (c_X3_copyFrom G K.2.1) (r_t 12) r_book (r_p1 12) r_p1_book v_book_limit v_book_size v_p1_book_limit v_p1_book_size v_p1_book_cells v_book_cells q3 h) [20, 21, 22, 23] [none, none, none, none, none, none, none, none, none, none, none, none, none, none, none, none, none, none, none, none, some 0, some 1, some 2, some 3] 24 rfl (by decide +kernel) (by decide +kernel) (fun _ => rfl) (fun _ => rfl) rfl rfl rfl rfl ⟨Nat.zero_le _, Nat.zero_le _⟩ dX6_copyFrom_145 kc_X3 20 rfl (fun q3 hf => ?_)
  obtain rfl := Option.some.inj hf
  exact hQ _ _ dX6_copyFrom_148
def ct_X6_copyFrom (G : Gx) (l : Launch) (F : Int32 → Int32 → Int32 → Int32 → (Nat → Int32) → (Nat → Int32) → (Nat → Int32) → (Nat → Int32) → (Nat → Int32) → (Nat → Int32) → (Nat → Int32) → (Nat → Int32) → (Nat → Int32) → (Nat → Int32) → Int32 → (Nat → Int32) → (Nat → Int32) → Int32 → (Nat → Int32) → (Nat → Int32) → Int32 → (Nat → Int32) → (Nat → Int32) → Option (Int32 × Int32 × Int32 × Int32 × (Nat → Int32) × (Nat → Int32) × (Nat → Int32) × (Nat → Int32) × (Nat → Int32) × Int32 × (Nat → Int32) × Int32 × (Nat → Int32) × Int32 × (Nat → Int32))) (lv : Nat) : Prop := ∀ (a_t : Nat) (r_t : Nat → Nat) (a_p1 : Nat) (r_p1 : Nat → Nat) (r_seen : Nat → Nat) (r_p1_seen : Nat → Nat) (r_plan : Nat → Nat) (r_p1_plan : Nat → Nat) (r_book : Nat → Nat) (r_p1_book : Nat → Nat) (v_people : Int32) (v_day : Int32) (v_dead : Int32) (v_buried : Int32) (a_holding : Nat) (v_p1_people : Int32) (v_p1_day : Int32) (v_p1_dead : Int32) (v_p1_buried : Int32) (a_p1_holding : Nat) (v_p1_kinds : Nat → Int32) (v_kinds : Nat → Int32) (v_p1_vs : Nat → Int32) (v_vs : Nat → Int32) (v_p1_thrown : Nat → Int32) (v_thrown : Nat → Int32) (v_p1_hates : Nat → Int32) (v_hates : Nat → Int32) (v_p1_rows : Nat → Int32) (v_rows : Nat → Int32) (v_seen_limit : Int32) (v_seen_size : Int32) (v_p1_seen_limit : Int32) (v_p1_seen_size : Int32) (v_p1_seen_cells : Nat → Int32) (v_seen_cells : Nat → Int32) (v_plan_limit : Int32) (v_plan_size : Int32) (v_p1_plan_limit : Int32) (v_p1_plan_size : Int32) (v_p1_plan_cells : Nat → Int32) (v_plan_cells : Nat → Int32) (v_book_limit : Int32) (v_book_size : Int32) (v_p1_book_limit : Int32) (v_p1_book_size : Int32) (v_p1_book_cells : Nat → Int32) (v_book_cells : Nat → Int32), ∀ (q : Int32 × Int32 × Int32 × Int32 × (Nat → Int32) × (Nat → Int32) × (Nat → Int32) × (Nat → Int32) × (Nat → Int32) × Int32 × (Nat → Int32) × Int32 × (Nat → Int32) × Int32 × (Nat → Int32)), F v_p1_people v_p1_day v_p1_dead v_p1_buried v_p1_kinds v_kinds v_p1_vs v_vs v_p1_thrown v_thrown v_p1_hates v_hates v_p1_rows v_rows v_p1_seen_size v_p1_seen_cells v_seen_cells v_p1_plan_size v_p1_plan_cells v_plan_cells v_p1_book_size v_p1_book_cells v_book_cells = some q → MV G l yX6_copyFrom cX6_copyFrom 2 lv [.ref a_t, .ref a_p1] [oX6 a_t r_t v_people v_day v_dead v_buried a_holding, oX6 a_p1 r_p1 v_p1_people v_p1_day v_p1_dead v_p1_buried a_p1_holding, aI G (r_p1 5) 6 v_p1_kinds, aI G (r_t 5) 6 v_kinds, aI G (r_p1 6) 6 v_p1_vs, aI G (r_t 6) 6 v_vs, aI G (r_p1 7) 6 v_p1_thrown, aI G (r_t 7) 6 v_thrown, aI G (r_p1 8) 36 v_p1_hates, aI G (r_t 8) 36 v_hates, aI G (r_p1 9) 24 v_p1_rows, aI G (r_t 9) 24 v_rows, oX3 (r_t 10) r_seen v_seen_limit v_seen_size, oX3 (r_p1 10) r_p1_seen v_p1_seen_limit v_p1_seen_size, aI G (r_p1_seen 0) 40 v_p1_seen_cells, aI G (r_seen 0) 40 v_seen_cells, oX3 (r_t 11) r_plan v_plan_limit v_plan_size, oX3 (r_p1 11) r_p1_plan v_p1_plan_limit v_p1_plan_size, aI G (r_p1_plan 0) 40 v_p1_plan_cells, aI G (r_plan 0) 40 v_plan_cells, oX3 (r_t 12) r_book v_book_limit v_book_size, oX3 (r_p1 12) r_p1_book v_p1_book_limit v_p1_book_size, aI G (r_p1_book 0) 40 v_p1_book_cells, aI G (r_book 0) 40 v_book_cells] [oX6 a_t r_t q.1 q.2.1 q.2.2.1 q.2.2.2.1 a_p1_holding, oX6 a_p1 r_p1 v_p1_people v_p1_day v_p1_dead v_p1_buried a_p1_holding, aI G (r_p1 5) 6 v_p1_kinds, aI G (r_t 5) 6 q.2.2.2.2.1, aI G (r_p1 6) 6 v_p1_vs, aI G (r_t 6) 6 q.2.2.2.2.2.1, aI G (r_p1 7) 6 v_p1_thrown, aI G (r_t 7) 6 q.2.2.2.2.2.2.1, aI G (r_p1 8) 36 v_p1_hates, aI G (r_t 8) 36 q.2.2.2.2.2.2.2.1, aI G (r_p1 9) 24 v_p1_rows, aI G (r_t 9) 24 q.2.2.2.2.2.2.2.2.1, oX3 (r_t 10) r_seen v_seen_limit q.2.2.2.2.2.2.2.2.2.1, oX3 (r_p1 10) r_p1_seen v_p1_seen_limit v_p1_seen_size, aI G (r_p1_seen 0) 40 v_p1_seen_cells, aI G (r_seen 0) 40 q.2.2.2.2.2.2.2.2.2.2.1, oX3 (r_t 11) r_plan v_plan_limit q.2.2.2.2.2.2.2.2.2.2.2.1, oX3 (r_p1 11) r_p1_plan v_p1_plan_limit v_p1_plan_size, aI G (r_p1_plan 0) 40 v_p1_plan_cells, aI G (r_plan 0) 40 q.2.2.2.2.2.2.2.2.2.2.2.2.1, oX3 (r_t 12) r_book v_book_limit q.2.2.2.2.2.2.2.2.2.2.2.2.2.1, oX3 (r_p1 12) r_p1_book v_p1_book_limit v_p1_book_size, aI G (r_p1_book 0) 40 v_p1_book_cells, aI G (r_book 0) 40 q.2.2.2.2.2.2.2.2.2.2.2.2.2.2]
theorem c_X6_copyFrom (G : Gx) (l : Launch) : ct_X6_copyFrom G l f_X6_copyFrom 2 := by
  intro a_t r_t a_p1 r_p1 r_seen r_p1_seen r_plan r_p1_plan r_book r_p1_book v_people v_day v_dead v_buried a_holding v_p1_people v_p1_day v_p1_dead v_p1_buried a_p1_holding v_p1_kinds v_kinds v_p1_vs v_vs v_p1_thrown v_thrown v_p1_hates v_hates v_p1_rows v_rows v_seen_limit v_seen_size v_p1_seen_limit v_p1_seen_size v_p1_seen_cells v_seen_cells v_plan_limit v_plan_size v_p1_plan_limit v_p1_plan_size v_p1_plan_cells v_plan_cells v_book_limit v_book_size v_p1_book_limit v_p1_book_size v_p1_book_cells v_book_cells q hf
  exact mV_of (by decide +kernel) rfl (fun K hl C hQ => t_X6_copyFrom C hQ hf)
