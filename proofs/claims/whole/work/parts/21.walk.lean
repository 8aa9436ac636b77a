-- X0_bodyFor
def f_X0_bodyFor_4_b (p1 : Int32) (k4 : Int32 → Int32 → Option (Int32)) (x2 : Int32) (x3 : Int32) : Option (Int32) := (if (7 : Int32) ≤ x3 then (some (0 : Int32)) else (if x2 < 0 then (some (0 : Int32)) else (if (7 : Int32) ≤ x2 then (some (0 : Int32)) else (if p1 < 0 then (some (0 : Int32)) else (if (3 : Int32) ≤ p1 then (some (0 : Int32)) else (gd ((x2 * (3 : Int32)) + p1) 21 (if (k_bodies ((x2 * (3 : Int32)) + p1).toNatClampNeg) = 0 then (gd x2 7 (nm (k_above x2.toNatClampNeg) fun y1 => (k4 y1 (x3 + (1 : Int32))))) else (gd ((x2 * (3 : Int32)) + p1) 21 (some (k_bodies ((x2 * (3 : Int32)) + p1).toNatClampNeg))))))))))
def f_X0_bodyFor_4 (p1 : Int32) : Nat → Int32 → Int32 → Option (Int32)
  | 0 => fun _ _ => none
  | n + 1 => f_X0_bodyFor_4_b p1 (f_X0_bodyFor_4 p1 n)
set_option maxRecDepth 20000 in
set_option maxHeartbeats 1000000 in
theorem t_X0_bodyFor_4_b {G : Gx} {K : Kx} (C : Cx G K cX0_bodyFor RX0 4 1) {p1 : Int32} {q : Int32} (hQ : k_retI G K cX0_bodyFor 4 .int [] q) {k4 : Int32 → Int32 → Option (Int32)} (hk4 : ∀ (x2 : Int32) (x3 : Int32), k4 x2 x3 = some q → J G K 4 0 0 [] [(0, .int p1), (2, .int x2), (3, .int x3)] 4 []) {x2 : Int32} {x3 : Int32} (hf : f_X0_bodyFor_4_b p1 k4 x2 x3 = some q) : J G K 4 0 0 [] [(0, .int p1), (2, .int x2), (3, .int x3)] 4 [] := by
  unfold f_X0_bodyFor_4_b at hf
  refine j_iload_n C (pc := 4) 2 rfl rfl dX0_bodyFor_4 ?_
  refine j_bipush C (pc := 5) (v := 7) (by decide) dX0_bodyFor_5 ?_
  refine j_icmp_ge C (pc := 7) 63 dX0_bodyFor_7 (by decide) hf (fun hf => ?_) (fun hf => ?_)
  · refine j_iconst C (pc := 63) (v := 0) (by decide) dX0_bodyFor_63 ?_
    obtain rfl := Option.some.inj hf
    exact hQ _ _ dX0_bodyFor_64 rfl
  · refine j_iload_n C (pc := 10) 1 rfl rfl dX0_bodyFor_10 ?_
    refine j_if_lt C (pc := 11) 63 dX0_bodyFor_11 (by decide) hf (fun hf => ?_) (fun hf => ?_)
    · refine j_iconst C (pc := 63) (v := 0) (by decide) dX0_bodyFor_63 ?_
      obtain rfl := Option.some.inj hf
      exact hQ _ _ dX0_bodyFor_64 rfl
    · refine j_iload_n C (pc := 14) 1 rfl rfl dX0_bodyFor_14 ?_
      refine j_bipush C (pc := 15) (v := 7) (by decide) dX0_bodyFor_15 ?_
      refine j_icmp_ge C (pc := 17) 63 dX0_bodyFor_17 (by decide) hf (fun hf => ?_) (fun hf => ?_)
      · refine j_iconst C (pc := 63) (v := 0) (by decide) dX0_bodyFor_63 ?_
        obtain rfl := Option.some.inj hf
        exact hQ _ _ dX0_bodyFor_64 rfl
      · refine j_iload_n C (pc := 20) 0 rfl rfl dX0_bodyFor_20 ?_
        refine j_if_lt C (pc := 21) 63 dX0_bodyFor_21 (by decide) hf (fun hf => ?_) (fun hf => ?_)
        · refine j_iconst C (pc := 63) (v := 0) (by decide) dX0_bodyFor_63 ?_
          obtain rfl := Option.some.inj hf
          exact hQ _ _ dX0_bodyFor_64 rfl
        · refine j_iload_n C (pc := 24) 0 rfl rfl dX0_bodyFor_24 ?_
          refine j_iconst C (pc := 25) (v := 3) (by decide) dX0_bodyFor_25 ?_
          refine j_icmp_ge C (pc := 26) 63 dX0_bodyFor_26 (by decide) hf (fun hf => ?_) (fun hf => ?_)
          · refine j_iconst C (pc := 63) (v := 0) (by decide) dX0_bodyFor_63 ?_
            obtain rfl := Option.some.inj hf
            exact hQ _ _ dX0_bodyFor_64 rfl
          · refine j_gsN_bodies C (pc := 29) sl_X0_37 dX0_bodyFor_29 ?_
            refine j_iload_n C (pc := 32) 1 rfl rfl dX0_bodyFor_32 ?_
            refine j_iconst C (pc := 33) (v := 3) (by decide) dX0_bodyFor_33 ?_
            refine j_imul C (pc := 34) dX0_bodyFor_34 ?_
            refine j_iload_n C (pc := 35) 0 rfl rfl dX0_bodyFor_35 ?_
            refine j_iadd C (pc := 36) dX0_bodyFor_36 ?_
            refine j_ld_bodies C (pc := 37) hf dX0_bodyFor_37 (fun hf => ?_)
            refine j_if_eq C (pc := 38) 51 dX0_bodyFor_38 (by decide) hf (fun hf => ?_) (fun hf => ?_)
            · refine j_gsN_above C (pc := 51) sl_X0_40 dX0_bodyFor_51 ?_
              refine j_iload_n C (pc := 54) 1 rfl rfl dX0_bodyFor_54 ?_
              refine j_ld_above C (pc := 55) hf dX0_bodyFor_55 (fun hf => ?_)
              refine j_nm hf (fun y1 hf => ?_)
              refine j_istore_n C (pc := 56) (L' := [(2, .int y1), (0, .int p1), (3, .int x3)]) dX0_bodyFor_56 rfl (by decide) rfl ?_
              refine j_iinc C (pc := 57) (L' := [(3, .int (x3 + (1 : Int32))), (2, .int y1), (0, .int p1)]) (v := x3 + (1 : Int32)) dX0_bodyFor_57 (t := 2) rfl rfl (by decide) rfl ?_
              refine j_goto C (pc := 60) 4 dX0_bodyFor_60 (by decide) ?_
              refine j_sub [2, 1, 0] rfl ?_
              exact hk4 _ _ hf
            · refine j_gsN_bodies C (pc := 41) sl_X0_37 dX0_bodyFor_41 ?_
              refine j_iload_n C (pc := 44) 1 rfl rfl dX0_bodyFor_44 ?_
              refine j_iconst C (pc := 45) (v := 3) (by decide) dX0_bodyFor_45 ?_
              refine j_imul C (pc := 46) dX0_bodyFor_46 ?_
              refine j_iload_n C (pc := 47) 0 rfl rfl dX0_bodyFor_47 ?_
              refine j_iadd C (pc := 48) dX0_bodyFor_48 ?_
              refine j_ld_bodies C (pc := 49) hf dX0_bodyFor_49 (fun hf => ?_)
              obtain rfl := Option.some.inj hf
              exact hQ _ _ dX0_bodyFor_50 rfl
theorem t_X0_bodyFor_4 {G : Gx} {K : Kx} (C : Cx G K cX0_bodyFor RX0 4 1) {p1 : Int32} {q : Int32} (hQ : k_retI G K cX0_bodyFor 4 .int [] q) : ∀ (n : Nat) (x2 : Int32) (x3 : Int32), f_X0_bodyFor_4 p1 n x2 x3 = some q → J G K 4 0 0 [] [(0, .int p1), (2, .int x2), (3, .int x3)] 4 [] := by
  intro n
  induction n with
  | zero => intro x2 x3 hf; cases hf
  | succ n ih => intro x2 x3 hf; exact t_X0_bodyFor_4_b C hQ ih hf
def f_X0_bodyFor (p1 : Int32) (p2 : Int32) : Option (Int32) := (f_X0_bodyFor_4 p1 1000 p2 (0 : Int32))
set_option maxRecDepth 20000 in
set_option maxHeartbeats 1000000 in
theorem t_X0_bodyFor {G : Gx} {K : Kx} (C : Cx G K cX0_bodyFor RX0 4 1) {p1 : Int32} {p2 : Int32} {q : Int32} (hQ : k_retI G K cX0_bodyFor 4 .int [] q) (hf : f_X0_bodyFor p1 p2 = some q) : J G K 4 0 0 [] [(0, .int p1), (1, .int p2)] 0 [] := by
  unfold f_X0_bodyFor at hf
  refine j_iload_n C (pc := 0) 1 rfl rfl dX0_bodyFor_0 ?_
  refine j_istore_n C (pc := 1) (L' := [(2, .int p2), (0, .int p1), (1, .int p2)]) dX0_bodyFor_1 rfl (by decide) rfl ?_
  refine j_iconst C (pc := 2) (v := 0) (by decide) dX0_bodyFor_2 ?_
  refine j_istore_n C (pc := 3) (L' := [(3, .int (0 : Int32)), (2, .int p2), (0, .int p1), (1, .int p2)]) dX0_bodyFor_3 rfl (by decide) rfl ?_
  refine j_sub [2, 1, 0] rfl ?_
  exact t_X0_bodyFor_4 C hQ 1000 _ _ hf
def ct_X0_bodyFor (G : Gx) (l : Launch) (F : Int32 → Int32 → Option (Int32)) (lv : Nat) : Prop := ∀ (p1 : Int32) (p2 : Int32), ∀ (q : Int32), F p1 p2 = some q → MI G l yX0_bodyFor cX0_bodyFor 4 .int lv [.int p1, .int p2] [] [] q
theorem c_X0_bodyFor (G : Gx) (l : Launch) : ct_X0_bodyFor G l f_X0_bodyFor 1 := by
  intro p1 p2 q hf
  exact mI_of (by decide +kernel) rfl (fun K hl C hQ => t_X0_bodyFor C hQ hf)
-- X0_note
def f_X0_note (v_ran : Int32) (v_bodies : Nat → Int32) (p1 : Int32) : Option (Int32 × (Nat → Int32)) := (if (20 : Int32) ≤ v_ran then (some (v_ran + (1 : Int32), v_bodies)) else (gd v_ran 20 (some (v_ran + (1 : Int32), upd v_bodies v_ran.toNatClampNeg p1))))
set_option maxRecDepth 20000 in
set_option maxHeartbeats 1000000 in
theorem t_X0_note {G : Gx} {K : Kx} (C : Cx G K cX0_note RX0 2 1) {a_t : Nat} {r_t : Nat → Nat} {v_ran : Int32} {v_number : Int32} {v_kind : Int32} {v_v : Int32} {v_bodies : Nat → Int32} {p1 : Int32} {q : Int32 × (Nat → Int32)} (hQ : k_retV G K cX0_note 2 [oX0 a_t r_t q.1 v_number v_kind v_v, aI G (r_t 0) 20 q.2]) (hf : f_X0_note v_ran v_bodies p1 = some q) : J G K 2 0 0 [oX0 a_t r_t v_ran v_number v_kind v_v, aI G (r_t 0) 20 v_bodies] [(0, .ref a_t), (1, .int p1)] 0 [] := by
  unfold f_X0_note at hf
  refine j_aload_n C (pc := 0) 0 rfl rfl dX0_note_0 ?_
  refine j_get C (pc := 1) kc_X0 fl_X0_43 0 rfl rfl dX0_note_1 ?_
  refine j_bipush C (pc := 4) (v := 20) (by decide) dX0_note_4 ?_
  refine j_icmp_ge C (pc := 6) 19 dX0_note_6 (by decide) hf (fun hf => ?_) (fun hf => ?_)
  · refine j_aload_n C (pc := 19) 0 rfl rfl dX0_note_19 ?_
    refine j_dup C (pc := 20) rfl dX0_note_20 ?_
    refine j_get C (pc := 21) kc_X0 fl_X0_43 0 rfl rfl dX0_note_21 ?_
    refine j_iconst C (pc := 24) (v := 1) (by decide) dX0_note_24 ?_
    refine j_iadd C (pc := 25) dX0_note_25 ?_
    refine j_put C (pc := 26) (ws' := [oX0 a_t r_t (v_ran + (1 : Int32)) v_number v_kind v_v, aI G (r_t 0) 20 v_bodies]) kc_X0 fl_X0_43 0 rfl rfl rfl rfl rfl rfl dX0_note_26 ?_
    obtain rfl := Option.some.inj hf
    exact hQ _ _ dX0_note_29
  · refine j_aload_n C (pc := 9) 0 rfl rfl dX0_note_9 ?_
    refine j_get C (pc := 10) kc_X0 fl_X0_9 0 rfl rfl dX0_note_10 ?_
    refine j_aload_n C (pc := 13) 0 rfl rfl dX0_note_13 ?_
    refine j_get C (pc := 14) kc_X0 fl_X0_43 0 rfl rfl dX0_note_14 ?_
    refine j_iload_n C (pc := 17) 1 rfl rfl dX0_note_17 ?_
    refine j_iast C (pc := 18) (ws' := [oX0 a_t r_t v_ran v_number v_kind v_v, aI G (r_t 0) 20 (upd v_bodies v_ran.toNatClampNeg p1)]) 1 rfl hf rfl dX0_note_18 (fun hf => ?_)
    refine j_aload_n C (pc := 19) 0 rfl rfl dX0_note_19 ?_
    refine j_dup C (pc := 20) rfl dX0_note_20 ?_
    refine j_get C (pc := 21) kc_X0 fl_X0_43 0 rfl rfl dX0_note_21 ?_
    refine j_iconst C (pc := 24) (v := 1) (by decide) dX0_note_24 ?_
    refine j_iadd C (pc := 25) dX0_note_25 ?_
    refine j_put C (pc := 26) (ws' := [oX0 a_t r_t (v_ran + (1 : Int32)) v_number v_kind v_v, aI G (r_t 0) 20 (upd v_bodies v_ran.toNatClampNeg p1)]) kc_X0 fl_X0_43 0 rfl rfl rfl rfl rfl rfl dX0_note_26 ?_
    obtain rfl := Option.some.inj hf
    exact hQ _ _ dX0_note_29
def ct_X0_note (G : Gx) (l : Launch) (F : Int32 → (Nat → Int32) → Int32 → Option (Int32 × (Nat → Int32))) (lv : Nat) : Prop := ∀ (a_t : Nat) (r_t : Nat → Nat) (v_ran : Int32) (v_number : Int32) (v_kind : Int32) (v_v : Int32) (v_bodies : Nat → Int32) (p1 : Int32), ∀ (q : Int32 × (Nat → Int32)), F v_ran v_bodies p1 = some q → MV G l yX0_note cX0_note 2 lv [.ref a_t, .int p1] [oX0 a_t r_t v_ran v_number v_kind v_v, aI G (r_t 0) 20 v_bodies] [oX0 a_t r_t q.1 v_number v_kind v_v, aI G (r_t 0) 20 q.2]
theorem c_X0_note (G : Gx) (l : Launch) : ct_X0_note G l f_X0_note 1 := by
  intro a_t r_t v_ran v_number v_kind v_v v_bodies p1 q hf
  exact mV_of (by decide +kernel) rfl (fun K hl C hQ => t_X0_note C hQ hf)
def ct_X0_run (G : Gx) (l : Launch) (F : Int32 → Int32 → Int32 → Int32 → (Nat → Int32) → Int32 → Int32 → Int32 → Int32 → Option (Int32 × Int32 × (Nat → Int32))) (lv : Nat) : Prop := ∀ (a_p1 : Nat) (r_p1 : Nat → Nat) (v_p1_ran : Int32) (v_p1_number : Int32) (v_p1_kind : Int32) (v_p1_v : Int32) (v_p1_bodies : Nat → Int32) (p2 : Int32) (p3 : Int32) (p4 : Int32) (p5 : Int32), ∀ (q : Int32 × Int32 × (Nat → Int32)), F v_p1_ran v_p1_number v_p1_kind v_p1_v v_p1_bodies p2 p3 p4 p5 = some q → MI G l yX0_run cX0_run 7 .int lv [.ref a_p1, .int p2, .int p3, .int p4, .int p5] [oX0 a_p1 r_p1 v_p1_ran v_p1_number v_p1_kind v_p1_v, aI G (r_p1 0) 20 v_p1_bodies] [oX0 a_p1 r_p1 q.2.1 v_p1_number v_p1_kind v_p1_v, aI G (r_p1 0) 20 q.2.2] q.1
-- X0_run
def f_X0_run_b (rec_X0_run : Int32 → Int32 → Int32 → Int32 → (Nat → Int32) → Int32 → Int32 → Int32 → Int32 → Option (Int32 × Int32 × (Nat → Int32))) (v_p1_ran : Int32) (v_p1_number : Int32) (v_p1_kind : Int32) (v_p1_v : Int32) (v_p1_bodies : Nat → Int32) (p2 : Int32) (p3 : Int32) (p4 : Int32) (p5 : Int32) : Option (Int32 × Int32 × (Nat → Int32)) := (if p5 ≤ (20 : Int32) then ((f_X0_bodyFor p2 p3).bind fun q1 => ((f_X0_note v_p1_ran v_p1_bodies q1).bind fun q2 => (nm (p5 + (1 : Int32)) fun y3 => (if q1 = (10 : Int32) then (some (p4 + v_p1_number, q2.1, q2.2)) else (if q1 = (11 : Int32) then ((rec_X0_run q2.1 v_p1_number v_p1_kind v_p1_v q2.2 (0 : Int32) v_p1_kind p4 y3).bind fun q4 => (some (q4.1 - v_p1_v, q4.2.1, q4.2.2))) else (if q1 = (12 : Int32) then ((rec_X0_run q2.1 v_p1_number v_p1_kind v_p1_v q2.2 (1 : Int32) v_p1_kind p4 y3).bind fun q5 => (some (q5.1 * (2 : Int32), q5.2.1, q5.2.2))) else (if q1 = (20 : Int32) then ((rec_X0_run q2.1 v_p1_number v_p1_kind v_p1_v q2.2 (1 : Int32) (0 : Int32) p4 y3).bind fun q6 => (some (q6.1 ^^^ (6 : Int32), q6.2.1, q6.2.2))) else (if q1 = (30 : Int32) then ((rec_X0_run q2.1 v_p1_number v_p1_kind v_p1_v q2.2 (0 : Int32) (0 : Int32) (p4 * (3 : Int32)) y3).bind fun q7 => (some (q7.1, q7.2.1, q7.2.2))) else (if q1 = (40 : Int32) then ((rec_X0_run q2.1 v_p1_number v_p1_kind v_p1_v q2.2 (2 : Int32) (0 : Int32) p4 y3).bind fun q8 => ((rec_X0_run q8.2.1 v_p1_number v_p1_kind v_p1_v q8.2.2 (1 : Int32) v_p1_kind (1 : Int32) y3).bind fun q9 => (some (q8.1 + q9.1, q9.2.1, q9.2.2)))) else (if q1 = (50 : Int32) then ((rec_X0_run q2.1 v_p1_number v_p1_kind v_p1_v q2.2 (0 : Int32) (1 : Int32) p4 y3).bind fun q10 => (some (-q10.1, q10.2.1, q10.2.2))) else (if q1 = (51 : Int32) then ((rec_X0_run q2.1 v_p1_number v_p1_kind v_p1_v q2.2 (1 : Int32) (1 : Int32) (p4 + (1 : Int32)) y3).bind fun q11 => (some (q11.1, q11.2.1, q11.2.2))) else (if q1 = (60 : Int32) then ((rec_X0_run q2.1 v_p1_number v_p1_kind v_p1_v q2.2 (2 : Int32) (2 : Int32) (p4 - v_p1_number) y3).bind fun q12 => (some (q12.1, q12.2.1, q12.2.2))) else (if q1 = (70 : Int32) then ((rec_X0_run q2.1 v_p1_number v_p1_kind v_p1_v q2.2 (1 : Int32) (3 : Int32) p4 y3).bind fun q13 => ((rec_X0_run q13.2.1 v_p1_number v_p1_kind v_p1_v q13.2.2 (0 : Int32) (3 : Int32) (2 : Int32) y3).bind fun q14 => (some (q13.1 + q14.1, q14.2.1, q14.2.2)))) else (if q1 = (71 : Int32) then ((rec_X0_run q2.1 v_p1_number v_p1_kind v_p1_v q2.2 (0 : Int32) (3 : Int32) p4 y3).bind fun q15 => (some (q15.1 ^^^ v_p1_v, q15.2.1, q15.2.2))) else (some ((0 : Int32), q2.1, q2.2)))))))))))))))) else (some ((0 : Int32), v_p1_ran, v_p1_bodies)))
set_option maxRecDepth 20000 in
set_option maxHeartbeats 1000000 in
theorem t_X0_run {G : Gx} {K : Kx} {d : Nat} {rec_X0_run : Int32 → Int32 → Int32 → Int32 → (Nat → Int32) → Int32 → Int32 → Int32 → Int32 → Option (Int32 × Int32 × (Nat → Int32))} (C : Cx G K cX0_run RX0 7 (2 + (d + 1))) {a_p1 : Nat} {r_p1 : Nat → Nat} {v_p1_ran : Int32} {v_p1_number : Int32} {v_p1_kind : Int32} {v_p1_v : Int32} {v_p1_bodies : Nat → Int32} {p2 : Int32} {p3 : Int32} {p4 : Int32} {p5 : Int32} {q : Int32 × Int32 × (Nat → Int32)} (hQ : k_retI G K cX0_run 7 .int [oX0 a_p1 r_p1 q.2.1 v_p1_number v_p1_kind v_p1_v, aI G (r_p1 0) 20 q.2.2] q.1) (ih_X0_run : ct_X0_run G K.2.1 rec_X0_run (2 + d)) (hf : f_X0_run_b rec_X0_run v_p1_ran v_p1_number v_p1_kind v_p1_v v_p1_bodies p2 p3 p4 p5 = some q) : J G K 7 0 0 [oX0 a_p1 r_p1 v_p1_ran v_p1_number v_p1_kind v_p1_v, aI G (r_p1 0) 20 v_p1_bodies] [(0, .ref a_p1), (1, .int p2), (2, .int p3), (3, .int p4), (4, .int p5)] 0 [] := by
  unfold f_X0_run_b at hf
  refine j_iload C (pc := 0) 4 rfl dX0_run_0 ?_
  refine j_bipush C (pc := 2) (v := 20) (by decide) dX0_run_2 ?_
  refine j_icmp_le C (pc := 4) 9 dX0_run_4 (by decide) hf (fun hf => ?_) (fun hf => ?_)
  · refine j_iload_n C (pc := 9) 1 rfl rfl dX0_run_9 ?_
    refine j_iload_n C (pc := 10) 2 rfl rfl dX0_run_10 ?_
    refine j_cSI C (pc := 11) (As := [.int p2, .int p3]) (st := []) (ws' := fun q1 => [oX0 a_p1 r_p1 v_p1_ran v_p1_number v_p1_kind v_p1_v, aI G (r_p1 0) 20 v_p1_bodies]) ml_X0_15 ms_X0_bodyFor hf (fun q1 h => (c_X0_bodyFor G K.2.1) p2 p3 q1 h) [] [none, none] 2 rfl (by decide +kernel) (by decide +kernel) (fun _ => rfl) (fun _ => rfl) (Nat.ble_eq_true_of_le (by omega)) rfl rfl rfl ⟨Nat.zero_le _, Nat.zero_le _⟩ dX0_run_11 (fun q1 hf => ?_)
    refine j_istore C (pc := 14) (L' := [(5, .int q1), (0, .ref a_p1), (1, .int p2), (2, .int p3), (3, .int p4), (4, .int p5)]) dX0_run_14 (by decide) rfl ?_
    refine j_aload_n C (pc := 16) 1 rfl rfl dX0_run_16 ?_
    refine j_iload C (pc := 17) 0 rfl dX0_run_17 ?_
    refine j_cVZ C (pc := 19) (As := [.int q1]) (st := []) (ws' := fun q2 => [oX0 a_p1 r_p1 q2.1 v_p1_number v_p1_kind v_p1_v, aI G (r_p1 0) 20 q2.2]) ml_X0_19 ms_X0_note hf (fun q2 h => (c_X0_note G K.2.1) a_p1 r_p1 v_p1_ran v_p1_number v_p1_kind v_p1_v v_p1_bodies q1 q2 h) [0, 1] [some 0, some 1] 2 rfl (by decide +kernel) (by decide +kernel) (fun _ => rfl) (fun _ => rfl) (Nat.ble_eq_true_of_le (by omega)) rfl rfl rfl ⟨Nat.zero_le _, Nat.zero_le _⟩ dX0_run_19 kc_X0 0 rfl (fun q2 hf => ?_)
    refine j_iload C (pc := 22) 5 rfl dX0_run_22 ?_
    refine j_iconst C (pc := 24) (v := 1) (by decide) dX0_run_24 ?_
    refine j_iadd C (pc := 25) dX0_run_25 ?_
    refine j_nm hf (fun y3 hf => ?_)
    refine j_istore C (pc := 26) (L' := [(6, .int y3), (5, .int q1), (0, .ref a_p1), (1, .int p2), (2, .int p3), (3, .int p4), (4, .int p5)]) dX0_run_26 (by decide) rfl ?_
    refine j_iload C (pc := 28) 1 rfl dX0_run_28 ?_
    obtain ⟨h10, hf⟩ | ⟨h10, hf⟩ := k_or hf
    · refine j_lookup C (pc := 30) (off := 98) 128 dX0_run_30 (by decide) (by rw [h10] <;> rfl) (by decide) ?_
      refine j_iload_n C (pc := 128) 5 rfl rfl dX0_run_128 ?_
      refine j_aload_n C (pc := 129) 2 rfl rfl dX0_run_129 ?_
      refine j_get C (pc := 130) kc_X0 fl_X0_23 0 rfl rfl dX0_run_130 ?_
      refine j_iadd C (pc := 133) dX0_run_133 ?_
      obtain rfl := Option.some.inj hf
      exact hQ _ _ dX0_run_134 rfl
    · skip
      obtain ⟨h11, hf⟩ | ⟨h11, hf⟩ := k_or hf
      · refine j_lookup C (pc := 30) (off := 105) 135 dX0_run_30 (by decide) (by rw [h11] <;> rfl) (by decide) ?_
        refine j_aload_n C (pc := 135) 2 rfl rfl dX0_run_135 ?_
        refine j_iconst C (pc := 136) (v := 0) (by decide) dX0_run_136 ?_
        refine j_aload_n C (pc := 137) 2 rfl rfl dX0_run_137 ?_
        refine j_get C (pc := 138) kc_X0 fl_X0_27 0 rfl rfl dX0_run_138 ?_
        refine j_iload_n C (pc := 141) 5 rfl rfl dX0_run_141 ?_
        refine j_iload C (pc := 142) 0 rfl dX0_run_142 ?_
        refine j_cSI C (pc := 144) (As := [.ref a_p1, .int (0 : Int32), .int v_p1_kind, .int p4, .int y3]) (st := []) (ws' := fun q4 => [oX0 a_p1 r_p1 q4.2.1 v_p1_number v_p1_kind v_p1_v, aI G (r_p1 0) 20 q4.2.2]) ml_X0_30 ms_X0_run hf (fun q4 h => ih_X0_run a_p1 r_p1 q2.1 v_p1_number v_p1_kind v_p1_v q2.2 (0 : Int32) v_p1_kind p4 y3 q4 h) [0, 1] [some 0, some 1] 2 rfl (by decide +kernel) (by decide +kernel) (fun _ => rfl) (fun _ => rfl) (Nat.ble_eq_true_of_le (by omega)) rfl rfl rfl ⟨Nat.zero_le _, Nat.zero_le _⟩ dX0_run_144 (fun q4 hf => ?_)
        refine j_aload_n C (pc := 147) 2 rfl rfl dX0_run_147 ?_
        refine j_get C (pc := 148) kc_X0 fl_X0_34 0 rfl rfl dX0_run_148 ?_
        refine j_isub C (pc := 151) dX0_run_151 ?_
        obtain rfl := Option.some.inj hf
        exact hQ _ _ dX0_run_152 rfl
      · skip
        obtain ⟨h12, hf⟩ | ⟨h12, hf⟩ := k_or hf
        · refine j_lookup C (pc := 30) (off := 123) 153 dX0_run_30 (by decide) (by rw [h12] <;> rfl) (by decide) ?_
          refine j_aload_n C (pc := 153) 2 rfl rfl dX0_run_153 ?_
          refine j_iconst C (pc := 154) (v := 1) (by decide) dX0_run_154 ?_
          refine j_aload_n C (pc := 155) 2 rfl rfl dX0_run_155 ?_
          refine j_get C (pc := 156) kc_X0 fl_X0_27 0 rfl rfl dX0_run_156 ?_
          refine j_iload_n C (pc := 159) 5 rfl rfl dX0_run_159 ?_
          refine j_iload C (pc := 160) 0 rfl dX0_run_160 ?_
          refine j_cSI C (pc := 162) (As := [.ref a_p1, .int (1 : Int32), .int v_p1_kind, .int p4, .int y3]) (st := []) (ws' := fun q5 => [oX0 a_p1 r_p1 q5.2.1 v_p1_number v_p1_kind v_p1_v, aI G (r_p1 0) 20 q5.2.2]) ml_X0_30 ms_X0_run hf (fun q5 h => ih_X0_run a_p1 r_p1 q2.1 v_p1_number v_p1_kind v_p1_v q2.2 (1 : Int32) v_p1_kind p4 y3 q5 h) [0, 1] [some 0, some 1] 2 rfl (by decide +kernel) (by decide +kernel) (fun _ => rfl) (fun _ => rfl) (Nat.ble_eq_true_of_le (by omega)) rfl rfl rfl ⟨Nat.zero_le _, Nat.zero_le _⟩ dX0_run_162 (fun q5 hf => ?_)
          refine j_iconst C (pc := 165) (v := 2) (by decide) dX0_run_165 ?_
          refine j_imul C (pc := 166) dX0_run_166 ?_
          obtain rfl := Option.some.inj hf
          exact hQ _ _ dX0_run_167 rfl
        · skip
          obtain ⟨h20, hf⟩ | ⟨h20, hf⟩ := k_or hf
          · refine j_lookup C (pc := 30) (off := 138) 168 dX0_run_30 (by decide) (by rw [h20] <;> rfl) (by decide) ?_
            refine j_aload_n C (pc := 168) 2 rfl rfl dX0_run_168 ?_
            refine j_iconst C (pc := 169) (v := 1) (by decide) dX0_run_169 ?_
            refine j_iconst C (pc := 170) (v := 0) (by decide) dX0_run_170 ?_
            refine j_iload_n C (pc := 171) 5 rfl rfl dX0_run_171 ?_
            refine j_iload C (pc := 172) 0 rfl dX0_run_172 ?_
            refine j_cSI C (pc := 174) (As := [.ref a_p1, .int (1 : Int32), .int (0 : Int32), .int p4, .int y3]) (st := []) (ws' := fun q6 => [oX0 a_p1 r_p1 q6.2.1 v_p1_number v_p1_kind v_p1_v, aI G (r_p1 0) 20 q6.2.2]) ml_X0_30 ms_X0_run hf (fun q6 h => ih_X0_run a_p1 r_p1 q2.1 v_p1_number v_p1_kind v_p1_v q2.2 (1 : Int32) (0 : Int32) p4 y3 q6 h) [0, 1] [some 0, some 1] 2 rfl (by decide +kernel) (by decide +kernel) (fun _ => rfl) (fun _ => rfl) (Nat.ble_eq_true_of_le (by omega)) rfl rfl rfl ⟨Nat.zero_le _, Nat.zero_le _⟩ dX0_run_174 (fun q6 hf => ?_)
            refine j_bipush C (pc := 177) (v := 6) (by decide) dX0_run_177 ?_
            refine j_ixor C (pc := 179) dX0_run_179 ?_
            obtain rfl := Option.some.inj hf
            exact hQ _ _ dX0_run_180 rfl
          · skip
            obtain ⟨h30, hf⟩ | ⟨h30, hf⟩ := k_or hf
            · refine j_lookup C (pc := 30) (off := 151) 181 dX0_run_30 (by decide) (by rw [h30] <;> rfl) (by decide) ?_
              refine j_aload_n C (pc := 181) 2 rfl rfl dX0_run_181 ?_
              refine j_iconst C (pc := 182) (v := 0) (by decide) dX0_run_182 ?_
              refine j_iconst C (pc := 183) (v := 0) (by decide) dX0_run_183 ?_
              refine j_iload_n C (pc := 184) 5 rfl rfl dX0_run_184 ?_
              refine j_iconst C (pc := 185) (v := 3) (by decide) dX0_run_185 ?_
              refine j_imul C (pc := 186) dX0_run_186 ?_
              refine j_iload C (pc := 187) 0 rfl dX0_run_187 ?_
              refine j_cSI C (pc := 189) (As := [.ref a_p1, .int (0 : Int32), .int (0 : Int32), .int (p4 * (3 : Int32)), .int y3]) (st := []) (ws' := fun q7 => [oX0 a_p1 r_p1 q7.2.1 v_p1_number v_p1_kind v_p1_v, aI G (r_p1 0) 20 q7.2.2]) ml_X0_30 ms_X0_run hf (fun q7 h => ih_X0_run a_p1 r_p1 q2.1 v_p1_number v_p1_kind v_p1_v q2.2 (0 : Int32) (0 : Int32) (p4 * (3 : Int32)) y3 q7 h) [0, 1] [some 0, some 1] 2 rfl (by decide +kernel) (by decide +kernel) (fun _ => rfl) (fun _ => rfl) (Nat.ble_eq_true_of_le (by omega)) rfl rfl rfl ⟨Nat.zero_le _, Nat.zero_le _⟩ dX0_run_189 (fun q7 hf => ?_)
              obtain rfl := Option.some.inj hf
              exact hQ _ _ dX0_run_192 rfl
            · skip
              obtain ⟨h40, hf⟩ | ⟨h40, hf⟩ := k_or hf
              · refine j_lookup C (pc := 30) (off := 163) 193 dX0_run_30 (by decide) (by rw [h40] <;> rfl) (by decide) ?_
                refine j_aload_n C (pc := 193) 2 rfl rfl dX0_run_193 ?_
                refine j_iconst C (pc := 194) (v := 2) (by decide) dX0_run_194 ?_
                refine j_iconst C (pc := 195) (v := 0) (by decide) dX0_run_195 ?_
                refine j_iload_n C (pc := 196) 5 rfl rfl dX0_run_196 ?_
                refine j_iload C (pc := 197) 0 rfl dX0_run_197 ?_
                refine j_cSI C (pc := 199) (As := [.ref a_p1, .int (2 : Int32), .int (0 : Int32), .int p4, .int y3]) (st := []) (ws' := fun q8 => [oX0 a_p1 r_p1 q8.2.1 v_p1_number v_p1_kind v_p1_v, aI G (r_p1 0) 20 q8.2.2]) ml_X0_30 ms_X0_run hf (fun q8 h => ih_X0_run a_p1 r_p1 q2.1 v_p1_number v_p1_kind v_p1_v q2.2 (2 : Int32) (0 : Int32) p4 y3 q8 h) [0, 1] [some 0, some 1] 2 rfl (by decide +kernel) (by decide +kernel) (fun _ => rfl) (fun _ => rfl) (Nat.ble_eq_true_of_le (by omega)) rfl rfl rfl ⟨Nat.zero_le _, Nat.zero_le _⟩ dX0_run_199 (fun q8 hf => ?_)
                refine j_aload_n C (pc := 202) 2 rfl rfl dX0_run_202 ?_
                refine j_iconst C (pc := 203) (v := 1) (by decide) dX0_run_203 ?_
                refine j_aload_n C (pc := 204) 2 rfl rfl dX0_run_204 ?_
                refine j_get C (pc := 205) kc_X0 fl_X0_27 0 rfl rfl dX0_run_205 ?_
                refine j_iconst C (pc := 208) (v := 1) (by decide) dX0_run_208 ?_
                refine j_iload C (pc := 209) 0 rfl dX0_run_209 ?_
                refine j_cSI C (pc := 211) (As := [.ref a_p1, .int (1 : Int32), .int v_p1_kind, .int (1 : Int32), .int y3]) (st := [.int q8.1]) (ws' := fun q9 => [oX0 a_p1 r_p1 q9.2.1 v_p1_number v_p1_kind v_p1_v, aI G (r_p1 0) 20 q9.2.2]) ml_X0_30 ms_X0_run hf (fun q9 h => ih_X0_run a_p1 r_p1 q8.2.1 v_p1_number v_p1_kind v_p1_v q8.2.2 (1 : Int32) v_p1_kind (1 : Int32) y3 q9 h) [0, 1] [some 0, some 1] 2 rfl (by decide +kernel) (by decide +kernel) (fun _ => rfl) (fun _ => rfl) (Nat.ble_eq_true_of_le (by omega)) rfl rfl rfl ⟨Nat.zero_le _, Nat.zero_le _⟩ dX0_run_211 (fun q9 hf => ?_)
                refine j_iadd C (pc := 214) dX0_run_214 ?_
                obtain rfl := Option.some.inj hf
                exact hQ _ _ dX0_run_215 rfl
              · skip
                obtain ⟨h50, hf⟩ | ⟨h50, hf⟩ := k_or hf
                · refine j_lookup C (pc := 30) (off := 186) 216 dX0_run_30 (by decide) (by rw [h50] <;> rfl) (by decide) ?_
                  refine j_aload_n C (pc := 216) 2 rfl rfl dX0_run_216 ?_
                  refine j_iconst C (pc := 217) (v := 0) (by decide) dX0_run_217 ?_
                  refine j_iconst C (pc := 218) (v := 1) (by decide) dX0_run_218 ?_
                  refine j_iload_n C (pc := 219) 5 rfl rfl dX0_run_219 ?_
                  refine j_iload C (pc := 220) 0 rfl dX0_run_220 ?_
                  refine j_cSI C (pc := 222) (As := [.ref a_p1, .int (0 : Int32), .int (1 : Int32), .int p4, .int y3]) (st := []) (ws' := fun q10 => [oX0 a_p1 r_p1 q10.2.1 v_p1_number v_p1_kind v_p1_v, aI G (r_p1 0) 20 q10.2.2]) ml_X0_30 ms_X0_run hf (fun q10 h => ih_X0_run a_p1 r_p1 q2.1 v_p1_number v_p1_kind v_p1_v q2.2 (0 : Int32) (1 : Int32) p4 y3 q10 h) [0, 1] [some 0, some 1] 2 rfl (by decide +kernel) (by decide +kernel) (fun _ => rfl) (fun _ => rfl) (Nat.ble_eq_true_of_le (by omega)) rfl rfl rfl ⟨Nat.zero_le _, Nat.zero_le _⟩ dX0_run_222 (fun q10 hf => ?_)
                  refine j_ineg C (pc := 225) dX0_run_225 ?_
                  obtain rfl := Option.some.inj hf
                  exact hQ _ _ dX0_run_226 rfl
                · skip
                  obtain ⟨h51, hf⟩ | ⟨h51, hf⟩ := k_or hf
                  · refine j_lookup C (pc := 30) (off := 197) 227 dX0_run_30 (by decide) (by rw [h51] <;> rfl) (by decide) ?_
                    refine j_aload_n C (pc := 227) 2 rfl rfl dX0_run_227 ?_
                    refine j_iconst C (pc := 228) (v := 1) (by decide) dX0_run_228 ?_
                    refine j_iconst C (pc := 229) (v := 1) (by decide) dX0_run_229 ?_
                    refine j_iload_n C (pc := 230) 5 rfl rfl dX0_run_230 ?_
                    refine j_iconst C (pc := 231) (v := 1) (by decide) dX0_run_231 ?_
                    refine j_iadd C (pc := 232) dX0_run_232 ?_
                    refine j_iload C (pc := 233) 0 rfl dX0_run_233 ?_
                    refine j_cSI C (pc := 235) (As := [.ref a_p1, .int (1 : Int32), .int (1 : Int32), .int (p4 + (1 : Int32)), .int y3]) (st := []) (ws' := fun q11 => [oX0 a_p1 r_p1 q11.2.1 v_p1_number v_p1_kind v_p1_v, aI G (r_p1 0) 20 q11.2.2]) ml_X0_30 ms_X0_run hf (fun q11 h => ih_X0_run a_p1 r_p1 q2.1 v_p1_number v_p1_kind v_p1_v q2.2 (1 : Int32) (1 : Int32) (p4 + (1 : Int32)) y3 q11 h) [0, 1] [some 0, some 1] 2 rfl (by decide +kernel) (by decide +kernel) (fun _ => rfl) (fun _ => rfl) (Nat.ble_eq_true_of_le (by omega)) rfl rfl rfl ⟨Nat.zero_le _, Nat.zero_le _⟩ dX0_run_235 (fun q11 hf => ?_)
                    obtain rfl := Option.some.inj hf
                    exact hQ _ _ dX0_run_238 rfl
                  · skip
                    obtain ⟨h60, hf⟩ | ⟨h60, hf⟩ := k_or hf
                    · refine j_lookup C (pc := 30) (off := 209) 239 dX0_run_30 (by decide) (by rw [h60] <;> rfl) (by decide) ?_
                      refine j_aload_n C (pc := 239) 2 rfl rfl dX0_run_239 ?_
                      refine j_iconst C (pc := 240) (v := 2) (by decide) dX0_run_240 ?_
                      refine j_iconst C (pc := 241) (v := 2) (by decide) dX0_run_241 ?_
                      refine j_iload_n C (pc := 242) 5 rfl rfl dX0_run_242 ?_
                      refine j_aload_n C (pc := 243) 2 rfl rfl dX0_run_243 ?_
                      refine j_get C (pc := 244) kc_X0 fl_X0_23 0 rfl rfl dX0_run_244 ?_
                      refine j_isub C (pc := 247) dX0_run_247 ?_
                      refine j_iload C (pc := 248) 0 rfl dX0_run_248 ?_
                      refine j_cSI C (pc := 250) (As := [.ref a_p1, .int (2 : Int32), .int (2 : Int32), .int (p4 - v_p1_number), .int y3]) (st := []) (ws' := fun q12 => [oX0 a_p1 r_p1 q12.2.1 v_p1_number v_p1_kind v_p1_v, aI G (r_p1 0) 20 q12.2.2]) ml_X0_30 ms_X0_run hf (fun q12 h => ih_X0_run a_p1 r_p1 q2.1 v_p1_number v_p1_kind v_p1_v q2.2 (2 : Int32) (2 : Int32) (p4 - v_p1_number) y3 q12 h) [0, 1] [some 0, some 1] 2 rfl (by decide +kernel) (by decide +kernel) (fun _ => rfl) (fun _ => rfl) (Nat.ble_eq_true_of_le (by omega)) rfl rfl rfl ⟨Nat.zero_le _, Nat.zero_le _⟩ dX0_run_250 (fun q12 hf => ?_)
                      obtain rfl := Option.some.inj hf
                      exact hQ _ _ dX0_run_253 rfl
                    · skip
                      obtain ⟨h70, hf⟩ | ⟨h70, hf⟩ := k_or hf
                      · refine j_lookup C (pc := 30) (off := 224) 254 dX0_run_30 (by decide) (by rw [h70] <;> rfl) (by decide) ?_
                        refine j_aload_n C (pc := 254) 2 rfl rfl dX0_run_254 ?_
                        refine j_iconst C (pc := 255) (v := 1) (by decide) dX0_run_255 ?_
                        refine j_iconst C (pc := 256) (v := 3) (by decide) dX0_run_256 ?_
                        refine j_iload_n C (pc := 257) 5 rfl rfl dX0_run_257 ?_
                        refine j_iload C (pc := 258) 0 rfl dX0_run_258 ?_
                        refine j_cSI C (pc := 260) (As := [.ref a_p1, .int (1 : Int32), .int (3 : Int32), .int p4, .int y3]) (st := []) (ws' := fun q13 => [oX0 a_p1 r_p1 q13.2.1 v_p1_number v_p1_kind v_p1_v, aI G (r_p1 0) 20 q13.2.2]) ml_X0_30 ms_X0_run hf (fun q13 h => ih_X0_run a_p1 r_p1 q2.1 v_p1_number v_p1_kind v_p1_v q2.2 (1 : Int32) (3 : Int32) p4 y3 q13 h) [0, 1] [some 0, some 1] 2 rfl (by decide +kernel) (by decide +kernel) (fun _ => rfl) (fun _ => rfl) (Nat.ble_eq_true_of_le (by omega)) rfl rfl rfl ⟨Nat.zero_le _, Nat.zero_le _⟩ dX0_run_260 (fun q13 hf => ?_)
                        refine j_aload_n C (pc := 263) 2 rfl rfl dX0_run_263 ?_
                        refine j_iconst C (pc := 264) (v := 0) (by decide) dX0_run_264 ?_
                        refine j_iconst C (pc := 265) (v := 3) (by decide) dX0_run_265 ?_
                        refine j_iconst C (pc := 266) (v := 2) (by decide) dX0_run_266 ?_
                        refine j_iload C (pc := 267) 0 rfl dX0_run_267 ?_
                        refine j_cSI C (pc := 269) (As := [.ref a_p1, .int (0 : Int32), .int (3 : Int32), .int (2 : Int32), .int y3]) (st := [.int q13.1]) (ws' := fun q14 => [oX0 a_p1 r_p1 q14.2.1 v_p1_number v_p1_kind v_p1_v, aI G (r_p1 0) 20 q14.2.2]) ml_X0_30 ms_X0_run hf (fun q14 h => ih_X0_run a_p1 r_p1 q13.2.1 v_p1_number v_p1_kind v_p1_v q13.2.2 (0 : Int32) (3 : Int32) (2 : Int32) y3 q14 h) [0, 1] [some 0, some 1] 2 rfl (by decide +kernel) (by decide +kernel) (fun _ => rfl) (fun _ => rfl) (Nat.ble_eq_true_of_le (by omega)) rfl rfl rfl ⟨Nat.zero_le _, Nat.zero_le _⟩ dX0_run_269 (fun q14 hf => ?_)
                        refine j_iadd C (pc := 272) dX0_run_272 ?_
                        obtain rfl := Option.some.inj hf
                        exact hQ _ _ dX0_run_273 rfl
                      · skip
                        obtain ⟨h71, hf⟩ | ⟨h71, hf⟩ := k_or hf
                        · refine j_lookup C (pc := 30) (off := 244) 274 dX0_run_30 (by decide) (by rw [h71] <;> rfl) (by decide) ?_
                          refine j_aload_n C (pc := 274) 2 rfl rfl dX0_run_274 ?_
                          refine j_iconst C (pc := 275) (v := 0) (by decide) dX0_run_275 ?_
                          refine j_iconst C (pc := 276) (v := 3) (by decide) dX0_run_276 ?_
                          refine j_iload_n C (pc := 277) 5 rfl rfl dX0_run_277 ?_
                          refine j_iload C (pc := 278) 0 rfl dX0_run_278 ?_
                          refine j_cSI C (pc := 280) (As := [.ref a_p1, .int (0 : Int32), .int (3 : Int32), .int p4, .int y3]) (st := []) (ws' := fun q15 => [oX0 a_p1 r_p1 q15.2.1 v_p1_number v_p1_kind v_p1_v, aI G (r_p1 0) 20 q15.2.2]) ml_X0_30 ms_X0_run hf (fun q15 h => ih_X0_run a_p1 r_p1 q2.1 v_p1_number v_p1_kind v_p1_v q2.2 (0 : Int32) (3 : Int32) p4 y3 q15 h) [0, 1] [some 0, some 1] 2 rfl (by decide +kernel) (by decide +kernel) (fun _ => rfl) (fun _ => rfl) (Nat.ble_eq_true_of_le (by omega)) rfl rfl rfl ⟨Nat.zero_le _, Nat.zero_le _⟩ dX0_run_280 (fun q15 hf => ?_)
                          refine j_aload_n C (pc := 283) 2 rfl rfl dX0_run_283 ?_
                          refine j_get C (pc := 284) kc_X0 fl_X0_34 0 rfl rfl dX0_run_284 ?_
                          refine j_ixor C (pc := 287) dX0_run_287 ?_
                          obtain rfl := Option.some.inj hf
                          exact hQ _ _ dX0_run_288 rfl
                        · skip
                          refine j_lookup C (pc := 30) (off := 259) 289 dX0_run_30 (by decide) (by show Op.lookupswitch.offset [(10, 98), (11, 105), (12, 123), (20, 138), (30, 151), (40, 163), (50, 186), (51, 197), (60, 209), (70, 224), (71, 244)] 259 _ = _; rw [lv_osw h10 (show ((10 : Int32)).toInt = 10 from rfl), lv_osw h11 (show ((11 : Int32)).toInt = 11 from rfl), lv_osw h12 (show ((12 : Int32)).toInt = 12 from rfl), lv_osw h20 (show ((20 : Int32)).toInt = 20 from rfl), lv_osw h30 (show ((30 : Int32)).toInt = 30 from rfl), lv_osw h40 (show ((40 : Int32)).toInt = 40 from rfl), lv_osw h50 (show ((50 : Int32)).toInt = 50 from rfl), lv_osw h51 (show ((51 : Int32)).toInt = 51 from rfl), lv_osw h60 (show ((60 : Int32)).toInt = 60 from rfl), lv_osw h70 (show ((70 : Int32)).toInt = 70 from rfl), lv_osw h71 (show ((71 : Int32)).toInt = 71 from rfl)] <;> rfl) (by decide) ?_
                          refine j_iconst C (pc := 289) (v := 0) (by decide) dX0_run_289 ?_
                          obtain rfl := Option.some.inj hf
                          exact hQ _ _ dX0_run_290 rfl
  · refine j_iconst C (pc := 7) (v := 0) (by decide) dX0_run_7 ?_
    obtain rfl := Option.some.inj hf
    exact hQ _ _ dX0_run_8 rfl
def f_X0_run : Nat → Int32 → Int32 → Int32 → Int32 → (Nat → Int32) → Int32 → Int32 → Int32 → Int32 → Option (Int32 × Int32 × (Nat → Int32))
  | 0 => fun _ _ _ _ _ _ _ _ _ => none
  | d + 1 => f_X0_run_b (f_X0_run d)
theorem c_X0_run (G : Gx) (l : Launch) : ∀ d : Nat, ct_X0_run G l (f_X0_run d) (2 + d) := by
  intro d
  induction d with
  | zero => intro a_p1 r_p1 v_p1_ran v_p1_number v_p1_kind v_p1_v v_p1_bodies p2 p3 p4 p5 q hf; cases hf
  | succ d ih =>
    intro a_p1 r_p1 v_p1_ran v_p1_number v_p1_kind v_p1_v v_p1_bodies p2 p3 p4 p5 q hf
    exact mI_of (by decide +kernel) rfl (fun K hl C hQ => by subst hl; exact t_X0_run C hQ ih hf)
-- X7_bit
def f_X7_bit (p1 : Int32) (p2 : Int32) : Option (Int32) := (some ((p1 >>> (p2 &&& 31)) &&& (1 : Int32)))
set_option maxRecDepth 20000 in
set_option maxHeartbeats 1000000 in
theorem t_X7_bit {G : Gx} {K : Kx} (C : Cx G K cX7_bit RX7 2 1) {p1 : Int32} {p2 : Int32} {q : Int32} (hQ : k_retI G K cX7_bit 2 .int [] q) (hf : f_X7_bit p1 p2 = some q) : J G K 2 0 0 [] [(0, .int p1), (1, .int p2)] 0 [] := by
  unfold f_X7_bit at hf
  refine j_iload_n C (pc := 0) 0 rfl rfl dX7_bit_0 ?_
  refine j_iload_n C (pc := 1) 1 rfl rfl dX7_bit_1 ?_
  refine j_ishr C (pc := 2) dX7_bit_2 ?_
  refine j_iconst C (pc := 3) (v := 1) (by decide) dX7_bit_3 ?_
  refine j_iand C (pc := 4) dX7_bit_4 ?_
  obtain rfl := Option.some.inj hf
  exact hQ _ _ dX7_bit_5 rfl
def ct_X7_bit (G : Gx) (l : Launch) (F : Int32 → Int32 → Option (Int32)) (lv : Nat) : Prop := ∀ (p1 : Int32) (p2 : Int32), ∀ (q : Int32), F p1 p2 = some q → MI G l yX7_bit cX7_bit 2 .int lv [.int p1, .int p2] [] [] q
theorem c_X7_bit (G : Gx) (l : Launch) : ct_X7_bit G l f_X7_bit 1 := by
  intro p1 p2 q hf
  exact mI_of (by decide +kernel) rfl (fun K hl C hQ => t_X7_bit C hQ hf)
-- X6_has
def f_X6_has (v_people : Int32) (p1 : Int32) : Option (Int32) := (if p1 < 0 then (some (0 : Int32)) else (if v_people ≤ p1 then (some (0 : Int32)) else (some (1 : Int32))))
set_option maxRecDepth 20000 in
set_option maxHeartbeats 1000000 in
theorem t_X6_has {G : Gx} {K : Kx} (C : Cx G K cX6_has RX6 2 1) {a_t : Nat} {r_t : Nat → Nat} {v_people : Int32} {v_day : Int32} {v_dead : Int32} {v_buried : Int32} {a_holding : Nat} {p1 : Int32} {q : Int32} (hQ : k_retI G K cX6_has 2 .boolean [oX6 a_t r_t v_people v_day v_dead v_buried a_holding] q) (hf : f_X6_has v_people p1 = some q) : J G K 2 0 0 [oX6 a_t r_t v_people v_day v_dead v_buried a_holding] [(0, .ref a_t), (1, .int p1)] 0 [] := by
  unfold f_X6_has at hf
  refine j_iload_n C (pc := 0) 1 rfl rfl dX6_has_0 ?_
  refine j_if_lt C (pc := 1) 16 dX6_has_1 (by decide) hf (fun hf => ?_) (fun hf => ?_)
  · refine j_iconst C (pc := 16) (v := 0) (by decide) dX6_has_16 ?_
    obtain rfl := Option.some.inj hf
    exact hQ _ _ dX6_has_17 (show narrow .boolean (.int (0 : Int32)) = .int (0 : Int32) from rfl)
  · refine j_iload_n C (pc := 4) 1 rfl rfl dX6_has_4 ?_
    refine j_aload_n C (pc := 5) 0 rfl rfl dX6_has_5 ?_
    refine j_get C (pc := 6) kc_X6 fl_X6_52 0 rfl rfl dX6_has_6 ?_
    refine j_icmp_ge C (pc := 9) 16 dX6_has_9 (by decide) hf (fun hf => ?_) (fun hf => ?_)
    · refine j_iconst C (pc := 16) (v := 0) (by decide) dX6_has_16 ?_
      obtain rfl := Option.some.inj hf
      exact hQ _ _ dX6_has_17 (show narrow .boolean (.int (0 : Int32)) = .int (0 : Int32) from rfl)
    · refine j_iconst C (pc := 12) (v := 1) (by decide) dX6_has_12 ?_
      refine j_goto C (pc := 13) 17 dX6_has_13 (by decide) ?_
      obtain rfl := Option.some.inj hf
      exact hQ _ _ dX6_has_17 (show narrow .boolean (.int (1 : Int32)) = .int (1 : Int32) from rfl)
def ct_X6_has (G : Gx) (l : Launch) (F : Int32 → Int32 → Option (Int32)) (lv : Nat) : Prop := ∀ (a_t : Nat) (r_t : Nat → Nat) (v_people : Int32) (v_day : Int32) (v_dead : Int32) (v_buried : Int32) (a_holding : Nat) (p1 : Int32), ∀ (q : Int32), F v_people p1 = some q → MI G l yX6_has cX6_has 2 .boolean lv [.ref a_t, .int p1] [oX6 a_t r_t v_people v_day v_dead v_buried a_holding] [oX6 a_t r_t v_people v_day v_dead v_buried a_holding] q
theorem c_X6_has (G : Gx) (l : Launch) : ct_X6_has G l f_X6_has 1 := by
  intro a_t r_t v_people v_day v_dead v_buried a_holding p1 q hf
  exact mI_of (by decide +kernel) rfl (fun K hl C hQ => t_X6_has C hQ hf)
-- X6_hateOf
def f_X6_hateOf (v_people : Int32) (v_hates : Nat → Int32) (p1 : Int32) (p2 : Int32) : Option (Int32) := ((f_X6_has v_people p1).bind fun q1 => (if q1 = 0 then (some (0 : Int32)) else ((f_X6_has v_people p2).bind fun q2 => (if q2 = 0 then (some (0 : Int32)) else (gd ((p1 * (6 : Int32)) + p2) 36 (some (v_hates ((p1 * (6 : Int32)) + p2).toNatClampNeg)))))))
set_option maxRecDepth 20000 in
set_option maxHeartbeats 1000000 in
theorem t_X6_hateOf {G : Gx} {K : Kx} (C : Cx G K cX6_hateOf RX6 3 2) {a_t : Nat} {r_t : Nat → Nat} {v_people : Int32} {v_day : Int32} {v_dead : Int32} {v_buried : Int32} {a_holding : Nat} {v_hates : Nat → Int32} {p1 : Int32} {p2 : Int32} {q : Int32} (hQ : k_retI G K cX6_hateOf 3 .int [oX6 a_t r_t v_people v_day v_dead v_buried a_holding, aI G (r_t 8) 36 v_hates] q) (hf : f_X6_hateOf v_people v_hates p1 p2 = some q) : J G K 3 0 0 [oX6 a_t r_t v_people v_day v_dead v_buried a_holding, aI G (r_t 8) 36 v_hates] [(0, .ref a_t), (1, .int p1), (2, .int p2)] 0 [] := by
  unfold f_X6_hateOf at hf
  refine j_aload_n C (pc := 0) 0 rfl rfl dX6_hateOf_0 ?_
  refine j_iload_n C (pc := 1) 1 rfl rfl dX6_hateOf_1 ?_
  refine j_cVI C (pc := 2) (As := [.int p1]) (st := []) (ws' := fun q1 => [oX6 a_t r_t v_people v_day v_dead v_buried a_holding, aI G (r_t 8) 36 v_hates]) ml_X6_56 ms_X6_has hf (fun q1 h => (c_X6_has G K.2.1) a_t r_t v_people v_day v_dead v_buried a_holding p1 q1 h) [0] [some 0, none] 2 rfl (by decide +kernel) (by decide +kernel) (fun _ => rfl) (fun _ => rfl) rfl rfl rfl rfl ⟨Nat.zero_le _, Nat.zero_le _⟩ dX6_hateOf_2 kc_X6 0 rfl (fun q1 hf => ?_)
  refine j_if_eq C (pc := 5) 30 dX6_hateOf_5 (by decide) hf (fun hf => ?_) (fun hf => ?_)
  · refine j_iconst C (pc := 30) (v := 0) (by decide) dX6_hateOf_30 ?_
    obtain rfl := Option.some.inj hf
    exact hQ _ _ dX6_hateOf_31 rfl
  · refine j_aload_n C (pc := 8) 0 rfl rfl dX6_hateOf_8 ?_
    refine j_iload_n C (pc := 9) 2 rfl rfl dX6_hateOf_9 ?_
    refine j_cVI C (pc := 10) (As := [.int p2]) (st := []) (ws' := fun q2 => [oX6 a_t r_t v_people v_day v_dead v_buried a_holding, aI G (r_t 8) 36 v_hates]) ml_X6_56 ms_X6_has hf (fun q2 h => (c_X6_has G K.2.1) a_t r_t v_people v_day v_dead v_buried a_holding p2 q2 h) [0] [some 0, none] 2 rfl (by decide +kernel) (by decide +kernel) (fun _ => rfl) (fun _ => rfl) rfl rfl rfl rfl ⟨Nat.zero_le _, Nat.zero_le _⟩ dX6_hateOf_10 kc_X6 0 rfl (fun q2 hf => ?_)
    refine j_if_eq C (pc := 13) 30 dX6_hateOf_13 (by decide) hf (fun hf => ?_) (fun hf => ?_)
    · refine j_iconst C (pc := 30) (v := 0) (by decide) dX6_hateOf_30 ?_
      obtain rfl := Option.some.inj hf
      exact hQ _ _ dX6_hateOf_31 rfl
    · refine j_aload_n C (pc := 16) 0 rfl rfl dX6_hateOf_16 ?_
      refine j_get C (pc := 17) kc_X6 fl_X6_28 0 rfl rfl dX6_hateOf_17 ?_
      refine j_iload_n C (pc := 20) 1 rfl rfl dX6_hateOf_20 ?_
      refine j_bipush C (pc := 21) (v := 6) (by decide) dX6_hateOf_21 ?_
      refine j_imul C (pc := 23) dX6_hateOf_23 ?_
      refine j_iload_n C (pc := 24) 2 rfl rfl dX6_hateOf_24 ?_
      refine j_iadd C (pc := 25) dX6_hateOf_25 ?_
      refine j_iald C (pc := 26) 1 rfl hf dX6_hateOf_26 (fun hf => ?_)
      refine j_goto C (pc := 27) 31 dX6_hateOf_27 (by decide) ?_
      obtain rfl := Option.some.inj hf
      exact hQ _ _ dX6_hateOf_31 rfl
def ct_X6_hateOf (G : Gx) (l : Launch) (F : Int32 → (Nat → Int32) → Int32 → Int32 → Option (Int32)) (lv : Nat) : Prop := ∀ (a_t : Nat) (r_t : Nat → Nat) (v_people : Int32) (v_day : Int32) (v_dead : Int32) (v_buried : Int32) (a_holding : Nat) (v_hates : Nat → Int32) (p1 : Int32) (p2 : Int32), ∀ (q : Int32), F v_people v_hates p1 p2 = some q → MI G l yX6_hateOf cX6_hateOf 3 .int lv [.ref a_t, .int p1, .int p2] [oX6 a_t r_t v_people v_day v_dead v_buried a_holding, aI G (r_t 8) 36 v_hates] [oX6 a_t r_t v_people v_day v_dead v_buried a_holding, aI G (r_t 8) 36 v_hates] q
theorem c_X6_hateOf (G : Gx) (l : Launch) : ct_X6_hateOf G l f_X6_hateOf 2 := by
  intro a_t r_t v_people v_day v_dead v_buried a_holding v_hates p1 p2 q hf
  exact mI_of (by decide +kernel) rfl (fun K hl C hQ => t_X6_hateOf C hQ hf)
-- X2_weigh
def f_X2_weigh_171 (k7 : Int32 → Int32 → Int32 → Option (Int32)) (k0 : Int32) (x2 : Int32) (x3 : Int32) (x4 : Int32) (x5 : Int32) : Option (Int32) := (if k0 = (x5 - x5 / (3 : Int32) * (3 : Int32)) then (nm ((x3 <<< ((1 : Int32) &&& 31)) ||| (1 : Int32)) fun y2 => (k7 x2 y2 (x4 + (1 : Int32)))) else (nm ((x3 <<< ((1 : Int32) &&& 31)) ||| (0 : Int32)) fun y1 => (k7 x2 y1 (x4 + (1 : Int32)))))
set_option maxRecDepth 20000 in
set_option maxHeartbeats 1000000 in
theorem t_X2_weigh_171 {G : Gx} {K : Kx} (C : Cx G K cX2_weigh RX2 9 1) {a_t : Nat} {r_t : Nat → Nat} {a_p1 : Nat} {v_length : Int32} {v_need : Int32} {v_p1 : Nat → Int32} {v_steps : Nat → Int32} {v_numbers : Nat → Int32} {q : Int32} (hQ : k_retI G K cX2_weigh 9 .int [oX2 a_t r_t v_length v_need, aI G a_p1 6 v_p1, aI G (r_t 0) 100 v_steps, aI G (r_t 1) 100 v_numbers] q) {k7 : Int32 → Int32 → Int32 → Option (Int32)} (hk7 : ∀ (x2 : Int32) (x3 : Int32) (x4 : Int32), k7 x2 x3 x4 = some q → J G K 9 0 0 [oX2 a_t r_t v_length v_need, aI G a_p1 6 v_p1, aI G (r_t 0) 100 v_steps, aI G (r_t 1) 100 v_numbers] [(0, .ref a_t), (1, .ref a_p1), (2, .int x2), (3, .int x3), (4, .int x4)] 7 []) {k0 : Int32} {x2 : Int32} {x3 : Int32} {x4 : Int32} {x5 : Int32} (hf : f_X2_weigh_171 k7 k0 x2 x3 x4 x5 = some q) : J G K 9 0 0 [oX2 a_t r_t v_length v_need, aI G a_p1 6 v_p1, aI G (r_t 0) 100 v_steps, aI G (r_t 1) 100 v_numbers] [(0, .ref a_t), (1, .ref a_p1), (2, .int x2), (3, .int x3), (4, .int x4), (5, .int x5)] 171 [.int k0] := by
  unfold f_X2_weigh_171 at hf
  refine j_istore C (pc := 171) (L' := [(8, .int k0), (0, .ref a_t), (1, .ref a_p1), (2, .int x2), (3, .int x3), (4, .int x4), (5, .int x5)]) dX2_weigh_171 (by decide) rfl ?_
  refine j_iload_n C (pc := 173) 4 rfl rfl dX2_weigh_173 ?_
  refine j_iconst C (pc := 174) (v := 1) (by decide) dX2_weigh_174 ?_
  refine j_ishl C (pc := 175) dX2_weigh_175 ?_
  refine j_iload C (pc := 176) 0 rfl dX2_weigh_176 ?_
  refine j_iload C (pc := 178) 6 rfl dX2_weigh_178 ?_
  refine j_iconst C (pc := 180) (v := 3) (by decide) dX2_weigh_180 ?_
  refine j_irem C (pc := 181) dX2_weigh_181 (gz_mk (by decide) hf) (fun hf => ?_)
  refine j_icmp_ne C (pc := 182) 189 dX2_weigh_182 (by decide) hf (fun hf => ?_) (fun hf => ?_)
  · refine j_iconst C (pc := 189) (v := 0) (by decide) dX2_weigh_189 ?_
    refine j_ior C (pc := 190) dX2_weigh_190 ?_
    refine j_nm hf (fun y1 hf => ?_)
    refine j_istore_n C (pc := 191) (L' := [(3, .int y1), (8, .int k0), (0, .ref a_t), (1, .ref a_p1), (2, .int x2), (4, .int x4), (5, .int x5)]) dX2_weigh_191 rfl (by decide) rfl ?_
    refine j_iinc C (pc := 192) (L' := [(4, .int (x4 + (1 : Int32))), (3, .int y1), (8, .int k0), (0, .ref a_t), (1, .ref a_p1), (2, .int x2), (5, .int x5)]) (v := x4 + (1 : Int32)) dX2_weigh_192 (t := 5) rfl rfl (by decide) rfl ?_
    refine j_goto C (pc := 195) 7 dX2_weigh_195 (by decide) ?_
    refine j_sub [3, 4, 5, 1, 0] rfl ?_
    exact hk7 _ _ _ hf
  · refine j_iconst C (pc := 185) (v := 1) (by decide) dX2_weigh_185 ?_
    refine j_goto C (pc := 186) 190 dX2_weigh_186 (by decide) ?_
    refine j_ior C (pc := 190) dX2_weigh_190 ?_
    refine j_nm hf (fun y2 hf => ?_)
    refine j_istore_n C (pc := 191) (L' := [(3, .int y2), (8, .int k0), (0, .ref a_t), (1, .ref a_p1), (2, .int x2), (4, .int x4), (5, .int x5)]) dX2_weigh_191 rfl (by decide) rfl ?_
    refine j_iinc C (pc := 192) (L' := [(4, .int (x4 + (1 : Int32))), (3, .int y2), (8, .int k0), (0, .ref a_t), (1, .ref a_p1), (2, .int x2), (5, .int x5)]) (v := x4 + (1 : Int32)) dX2_weigh_192 (t := 5) rfl rfl (by decide) rfl ?_
    refine j_goto C (pc := 195) 7 dX2_weigh_195 (by decide) ?_
    refine j_sub [3, 4, 5, 1, 0] rfl ?_
    exact hk7 _ _ _ hf
def f_X2_weigh_7_b (v_length : Int32) (v_p1 : Nat → Int32) (v_steps : Nat → Int32) (v_numbers : Nat → Int32) (k7 : Int32 → Int32 → Int32 → Option (Int32)) (x2 : Int32) (x3 : Int32) (x4 : Int32) : Option (Int32) := (if v_length ≤ x4 then (some x2) else (gd x4 100 (nm (v_steps x4.toNatClampNeg) fun y1 => (nm (x3 &&& (1 : Int32)) fun y2 => (if y1 = (-1 : Int32) then (nm (x3 ^^^ (1 : Int32)) fun y9 => (k7 x2 y9 (x4 + (1 : Int32)))) else (if y1 = (-2 : Int32) then (if y2 = (1 : Int32) then (nm (x3 >>> ((1 : Int32) &&& 31)) fun y8 => (k7 x2 y8 (x4 + (1 : Int32)))) else (nm ((x3 >>> ((1 : Int32) &&& 31)) &&& (-2 : Int32)) fun y7 => (k7 x2 y7 (x4 + (1 : Int32))))) else (if y1 = (-3 : Int32) then (nm ((x3 >>> ((1 : Int32) &&& 31)) ||| y2) fun y6 => (k7 x2 y6 (x4 + (1 : Int32)))) else (if y1 = (-4 : Int32) then (gd x4 100 (nm (x2 + (y2 * (v_numbers x4.toNatClampNeg))) fun y4 => (nm (x3 >>> ((1 : Int32) &&& 31)) fun y5 => (k7 y4 y5 (x4 + (1 : Int32)))))) else (if y1 < 0 then (k7 x2 x3 (x4 + (1 : Int32))) else (if (6 : Int32) ≤ (y1 / (3 : Int32)) then (k7 x2 x3 (x4 + (1 : Int32))) else (gd (y1 / (3 : Int32)) 6 (nm (v_p1 (y1 / (3 : Int32)).toNatClampNeg) fun y3 => (gd x4 100 (if (v_numbers x4.toNatClampNeg) ≤ y3 then (gd x4 100 (if y3 = (v_numbers x4.toNatClampNeg) then (f_X2_weigh_171 k7 (1 : Int32) x2 x3 x4 y1) else (f_X2_weigh_171 k7 (2 : Int32) x2 x3 x4 y1))) else (f_X2_weigh_171 k7 (0 : Int32) x2 x3 x4 y1)))))))))))))))
def f_X2_weigh_7 (v_length : Int32) (v_p1 : Nat → Int32) (v_steps : Nat → Int32) (v_numbers : Nat → Int32) : Nat → Int32 → Int32 → Int32 → Option (Int32)
  | 0 => fun _ _ _ => none
  | n + 1 => f_X2_weigh_7_b v_length v_p1 v_steps v_numbers (f_X2_weigh_7 v_length v_p1 v_steps v_numbers n)
set_option maxRecDepth 20000 in
set_option maxHeartbeats 1000000 in
theorem t_X2_weigh_7_b {G : Gx} {K : Kx} (C : Cx G K cX2_weigh RX2 9 1) {a_t : Nat} {r_t : Nat → Nat} {a_p1 : Nat} {v_length : Int32} {v_need : Int32} {v_p1 : Nat → Int32} {v_steps : Nat → Int32} {v_numbers : Nat → Int32} {q : Int32} (hQ : k_retI G K cX2_weigh 9 .int [oX2 a_t r_t v_length v_need, aI G a_p1 6 v_p1, aI G (r_t 0) 100 v_steps, aI G (r_t 1) 100 v_numbers] q) {k7 : Int32 → Int32 → Int32 → Option (Int32)} (hk7 : ∀ (x2 : Int32) (x3 : Int32) (x4 : Int32), k7 x2 x3 x4 = some q → J G K 9 0 0 [oX2 a_t r_t v_length v_need, aI G a_p1 6 v_p1, aI G (r_t 0) 100 v_steps, aI G (r_t 1) 100 v_numbers] [(0, .ref a_t), (1, .ref a_p1), (2, .int x2), (3, .int x3), (4, .int x4)] 7 []) {x2 : Int32} {x3 : Int32} {x4 : Int32} (hf : f_X2_weigh_7_b v_length v_p1 v_steps v_numbers k7 x2 x3 x4 = some q) : J G K 9 0 0 [oX2 a_t r_t v_length v_need, aI G a_p1 6 v_p1, aI G (r_t 0) 100 v_steps, aI G (r_t 1) 100 v_numbers] [(0, .ref a_t), (1, .ref a_p1), (2, .int x2), (3, .int x3), (4, .int x4)] 7 [] := by
  unfold f_X2_weigh_7_b at hf
  refine j_iload C (pc := 7) 4 rfl dX2_weigh_7 ?_
  refine j_aload_n C (pc := 9) 0 rfl rfl dX2_weigh_9 ?_
  refine j_get C (pc := 10) kc_X2 fl_X2_22 0 rfl rfl dX2_weigh_10 ?_
  refine j_icmp_ge C (pc := 13) 198 dX2_weigh_13 (by decide) hf (fun hf => ?_) (fun hf => ?_)
  · refine j_iload_n C (pc := 198) 2 rfl rfl dX2_weigh_198 ?_
    obtain rfl := Option.some.inj hf
    exact hQ _ _ dX2_weigh_199 rfl
  · refine j_aload_n C (pc := 16) 0 rfl rfl dX2_weigh_16 ?_
    refine j_get C (pc := 17) kc_X2 fl_X2_9 0 rfl rfl dX2_weigh_17 ?_
    refine j_iload C (pc := 20) 4 rfl dX2_weigh_20 ?_
    refine j_iald C (pc := 22) 2 rfl hf dX2_weigh_22 (fun hf => ?_)
    refine j_nm hf (fun y1 hf => ?_)
    refine j_istore C (pc := 23) (L' := [(5, .int y1), (0, .ref a_t), (1, .ref a_p1), (2, .int x2), (3, .int x3), (4, .int x4)]) dX2_weigh_23 (by decide) rfl ?_
    refine j_iload_n C (pc := 25) 4 rfl rfl dX2_weigh_25 ?_
    refine j_iconst C (pc := 26) (v := 1) (by decide) dX2_weigh_26 ?_
    refine j_iand C (pc := 27) dX2_weigh_27 ?_
    refine j_nm hf (fun y2 hf => ?_)
    refine j_istore C (pc := 28) (L' := [(6, .int y2), (5, .int y1), (0, .ref a_t), (1, .ref a_p1), (2, .int x2), (3, .int x3), (4, .int x4)]) dX2_weigh_28 (by decide) rfl ?_
    refine j_iload C (pc := 30) 1 rfl dX2_weigh_30 ?_
    refine j_iconst C (pc := 32) (v := -1) (by decide) dX2_weigh_32 ?_
    refine j_icmp_ne C (pc := 33) 43 dX2_weigh_33 (by decide) hf (fun hf => ?_) (fun hf => ?_)
    · refine j_iload C (pc := 43) 1 rfl dX2_weigh_43 ?_
      refine j_bipush C (pc := 45) (v := -2) (by decide) dX2_weigh_45 ?_
      refine j_icmp_ne C (pc := 47) 72 dX2_weigh_47 (by decide) hf (fun hf => ?_) (fun hf => ?_)
      · refine j_iload C (pc := 72) 1 rfl dX2_weigh_72 ?_
        refine j_bipush C (pc := 74) (v := -3) (by decide) dX2_weigh_74 ?_
        refine j_icmp_ne C (pc := 76) 89 dX2_weigh_76 (by decide) hf (fun hf => ?_) (fun hf => ?_)
        · refine j_iload C (pc := 89) 1 rfl dX2_weigh_89 ?_
          refine j_bipush C (pc := 91) (v := -4) (by decide) dX2_weigh_91 ?_
          refine j_icmp_ne C (pc := 93) 116 dX2_weigh_93 (by decide) hf (fun hf => ?_) (fun hf => ?_)
          · refine j_iload C (pc := 116) 1 rfl dX2_weigh_116 ?_
            refine j_if_lt C (pc := 118) 192 dX2_weigh_118 (by decide) hf (fun hf => ?_) (fun hf => ?_)
            · refine j_iinc C (pc := 192) (L' := [(4, .int (x4 + (1 : Int32))), (6, .int y2), (5, .int y1), (0, .ref a_t), (1, .ref a_p1), (2, .int x2), (3, .int x3)]) (v := x4 + (1 : Int32)) dX2_weigh_192 (t := 6) rfl rfl (by decide) rfl ?_
              refine j_goto C (pc := 195) 7 dX2_weigh_195 (by decide) ?_
              refine j_sub [3, 4, 5, 6, 0] rfl ?_
              exact hk7 _ _ _ hf
            · refine j_iload C (pc := 121) 1 rfl dX2_weigh_121 ?_
              refine j_iconst C (pc := 123) (v := 3) (by decide) dX2_weigh_123 ?_
              refine j_idiv C (pc := 124) dX2_weigh_124 (gz_mk (by decide) hf) (fun hf => ?_)
              refine j_aload_n C (pc := 125) 3 rfl rfl dX2_weigh_125 ?_
              refine j_alen C (pc := 126) (v := 6) 1 rfl rfl rfl dX2_weigh_126 ?_
              refine j_icmp_ge C (pc := 127) 192 dX2_weigh_127 (by decide) hf (fun hf => ?_) (fun hf => ?_)
              · refine j_iinc C (pc := 192) (L' := [(4, .int (x4 + (1 : Int32))), (6, .int y2), (5, .int y1), (0, .ref a_t), (1, .ref a_p1), (2, .int x2), (3, .int x3)]) (v := x4 + (1 : Int32)) dX2_weigh_192 (t := 6) rfl rfl (by decide) rfl ?_
                refine j_goto C (pc := 195) 7 dX2_weigh_195 (by decide) ?_
                refine j_sub [3, 4, 5, 6, 0] rfl ?_
                exact hk7 _ _ _ hf
              · refine j_aload_n C (pc := 130) 3 rfl rfl dX2_weigh_130 ?_
                refine j_iload C (pc := 131) 1 rfl dX2_weigh_131 ?_
                refine j_iconst C (pc := 133) (v := 3) (by decide) dX2_weigh_133 ?_
                refine j_idiv C (pc := 134) dX2_weigh_134 (gz_mk (by decide) hf) (fun hf => ?_)
                refine j_iald C (pc := 135) 1 rfl hf dX2_weigh_135 (fun hf => ?_)
                refine j_nm hf (fun y3 hf => ?_)
                refine j_istore C (pc := 136) (L' := [(7, .int y3), (6, .int y2), (5, .int y1), (0, .ref a_t), (1, .ref a_p1), (2, .int x2), (3, .int x3), (4, .int x4)]) dX2_weigh_136 (by decide) rfl ?_
                refine j_iload C (pc := 138) 0 rfl dX2_weigh_138 ?_
                refine j_aload_n C (pc := 140) 3 rfl rfl dX2_weigh_140 ?_
                refine j_get C (pc := 141) kc_X2 fl_X2_15 0 rfl rfl dX2_weigh_141 ?_
                refine j_iload C (pc := 144) 7 rfl dX2_weigh_144 ?_
                refine j_iald C (pc := 146) 3 rfl hf dX2_weigh_146 (fun hf => ?_)
                refine j_icmp_ge C (pc := 147) 154 dX2_weigh_147 (by decide) hf (fun hf => ?_) (fun hf => ?_)
                · refine j_iload C (pc := 154) 0 rfl dX2_weigh_154 ?_
                  refine j_aload_n C (pc := 156) 3 rfl rfl dX2_weigh_156 ?_
                  refine j_get C (pc := 157) kc_X2 fl_X2_15 0 rfl rfl dX2_weigh_157 ?_
                  refine j_iload C (pc := 160) 7 rfl dX2_weigh_160 ?_
                  refine j_iald C (pc := 162) 3 rfl hf dX2_weigh_162 (fun hf => ?_)
                  refine j_icmp_ne C (pc := 163) 170 dX2_weigh_163 (by decide) hf (fun hf => ?_) (fun hf => ?_)
                  · refine j_iconst C (pc := 170) (v := 2) (by decide) dX2_weigh_170 ?_
                    refine j_sub [3, 4, 5, 6, 7, 2] rfl ?_
                    exact t_X2_weigh_171 C hQ hk7 hf
                  · refine j_iconst C (pc := 166) (v := 1) (by decide) dX2_weigh_166 ?_
                    refine j_goto C (pc := 167) 171 dX2_weigh_167 (by decide) ?_
                    refine j_sub [3, 4, 5, 6, 7, 2] rfl ?_
                    exact t_X2_weigh_171 C hQ hk7 hf
                · refine j_iconst C (pc := 150) (v := 0) (by decide) dX2_weigh_150 ?_
                  refine j_goto C (pc := 151) 171 dX2_weigh_151 (by decide) ?_
                  refine j_sub [3, 4, 5, 6, 7, 2] rfl ?_
                  exact t_X2_weigh_171 C hQ hk7 hf
          · refine j_iload_n C (pc := 96) 4 rfl rfl dX2_weigh_96 ?_
            refine j_iload C (pc := 97) 0 rfl dX2_weigh_97 ?_
            refine j_aload_n C (pc := 99) 2 rfl rfl dX2_weigh_99 ?_
            refine j_get C (pc := 100) kc_X2 fl_X2_15 0 rfl rfl dX2_weigh_100 ?_
            refine j_iload C (pc := 103) 6 rfl dX2_weigh_103 ?_
            refine j_iald C (pc := 105) 3 rfl hf dX2_weigh_105 (fun hf => ?_)
            refine j_imul C (pc := 106) dX2_weigh_106 ?_
            refine j_iadd C (pc := 107) dX2_weigh_107 ?_
            refine j_nm hf (fun y4 hf => ?_)
            refine j_istore_n C (pc := 108) (L' := [(2, .int y4), (6, .int y2), (5, .int y1), (0, .ref a_t), (1, .ref a_p1), (3, .int x3), (4, .int x4)]) dX2_weigh_108 rfl (by decide) rfl ?_
            refine j_iload_n C (pc := 109) 5 rfl rfl dX2_weigh_109 ?_
            refine j_iconst C (pc := 110) (v := 1) (by decide) dX2_weigh_110 ?_
            refine j_ishr C (pc := 111) dX2_weigh_111 ?_
            refine j_nm hf (fun y5 hf => ?_)
            refine j_istore_n C (pc := 112) (L' := [(3, .int y5), (2, .int y4), (6, .int y2), (5, .int y1), (0, .ref a_t), (1, .ref a_p1), (4, .int x4)]) dX2_weigh_112 rfl (by decide) rfl ?_
            refine j_goto C (pc := 113) 192 dX2_weigh_113 (by decide) ?_
            refine j_iinc C (pc := 192) (L' := [(4, .int (x4 + (1 : Int32))), (3, .int y5), (2, .int y4), (6, .int y2), (5, .int y1), (0, .ref a_t), (1, .ref a_p1)]) (v := x4 + (1 : Int32)) dX2_weigh_192 (t := 6) rfl rfl (by decide) rfl ?_
            refine j_goto C (pc := 195) 7 dX2_weigh_195 (by decide) ?_
            refine j_sub [5, 6, 2, 1, 0] rfl ?_
            exact hk7 _ _ _ hf
        · refine j_iload_n C (pc := 79) 5 rfl rfl dX2_weigh_79 ?_
          refine j_iconst C (pc := 80) (v := 1) (by decide) dX2_weigh_80 ?_
          refine j_ishr C (pc := 81) dX2_weigh_81 ?_
          refine j_iload C (pc := 82) 0 rfl dX2_weigh_82 ?_
          refine j_ior C (pc := 84) dX2_weigh_84 ?_
          refine j_nm hf (fun y6 hf => ?_)
          refine j_istore_n C (pc := 85) (L' := [(3, .int y6), (6, .int y2), (5, .int y1), (0, .ref a_t), (1, .ref a_p1), (2, .int x2), (4, .int x4)]) dX2_weigh_85 rfl (by decide) rfl ?_
          refine j_goto C (pc := 86) 192 dX2_weigh_86 (by decide) ?_
          refine j_iinc C (pc := 192) (L' := [(4, .int (x4 + (1 : Int32))), (3, .int y6), (6, .int y2), (5, .int y1), (0, .ref a_t), (1, .ref a_p1), (2, .int x2)]) (v := x4 + (1 : Int32)) dX2_weigh_192 (t := 6) rfl rfl (by decide) rfl ?_
          refine j_goto C (pc := 195) 7 dX2_weigh_195 (by decide) ?_
          refine j_sub [4, 5, 6, 1, 0] rfl ?_
          exact hk7 _ _ _ hf
      · refine j_iload C (pc := 50) 0 rfl dX2_weigh_50 ?_
        refine j_iconst C (pc := 52) (v := 1) (by decide) dX2_weigh_52 ?_
        refine j_icmp_ne C (pc := 53) 62 dX2_weigh_53 (by decide) hf (fun hf => ?_) (fun hf => ?_)
        · refine j_iload_n C (pc := 62) 5 rfl rfl dX2_weigh_62 ?_
          refine j_iconst C (pc := 63) (v := 1) (by decide) dX2_weigh_63 ?_
          refine j_ishr C (pc := 64) dX2_weigh_64 ?_
          refine j_bipush C (pc := 65) (v := -2) (by decide) dX2_weigh_65 ?_
          refine j_iand C (pc := 67) dX2_weigh_67 ?_
          refine j_nm hf (fun y7 hf => ?_)
          refine j_istore_n C (pc := 68) (L' := [(3, .int y7), (6, .int y2), (5, .int y1), (0, .ref a_t), (1, .ref a_p1), (2, .int x2), (4, .int x4)]) dX2_weigh_68 rfl (by decide) rfl ?_
          refine j_goto C (pc := 69) 192 dX2_weigh_69 (by decide) ?_
          refine j_iinc C (pc := 192) (L' := [(4, .int (x4 + (1 : Int32))), (3, .int y7), (6, .int y2), (5, .int y1), (0, .ref a_t), (1, .ref a_p1), (2, .int x2)]) (v := x4 + (1 : Int32)) dX2_weigh_192 (t := 6) rfl rfl (by decide) rfl ?_
          refine j_goto C (pc := 195) 7 dX2_weigh_195 (by decide) ?_
          refine j_sub [4, 5, 6, 1, 0] rfl ?_
          exact hk7 _ _ _ hf
        · refine j_iload_n C (pc := 56) 5 rfl rfl dX2_weigh_56 ?_
          refine j_iconst C (pc := 57) (v := 1) (by decide) dX2_weigh_57 ?_
          refine j_ishr C (pc := 58) dX2_weigh_58 ?_
          refine j_goto C (pc := 59) 68 dX2_weigh_59 (by decide) ?_
          refine j_nm hf (fun y8 hf => ?_)
          refine j_istore_n C (pc := 68) (L' := [(3, .int y8), (6, .int y2), (5, .int y1), (0, .ref a_t), (1, .ref a_p1), (2, .int x2), (4, .int x4)]) dX2_weigh_68 rfl (by decide) rfl ?_
          refine j_goto C (pc := 69) 192 dX2_weigh_69 (by decide) ?_
          refine j_iinc C (pc := 192) (L' := [(4, .int (x4 + (1 : Int32))), (3, .int y8), (6, .int y2), (5, .int y1), (0, .ref a_t), (1, .ref a_p1), (2, .int x2)]) (v := x4 + (1 : Int32)) dX2_weigh_192 (t := 6) rfl rfl (by decide) rfl ?_
          refine j_goto C (pc := 195) 7 dX2_weigh_195 (by decide) ?_
          refine j_sub [4, 5, 6, 1, 0] rfl ?_
          exact hk7 _ _ _ hf
    · refine j_iload_n C (pc := 36) 5 rfl rfl dX2_weigh_36 ?_
      refine j_iconst C (pc := 37) (v := 1) (by decide) dX2_weigh_37 ?_
      refine j_ixor C (pc := 38) dX2_weigh_38 ?_
      refine j_nm hf (fun y9 hf => ?_)
      refine j_istore_n C (pc := 39) (L' := [(3, .int y9), (6, .int y2), (5, .int y1), (0, .ref a_t), (1, .ref a_p1), (2, .int x2), (4, .int x4)]) dX2_weigh_39 rfl (by decide) rfl ?_
      refine j_goto C (pc := 40) 192 dX2_weigh_40 (by decide) ?_
      refine j_iinc C (pc := 192) (L' := [(4, .int (x4 + (1 : Int32))), (3, .int y9), (6, .int y2), (5, .int y1), (0, .ref a_t), (1, .ref a_p1), (2, .int x2)]) (v := x4 + (1 : Int32)) dX2_weigh_192 (t := 6) rfl rfl (by decide) rfl ?_
      refine j_goto C (pc := 195) 7 dX2_weigh_195 (by decide) ?_
      refine j_sub [4, 5, 6, 1, 0] rfl ?_
      exact hk7 _ _ _ hf
theorem t_X2_weigh_7 {G : Gx} {K : Kx} (C : Cx G K cX2_weigh RX2 9 1) {a_t : Nat} {r_t : Nat → Nat} {a_p1 : Nat} {v_length : Int32} {v_need : Int32} {v_p1 : Nat → Int32} {v_steps : Nat → Int32} {v_numbers : Nat → Int32} {q : Int32} (hQ : k_retI G K cX2_weigh 9 .int [oX2 a_t r_t v_length v_need, aI G a_p1 6 v_p1, aI G (r_t 0) 100 v_steps, aI G (r_t 1) 100 v_numbers] q) : ∀ (n : Nat) (x2 : Int32) (x3 : Int32) (x4 : Int32), f_X2_weigh_7 v_length v_p1 v_steps v_numbers n x2 x3 x4 = some q → J G K 9 0 0 [oX2 a_t r_t v_length v_need, aI G a_p1 6 v_p1, aI G (r_t 0) 100 v_steps, aI G (r_t 1) 100 v_numbers] [(0, .ref a_t), (1, .ref a_p1), (2, .int x2), (3, .int x3), (4, .int x4)] 7 [] := by
  intro n
  induction n with
  | zero => intro x2 x3 x4 hf; cases hf
  | succ n ih => intro x2 x3 x4 hf; exact t_X2_weigh_7_b C hQ ih hf
def f_X2_weigh (v_length : Int32) (v_p1 : Nat → Int32) (v_steps : Nat → Int32) (v_numbers : Nat → Int32) : Option (Int32) := (f_X2_weigh_7 v_length v_p1 v_steps v_numbers 1000 (0 : Int32) (0 : Int32) (0 : Int32))
set_option maxRecDepth 20000 in
set_option maxHeartbeats 1000000 in
theorem t_X2_weigh {G : Gx} {K : Kx} (C : Cx G K cX2_weigh RX2 9 1) {a_t : Nat} {r_t : Nat → Nat} {a_p1 : Nat} {v_length : Int32} {v_need : Int32} {v_p1 : Nat → Int32} {v_steps : Nat → Int32} {v_numbers : Nat → Int32} {q : Int32} (hQ : k_retI G K cX2_weigh 9 .int [oX2 a_t r_t v_length v_need, aI G a_p1 6 v_p1, aI G (r_t 0) 100 v_steps, aI G (r_t 1) 100 v_numbers] q) (hf : f_X2_weigh v_length v_p1 v_steps v_numbers = some q) : J G K 9 0 0 [oX2 a_t r_t v_length v_need, aI G a_p1 6 v_p1, aI G (r_t 0) 100 v_steps, aI G (r_t 1) 100 v_numbers] [(0, .ref a_t), (1, .ref a_p1)] 0 [] := by
  unfold f_X2_weigh at hf
  refine j_iconst C (pc := 0) (v := 0) (by decide) dX2_weigh_0 ?_
  refine j_istore_n C (pc := 1) (L' := [(2, .int (0 : Int32)), (0, .ref a_t), (1, .ref a_p1)]) dX2_weigh_1 rfl (by decide) rfl ?_
  refine j_iconst C (pc := 2) (v := 0) (by decide) dX2_weigh_2 ?_
  refine j_istore_n C (pc := 3) (L' := [(3, .int (0 : Int32)), (2, .int (0 : Int32)), (0, .ref a_t), (1, .ref a_p1)]) dX2_weigh_3 rfl (by decide) rfl ?_
  refine j_iconst C (pc := 4) (v := 0) (by decide) dX2_weigh_4 ?_
  refine j_istore C (pc := 5) (L' := [(4, .int (0 : Int32)), (3, .int (0 : Int32)), (2, .int (0 : Int32)), (0, .ref a_t), (1, .ref a_p1)]) dX2_weigh_5 (by decide) rfl ?_
  refine j_sub [3, 4, 2, 1, 0] rfl ?_
  exact t_X2_weigh_7 C hQ 1000 _ _ _ hf
def ct_X2_weigh (G : Gx) (l : Launch) (F : Int32 → (Nat → Int32) → (Nat → Int32) → (Nat → Int32) → Option (Int32)) (lv : Nat) : Prop := ∀ (a_t : Nat) (r_t : Nat → Nat) (a_p1 : Nat) (v_length : Int32) (v_need : Int32) (v_p1 : Nat → Int32) (v_steps : Nat → Int32) (v_numbers : Nat → Int32), ∀ (q : Int32), F v_length v_p1 v_steps v_numbers = some q → MI G l yX2_weigh cX2_weigh 9 .int lv [.ref a_t, .ref a_p1] [oX2 a_t r_t v_length v_need, aI G a_p1 6 v_p1, aI G (r_t 0) 100 v_steps, aI G (r_t 1) 100 v_numbers] [oX2 a_t r_t v_length v_need, aI G a_p1 6 v_p1, aI G (r_t 0) 100 v_steps, aI G (r_t 1) 100 v_numbers] q
theorem c_X2_weigh (G : Gx) (l : Launch) : ct_X2_weigh G l f_X2_weigh 1 := by
  intro a_t r_t a_p1 v_length v_need v_p1 v_steps v_numbers q hf
  exact mI_of (by decide +kernel) rfl (fun K hl C hQ => t_X2_weigh C hQ hf)
-- X6_spite
def f_X6_spite_100 (v_rows : Nat → Int32) (p1 : Int32) (p2 : Int32) (p3 : Int32) (p5 : Int32) (k0 : Int32) (x6 : Int32) (x7 : Int32) (w_facts : Nat → Int32) : Option (Int32 × (Nat → Int32)) := (if x6 = (1 : Int32) then (some (x7 - (p3 - p3 / (7 : Int32) * (7 : Int32)), w_facts)) else (if x6 = (2 : Int32) then (some (k0, w_facts)) else (if x6 = (3 : Int32) then (some (x7 + p5, w_facts)) else (if x6 = (4 : Int32) then (some ((x7 - (p3 - p3 / (7 : Int32) * (7 : Int32))) - ((2 : Int32) * p5), w_facts)) else (if x6 = (5 : Int32) then (if p2 ≤ p1 then (some (k0, w_facts)) else (some (k0 + (20 : Int32), w_facts))) else (if x6 = (6 : Int32) then ((f_J9_floorMod_7cf53 p3 (4 : Int32)).bind fun q1 => (gd ((p1 * (4 : Int32)) + q1) 24 (some ((x7 + p5) + (v_rows ((p1 * (4 : Int32)) + q1).toNatClampNeg), w_facts)))) else (some (x7, w_facts))))))))
set_option maxRecDepth 20000 in
set_option maxHeartbeats 1000000 in
theorem t_X6_spite_100 {G : Gx} {K : Kx} (C : Cx G K cX6_spite RX6 9 2) {a_t : Nat} {r_t : Nat → Nat} {r_holding : Nat → Nat} {v_people : Int32} {v_day : Int32} {v_dead : Int32} {v_buried : Int32} {a_holding : Nat} {v_kinds : Nat → Int32} {v_holding_length : Int32} {v_holding_need : Int32} {v_holding_steps : Nat → Int32} {v_holding_numbers : Nat → Int32} {v_rows : Nat → Int32} {p1 : Int32} {p2 : Int32} {p3 : Int32} {p5 : Int32} {q : Int32 × (Nat → Int32)} (hQ : k_retI G K cX6_spite 9 .int [oX6 a_t r_t v_people v_day v_dead v_buried a_holding, aI G (r_t 5) 6 v_kinds, aI G (r_t 13) 6 q.2, oX2 a_holding r_holding v_holding_length v_holding_need, aI G (r_holding 0) 100 v_holding_steps, aI G (r_holding 1) 100 v_holding_numbers, aI G (r_t 9) 24 v_rows] q.1) {k0 : Int32} {x6 : Int32} {x7 : Int32} {w_facts : Nat → Int32} (hf : f_X6_spite_100 v_rows p1 p2 p3 p5 k0 x6 x7 w_facts = some q) : J G K 9 0 0 [oX6 a_t r_t v_people v_day v_dead v_buried a_holding, aI G (r_t 5) 6 v_kinds, aI G (r_t 13) 6 w_facts, oX2 a_holding r_holding v_holding_length v_holding_need, aI G (r_holding 0) 100 v_holding_steps, aI G (r_holding 1) 100 v_holding_numbers, aI G (r_t 9) 24 v_rows] [(0, .ref a_t), (1, .int p1), (2, .int p2), (3, .int p3), (5, .int p5), (6, .int x6), (7, .int x7)] 100 [.int k0] := by
  unfold f_X6_spite_100 at hf
  refine j_istore C (pc := 100) (L' := [(8, .int k0), (0, .ref a_t), (1, .int p1), (2, .int p2), (3, .int p3), (5, .int p5), (6, .int x6), (7, .int x7)]) dX6_spite_100 (by decide) rfl ?_
  refine j_iload C (pc := 102) 6 rfl dX6_spite_102 ?_
  obtain ⟨h1, hf⟩ | ⟨h1, hf⟩ := k_or hf
  · refine j_tabIn C (pc := 104) 144 dX6_spite_104 (by rw [h1]; decide) (by rw [h1]; decide) (by rw [h1] <;> rfl) (by decide) ?_
    refine j_iload C (pc := 144) 7 rfl dX6_spite_144 ?_
    refine j_iload_n C (pc := 146) 4 rfl rfl dX6_spite_146 ?_
    refine j_bipush C (pc := 147) (v := 7) (by decide) dX6_spite_147 ?_
    refine j_irem C (pc := 149) dX6_spite_149 (gz_mk (by decide) hf) (fun hf => ?_)
    refine j_isub C (pc := 150) dX6_spite_150 ?_
    obtain rfl := Option.some.inj hf
    exact hQ _ _ dX6_spite_151 rfl
  · skip
    obtain ⟨h2, hf⟩ | ⟨h2, hf⟩ := k_or hf
    · refine j_tabIn C (pc := 104) 152 dX6_spite_104 (by rw [h2]; decide) (by rw [h2]; decide) (by rw [h2] <;> rfl) (by decide) ?_
      refine j_iload C (pc := 152) 0 rfl dX6_spite_152 ?_
      obtain rfl := Option.some.inj hf
      exact hQ _ _ dX6_spite_154 rfl
    · skip
      obtain ⟨h3, hf⟩ | ⟨h3, hf⟩ := k_or hf
      · refine j_tabIn C (pc := 104) 155 dX6_spite_104 (by rw [h3]; decide) (by rw [h3]; decide) (by rw [h3] <;> rfl) (by decide) ?_
        refine j_iload C (pc := 155) 7 rfl dX6_spite_155 ?_
        refine j_iload C (pc := 157) 5 rfl dX6_spite_157 ?_
        refine j_iadd C (pc := 159) dX6_spite_159 ?_
        obtain rfl := Option.some.inj hf
        exact hQ _ _ dX6_spite_160 rfl
      · skip
        obtain ⟨h4, hf⟩ | ⟨h4, hf⟩ := k_or hf
        · refine j_tabIn C (pc := 104) 161 dX6_spite_104 (by rw [h4]; decide) (by rw [h4]; decide) (by rw [h4] <;> rfl) (by decide) ?_
          refine j_iload C (pc := 161) 7 rfl dX6_spite_161 ?_
          refine j_iload_n C (pc := 163) 4 rfl rfl dX6_spite_163 ?_
          refine j_bipush C (pc := 164) (v := 7) (by decide) dX6_spite_164 ?_
          refine j_irem C (pc := 166) dX6_spite_166 (gz_mk (by decide) hf) (fun hf => ?_)
          refine j_isub C (pc := 167) dX6_spite_167 ?_
          refine j_iconst C (pc := 168) (v := 2) (by decide) dX6_spite_168 ?_
          refine j_iload C (pc := 169) 5 rfl dX6_spite_169 ?_
          refine j_imul C (pc := 171) dX6_spite_171 ?_
          refine j_isub C (pc := 172) dX6_spite_172 ?_
          obtain rfl := Option.some.inj hf
          exact hQ _ _ dX6_spite_173 rfl
        · skip
          obtain ⟨h5, hf⟩ | ⟨h5, hf⟩ := k_or hf
          · refine j_tabIn C (pc := 104) 174 dX6_spite_104 (by rw [h5]; decide) (by rw [h5]; decide) (by rw [h5] <;> rfl) (by decide) ?_
            refine j_iload_n C (pc := 174) 3 rfl rfl dX6_spite_174 ?_
            refine j_iload_n C (pc := 175) 2 rfl rfl dX6_spite_175 ?_
            refine j_icmp_le C (pc := 176) 187 dX6_spite_176 (by decide) hf (fun hf => ?_) (fun hf => ?_)
            · refine j_iload C (pc := 187) 0 rfl dX6_spite_187 ?_
              obtain rfl := Option.some.inj hf
              exact hQ _ _ dX6_spite_189 rfl
            · refine j_iload C (pc := 179) 0 rfl dX6_spite_179 ?_
              refine j_bipush C (pc := 181) (v := 20) (by decide) dX6_spite_181 ?_
              refine j_iadd C (pc := 183) dX6_spite_183 ?_
              refine j_goto C (pc := 184) 189 dX6_spite_184 (by decide) ?_
              obtain rfl := Option.some.inj hf
              exact hQ _ _ dX6_spite_189 rfl
          · skip
            obtain ⟨h6, hf⟩ | ⟨h6, hf⟩ := k_or hf
            · refine j_tabIn C (pc := 104) 190 dX6_spite_104 (by rw [h6]; decide) (by rw [h6]; decide) (by rw [h6] <;> rfl) (by decide) ?_
              refine j_iload C (pc := 190) 7 rfl dX6_spite_190 ?_
              refine j_iload C (pc := 192) 5 rfl dX6_spite_192 ?_
              refine j_iadd C (pc := 194) dX6_spite_194 ?_
              refine j_aload_n C (pc := 195) 1 rfl rfl dX6_spite_195 ?_
              refine j_get C (pc := 196) kc_X6 fl_X6_31 0 rfl rfl dX6_spite_196 ?_
              refine j_iload_n C (pc := 199) 2 rfl rfl dX6_spite_199 ?_
              refine j_iconst C (pc := 200) (v := 4) (by decide) dX6_spite_200 ?_
              refine j_imul C (pc := 201) dX6_spite_201 ?_
              refine j_iload_n C (pc := 202) 4 rfl rfl dX6_spite_202 ?_
              refine j_iconst C (pc := 203) (v := 4) (by decide) dX6_spite_203 ?_
              refine j_cSI C (pc := 204) (As := [.int p3, .int (4 : Int32)]) (st := [.int (p1 * (4 : Int32)), .ref (r_t 9), .int (x7 + p5)]) (ws' := fun q1 => [oX6 a_t r_t v_people v_day v_dead v_buried a_holding, aI G (r_t 5) 6 v_kinds, aI G (r_t 13) 6 w_facts, oX2 a_holding r_holding v_holding_length v_holding_need, aI G (r_holding 0) 100 v_holding_steps, aI G (r_holding 1) 100 v_holding_numbers, aI G (r_t 9) 24 v_rows]) ml_X6_67 ms_J9_floorMod_7cf53 hf (fun q1 h => (c_J9_floorMod_7cf53 G K.2.1) p3 (4 : Int32) q1 h) [] [none, none, none, none, none, none, none] 7 rfl (by decide +kernel) (by decide +kernel) (fun _ => rfl) (fun _ => rfl) rfl rfl rfl rfl ⟨Nat.zero_le _, Nat.zero_le _⟩ dX6_spite_204 (fun q1 hf => ?_)
              refine j_iadd C (pc := 207) dX6_spite_207 ?_
              refine j_iald C (pc := 208) 6 rfl hf dX6_spite_208 (fun hf => ?_)
              refine j_iadd C (pc := 209) dX6_spite_209 ?_
              obtain rfl := Option.some.inj hf
              exact hQ _ _ dX6_spite_210 rfl
            · skip
              have hout : (x6).toInt < 1 ∨ 6 < (x6).toInt := by
                have := lv_neT (a := 1) h1 rfl
                have := lv_neT (a := 2) h2 rfl
                have := lv_neT (a := 3) h3 rfl
                have := lv_neT (a := 4) h4 rfl
                have := lv_neT (a := 5) h5 rfl
                have := lv_neT (a := 6) h6 rfl
                omega
              refine j_tabOut C (pc := 104) 211 dX6_spite_104 hout (by decide) ?_
              refine j_iload C (pc := 211) 7 rfl dX6_spite_211 ?_
              obtain rfl := Option.some.inj hf
              exact hQ _ _ dX6_spite_213 rfl
def f_X6_spite (v_people : Int32) (v_kinds : Nat → Int32) (v_facts : Nat → Int32) (v_holding_length : Int32) (v_holding_steps : Nat → Int32) (v_holding_numbers : Nat → Int32) (v_rows : Nat → Int32) (p1 : Int32) (p2 : Int32) (p3 : Int32) (p4 : Int32) (p5 : Int32) : Option (Int32 × (Nat → Int32)) := ((f_X6_has v_people p1).bind fun q1 => (if q1 = 0 then (some ((0 : Int32), v_facts)) else (gd p1 6 (nm (v_kinds p1.toNatClampNeg) fun y2 => ((f_X2_weigh v_holding_length (upd (upd (upd (upd (upd (upd v_facts (0 : Int32).toNatClampNeg p1) (1 : Int32).toNatClampNeg p2) (2 : Int32).toNatClampNeg y2) (3 : Int32).toNatClampNeg p5) (4 : Int32).toNatClampNeg (p4 / (10 : Int32))) (5 : Int32).toNatClampNeg (p3 - p3 / (10 : Int32) * (10 : Int32))) v_holding_steps v_holding_numbers).bind fun q3 => (nm (p4 + q3) fun y4 => (if (p3 - p3 / (2 : Int32) * (2 : Int32)) = 0 then (f_X6_spite_100 v_rows p1 p2 p3 p5 y4 y2 y4 (upd (upd (upd (upd (upd (upd v_facts (0 : Int32).toNatClampNeg p1) (1 : Int32).toNatClampNeg p2) (2 : Int32).toNatClampNeg y2) (3 : Int32).toNatClampNeg p5) (4 : Int32).toNatClampNeg (p4 / (10 : Int32))) (5 : Int32).toNatClampNeg (p3 - p3 / (10 : Int32) * (10 : Int32)))) else (f_X6_spite_100 v_rows p1 p2 p3 p5 (y4 / (2 : Int32)) y2 y4 (upd (upd (upd (upd (upd (upd v_facts (0 : Int32).toNatClampNeg p1) (1 : Int32).toNatClampNeg p2) (2 : Int32).toNatClampNeg y2) (3 : Int32).toNatClampNeg p5) (4 : Int32).toNatClampNeg (p4 / (10 : Int32))) (5 : Int32).toNatClampNeg (p3 - p3 / (10 : Int32) * (10 : Int32)))))))))))
set_option maxRecDepth 20000 in
set_option maxHeartbeats 1000000 in
theorem t_X6_spite {G : Gx} {K : Kx} (C : Cx G K cX6_spite RX6 9 2) {a_t : Nat} {r_t : Nat → Nat} {r_holding : Nat → Nat} {v_people : Int32} {v_day : Int32} {v_dead : Int32} {v_buried : Int32} {a_holding : Nat} {v_kinds : Nat → Int32} {v_facts : Nat → Int32} {v_holding_length : Int32} {v_holding_need : Int32} {v_holding_steps : Nat → Int32} {v_holding_numbers : Nat → Int32} {v_rows : Nat → Int32} {p1 : Int32} {p2 : Int32} {p3 : Int32} {p4 : Int32} {p5 : Int32} {q : Int32 × (Nat → Int32)} (hQ : k_retI G K cX6_spite 9 .int [oX6 a_t r_t v_people v_day v_dead v_buried a_holding, aI G (r_t 5) 6 v_kinds, aI G (r_t 13) 6 q.2, oX2 a_holding r_holding v_holding_length v_holding_need, aI G (r_holding 0) 100 v_holding_steps, aI G (r_holding 1) 100 v_holding_numbers, aI G (r_t 9) 24 v_rows] q.1) (hf : f_X6_spite v_people v_kinds v_facts v_holding_length v_holding_steps v_holding_numbers v_rows p1 p2 p3 p4 p5 = some q) : J G K 9 0 0 [oX6 a_t r_t v_people v_day v_dead v_buried a_holding, aI G (r_t 5) 6 v_kinds, aI G (r_t 13) 6 v_facts, oX2 a_holding r_holding v_holding_length v_holding_need, aI G (r_holding 0) 100 v_holding_steps, aI G (r_holding 1) 100 v_holding_numbers, aI G (r_t 9) 24 v_rows] [(0, .ref a_t), (1, .int p1), (2, .int p2), (3, .int p3), (4, .int p4), (5, .int p5)] 0 [] := by
  unfold f_X6_spite at hf
  refine j_aload_n C (pc := 0) 0 rfl rfl dX6_spite_0 ?_
  refine j_iload_n C (pc := 1) 1 rfl rfl dX6_spite_1 ?_
  refine j_cVI C (pc := 2) (As := [.int p1]) (st := []) (ws' := fun q1 => [oX6 a_t r_t v_people v_day v_dead v_buried a_holding, aI G (r_t 5) 6 v_kinds, aI G (r_t 13) 6 v_facts, oX2 a_holding r_holding v_holding_length v_holding_need, aI G (r_holding 0) 100 v_holding_steps, aI G (r_holding 1) 100 v_holding_numbers, aI G (r_t 9) 24 v_rows]) ml_X6_56 ms_X6_has hf (fun q1 h => (c_X6_has G K.2.1) a_t r_t v_people v_day v_dead v_buried a_holding p1 q1 h) [0] [some 0, none, none, none, none, none, none] 7 rfl (by decide +kernel) (by decide +kernel) (fun _ => rfl) (fun _ => rfl) rfl rfl rfl rfl ⟨Nat.zero_le _, Nat.zero_le _⟩ dX6_spite_2 kc_X6 0 rfl (fun q1 hf => ?_)
  refine j_if_ne C (pc := 5) 10 dX6_spite_5 (by decide) hf (fun hf => ?_) (fun hf => ?_)
  · refine j_aload_n C (pc := 10) 0 rfl rfl dX6_spite_10 ?_
    refine j_get C (pc := 11) kc_X6 fl_X6_18 0 rfl rfl dX6_spite_11 ?_
    refine j_iload_n C (pc := 14) 1 rfl rfl dX6_spite_14 ?_
    refine j_iald C (pc := 15) 1 rfl hf dX6_spite_15 (fun hf => ?_)
    refine j_nm hf (fun y2 hf => ?_)
    refine j_istore C (pc := 16) (L' := [(6, .int y2), (0, .ref a_t), (1, .int p1), (2, .int p2), (3, .int p3), (4, .int p4), (5, .int p5)]) dX6_spite_16 (by decide) rfl ?_
    refine j_aload_n C (pc := 18) 1 rfl rfl dX6_spite_18 ?_
    refine j_get C (pc := 19) kc_X6 fl_X6_49 0 rfl rfl dX6_spite_19 ?_
    refine j_iconst C (pc := 22) (v := 0) (by decide) dX6_spite_22 ?_
    refine j_iload_n C (pc := 23) 2 rfl rfl dX6_spite_23 ?_
    refine j_iast C (pc := 24) (ws' := [oX6 a_t r_t v_people v_day v_dead v_buried a_holding, aI G (r_t 5) 6 v_kinds, aI G (r_t 13) 6 (upd v_facts (0 : Int32).toNatClampNeg p1), oX2 a_holding r_holding v_holding_length v_holding_need, aI G (r_holding 0) 100 v_holding_steps, aI G (r_holding 1) 100 v_holding_numbers, aI G (r_t 9) 24 v_rows]) 2 rfl (gd_mk (by decide) hf) rfl dX6_spite_24 (fun hf => ?_)
    refine j_aload_n C (pc := 25) 1 rfl rfl dX6_spite_25 ?_
    refine j_get C (pc := 26) kc_X6 fl_X6_49 0 rfl rfl dX6_spite_26 ?_
    refine j_iconst C (pc := 29) (v := 1) (by decide) dX6_spite_29 ?_
    refine j_iload_n C (pc := 30) 3 rfl rfl dX6_spite_30 ?_
    refine j_iast C (pc := 31) (ws' := [oX6 a_t r_t v_people v_day v_dead v_buried a_holding, aI G (r_t 5) 6 v_kinds, aI G (r_t 13) 6 (upd (upd v_facts (0 : Int32).toNatClampNeg p1) (1 : Int32).toNatClampNeg p2), oX2 a_holding r_holding v_holding_length v_holding_need, aI G (r_holding 0) 100 v_holding_steps, aI G (r_holding 1) 100 v_holding_numbers, aI G (r_t 9) 24 v_rows]) 2 rfl (gd_mk (by decide) hf) rfl dX6_spite_31 (fun hf => ?_)
    refine j_aload_n C (pc := 32) 1 rfl rfl dX6_spite_32 ?_
    refine j_get C (pc := 33) kc_X6 fl_X6_49 0 rfl rfl dX6_spite_33 ?_
    refine j_iconst C (pc := 36) (v := 2) (by decide) dX6_spite_36 ?_
    refine j_iload C (pc := 37) 0 rfl dX6_spite_37 ?_
    refine j_iast C (pc := 39) (ws' := [oX6 a_t r_t v_people v_day v_dead v_buried a_holding, aI G (r_t 5) 6 v_kinds, aI G (r_t 13) 6 (upd (upd (upd v_facts (0 : Int32).toNatClampNeg p1) (1 : Int32).toNatClampNeg p2) (2 : Int32).toNatClampNeg y2), oX2 a_holding r_holding v_holding_length v_holding_need, aI G (r_holding 0) 100 v_holding_steps, aI G (r_holding 1) 100 v_holding_numbers, aI G (r_t 9) 24 v_rows]) 2 rfl (gd_mk (by decide) hf) rfl dX6_spite_39 (fun hf => ?_)
    refine j_aload_n C (pc := 40) 1 rfl rfl dX6_spite_40 ?_
    refine j_get C (pc := 41) kc_X6 fl_X6_49 0 rfl rfl dX6_spite_41 ?_
    refine j_iconst C (pc := 44) (v := 3) (by decide) dX6_spite_44 ?_
    refine j_iload C (pc := 45) 6 rfl dX6_spite_45 ?_
    refine j_iast C (pc := 47) (ws' := [oX6 a_t r_t v_people v_day v_dead v_buried a_holding, aI G (r_t 5) 6 v_kinds, aI G (r_t 13) 6 (upd (upd (upd (upd v_facts (0 : Int32).toNatClampNeg p1) (1 : Int32).toNatClampNeg p2) (2 : Int32).toNatClampNeg y2) (3 : Int32).toNatClampNeg p5), oX2 a_holding r_holding v_holding_length v_holding_need, aI G (r_holding 0) 100 v_holding_steps, aI G (r_holding 1) 100 v_holding_numbers, aI G (r_t 9) 24 v_rows]) 2 rfl (gd_mk (by decide) hf) rfl dX6_spite_47 (fun hf => ?_)
    refine j_aload_n C (pc := 48) 1 rfl rfl dX6_spite_48 ?_
    refine j_get C (pc := 49) kc_X6 fl_X6_49 0 rfl rfl dX6_spite_49 ?_
    refine j_iconst C (pc := 52) (v := 4) (by decide) dX6_spite_52 ?_
    refine j_iload C (pc := 53) 5 rfl dX6_spite_53 ?_
    refine j_bipush C (pc := 55) (v := 10) (by decide) dX6_spite_55 ?_
    refine j_idiv C (pc := 57) dX6_spite_57 (gz_mk (by decide) hf) (fun hf => ?_)
    refine j_iast C (pc := 58) (ws' := [oX6 a_t r_t v_people v_day v_dead v_buried a_holding, aI G (r_t 5) 6 v_kinds, aI G (r_t 13) 6 (upd (upd (upd (upd (upd v_facts (0 : Int32).toNatClampNeg p1) (1 : Int32).toNatClampNeg p2) (2 : Int32).toNatClampNeg y2) (3 : Int32).toNatClampNeg p5) (4 : Int32).toNatClampNeg (p4 / (10 : Int32))), oX2 a_holding r_holding v_holding_length v_holding_need, aI G (r_holding 0) 100 v_holding_steps, aI G (r_holding 1) 100 v_holding_numbers, aI G (r_t 9) 24 v_rows]) 2 rfl (gd_mk (by decide) hf) rfl dX6_spite_58 (fun hf => ?_)
    refine j_aload_n C (pc := 59) 1 rfl rfl dX6_spite_59 ?_
    refine j_get C (pc := 60) kc_X6 fl_X6_49 0 rfl rfl dX6_spite_60 ?_
    refine j_iconst C (pc := 63) (v := 5) (by decide) dX6_spite_63 ?_
    refine j_iload_n C (pc := 64) 4 rfl rfl dX6_spite_64 ?_
    refine j_bipush C (pc := 65) (v := 10) (by decide) dX6_spite_65 ?_
    refine j_irem C (pc := 67) dX6_spite_67 (gz_mk (by decide) hf) (fun hf => ?_)
    refine j_iast C (pc := 68) (ws' := [oX6 a_t r_t v_people v_day v_dead v_buried a_holding, aI G (r_t 5) 6 v_kinds, aI G (r_t 13) 6 (upd (upd (upd (upd (upd (upd v_facts (0 : Int32).toNatClampNeg p1) (1 : Int32).toNatClampNeg p2) (2 : Int32).toNatClampNeg y2) (3 : Int32).toNatClampNeg p5) (4 : Int32).toNatClampNeg (p4 / (10 : Int32))) (5 : Int32).toNatClampNeg (p3 - p3 / (10 : Int32) * (10 : Int32))), oX2 a_holding r_holding v_holding_length v_holding_need, aI G (r_holding 0) 100 v_holding_steps, aI G (r_holding 1) 100 v_holding_numbers, aI G (r_t 9) 24 v_rows]) 2 rfl (gd_mk (by decide) hf) rfl dX6_spite_68 (fun hf => ?_)
    refine j_iload C (pc := 69) 5 rfl dX6_spite_69 ?_
    refine j_aload_n C (pc := 71) 1 rfl rfl dX6_spite_71 ?_
    refine j_get C (pc := 72) kc_X6 fl_X6_12 0 rfl rfl dX6_spite_72 ?_
    refine j_aload_n C (pc := 75) 1 rfl rfl dX6_spite_75 ?_
    refine j_get C (pc := 76) kc_X6 fl_X6_49 0 rfl rfl dX6_spite_76 ?_
    refine j_cVI C (pc := 79) (As := [.ref (r_t 13)]) (st := [.int p4]) (ws' := fun q3 => [oX6 a_t r_t v_people v_day v_dead v_buried a_holding, aI G (r_t 5) 6 v_kinds, aI G (r_t 13) 6 (upd (upd (upd (upd (upd (upd v_facts (0 : Int32).toNatClampNeg p1) (1 : Int32).toNatClampNeg p2) (2 : Int32).toNatClampNeg y2) (3 : Int32).toNatClampNeg p5) (4 : Int32).toNatClampNeg (p4 / (10 : Int32))) (5 : Int32).toNatClampNeg (p3 - p3 / (10 : Int32) * (10 : Int32))), oX2 a_holding r_holding v_holding_length v_holding_need, aI G (r_holding 0) 100 v_holding_steps, aI G (r_holding 1) 100 v_holding_numbers, aI G (r_t 9) 24 v_rows]) ml_X6_63 ms_X2_weigh hf (fun q3 h => (c_X2_weigh G K.2.1) a_holding r_holding (r_t 13) v_holding_length v_holding_need (upd (upd (upd (upd (upd (upd v_facts (0 : Int32).toNatClampNeg p1) (1 : Int32).toNatClampNeg p2) (2 : Int32).toNatClampNeg y2) (3 : Int32).toNatClampNeg p5) (4 : Int32).toNatClampNeg (p4 / (10 : Int32))) (5 : Int32).toNatClampNeg (p3 - p3 / (10 : Int32) * (10 : Int32))) v_holding_steps v_holding_numbers q3 h) [3, 2, 4, 5] [none, none, some 1, some 0, some 2, some 3, none] 7 rfl (by decide +kernel) (by decide +kernel) (fun _ => rfl) (fun _ => rfl) rfl rfl rfl rfl ⟨Nat.zero_le _, Nat.zero_le _⟩ dX6_spite_79 kc_X2 3 rfl (fun q3 hf => ?_)
    refine j_iadd C (pc := 82) dX6_spite_82 ?_
    refine j_nm hf (fun y4 hf => ?_)
    refine j_istore C (pc := 83) (L' := [(7, .int y4), (6, .int y2), (0, .ref a_t), (1, .int p1), (2, .int p2), (3, .int p3), (4, .int p4), (5, .int p5)]) dX6_spite_83 (by decide) rfl ?_
    refine j_iload_n C (pc := 85) 5 rfl rfl dX6_spite_85 ?_
    refine j_iconst C (pc := 86) (v := 2) (by decide) dX6_spite_86 ?_
    refine j_irem C (pc := 87) dX6_spite_87 (gz_mk (by decide) hf) (fun hf => ?_)
    refine j_if_ne C (pc := 88) 96 dX6_spite_88 (by decide) hf (fun hf => ?_) (fun hf => ?_)
    · refine j_iload C (pc := 96) 0 rfl dX6_spite_96 ?_
      refine j_iconst C (pc := 98) (v := 2) (by decide) dX6_spite_98 ?_
      refine j_idiv C (pc := 99) dX6_spite_99 (gz_mk (by decide) hf) (fun hf => ?_)
      refine j_sub [2, 3, 4, 5, 7, 1, 0] rfl ?_
      exact t_X6_spite_100 C hQ hf
    · refine j_iload C (pc := 91) 0 rfl dX6_spite_91 ?_
      refine j_goto C (pc := 93) 100 dX6_spite_93 (by decide) ?_
      refine j_sub [2, 3, 4, 5, 7, 1, 0] rfl ?_
      exact t_X6_spite_100 C hQ hf
  · refine j_iconst C (pc := 8) (v := 0) (by decide) dX6_spite_8 ?_
    obtain rfl := Option.some.inj hf
    exact hQ _ _ dX6_spite_9 rfl
def ct_X6_spite (G : Gx) (l : Launch) (F : Int32 → (Nat → Int32) → (Nat → Int32) → Int32 → (Nat → Int32) → (Nat → Int32) → (Nat → Int32) → Int32 → Int32 → Int32 → Int32 → Int32 → Option (Int32 × (Nat → Int32))) (lv : Nat) : Prop := ∀ (a_t : Nat) (r_t : Nat → Nat) (r_holding : Nat → Nat) (v_people : Int32) (v_day : Int32) (v_dead : Int32) (v_buried : Int32) (a_holding : Nat) (v_kinds : Nat → Int32) (v_facts : Nat → Int32) (v_holding_length : Int32) (v_holding_need : Int32) (v_holding_steps : Nat → Int32) (v_holding_numbers : Nat → Int32) (v_rows : Nat → Int32) (p1 : Int32) (p2 : Int32) (p3 : Int32) (p4 : Int32) (p5 : Int32), ∀ (q : Int32 × (Nat → Int32)), F v_people v_kinds v_facts v_holding_length v_holding_steps v_holding_numbers v_rows p1 p2 p3 p4 p5 = some q → MI G l yX6_spite cX6_spite 9 .int lv [.ref a_t, .int p1, .int p2, .int p3, .int p4, .int p5] [oX6 a_t r_t v_people v_day v_dead v_buried a_holding, aI G (r_t 5) 6 v_kinds, aI G (r_t 13) 6 v_facts, oX2 a_holding r_holding v_holding_length v_holding_need, aI G (r_holding 0) 100 v_holding_steps, aI G (r_holding 1) 100 v_holding_numbers, aI G (r_t 9) 24 v_rows] [oX6 a_t r_t v_people v_day v_dead v_buried a_holding, aI G (r_t 5) 6 v_kinds, aI G (r_t 13) 6 q.2, oX2 a_holding r_holding v_holding_length v_holding_need, aI G (r_holding 0) 100 v_holding_steps, aI G (r_holding 1) 100 v_holding_numbers, aI G (r_t 9) 24 v_rows] q.1
theorem c_X6_spite (G : Gx) (l : Launch) : ct_X6_spite G l f_X6_spite 2 := by
  intro a_t r_t r_holding v_people v_day v_dead v_buried a_holding v_kinds v_facts v_holding_length v_holding_need v_holding_steps v_holding_numbers v_rows p1 p2 p3 p4 p5 q hf
  exact mI_of (by decide +kernel) rfl (fun K hl C hQ => t_X6_spite C hQ hf)
-- X6_isEnemy
def f_X6_isEnemy (v_people : Int32) (v_dead : Int32) (v_hates : Nat → Int32) (v_vs : Nat → Int32) (v_kinds : Nat → Int32) (v_facts : Nat → Int32) (v_holding_length : Int32) (v_holding_need : Int32) (v_holding_steps : Nat → Int32) (v_holding_numbers : Nat → Int32) (v_rows : Nat → Int32) (p1 : Int32) (p2 : Int32) (p3 : Int32) : Option (Int32 × (Nat → Int32)) := ((f_X6_has v_people p1).bind fun q1 => (if q1 = 0 then (some ((0 : Int32), v_facts)) else (if p1 = p2 then (some ((0 : Int32), v_facts)) else ((f_X7_bit v_dead p1).bind fun q2 => (if q2 = (1 : Int32) then (some ((0 : Int32), v_facts)) else ((f_X6_hateOf v_people v_hates p1 p2).bind fun q3 => (gd p1 6 ((f_X6_spite v_people v_kinds v_facts v_holding_length v_holding_steps v_holding_numbers v_rows p1 p2 p3 q3 (v_vs p1.toNatClampNeg)).bind fun q4 => (if q4.1 < v_holding_need then (some ((0 : Int32), q4.2)) else (some ((1 : Int32), q4.2)))))))))))
set_option maxRecDepth 20000 in
set_option maxHeartbeats 1000000 in
theorem t_X6_isEnemy {G : Gx} {K : Kx} (C : Cx G K cX6_isEnemy RX6 4 3) {a_t : Nat} {r_t : Nat → Nat} {r_holding : Nat → Nat} {v_people : Int32} {v_day : Int32} {v_dead : Int32} {v_buried : Int32} {a_holding : Nat} {v_hates : Nat → Int32} {v_vs : Nat → Int32} {v_kinds : Nat → Int32} {v_facts : Nat → Int32} {v_holding_length : Int32} {v_holding_need : Int32} {v_holding_steps : Nat → Int32} {v_holding_numbers : Nat → Int32} {v_rows : Nat → Int32} {p1 : Int32} {p2 : Int32} {p3 : Int32} {q : Int32 × (Nat → Int32)} (hQ : k_retI G K cX6_isEnemy 4 .boolean [oX6 a_t r_t v_people v_day v_dead v_buried a_holding, aI G (r_t 8) 36 v_hates, aI G (r_t 6) 6 v_vs, aI G (r_t 5) 6 v_kinds, aI G (r_t 13) 6 q.2, oX2 a_holding r_holding v_holding_length v_holding_need, aI G (r_holding 0) 100 v_holding_steps, aI G (r_holding 1) 100 v_holding_numbers, aI G (r_t 9) 24 v_rows] q.1) (hf : f_X6_isEnemy v_people v_dead v_hates v_vs v_kinds v_facts v_holding_length v_holding_need v_holding_steps v_holding_numbers v_rows p1 p2 p3 = some q) : J G K 4 0 0 [oX6 a_t r_t v_people v_day v_dead v_buried a_holding, aI G (r_t 8) 36 v_hates, aI G (r_t 6) 6 v_vs, aI G (r_t 5) 6 v_kinds, aI G (r_t 13) 6 v_facts, oX2 a_holding r_holding v_holding_length v_holding_need, aI G (r_holding 0) 100 v_holding_steps, aI G (r_holding 1) 100 v_holding_numbers, aI G (r_t 9) 24 v_rows] [(0, .ref a_t), (1, .int p1), (2, .int p2), (3, .int p3)] 0 [] := by
  unfold f_X6_isEnemy at hf
  refine j_aload_n C (pc := 0) 0 rfl rfl dX6_isEnemy_0 ?_
  refine j_iload_n C (pc := 1) 1 rfl rfl dX6_isEnemy_1 ?_
  refine j_cVI C (pc := 2) (As := [.int p1]) (st := []) (ws' := fun q1 => [oX6 a_t r_t v_people v_day v_dead v_buried a_holding, aI G (r_t 8) 36 v_hates, aI G (r_t 6) 6 v_vs, aI G (r_t 5) 6 v_kinds, aI G (r_t 13) 6 v_facts, oX2 a_holding r_holding v_holding_length v_holding_need, aI G (r_holding 0) 100 v_holding_steps, aI G (r_holding 1) 100 v_holding_numbers, aI G (r_t 9) 24 v_rows]) ml_X6_56 ms_X6_has hf (fun q1 h => (c_X6_has G K.2.1) a_t r_t v_people v_day v_dead v_buried a_holding p1 q1 h) [0] [some 0, none, none, none, none, none, none, none, none] 9 rfl (by decide +kernel) (by decide +kernel) (fun _ => rfl) (fun _ => rfl) rfl rfl rfl rfl ⟨Nat.zero_le _, Nat.zero_le _⟩ dX6_isEnemy_2 kc_X6 0 rfl (fun q1 hf => ?_)
  refine j_if_eq C (pc := 5) 25 dX6_isEnemy_5 (by decide) hf (fun hf => ?_) (fun hf => ?_)
  · refine j_iconst C (pc := 25) (v := 0) (by decide) dX6_isEnemy_25 ?_
    obtain rfl := Option.some.inj hf
    exact hQ _ _ dX6_isEnemy_26 (show narrow .boolean (.int (0 : Int32)) = .int (0 : Int32) from rfl)
  · refine j_iload_n C (pc := 8) 1 rfl rfl dX6_isEnemy_8 ?_
    refine j_iload_n C (pc := 9) 2 rfl rfl dX6_isEnemy_9 ?_
    refine j_icmp_eq C (pc := 10) 25 dX6_isEnemy_10 (by decide) hf (fun hf => ?_) (fun hf => ?_)
    · refine j_iconst C (pc := 25) (v := 0) (by decide) dX6_isEnemy_25 ?_
      obtain rfl := Option.some.inj hf
      exact hQ _ _ dX6_isEnemy_26 (show narrow .boolean (.int (0 : Int32)) = .int (0 : Int32) from rfl)
    · refine j_aload_n C (pc := 13) 0 rfl rfl dX6_isEnemy_13 ?_
      refine j_get C (pc := 14) kc_X6 fl_X6_60 0 rfl rfl dX6_isEnemy_14 ?_
      refine j_iload_n C (pc := 17) 1 rfl rfl dX6_isEnemy_17 ?_
      refine j_cSNI C (pc := 18) (As := [.int v_dead, .int p1]) (st := []) (ws' := fun q2 => [oX6 a_t r_t v_people v_day v_dead v_buried a_holding, aI G (r_t 8) 36 v_hates, aI G (r_t 6) 6 v_vs, aI G (r_t 5) 6 v_kinds, aI G (r_t 13) 6 v_facts, oX2 a_holding r_holding v_holding_length v_holding_need, aI G (r_holding 0) 100 v_holding_steps, aI G (r_holding 1) 100 v_holding_numbers, aI G (r_t 9) 24 v_rows]) ml_X6_73 ms_X7_bit hf (fun q2 h => (c_X7_bit G K.2.1) v_dead p1 q2 h) [] [none, none, none, none, none, none, none, none, none] 9 rfl (by decide +kernel) (by decide +kernel) (fun _ => rfl) (fun _ => rfl) rfl rfl rfl rfl ⟨Nat.zero_le _, Nat.zero_le _⟩ dX6_isEnemy_18 (fun q2 hf => ?_)
      refine j_iconst C (pc := 21) (v := 1) (by decide) dX6_isEnemy_21 ?_
      refine j_icmp_ne C (pc := 22) 27 dX6_isEnemy_22 (by decide) hf (fun hf => ?_) (fun hf => ?_)
      · refine j_aload_n C (pc := 27) 0 rfl rfl dX6_isEnemy_27 ?_
        refine j_iload_n C (pc := 28) 1 rfl rfl dX6_isEnemy_28 ?_
        refine j_iload_n C (pc := 29) 2 rfl rfl dX6_isEnemy_29 ?_
        refine j_iload_n C (pc := 30) 3 rfl rfl dX6_isEnemy_30 ?_
        refine j_aload_n C (pc := 31) 0 rfl rfl dX6_isEnemy_31 ?_
        refine j_iload_n C (pc := 32) 1 rfl rfl dX6_isEnemy_32 ?_
        refine j_iload_n C (pc := 33) 2 rfl rfl dX6_isEnemy_33 ?_
        refine j_cVI C (pc := 34) (As := [.int p1, .int p2]) (st := [.int p3, .int p2, .int p1, .ref a_t]) (ws' := fun q3 => [oX6 a_t r_t v_people v_day v_dead v_buried a_holding, aI G (r_t 8) 36 v_hates, aI G (r_t 6) 6 v_vs, aI G (r_t 5) 6 v_kinds, aI G (r_t 13) 6 v_facts, oX2 a_holding r_holding v_holding_length v_holding_need, aI G (r_holding 0) 100 v_holding_steps, aI G (r_holding 1) 100 v_holding_numbers, aI G (r_t 9) 24 v_rows]) ml_X6_76 ms_X6_hateOf hf (fun q3 h => (c_X6_hateOf G K.2.1) a_t r_t v_people v_day v_dead v_buried a_holding v_hates p1 p2 q3 h) [0, 1] [some 0, some 1, none, none, none, none, none, none, none] 9 rfl (by decide +kernel) (by decide +kernel) (fun _ => rfl) (fun _ => rfl) rfl rfl rfl rfl ⟨Nat.zero_le _, Nat.zero_le _⟩ dX6_isEnemy_34 kc_X6 0 rfl (fun q3 hf => ?_)
        refine j_aload_n C (pc := 37) 0 rfl rfl dX6_isEnemy_37 ?_
        refine j_get C (pc := 38) kc_X6 fl_X6_22 0 rfl rfl dX6_isEnemy_38 ?_
        refine j_iload_n C (pc := 41) 1 rfl rfl dX6_isEnemy_41 ?_
        refine j_iald C (pc := 42) 2 rfl hf dX6_isEnemy_42 (fun hf => ?_)
        refine j_cVI C (pc := 43) (As := [.int p1, .int p2, .int p3, .int q3, .int (v_vs p1.toNatClampNeg)]) (st := []) (ws' := fun q4 => [oX6 a_t r_t v_people v_day v_dead v_buried a_holding, aI G (r_t 8) 36 v_hates, aI G (r_t 6) 6 v_vs, aI G (r_t 5) 6 v_kinds, aI G (r_t 13) 6 q4.2, oX2 a_holding r_holding v_holding_length v_holding_need, aI G (r_holding 0) 100 v_holding_steps, aI G (r_holding 1) 100 v_holding_numbers, aI G (r_t 9) 24 v_rows]) ml_X6_79 ms_X6_spite hf (fun q4 h => (c_X6_spite G K.2.1) a_t r_t r_holding v_people v_day v_dead v_buried a_holding v_kinds v_facts v_holding_length v_holding_need v_holding_steps v_holding_numbers v_rows p1 p2 p3 q3 (v_vs p1.toNatClampNeg) q4 h) [0, 3, 4, 5, 6, 7, 8] [some 0, none, none, some 1, some 2, some 3, some 4, some 5, some 6] 9 rfl (by decide +kernel) (by decide +kernel) (fun _ => rfl) (fun _ => rfl) rfl rfl rfl rfl ⟨Nat.zero_le _, Nat.zero_le _⟩ dX6_isEnemy_43 kc_X6 0 rfl (fun q4 hf => ?_)
        refine j_aload_n C (pc := 46) 0 rfl rfl dX6_isEnemy_46 ?_
        refine j_get C (pc := 47) kc_X6 fl_X6_12 0 rfl rfl dX6_isEnemy_47 ?_
        refine j_getN C (pc := 50) kc_X2 fl_X6_83 5 rfl rfl dX6_isEnemy_50 ?_
        refine j_icmp_lt C (pc := 53) 60 dX6_isEnemy_53 (by decide) hf (fun hf => ?_) (fun hf => ?_)
        · refine j_iconst C (pc := 60) (v := 0) (by decide) dX6_isEnemy_60 ?_
          obtain rfl := Option.some.inj hf
          exact hQ _ _ dX6_isEnemy_61 (show narrow .boolean (.int (0 : Int32)) = .int (0 : Int32) from rfl)
        · refine j_iconst C (pc := 56) (v := 1) (by decide) dX6_isEnemy_56 ?_
          refine j_goto C (pc := 57) 61 dX6_isEnemy_57 (by decide) ?_
          obtain rfl := Option.some.inj hf
          exact hQ _ _ dX6_isEnemy_61 (show narrow .boolean (.int (1 : Int32)) = .int (1 : Int32) from rfl)
      · refine j_iconst C (pc := 25) (v := 0) (by decide) dX6_isEnemy_25 ?_
        obtain rfl := Option.some.inj hf
        exact hQ _ _ dX6_isEnemy_26 (show narrow .boolean (.int (0 : Int32)) = .int (0 : Int32) from rfl)
def ct_X6_isEnemy (G : Gx) (l : Launch) (F : Int32 → Int32 → (Nat → Int32) → (Nat → Int32) → (Nat → Int32) → (Nat → Int32) → Int32 → Int32 → (Nat → Int32) → (Nat → Int32) → (Nat → Int32) → Int32 → Int32 → Int32 → Option (Int32 × (Nat → Int32))) (lv : Nat) : Prop := ∀ (a_t : Nat) (r_t : Nat → Nat) (r_holding : Nat → Nat) (v_people : Int32) (v_day : Int32) (v_dead : Int32) (v_buried : Int32) (a_holding : Nat) (v_hates : Nat → Int32) (v_vs : Nat → Int32) (v_kinds : Nat → Int32) (v_facts : Nat → Int32) (v_holding_length : Int32) (v_holding_need : Int32) (v_holding_steps : Nat → Int32) (v_holding_numbers : Nat → Int32) (v_rows : Nat → Int32) (p1 : Int32) (p2 : Int32) (p3 : Int32), ∀ (q : Int32 × (Nat → Int32)), F v_people v_dead v_hates v_vs v_kinds v_facts v_holding_length v_holding_need v_holding_steps v_holding_numbers v_rows p1 p2 p3 = some q → MI G l yX6_isEnemy cX6_isEnemy 4 .boolean lv [.ref a_t, .int p1, .int p2, .int p3] [oX6 a_t r_t v_people v_day v_dead v_buried a_holding, aI G (r_t 8) 36 v_hates, aI G (r_t 6) 6 v_vs, aI G (r_t 5) 6 v_kinds, aI G (r_t 13) 6 v_facts, oX2 a_holding r_holding v_holding_length v_holding_need, aI G (r_holding 0) 100 v_holding_steps, aI G (r_holding 1) 100 v_holding_numbers, aI G (r_t 9) 24 v_rows] [oX6 a_t r_t v_people v_day v_dead v_buried a_holding, aI G (r_t 8) 36 v_hates, aI G (r_t 6) 6 v_vs, aI G (r_t 5) 6 v_kinds, aI G (r_t 13) 6 q.2, oX2 a_holding r_holding v_holding_length v_holding_need, aI G (r_holding 0) 100 v_holding_steps, aI G (r_holding 1) 100 v_holding_numbers, aI G (r_t 9) 24 v_rows] q.1
theorem c_X6_isEnemy (G : Gx) (l : Launch) : ct_X6_isEnemy G l f_X6_isEnemy 3 := by
  intro a_t r_t r_holding v_people v_day v_dead v_buried a_holding v_hates v_vs v_kinds v_facts v_holding_length v_holding_need v_holding_steps v_holding_numbers v_rows p1 p2 p3 q hf
  exact mI_of (by decide +kernel) rfl (fun K hl C hQ => t_X6_isEnemy C hQ hf)
-- X6_enemiesOf
def f_X6_enemiesOf_5_b (v_people : Int32) (v_dead : Int32) (v_hates : Nat → Int32) (v_vs : Nat → Int32) (v_kinds : Nat → Int32) (v_holding_length : Int32) (v_holding_need : Int32) (v_holding_steps : Nat → Int32) (v_holding_numbers : Nat → Int32) (v_rows : Nat → Int32) (p1 : Int32) (p2 : Int32) (k5 : Int32 → Int32 → (Nat → Int32) → Option (Int32 × (Nat → Int32))) (x3 : Int32) (x4 : Int32) (w_facts : Nat → Int32) : Option (Int32 × (Nat → Int32)) := (if v_people ≤ x4 then (some (x3, w_facts)) else ((f_X6_isEnemy v_people v_dead v_hates v_vs v_kinds w_facts v_holding_length v_holding_need v_holding_steps v_holding_numbers v_rows x4 p1 p2).bind fun q1 => (if q1.1 = 0 then (k5 x3 (x4 + (1 : Int32)) q1.2) else (nm (x3 ||| ((1 : Int32) <<< (x4 &&& 31))) fun y2 => (k5 y2 (x4 + (1 : Int32)) q1.2)))))
def f_X6_enemiesOf_5 (v_people : Int32) (v_dead : Int32) (v_hates : Nat → Int32) (v_vs : Nat → Int32) (v_kinds : Nat → Int32) (v_holding_length : Int32) (v_holding_need : Int32) (v_holding_steps : Nat → Int32) (v_holding_numbers : Nat → Int32) (v_rows : Nat → Int32) (p1 : Int32) (p2 : Int32) : Nat → Int32 → Int32 → (Nat → Int32) → Option (Int32 × (Nat → Int32))
  | 0 => fun _ _ _ => none
  | n + 1 => f_X6_enemiesOf_5_b v_people v_dead v_hates v_vs v_kinds v_holding_length v_holding_need v_holding_steps v_holding_numbers v_rows p1 p2 (f_X6_enemiesOf_5 v_people v_dead v_hates v_vs v_kinds v_holding_length v_holding_need v_holding_steps v_holding_numbers v_rows p1 p2 n)
set_option maxRecDepth 20000 in
set_option maxHeartbeats 1000000 in
theorem t_X6_enemiesOf_5_b {G : Gx} {K : Kx} (C : Cx G K cX6_enemiesOf RX6 5 4) {a_t : Nat} {r_t : Nat → Nat} {r_holding : Nat → Nat} {v_people : Int32} {v_day : Int32} {v_dead : Int32} {v_buried : Int32} {a_holding : Nat} {v_hates : Nat → Int32} {v_vs : Nat → Int32} {v_kinds : Nat → Int32} {v_holding_length : Int32} {v_holding_need : Int32} {v_holding_steps : Nat → Int32} {v_holding_numbers : Nat → Int32} {v_rows : Nat → Int32} {p1 : Int32} {p2 : Int32} {q : Int32 × (Nat → Int32)} (hQ : k_retI G K cX6_enemiesOf 5 .int [oX6 a_t r_t v_people v_day v_dead v_buried a_holding, aI G (r_t 8) 36 v_hates, aI G (r_t 6) 6 v_vs, aI G (r_t 5) 6 v_kinds, aI G (r_t 13) 6 q.2, oX2 a_holding r_holding v_holding_length v_holding_need, aI G (r_holding 0) 100 v_holding_steps, aI G (r_holding 1) 100 v_holding_numbers, aI G (r_t 9) 24 v_rows] q.1) {k5 : Int32 → Int32 → (Nat → Int32) → Option (Int32 × (Nat → Int32))} (hk5 : ∀ (x3 : Int32) (x4 : Int32) (w_facts : Nat → Int32), k5 x3 x4 w_facts = some q → J G K 5 0 0 [oX6 a_t r_t v_people v_day v_dead v_buried a_holding, aI G (r_t 8) 36 v_hates, aI G (r_t 6) 6 v_vs, aI G (r_t 5) 6 v_kinds, aI G (r_t 13) 6 w_facts, oX2 a_holding r_holding v_holding_length v_holding_need, aI G (r_holding 0) 100 v_holding_steps, aI G (r_holding 1) 100 v_holding_numbers, aI G (r_t 9) 24 v_rows] [(0, .ref a_t), (1, .int p1), (2, .int p2), (3, .int x3), (4, .int x4)] 5 []) {x3 : Int32} {x4 : Int32} {w_facts : Nat → Int32} (hf : f_X6_enemiesOf_5_b v_people v_dead v_hates v_vs v_kinds v_holding_length v_holding_need v_holding_steps v_holding_numbers v_rows p1 p2 k5 x3 x4 w_facts = some q) : J G K 5 0 0 [oX6 a_t r_t v_people v_day v_dead v_buried a_holding, aI G (r_t 8) 36 v_hates, aI G (r_t 6) 6 v_vs, aI G (r_t 5) 6 v_kinds, aI G (r_t 13) 6 w_facts, oX2 a_holding r_holding v_holding_length v_holding_need, aI G (r_holding 0) 100 v_holding_steps, aI G (r_holding 1) 100 v_holding_numbers, aI G (r_t 9) 24 v_rows] [(0, .ref a_t), (1, .int p1), (2, .int p2), (3, .int x3), (4, .int x4)] 5 [] := by
  unfold f_X6_enemiesOf_5_b at hf
  refine j_iload C (pc := 5) 4 rfl dX6_enemiesOf_5 ?_
  refine j_aload_n C (pc := 7) 0 rfl rfl dX6_enemiesOf_7 ?_
  refine j_get C (pc := 8) kc_X6 fl_X6_52 0 rfl rfl dX6_enemiesOf_8 ?_
  refine j_icmp_ge C (pc := 11) 38 dX6_enemiesOf_11 (by decide) hf (fun hf => ?_) (fun hf => ?_)
  · refine j_iload_n C (pc := 38) 3 rfl rfl dX6_enemiesOf_38 ?_
    obtain rfl := Option.some.inj hf
    exact hQ _ _ dX6_enemiesOf_39 rfl
  · refine j_aload_n C (pc := 14) 0 rfl rfl dX6_enemiesOf_14 ?_
    refine j_iload C (pc := 15) 4 rfl dX6_enemiesOf_15 ?_
    refine j_iload_n C (pc := 17) 1 rfl rfl dX6_enemiesOf_17 ?_
    refine j_iload_n C (pc := 18) 2 rfl rfl dX6_enemiesOf_18 ?_
    refine j_cVI C (pc := 19) (As := [.int x4, .int p1, .int p2]) (st := []) (ws' := fun q1 => [oX6 a_t r_t v_people v_day v_dead v_buried a_holding, aI G (r_t 8) 36 v_hates, aI G (r_t 6) 6 v_vs, aI G (r_t 5) 6 v_kinds, aI G (r_t 13) 6 q1.2, oX2 a_holding r_holding v_holding_length v_holding_need, aI G (r_holding 0) 100 v_holding_steps, aI G (r_holding 1) 100 v_holding_numbers, aI G (r_t 9) 24 v_rows]) ml_X6_86 ms_X6_isEnemy hf (fun q1 h => (c_X6_isEnemy G K.2.1) a_t r_t r_holding v_people v_day v_dead v_buried a_holding v_hates v_vs v_kinds w_facts v_holding_length v_holding_need v_holding_steps v_holding_numbers v_rows x4 p1 p2 q1 h) [0, 1, 2, 3, 4, 5, 6, 7, 8] [some 0, some 1, some 2, some 3, some 4, some 5, some 6, some 7, some 8] 9 rfl (by decide +kernel) (by decide +kernel) (fun _ => rfl) (fun _ => rfl) rfl rfl rfl rfl ⟨Nat.zero_le _, Nat.zero_le _⟩ dX6_enemiesOf_19 kc_X6 0 rfl (fun q1 hf => ?_)
    refine j_if_eq C (pc := 22) 32 dX6_enemiesOf_22 (by decide) hf (fun hf => ?_) (fun hf => ?_)
    · refine j_iinc C (pc := 32) (L' := [(4, .int (x4 + (1 : Int32))), (0, .ref a_t), (1, .int p1), (2, .int p2), (3, .int x3)]) (v := x4 + (1 : Int32)) dX6_enemiesOf_32 (t := 4) rfl rfl (by decide) rfl ?_
      refine j_goto C (pc := 35) 5 dX6_enemiesOf_35 (by decide) ?_
      refine j_sub [1, 2, 3, 4, 0] rfl ?_
      exact hk5 _ _ _ hf
    · refine j_iload_n C (pc := 25) 3 rfl rfl dX6_enemiesOf_25 ?_
      refine j_iconst C (pc := 26) (v := 1) (by decide) dX6_enemiesOf_26 ?_
      refine j_iload C (pc := 27) 4 rfl dX6_enemiesOf_27 ?_
      refine j_ishl C (pc := 29) dX6_enemiesOf_29 ?_
      refine j_ior C (pc := 30) dX6_enemiesOf_30 ?_
      refine j_nm hf (fun y2 hf => ?_)
      refine j_istore_n C (pc := 31) (L' := [(3, .int y2), (0, .ref a_t), (1, .int p1), (2, .int p2), (4, .int x4)]) dX6_enemiesOf_31 rfl (by decide) rfl ?_
      refine j_iinc C (pc := 32) (L' := [(4, .int (x4 + (1 : Int32))), (3, .int y2), (0, .ref a_t), (1, .int p1), (2, .int p2)]) (v := x4 + (1 : Int32)) dX6_enemiesOf_32 (t := 4) rfl rfl (by decide) rfl ?_
      refine j_goto C (pc := 35) 5 dX6_enemiesOf_35 (by decide) ?_
      refine j_sub [2, 3, 4, 1, 0] rfl ?_
      exact hk5 _ _ _ hf
theorem t_X6_enemiesOf_5 {G : Gx} {K : Kx} (C : Cx G K cX6_enemiesOf RX6 5 4) {a_t : Nat} {r_t : Nat → Nat} {r_holding : Nat → Nat} {v_people : Int32} {v_day : Int32} {v_dead : Int32} {v_buried : Int32} {a_holding : Nat} {v_hates : Nat → Int32} {v_vs : Nat → Int32} {v_kinds : Nat → Int32} {v_holding_length : Int32} {v_holding_need : Int32} {v_holding_steps : Nat → Int32} {v_holding_numbers : Nat → Int32} {v_rows : Nat → Int32} {p1 : Int32} {p2 : Int32} {q : Int32 × (Nat → Int32)} (hQ : k_retI G K cX6_enemiesOf 5 .int [oX6 a_t r_t v_people v_day v_dead v_buried a_holding, aI G (r_t 8) 36 v_hates, aI G (r_t 6) 6 v_vs, aI G (r_t 5) 6 v_kinds, aI G (r_t 13) 6 q.2, oX2 a_holding r_holding v_holding_length v_holding_need, aI G (r_holding 0) 100 v_holding_steps, aI G (r_holding 1) 100 v_holding_numbers, aI G (r_t 9) 24 v_rows] q.1) : ∀ (n : Nat) (x3 : Int32) (x4 : Int32) (w_facts : Nat → Int32), f_X6_enemiesOf_5 v_people v_dead v_hates v_vs v_kinds v_holding_length v_holding_need v_holding_steps v_holding_numbers v_rows p1 p2 n x3 x4 w_facts = some q → J G K 5 0 0 [oX6 a_t r_t v_people v_day v_dead v_buried a_holding, aI G (r_t 8) 36 v_hates, aI G (r_t 6) 6 v_vs, aI G (r_t 5) 6 v_kinds, aI G (r_t 13) 6 w_facts, oX2 a_holding r_holding v_holding_length v_holding_need, aI G (r_holding 0) 100 v_holding_steps, aI G (r_holding 1) 100 v_holding_numbers, aI G (r_t 9) 24 v_rows] [(0, .ref a_t), (1, .int p1), (2, .int p2), (3, .int x3), (4, .int x4)] 5 [] := by
  intro n
  induction n with
  | zero => intro x3 x4 w_facts hf; cases hf
  | succ n ih => intro x3 x4 w_facts hf; exact t_X6_enemiesOf_5_b C hQ ih hf
def f_X6_enemiesOf (v_people : Int32) (v_dead : Int32) (v_hates : Nat → Int32) (v_vs : Nat → Int32) (v_kinds : Nat → Int32) (v_facts : Nat → Int32) (v_holding_length : Int32) (v_holding_need : Int32) (v_holding_steps : Nat → Int32) (v_holding_numbers : Nat → Int32) (v_rows : Nat → Int32) (p1 : Int32) (p2 : Int32) : Option (Int32 × (Nat → Int32)) := (f_X6_enemiesOf_5 v_people v_dead v_hates v_vs v_kinds v_holding_length v_holding_need v_holding_steps v_holding_numbers v_rows p1 p2 1000 (0 : Int32) (0 : Int32) v_facts)
set_option maxRecDepth 20000 in
set_option maxHeartbeats 1000000 in
theorem t_X6_enemiesOf {G : Gx} {K : Kx} (C : Cx G K cX6_enemiesOf RX6 5 4) {a_t : Nat} {r_t : Nat → Nat} {r_holding : Nat → Nat} {v_people : Int32} {v_day : Int32} {v_dead : Int32} {v_buried : Int32} {a_holding : Nat} {v_hates : Nat → Int32} {v_vs : Nat → Int32} {v_kinds : Nat → Int32} {v_facts : Nat → Int32} {v_holding_length : Int32} {v_holding_need : Int32} {v_holding_steps : Nat → Int32} {v_holding_numbers : Nat → Int32} {v_rows : Nat → Int32} {p1 : Int32} {p2 : Int32} {q : Int32 × (Nat → Int32)} (hQ : k_retI G K cX6_enemiesOf 5 .int [oX6 a_t r_t v_people v_day v_dead v_buried a_holding, aI G (r_t 8) 36 v_hates, aI G (r_t 6) 6 v_vs, aI G (r_t 5) 6 v_kinds, aI G (r_t 13) 6 q.2, oX2 a_holding r_holding v_holding_length v_holding_need, aI G (r_holding 0) 100 v_holding_steps, aI G (r_holding 1) 100 v_holding_numbers, aI G (r_t 9) 24 v_rows] q.1) (hf : f_X6_enemiesOf v_people v_dead v_hates v_vs v_kinds v_facts v_holding_length v_holding_need v_holding_steps v_holding_numbers v_rows p1 p2 = some q) : J G K 5 0 0 [oX6 a_t r_t v_people v_day v_dead v_buried a_holding, aI G (r_t 8) 36 v_hates, aI G (r_t 6) 6 v_vs, aI G (r_t 5) 6 v_kinds, aI G (r_t 13) 6 v_facts, oX2 a_holding r_holding v_holding_length v_holding_need, aI G (r_holding 0) 100 v_holding_steps, aI G (r_holding 1) 100 v_holding_numbers, aI G (r_t 9) 24 v_rows] [(0, .ref a_t), (1, .int p1), (2, .int p2)] 0 [] := by
  unfold f_X6_enemiesOf at hf
  refine j_iconst C (pc := 0) (v := 0) (by decide) dX6_enemiesOf_0 ?_
  refine j_istore_n C (pc := 1) (L' := [(3, .int (0 : Int32)), (0, .ref a_t), (1, .int p1), (2, .int p2)]) dX6_enemiesOf_1 rfl (by decide) rfl ?_
  refine j_iconst C (pc := 2) (v := 0) (by decide) dX6_enemiesOf_2 ?_
  refine j_istore C (pc := 3) (L' := [(4, .int (0 : Int32)), (3, .int (0 : Int32)), (0, .ref a_t), (1, .int p1), (2, .int p2)]) dX6_enemiesOf_3 (by decide) rfl ?_
  refine j_sub [2, 3, 4, 1, 0] rfl ?_
  exact t_X6_enemiesOf_5 C hQ 1000 _ _ _ hf
def ct_X6_enemiesOf (G : Gx) (l : Launch) (F : Int32 → Int32 → (Nat → Int32) → (Nat → Int32) → (Nat → Int32) → (Nat → Int32) → Int32 → Int32 → (Nat → Int32) → (Nat → Int32) → (Nat → Int32) → Int32 → Int32 → Option (Int32 × (Nat → Int32))) (lv : Nat) : Prop := ∀ (a_t : Nat) (r_t : Nat → Nat) (r_holding : Nat → Nat) (v_people : Int32) (v_day : Int32) (v_dead : Int32) (v_buried : Int32) (a_holding : Nat) (v_hates : Nat → Int32) (v_vs : Nat → Int32) (v_kinds : Nat → Int32) (v_facts : Nat → Int32) (v_holding_length : Int32) (v_holding_need : Int32) (v_holding_steps : Nat → Int32) (v_holding_numbers : Nat → Int32) (v_rows : Nat → Int32) (p1 : Int32) (p2 : Int32), ∀ (q : Int32 × (Nat → Int32)), F v_people v_dead v_hates v_vs v_kinds v_facts v_holding_length v_holding_need v_holding_steps v_holding_numbers v_rows p1 p2 = some q → MI G l yX6_enemiesOf cX6_enemiesOf 5 .int lv [.ref a_t, .int p1, .int p2] [oX6 a_t r_t v_people v_day v_dead v_buried a_holding, aI G (r_t 8) 36 v_hates, aI G (r_t 6) 6 v_vs, aI G (r_t 5) 6 v_kinds, aI G (r_t 13) 6 v_facts, oX2 a_holding r_holding v_holding_length v_holding_need, aI G (r_holding 0) 100 v_holding_steps, aI G (r_holding 1) 100 v_holding_numbers, aI G (r_t 9) 24 v_rows] [oX6 a_t r_t v_people v_day v_dead v_buried a_holding, aI G (r_t 8) 36 v_hates, aI G (r_t 6) 6 v_vs, aI G (r_t 5) 6 v_kinds, aI G (r_t 13) 6 q.2, oX2 a_holding r_holding v_holding_length v_holding_need, aI G (r_holding 0) 100 v_holding_steps, aI G (r_holding 1) 100 v_holding_numbers, aI G (r_t 9) 24 v_rows] q.1
theorem c_X6_enemiesOf (G : Gx) (l : Launch) : ct_X6_enemiesOf G l f_X6_enemiesOf 4 := by
  intro a_t r_t r_holding v_people v_day v_dead v_buried a_holding v_hates v_vs v_kinds v_facts v_holding_length v_holding_need v_holding_steps v_holding_numbers v_rows p1 p2 q hf
  exact mI_of (by decide +kernel) rfl (fun K hl C hQ => t_X6_enemiesOf C hQ hf)
-- X1_findEnemies
def f_X1_findEnemies_2_b (v_p1_people : Int32) (v_p1_day : Int32) (v_p1_dead : Int32) (v_p1_hates : Nat → Int32) (v_p1_vs : Nat → Int32) (v_p1_kinds : Nat → Int32) (v_p1_holding_length : Int32) (v_p1_holding_need : Int32) (v_p1_holding_steps : Nat → Int32) (v_p1_holding_numbers : Nat → Int32) (v_p1_rows : Nat → Int32) (p2 : Int32) (k2 : Int32 → (Nat → Int32) → (Nat → Int32) → Option ((Nat → Int32) × (Nat → Int32))) (x3 : Int32) (w_enemies : Nat → Int32) (w_p1_facts : Nat → Int32) : Option ((Nat → Int32) × (Nat → Int32)) := (if (6 : Int32) ≤ x3 then (some (w_enemies, w_p1_facts)) else ((f_X7_bit p2 x3).bind fun q1 => (if q1 = (1 : Int32) then ((f_X6_enemiesOf v_p1_people v_p1_dead v_p1_hates v_p1_vs v_p1_kinds w_p1_facts v_p1_holding_length v_p1_holding_need v_p1_holding_steps v_p1_holding_numbers v_p1_rows x3 v_p1_day).bind fun q2 => (gd x3 6 (k2 (x3 + (1 : Int32)) (upd w_enemies x3.toNatClampNeg q2.1) q2.2))) else (gd x3 6 (k2 (x3 + (1 : Int32)) (upd w_enemies x3.toNatClampNeg (0 : Int32)) w_p1_facts)))))
def f_X1_findEnemies_2 (v_p1_people : Int32) (v_p1_day : Int32) (v_p1_dead : Int32) (v_p1_hates : Nat → Int32) (v_p1_vs : Nat → Int32) (v_p1_kinds : Nat → Int32) (v_p1_holding_length : Int32) (v_p1_holding_need : Int32) (v_p1_holding_steps : Nat → Int32) (v_p1_holding_numbers : Nat → Int32) (v_p1_rows : Nat → Int32) (p2 : Int32) : Nat → Int32 → (Nat → Int32) → (Nat → Int32) → Option ((Nat → Int32) × (Nat → Int32))
  | 0 => fun _ _ _ => none
  | n + 1 => f_X1_findEnemies_2_b v_p1_people v_p1_day v_p1_dead v_p1_hates v_p1_vs v_p1_kinds v_p1_holding_length v_p1_holding_need v_p1_holding_steps v_p1_holding_numbers v_p1_rows p2 (f_X1_findEnemies_2 v_p1_people v_p1_day v_p1_dead v_p1_hates v_p1_vs v_p1_kinds v_p1_holding_length v_p1_holding_need v_p1_holding_steps v_p1_holding_numbers v_p1_rows p2 n)
set_option maxRecDepth 20000 in
set_option maxHeartbeats 1000000 in
theorem t_X1_findEnemies_2_b {G : Gx} {K : Kx} (C : Cx G K cX1_findEnemies RX1 4 5) {a_t : Nat} {r_t : Nat → Nat} {a_p1 : Nat} {r_p1 : Nat → Nat} {r_p1_holding : Nat → Nat} {v_p1_people : Int32} {v_p1_day : Int32} {v_p1_dead : Int32} {v_p1_buried : Int32} {a_p1_holding : Nat} {v_p1_hates : Nat → Int32} {v_p1_vs : Nat → Int32} {v_p1_kinds : Nat → Int32} {v_p1_holding_length : Int32} {v_p1_holding_need : Int32} {v_p1_holding_steps : Nat → Int32} {v_p1_holding_numbers : Nat → Int32} {v_p1_rows : Nat → Int32} {p2 : Int32} {q : (Nat → Int32) × (Nat → Int32)} (hQ : k_retV G K cX1_findEnemies 4 [oX1 a_t r_t, oX6 a_p1 r_p1 v_p1_people v_p1_day v_p1_dead v_p1_buried a_p1_holding, aI G (r_t 0) 6 q.1, aI G (r_p1 8) 36 v_p1_hates, aI G (r_p1 6) 6 v_p1_vs, aI G (r_p1 5) 6 v_p1_kinds, aI G (r_p1 13) 6 q.2, oX2 a_p1_holding r_p1_holding v_p1_holding_length v_p1_holding_need, aI G (r_p1_holding 0) 100 v_p1_holding_steps, aI G (r_p1_holding 1) 100 v_p1_holding_numbers, aI G (r_p1 9) 24 v_p1_rows]) {k2 : Int32 → (Nat → Int32) → (Nat → Int32) → Option ((Nat → Int32) × (Nat → Int32))} (hk2 : ∀ (x3 : Int32) (w_enemies : Nat → Int32) (w_p1_facts : Nat → Int32), k2 x3 w_enemies w_p1_facts = some q → J G K 4 0 0 [oX1 a_t r_t, oX6 a_p1 r_p1 v_p1_people v_p1_day v_p1_dead v_p1_buried a_p1_holding, aI G (r_t 0) 6 w_enemies, aI G (r_p1 8) 36 v_p1_hates, aI G (r_p1 6) 6 v_p1_vs, aI G (r_p1 5) 6 v_p1_kinds, aI G (r_p1 13) 6 w_p1_facts, oX2 a_p1_holding r_p1_holding v_p1_holding_length v_p1_holding_need, aI G (r_p1_holding 0) 100 v_p1_holding_steps, aI G (r_p1_holding 1) 100 v_p1_holding_numbers, aI G (r_p1 9) 24 v_p1_rows] [(0, .ref a_t), (1, .ref a_p1), (2, .int p2), (3, .int x3)] 2 []) {x3 : Int32} {w_enemies : Nat → Int32} {w_p1_facts : Nat → Int32} (hf : f_X1_findEnemies_2_b v_p1_people v_p1_day v_p1_dead v_p1_hates v_p1_vs v_p1_kinds v_p1_holding_length v_p1_holding_need v_p1_holding_steps v_p1_holding_numbers v_p1_rows p2 k2 x3 w_enemies w_p1_facts = some q) : J G K 4 0 0 [oX1 a_t r_t, oX6 a_p1 r_p1 v_p1_people v_p1_day v_p1_dead v_p1_buried a_p1_holding, aI G (r_t 0) 6 w_enemies, aI G (r_p1 8) 36 v_p1_hates, aI G (r_p1 6) 6 v_p1_vs, aI G (r_p1 5) 6 v_p1_kinds, aI G (r_p1 13) 6 w_p1_facts, oX2 a_p1_holding r_p1_holding v_p1_holding_length v_p1_holding_need, aI G (r_p1_holding 0) 100 v_p1_holding_steps, aI G (r_p1_holding 1) 100 v_p1_holding_numbers, aI G (r_p1 9) 24 v_p1_rows] [(0, .ref a_t), (1, .ref a_p1), (2, .int p2), (3, .int x3)] 2 [] := by
  unfold f_X1_findEnemies_2_b at hf
  refine j_iload_n C (pc := 2) 3 rfl rfl dX1_findEnemies_2 ?_
  refine j_bipush C (pc := 3) (v := 6) (by decide) dX1_findEnemies_3 ?_
  refine j_icmp_ge C (pc := 5) 42 dX1_findEnemies_5 (by decide) hf (fun hf => ?_) (fun hf => ?_)
  · obtain rfl := Option.some.inj hf
    exact hQ _ _ dX1_findEnemies_42
  · refine j_aload_n C (pc := 8) 0 rfl rfl dX1_findEnemies_8 ?_
    refine j_get C (pc := 9) kc_X1 fl_X1_9 0 rfl rfl dX1_findEnemies_9 ?_
    refine j_iload_n C (pc := 12) 3 rfl rfl dX1_findEnemies_12 ?_
    refine j_iload_n C (pc := 13) 2 rfl rfl dX1_findEnemies_13 ?_
    refine j_iload_n C (pc := 14) 3 rfl rfl dX1_findEnemies_14 ?_
    refine j_cSNI C (pc := 15) (As := [.int p2, .int x3]) (st := [.int x3, .ref (r_t 0)]) (ws' := fun q1 => [oX1 a_t r_t, oX6 a_p1 r_p1 v_p1_people v_p1_day v_p1_dead v_p1_buried a_p1_holding, aI G (r_t 0) 6 w_enemies, aI G (r_p1 8) 36 v_p1_hates, aI G (r_p1 6) 6 v_p1_vs, aI G (r_p1 5) 6 v_p1_kinds, aI G (r_p1 13) 6 w_p1_facts, oX2 a_p1_holding r_p1_holding v_p1_holding_length v_p1_holding_need, aI G (r_p1_holding 0) 100 v_p1_holding_steps, aI G (r_p1_holding 1) 100 v_p1_holding_numbers, aI G (r_p1 9) 24 v_p1_rows]) ml_X1_24 ms_X7_bit hf (fun q1 h => (c_X7_bit G K.2.1) p2 x3 q1 h) [] [none, none, none, none, none, none, none, none, none, none, none] 11 rfl (by decide +kernel) (by decide +kernel) (fun _ => rfl) (fun _ => rfl) rfl rfl rfl rfl ⟨Nat.zero_le _, Nat.zero_le _⟩ dX1_findEnemies_15 (fun q1 hf => ?_)
    refine j_iconst C (pc := 18) (v := 1) (by decide) dX1_findEnemies_18 ?_
    refine j_icmp_ne C (pc := 19) 34 dX1_findEnemies_19 (by decide) hf (fun hf => ?_) (fun hf => ?_)
    · refine j_iconst C (pc := 34) (v := 0) (by decide) dX1_findEnemies_34 ?_
      refine j_iast C (pc := 35) (ws' := [oX1 a_t r_t, oX6 a_p1 r_p1 v_p1_people v_p1_day v_p1_dead v_p1_buried a_p1_holding, aI G (r_t 0) 6 (upd w_enemies x3.toNatClampNeg (0 : Int32)), aI G (r_p1 8) 36 v_p1_hates, aI G (r_p1 6) 6 v_p1_vs, aI G (r_p1 5) 6 v_p1_kinds, aI G (r_p1 13) 6 w_p1_facts, oX2 a_p1_holding r_p1_holding v_p1_holding_length v_p1_holding_need, aI G (r_p1_holding 0) 100 v_p1_holding_steps, aI G (r_p1_holding 1) 100 v_p1_holding_numbers, aI G (r_p1 9) 24 v_p1_rows]) 2 rfl hf rfl dX1_findEnemies_35 (fun hf => ?_)
      refine j_iinc C (pc := 36) (L' := [(3, .int (x3 + (1 : Int32))), (0, .ref a_t), (1, .ref a_p1), (2, .int p2)]) (v := x3 + (1 : Int32)) dX1_findEnemies_36 (t := 3) rfl rfl (by decide) rfl ?_
      refine j_goto C (pc := 39) 2 dX1_findEnemies_39 (by decide) ?_
      refine j_sub [1, 2, 3, 0] rfl ?_
      exact hk2 _ _ _ hf
    · refine j_aload_n C (pc := 22) 1 rfl rfl dX1_findEnemies_22 ?_
      refine j_iload_n C (pc := 23) 3 rfl rfl dX1_findEnemies_23 ?_
      refine j_aload_n C (pc := 24) 1 rfl rfl dX1_findEnemies_24 ?_
      refine j_getN C (pc := 25) kc_X6 fl_X1_28 1 rfl rfl dX1_findEnemies_25 ?_
      refine j_cVI C (pc := 28) (As := [.int x3, .int v_p1_day]) (st := [.int x3, .ref (r_t 0)]) (ws' := fun q2 => [oX1 a_t r_t, oX6 a_p1 r_p1 v_p1_people v_p1_day v_p1_dead v_p1_buried a_p1_holding, aI G (r_t 0) 6 w_enemies, aI G (r_p1 8) 36 v_p1_hates, aI G (r_p1 6) 6 v_p1_vs, aI G (r_p1 5) 6 v_p1_kinds, aI G (r_p1 13) 6 q2.2, oX2 a_p1_holding r_p1_holding v_p1_holding_length v_p1_holding_need, aI G (r_p1_holding 0) 100 v_p1_holding_steps, aI G (r_p1_holding 1) 100 v_p1_holding_numbers, aI G (r_p1 9) 24 v_p1_rows]) ml_X1_34 ms_X6_enemiesOf hf (fun q2 h => (c_X6_enemiesOf G K.2.1) a_p1 r_p1 r_p1_holding v_p1_people v_p1_day v_p1_dead v_p1_buried a_p1_holding v_p1_hates v_p1_vs v_p1_kinds w_p1_facts v_p1_holding_length v_p1_holding_need v_p1_holding_steps v_p1_holding_numbers v_p1_rows x3 v_p1_day q2 h) [1, 3, 4, 5, 6, 7, 8, 9, 10] [none, some 0, none, some 1, some 2, some 3, some 4, some 5, some 6, some 7, some 8] 11 rfl (by decide +kernel) (by decide +kernel) (fun _ => rfl) (fun _ => rfl) rfl rfl rfl rfl ⟨Nat.zero_le _, Nat.zero_le _⟩ dX1_findEnemies_28 kc_X6 1 rfl (fun q2 hf => ?_)
      refine j_goto C (pc := 31) 35 dX1_findEnemies_31 (by decide) ?_
      refine j_iast C (pc := 35) (ws' := [oX1 a_t r_t, oX6 a_p1 r_p1 v_p1_people v_p1_day v_p1_dead v_p1_buried a_p1_holding, aI G (r_t 0) 6 (upd w_enemies x3.toNatClampNeg q2.1), aI G (r_p1 8) 36 v_p1_hates, aI G (r_p1 6) 6 v_p1_vs, aI G (r_p1 5) 6 v_p1_kinds, aI G (r_p1 13) 6 q2.2, oX2 a_p1_holding r_p1_holding v_p1_holding_length v_p1_holding_need, aI G (r_p1_holding 0) 100 v_p1_holding_steps, aI G (r_p1_holding 1) 100 v_p1_holding_numbers, aI G (r_p1 9) 24 v_p1_rows]) 2 rfl hf rfl dX1_findEnemies_35 (fun hf => ?_)
      refine j_iinc C (pc := 36) (L' := [(3, .int (x3 + (1 : Int32))), (0, .ref a_t), (1, .ref a_p1), (2, .int p2)]) (v := x3 + (1 : Int32)) dX1_findEnemies_36 (t := 3) rfl rfl (by decide) rfl ?_
      refine j_goto C (pc := 39) 2 dX1_findEnemies_39 (by decide) ?_
      refine j_sub [1, 2, 3, 0] rfl ?_
      exact hk2 _ _ _ hf
theorem t_X1_findEnemies_2 {G : Gx} {K : Kx} (C : Cx G K cX1_findEnemies RX1 4 5) {a_t : Nat} {r_t : Nat → Nat} {a_p1 : Nat} {r_p1 : Nat → Nat} {r_p1_holding : Nat → Nat} {v_p1_people : Int32} {v_p1_day : Int32} {v_p1_dead : Int32} {v_p1_buried : Int32} {a_p1_holding : Nat} {v_p1_hates : Nat → Int32} {v_p1_vs : Nat → Int32} {v_p1_kinds : Nat → Int32} {v_p1_holding_length : Int32} {v_p1_holding_need : Int32} {v_p1_holding_steps : Nat → Int32} {v_p1_holding_numbers : Nat → Int32} {v_p1_rows : Nat → Int32} {p2 : Int32} {q : (Nat → Int32) × (Nat → Int32)} (hQ : k_retV G K cX1_findEnemies 4 [oX1 a_t r_t, oX6 a_p1 r_p1 v_p1_people v_p1_day v_p1_dead v_p1_buried a_p1_holding, aI G (r_t 0) 6 q.1, aI G (r_p1 8) 36 v_p1_hates, aI G (r_p1 6) 6 v_p1_vs, aI G (r_p1 5) 6 v_p1_kinds, aI G (r_p1 13) 6 q.2, oX2 a_p1_holding r_p1_holding v_p1_holding_length v_p1_holding_need, aI G (r_p1_holding 0) 100 v_p1_holding_steps, aI G (r_p1_holding 1) 100 v_p1_holding_numbers, aI G (r_p1 9) 24 v_p1_rows]) : ∀ (n : Nat) (x3 : Int32) (w_enemies : Nat → Int32) (w_p1_facts : Nat → Int32), f_X1_findEnemies_2 v_p1_people v_p1_day v_p1_dead v_p1_hates v_p1_vs v_p1_kinds v_p1_holding_length v_p1_holding_need v_p1_holding_steps v_p1_holding_numbers v_p1_rows p2 n x3 w_enemies w_p1_facts = some q → J G K 4 0 0 [oX1 a_t r_t, oX6 a_p1 r_p1 v_p1_people v_p1_day v_p1_dead v_p1_buried a_p1_holding, aI G (r_t 0) 6 w_enemies, aI G (r_p1 8) 36 v_p1_hates, aI G (r_p1 6) 6 v_p1_vs, aI G (r_p1 5) 6 v_p1_kinds, aI G (r_p1 13) 6 w_p1_facts, oX2 a_p1_holding r_p1_holding v_p1_holding_length v_p1_holding_need, aI G (r_p1_holding 0) 100 v_p1_holding_steps, aI G (r_p1_holding 1) 100 v_p1_holding_numbers, aI G (r_p1 9) 24 v_p1_rows] [(0, .ref a_t), (1, .ref a_p1), (2, .int p2), (3, .int x3)] 2 [] := by
  intro n
  induction n with
  | zero => intro x3 w_enemies w_p1_facts hf; cases hf
  | succ n ih => intro x3 w_enemies w_p1_facts hf; exact t_X1_findEnemies_2_b C hQ ih hf
def f_X1_findEnemies (v_p1_people : Int32) (v_p1_day : Int32) (v_p1_dead : Int32) (v_enemies : Nat → Int32) (v_p1_hates : Nat → Int32) (v_p1_vs : Nat → Int32) (v_p1_kinds : Nat → Int32) (v_p1_facts : Nat → Int32) (v_p1_holding_length : Int32) (v_p1_holding_need : Int32) (v_p1_holding_steps : Nat → Int32) (v_p1_holding_numbers : Nat → Int32) (v_p1_rows : Nat → Int32) (p2 : Int32) : Option ((Nat → Int32) × (Nat → Int32)) := (f_X1_findEnemies_2 v_p1_people v_p1_day v_p1_dead v_p1_hates v_p1_vs v_p1_kinds v_p1_holding_length v_p1_holding_need v_p1_holding_steps v_p1_holding_numbers v_p1_rows p2 1000 (0 : Int32) v_enemies v_p1_facts)
set_option maxRecDepth 20000 in
set_option maxHeartbeats 1000000 in
theorem t_X1_findEnemies {G : Gx} {K : Kx} (C : Cx G K cX1_findEnemies RX1 4 5) {a_t : Nat} {r_t : Nat → Nat} {a_p1 : Nat} {r_p1 : Nat → Nat} {r_p1_holding : Nat → Nat} {v_p1_people : Int32} {v_p1_day : Int32} {v_p1_dead : Int32} {v_p1_buried : Int32} {a_p1_holding : Nat} {v_enemies : Nat → Int32} {v_p1_hates : Nat → Int32} {v_p1_vs : Nat → Int32} {v_p1_kinds : Nat → Int32} {v_p1_facts : Nat → Int32} {v_p1_holding_length : Int32} {v_p1_holding_need : Int32} {v_p1_holding_steps : Nat → Int32} {v_p1_holding_numbers : Nat → Int32} {v_p1_rows : Nat → Int32} {p2 : Int32} {q : (Nat → Int32) × (Nat → Int32)} (hQ : k_retV G K cX1_findEnemies 4 [oX1 a_t r_t, oX6 a_p1 r_p1 v_p1_people v_p1_day v_p1_dead v_p1_buried a_p1_holding, aI G (r_t 0) 6 q.1, aI G (r_p1 8) 36 v_p1_hates, aI G (r_p1 6) 6 v_p1_vs, aI G (r_p1 5) 6 v_p1_kinds, aI G (r_p1 13) 6 q.2, oX2 a_p1_holding r_p1_holding v_p1_holding_length v_p1_holding_need, aI G (r_p1_holding 0) 100 v_p1_holding_steps, aI G (r_p1_holding 1) 100 v_p1_holding_numbers, aI G (r_p1 9) 24 v_p1_rows]) (hf : f_X1_findEnemies v_p1_people v_p1_day v_p1_dead v_enemies v_p1_hates v_p1_vs v_p1_kinds v_p1_facts v_p1_holding_length v_p1_holding_need v_p1_holding_steps v_p1_holding_numbers v_p1_rows p2 = some q) : J G K 4 0 0 [oX1 a_t r_t, oX6 a_p1 r_p1 v_p1_people v_p1_day v_p1_dead v_p1_buried a_p1_holding, aI G (r_t 0) 6 v_enemies, aI G (r_p1 8) 36 v_p1_hates, aI G (r_p1 6) 6 v_p1_vs, aI G (r_p1 5) 6 v_p1_kinds, aI G (r_p1 13) 6 v_p1_facts, oX2 a_p1_holding r_p1_holding v_p1_holding_length v_p1_holding_need, aI G (r_p1_holding 0) 100 v_p1_holding_steps, aI G (r_p1_holding 1) 100 v_p1_holding_numbers, aI G (r_p1 9) 24 v_p1_rows] [(0, .ref a_t), (1, .ref a_p1), (2, .int p2)] 0 [] := by
  unfold f_X1_findEnemies at hf
  refine j_iconst C (pc := 0) (v := 0) (by decide) dX1_findEnemies_0 ?_
  refine j_istore_n C (pc := 1) (L' := [(3, .int (0 : Int32)), (0, .ref a_t), (1, .ref a_p1), (2, .int p2)]) dX1_findEnemies_1 rfl (by decide) rfl ?_
  refine j_sub [1, 2, 3, 0] rfl ?_
  exact t_X1_findEnemies_2 C hQ 1000 _ _ _ hf
def ct_X1_findEnemies (G : Gx) (l : Launch) (F : Int32 → Int32 → Int32 → (Nat → Int32) → (Nat → Int32) → (Nat → Int32) → (Nat → Int32) → (Nat → Int32) → Int32 → Int32 → (Nat → Int32) → (Nat → Int32) → (Nat → Int32) → Int32 → Option ((Nat → Int32) × (Nat → Int32))) (lv : Nat) : Prop := ∀ (a_t : Nat) (r_t : Nat → Nat) (a_p1 : Nat) (r_p1 : Nat → Nat) (r_p1_holding : Nat → Nat) (v_p1_people : Int32) (v_p1_day : Int32) (v_p1_dead : Int32) (v_p1_buried : Int32) (a_p1_holding : Nat) (v_enemies : Nat → Int32) (v_p1_hates : Nat → Int32) (v_p1_vs : Nat → Int32) (v_p1_kinds : Nat → Int32) (v_p1_facts : Nat → Int32) (v_p1_holding_length : Int32) (v_p1_holding_need : Int32) (v_p1_holding_steps : Nat → Int32) (v_p1_holding_numbers : Nat → Int32) (v_p1_rows : Nat → Int32) (p2 : Int32), ∀ (q : (Nat → Int32) × (Nat → Int32)), F v_p1_people v_p1_day v_p1_dead v_enemies v_p1_hates v_p1_vs v_p1_kinds v_p1_facts v_p1_holding_length v_p1_holding_need v_p1_holding_steps v_p1_holding_numbers v_p1_rows p2 = some q → MV G l yX1_findEnemies cX1_findEnemies 4 lv [.ref a_t, .ref a_p1, .int p2] [oX1 a_t r_t, oX6 a_p1 r_p1 v_p1_people v_p1_day v_p1_dead v_p1_buried a_p1_holding, aI G (r_t 0) 6 v_enemies, aI G (r_p1 8) 36 v_p1_hates, aI G (r_p1 6) 6 v_p1_vs, aI G (r_p1 5) 6 v_p1_kinds, aI G (r_p1 13) 6 v_p1_facts, oX2 a_p1_holding r_p1_holding v_p1_holding_length v_p1_holding_need, aI G (r_p1_holding 0) 100 v_p1_holding_steps, aI G (r_p1_holding 1) 100 v_p1_holding_numbers, aI G (r_p1 9) 24 v_p1_rows] [oX1 a_t r_t, oX6 a_p1 r_p1 v_p1_people v_p1_day v_p1_dead v_p1_buried a_p1_holding, aI G (r_t 0) 6 q.1, aI G (r_p1 8) 36 v_p1_hates, aI G (r_p1 6) 6 v_p1_vs, aI G (r_p1 5) 6 v_p1_kinds, aI G (r_p1 13) 6 q.2, oX2 a_p1_holding r_p1_holding v_p1_holding_length v_p1_holding_need, aI G (r_p1_holding 0) 100 v_p1_holding_steps, aI G (r_p1_holding 1) 100 v_p1_holding_numbers, aI G (r_p1 9) 24 v_p1_rows]
theorem c_X1_findEnemies (G : Gx) (l : Launch) : ct_X1_findEnemies G l f_X1_findEnemies 5 := by
  intro a_t r_t a_p1 r_p1 r_p1_holding v_p1_people v_p1_day v_p1_dead v_p1_buried a_p1_holding v_enemies v_p1_hates v_p1_vs v_p1_kinds v_p1_facts v_p1_holding_length v_p1_holding_need v_p1_holding_steps v_p1_holding_numbers v_p1_rows p2 q hf
  exact mV_of (by decide +kernel) rfl (fun K hl C hQ => t_X1_findEnemies C hQ hf)
-- X1_findEnemiesByDay
def f_X1_findEnemiesByDay_10_b (v_p1_people : Int32) (v_p1_day : Int32) (v_p1_dead : Int32) (v_p1_hates : Nat → Int32) (v_p1_vs : Nat → Int32) (v_p1_kinds : Nat → Int32) (v_p1_holding_length : Int32) (v_p1_holding_need : Int32) (v_p1_holding_steps : Nat → Int32) (v_p1_holding_numbers : Nat → Int32) (v_p1_rows : Nat → Int32) (k2 : Int32 → (Nat → Int32) → (Nat → Int32) → Option ((Nat → Int32) × (Nat → Int32))) (k10 : Int32 → Int32 → (Nat → Int32) → (Nat → Int32) → Option ((Nat → Int32) × (Nat → Int32))) (x2 : Int32) (x3 : Int32) (w_enemiesByDay : Nat → Int32) (w_p1_facts : Nat → Int32) : Option ((Nat → Int32) × (Nat → Int32)) := (if (6 : Int32) ≤ x3 then (k2 (x2 + (1 : Int32)) w_enemiesByDay w_p1_facts) else (nm (v_p1_day + x2) fun y1 => ((f_X6_has v_p1_people x3).bind fun q2 => (if q2 = 0 then (gd ((x2 * (6 : Int32)) + x3) 36 (k10 x2 (x3 + (1 : Int32)) (upd w_enemiesByDay ((x2 * (6 : Int32)) + x3).toNatClampNeg (0 : Int32)) w_p1_facts)) else ((f_X6_enemiesOf v_p1_people v_p1_dead v_p1_hates v_p1_vs v_p1_kinds w_p1_facts v_p1_holding_length v_p1_holding_need v_p1_holding_steps v_p1_holding_numbers v_p1_rows x3 y1).bind fun q3 => (gd ((x2 * (6 : Int32)) + x3) 36 (k10 x2 (x3 + (1 : Int32)) (upd w_enemiesByDay ((x2 * (6 : Int32)) + x3).toNatClampNeg q3.1) q3.2)))))))
def f_X1_findEnemiesByDay_10 (v_p1_people : Int32) (v_p1_day : Int32) (v_p1_dead : Int32) (v_p1_hates : Nat → Int32) (v_p1_vs : Nat → Int32) (v_p1_kinds : Nat → Int32) (v_p1_holding_length : Int32) (v_p1_holding_need : Int32) (v_p1_holding_steps : Nat → Int32) (v_p1_holding_numbers : Nat → Int32) (v_p1_rows : Nat → Int32) (k2 : Int32 → (Nat → Int32) → (Nat → Int32) → Option ((Nat → Int32) × (Nat → Int32))) : Nat → Int32 → Int32 → (Nat → Int32) → (Nat → Int32) → Option ((Nat → Int32) × (Nat → Int32))
  | 0 => fun _ _ _ _ => none
  | n + 1 => f_X1_findEnemiesByDay_10_b v_p1_people v_p1_day v_p1_dead v_p1_hates v_p1_vs v_p1_kinds v_p1_holding_length v_p1_holding_need v_p1_holding_steps v_p1_holding_numbers v_p1_rows k2 (f_X1_findEnemiesByDay_10 v_p1_people v_p1_day v_p1_dead v_p1_hates v_p1_vs v_p1_kinds v_p1_holding_length v_p1_holding_need v_p1_holding_steps v_p1_holding_numbers v_p1_rows k2 n)
set_option maxRecDepth 20000 in
set_option maxHeartbeats 1000000 in
theorem t_X1_findEnemiesByDay_10_b {G : Gx} {K : Kx} (C : Cx G K cX1_findEnemiesByDay RX1 5 5) {a_t : Nat} {r_t : Nat → Nat} {a_p1 : Nat} {r_p1 : Nat → Nat} {r_p1_holding : Nat → Nat} {v_p1_people : Int32} {v_p1_day : Int32} {v_p1_dead : Int32} {v_p1_buried : Int32} {a_p1_holding : Nat} {v_p1_hates : Nat → Int32} {v_p1_vs : Nat → Int32} {v_p1_kinds : Nat → Int32} {v_p1_holding_length : Int32} {v_p1_holding_need : Int32} {v_p1_holding_steps : Nat → Int32} {v_p1_holding_numbers : Nat → Int32} {v_p1_rows : Nat → Int32} {q : (Nat → Int32) × (Nat → Int32)} (hQ : k_retV G K cX1_findEnemiesByDay 5 [oX1 a_t r_t, oX6 a_p1 r_p1 v_p1_people v_p1_day v_p1_dead v_p1_buried a_p1_holding, aI G (r_t 2) 36 q.1, aI G (r_p1 8) 36 v_p1_hates, aI G (r_p1 6) 6 v_p1_vs, aI G (r_p1 5) 6 v_p1_kinds, aI G (r_p1 13) 6 q.2, oX2 a_p1_holding r_p1_holding v_p1_holding_length v_p1_holding_need, aI G (r_p1_holding 0) 100 v_p1_holding_steps, aI G (r_p1_holding 1) 100 v_p1_holding_numbers, aI G (r_p1 9) 24 v_p1_rows]) {k2 : Int32 → (Nat → Int32) → (Nat → Int32) → Option ((Nat → Int32) × (Nat → Int32))} {k10 : Int32 → Int32 → (Nat → Int32) → (Nat → Int32) → Option ((Nat → Int32) × (Nat → Int32))} (hk2 : ∀ (x2 : Int32) (w_enemiesByDay : Nat → Int32) (w_p1_facts : Nat → Int32), k2 x2 w_enemiesByDay w_p1_facts = some q → J G K 5 0 0 [oX1 a_t r_t, oX6 a_p1 r_p1 v_p1_people v_p1_day v_p1_dead v_p1_buried a_p1_holding, aI G (r_t 2) 36 w_enemiesByDay, aI G (r_p1 8) 36 v_p1_hates, aI G (r_p1 6) 6 v_p1_vs, aI G (r_p1 5) 6 v_p1_kinds, aI G (r_p1 13) 6 w_p1_facts, oX2 a_p1_holding r_p1_holding v_p1_holding_length v_p1_holding_need, aI G (r_p1_holding 0) 100 v_p1_holding_steps, aI G (r_p1_holding 1) 100 v_p1_holding_numbers, aI G (r_p1 9) 24 v_p1_rows] [(0, .ref a_t), (1, .ref a_p1), (2, .int x2)] 2 []) (hk10 : ∀ (x2 : Int32) (x3 : Int32) (w_enemiesByDay : Nat → Int32) (w_p1_facts : Nat → Int32), k10 x2 x3 w_enemiesByDay w_p1_facts = some q → J G K 5 0 0 [oX1 a_t r_t, oX6 a_p1 r_p1 v_p1_people v_p1_day v_p1_dead v_p1_buried a_p1_holding, aI G (r_t 2) 36 w_enemiesByDay, aI G (r_p1 8) 36 v_p1_hates, aI G (r_p1 6) 6 v_p1_vs, aI G (r_p1 5) 6 v_p1_kinds, aI G (r_p1 13) 6 w_p1_facts, oX2 a_p1_holding r_p1_holding v_p1_holding_length v_p1_holding_need, aI G (r_p1_holding 0) 100 v_p1_holding_steps, aI G (r_p1_holding 1) 100 v_p1_holding_numbers, aI G (r_p1 9) 24 v_p1_rows] [(0, .ref a_t), (1, .ref a_p1), (2, .int x2), (3, .int x3)] 10 []) {x2 : Int32} {x3 : Int32} {w_enemiesByDay : Nat → Int32} {w_p1_facts : Nat → Int32} (hf : f_X1_findEnemiesByDay_10_b v_p1_people v_p1_day v_p1_dead v_p1_hates v_p1_vs v_p1_kinds v_p1_holding_length v_p1_holding_need v_p1_holding_steps v_p1_holding_numbers v_p1_rows k2 k10 x2 x3 w_enemiesByDay w_p1_facts = some q) : J G K 5 0 0 [oX1 a_t r_t, oX6 a_p1 r_p1 v_p1_people v_p1_day v_p1_dead v_p1_buried a_p1_holding, aI G (r_t 2) 36 w_enemiesByDay, aI G (r_p1 8) 36 v_p1_hates, aI G (r_p1 6) 6 v_p1_vs, aI G (r_p1 5) 6 v_p1_kinds, aI G (r_p1 13) 6 w_p1_facts, oX2 a_p1_holding r_p1_holding v_p1_holding_length v_p1_holding_need, aI G (r_p1_holding 0) 100 v_p1_holding_steps, aI G (r_p1_holding 1) 100 v_p1_holding_numbers, aI G (r_p1 9) 24 v_p1_rows] [(0, .ref a_t), (1, .ref a_p1), (2, .int x2), (3, .int x3)] 10 [] := by
  unfold f_X1_findEnemiesByDay_10_b at hf
  refine j_iload_n C (pc := 10) 3 rfl rfl dX1_findEnemiesByDay_10 ?_
  refine j_bipush C (pc := 11) (v := 6) (by decide) dX1_findEnemiesByDay_11 ?_
  refine j_icmp_ge C (pc := 13) 60 dX1_findEnemiesByDay_13 (by decide) hf (fun hf => ?_) (fun hf => ?_)
  · refine j_iinc C (pc := 60) (L' := [(2, .int (x2 + (1 : Int32))), (0, .ref a_t), (1, .ref a_p1), (3, .int x3)]) (v := x2 + (1 : Int32)) dX1_findEnemiesByDay_60 (t := 2) rfl rfl (by decide) rfl ?_
    refine j_goto C (pc := 63) 2 dX1_findEnemiesByDay_63 (by decide) ?_
    refine j_sub [1, 2, 0] rfl ?_
    exact hk2 _ _ _ hf
  · refine j_aload_n C (pc := 16) 1 rfl rfl dX1_findEnemiesByDay_16 ?_
    refine j_getN C (pc := 17) kc_X6 fl_X1_28 1 rfl rfl dX1_findEnemiesByDay_17 ?_
    refine j_iload_n C (pc := 20) 2 rfl rfl dX1_findEnemiesByDay_20 ?_
    refine j_iadd C (pc := 21) dX1_findEnemiesByDay_21 ?_
    refine j_nm hf (fun y1 hf => ?_)
    refine j_istore C (pc := 22) (L' := [(4, .int y1), (0, .ref a_t), (1, .ref a_p1), (2, .int x2), (3, .int x3)]) dX1_findEnemiesByDay_22 (by decide) rfl ?_
    refine j_aload_n C (pc := 24) 1 rfl rfl dX1_findEnemiesByDay_24 ?_
    refine j_get C (pc := 25) kc_X1 fl_X1_18 0 rfl rfl dX1_findEnemiesByDay_25 ?_
    refine j_iload_n C (pc := 28) 3 rfl rfl dX1_findEnemiesByDay_28 ?_
    refine j_bipush C (pc := 29) (v := 6) (by decide) dX1_findEnemiesByDay_29 ?_
    refine j_imul C (pc := 31) dX1_findEnemiesByDay_31 ?_
    refine j_iload_n C (pc := 32) 4 rfl rfl dX1_findEnemiesByDay_32 ?_
    refine j_iadd C (pc := 33) dX1_findEnemiesByDay_33 ?_
    refine j_aload_n C (pc := 34) 2 rfl rfl dX1_findEnemiesByDay_34 ?_
    refine j_iload_n C (pc := 35) 4 rfl rfl dX1_findEnemiesByDay_35 ?_
    refine j_cVI C (pc := 36) (As := [.int x3]) (st := [.int ((x2 * (6 : Int32)) + x3), .ref (r_t 2)]) (ws' := fun q2 => [oX1 a_t r_t, oX6 a_p1 r_p1 v_p1_people v_p1_day v_p1_dead v_p1_buried a_p1_holding, aI G (r_t 2) 36 w_enemiesByDay, aI G (r_p1 8) 36 v_p1_hates, aI G (r_p1 6) 6 v_p1_vs, aI G (r_p1 5) 6 v_p1_kinds, aI G (r_p1 13) 6 w_p1_facts, oX2 a_p1_holding r_p1_holding v_p1_holding_length v_p1_holding_need, aI G (r_p1_holding 0) 100 v_p1_holding_steps, aI G (r_p1_holding 1) 100 v_p1_holding_numbers, aI G (r_p1 9) 24 v_p1_rows]) ml_X1_70 ms_X6_has hf (fun q2 h => (c_X6_has G K.2.1) a_p1 r_p1 v_p1_people v_p1_day v_p1_dead v_p1_buried a_p1_holding x3 q2 h) [1] [none, some 0, none, none, none, none, none, none, none, none, none] 11 rfl (by decide +kernel) (by decide +kernel) (fun _ => rfl) (fun _ => rfl) rfl rfl rfl rfl ⟨Nat.zero_le _, Nat.zero_le _⟩ dX1_findEnemiesByDay_36 kc_X6 1 rfl (fun q2 hf => ?_)
    refine j_if_eq C (pc := 39) 52 dX1_findEnemiesByDay_39 (by decide) hf (fun hf => ?_) (fun hf => ?_)
    · refine j_iconst C (pc := 52) (v := 0) (by decide) dX1_findEnemiesByDay_52 ?_
      refine j_iast C (pc := 53) (ws' := [oX1 a_t r_t, oX6 a_p1 r_p1 v_p1_people v_p1_day v_p1_dead v_p1_buried a_p1_holding, aI G (r_t 2) 36 (upd w_enemiesByDay ((x2 * (6 : Int32)) + x3).toNatClampNeg (0 : Int32)), aI G (r_p1 8) 36 v_p1_hates, aI G (r_p1 6) 6 v_p1_vs, aI G (r_p1 5) 6 v_p1_kinds, aI G (r_p1 13) 6 w_p1_facts, oX2 a_p1_holding r_p1_holding v_p1_holding_length v_p1_holding_need, aI G (r_p1_holding 0) 100 v_p1_holding_steps, aI G (r_p1_holding 1) 100 v_p1_holding_numbers, aI G (r_p1 9) 24 v_p1_rows]) 2 rfl hf rfl dX1_findEnemiesByDay_53 (fun hf => ?_)
      refine j_iinc C (pc := 54) (L' := [(3, .int (x3 + (1 : Int32))), (4, .int y1), (0, .ref a_t), (1, .ref a_p1), (2, .int x2)]) (v := x3 + (1 : Int32)) dX1_findEnemiesByDay_54 (t := 4) rfl rfl (by decide) rfl ?_
      refine j_goto C (pc := 57) 10 dX1_findEnemiesByDay_57 (by decide) ?_
      refine j_sub [2, 3, 4, 0] rfl ?_
      exact hk10 _ _ _ _ hf
    · refine j_aload_n C (pc := 42) 2 rfl rfl dX1_findEnemiesByDay_42 ?_
      refine j_iload_n C (pc := 43) 4 rfl rfl dX1_findEnemiesByDay_43 ?_
      refine j_iload C (pc := 44) 0 rfl dX1_findEnemiesByDay_44 ?_
      refine j_cVI C (pc := 46) (As := [.int x3, .int y1]) (st := [.int ((x2 * (6 : Int32)) + x3), .ref (r_t 2)]) (ws' := fun q3 => [oX1 a_t r_t, oX6 a_p1 r_p1 v_p1_people v_p1_day v_p1_dead v_p1_buried a_p1_holding, aI G (r_t 2) 36 w_enemiesByDay, aI G (r_p1 8) 36 v_p1_hates, aI G (r_p1 6) 6 v_p1_vs, aI G (r_p1 5) 6 v_p1_kinds, aI G (r_p1 13) 6 q3.2, oX2 a_p1_holding r_p1_holding v_p1_holding_length v_p1_holding_need, aI G (r_p1_holding 0) 100 v_p1_holding_steps, aI G (r_p1_holding 1) 100 v_p1_holding_numbers, aI G (r_p1 9) 24 v_p1_rows]) ml_X1_34 ms_X6_enemiesOf hf (fun q3 h => (c_X6_enemiesOf G K.2.1) a_p1 r_p1 r_p1_holding v_p1_people v_p1_day v_p1_dead v_p1_buried a_p1_holding v_p1_hates v_p1_vs v_p1_kinds w_p1_facts v_p1_holding_length v_p1_holding_need v_p1_holding_steps v_p1_holding_numbers v_p1_rows x3 y1 q3 h) [1, 3, 4, 5, 6, 7, 8, 9, 10] [none, some 0, none, some 1, some 2, some 3, some 4, some 5, some 6, some 7, some 8] 11 rfl (by decide +kernel) (by decide +kernel) (fun _ => rfl) (fun _ => rfl) rfl rfl rfl rfl ⟨Nat.zero_le _, Nat.zero_le _⟩ dX1_findEnemiesByDay_46 kc_X6 1 rfl (fun q3 hf => ?_)
      refine j_goto C (pc := 49) 53 dX1_findEnemiesByDay_49 (by decide) ?_
      refine j_iast C (pc := 53) (ws' := [oX1 a_t r_t, oX6 a_p1 r_p1 v_p1_people v_p1_day v_p1_dead v_p1_buried a_p1_holding, aI G (r_t 2) 36 (upd w_enemiesByDay ((x2 * (6 : Int32)) + x3).toNatClampNeg q3.1), aI G (r_p1 8) 36 v_p1_hates, aI G (r_p1 6) 6 v_p1_vs, aI G (r_p1 5) 6 v_p1_kinds, aI G (r_p1 13) 6 q3.2, oX2 a_p1_holding r_p1_holding v_p1_holding_length v_p1_holding_need, aI G (r_p1_holding 0) 100 v_p1_holding_steps, aI G (r_p1_holding 1) 100 v_p1_holding_numbers, aI G (r_p1 9) 24 v_p1_rows]) 2 rfl hf rfl dX1_findEnemiesByDay_53 (fun hf => ?_)
      refine j_iinc C (pc := 54) (L' := [(3, .int (x3 + (1 : Int32))), (4, .int y1), (0, .ref a_t), (1, .ref a_p1), (2, .int x2)]) (v := x3 + (1 : Int32)) dX1_findEnemiesByDay_54 (t := 4) rfl rfl (by decide) rfl ?_
      refine j_goto C (pc := 57) 10 dX1_findEnemiesByDay_57 (by decide) ?_
      refine j_sub [2, 3, 4, 0] rfl ?_
      exact hk10 _ _ _ _ hf
theorem t_X1_findEnemiesByDay_10 {G : Gx} {K : Kx} (C : Cx G K cX1_findEnemiesByDay RX1 5 5) {a_t : Nat} {r_t : Nat → Nat} {a_p1 : Nat} {r_p1 : Nat → Nat} {r_p1_holding : Nat → Nat} {v_p1_people : Int32} {v_p1_day : Int32} {v_p1_dead : Int32} {v_p1_buried : Int32} {a_p1_holding : Nat} {v_p1_hates : Nat → Int32} {v_p1_vs : Nat → Int32} {v_p1_kinds : Nat → Int32} {v_p1_holding_length : Int32} {v_p1_holding_need : Int32} {v_p1_holding_steps : Nat → Int32} {v_p1_holding_numbers : Nat → Int32} {v_p1_rows : Nat → Int32} {q : (Nat → Int32) × (Nat → Int32)} (hQ : k_retV G K cX1_findEnemiesByDay 5 [oX1 a_t r_t, oX6 a_p1 r_p1 v_p1_people v_p1_day v_p1_dead v_p1_buried a_p1_holding, aI G (r_t 2) 36 q.1, aI G (r_p1 8) 36 v_p1_hates, aI G (r_p1 6) 6 v_p1_vs, aI G (r_p1 5) 6 v_p1_kinds, aI G (r_p1 13) 6 q.2, oX2 a_p1_holding r_p1_holding v_p1_holding_length v_p1_holding_need, aI G (r_p1_holding 0) 100 v_p1_holding_steps, aI G (r_p1_holding 1) 100 v_p1_holding_numbers, aI G (r_p1 9) 24 v_p1_rows]) {k2 : Int32 → (Nat → Int32) → (Nat → Int32) → Option ((Nat → Int32) × (Nat → Int32))} (hk2 : ∀ (x2 : Int32) (w_enemiesByDay : Nat → Int32) (w_p1_facts : Nat → Int32), k2 x2 w_enemiesByDay w_p1_facts = some q → J G K 5 0 0 [oX1 a_t r_t, oX6 a_p1 r_p1 v_p1_people v_p1_day v_p1_dead v_p1_buried a_p1_holding, aI G (r_t 2) 36 w_enemiesByDay, aI G (r_p1 8) 36 v_p1_hates, aI G (r_p1 6) 6 v_p1_vs, aI G (r_p1 5) 6 v_p1_kinds, aI G (r_p1 13) 6 w_p1_facts, oX2 a_p1_holding r_p1_holding v_p1_holding_length v_p1_holding_need, aI G (r_p1_holding 0) 100 v_p1_holding_steps, aI G (r_p1_holding 1) 100 v_p1_holding_numbers, aI G (r_p1 9) 24 v_p1_rows] [(0, .ref a_t), (1, .ref a_p1), (2, .int x2)] 2 []) : ∀ (n : Nat) (x2 : Int32) (x3 : Int32) (w_enemiesByDay : Nat → Int32) (w_p1_facts : Nat → Int32), f_X1_findEnemiesByDay_10 v_p1_people v_p1_day v_p1_dead v_p1_hates v_p1_vs v_p1_kinds v_p1_holding_length v_p1_holding_need v_p1_holding_steps v_p1_holding_numbers v_p1_rows k2 n x2 x3 w_enemiesByDay w_p1_facts = some q → J G K 5 0 0 [oX1 a_t r_t, oX6 a_p1 r_p1 v_p1_people v_p1_day v_p1_dead v_p1_buried a_p1_holding, aI G (r_t 2) 36 w_enemiesByDay, aI G (r_p1 8) 36 v_p1_hates, aI G (r_p1 6) 6 v_p1_vs, aI G (r_p1 5) 6 v_p1_kinds, aI G (r_p1 13) 6 w_p1_facts, oX2 a_p1_holding r_p1_holding v_p1_holding_length v_p1_holding_need, aI G (r_p1_holding 0) 100 v_p1_holding_steps, aI G (r_p1_holding 1) 100 v_p1_holding_numbers, aI G (r_p1 9) 24 v_p1_rows] [(0, .ref a_t), (1, .ref a_p1), (2, .int x2), (3, .int x3)] 10 [] := by
  intro n
  induction n with
  | zero => intro x2 x3 w_enemiesByDay w_p1_facts hf; cases hf
  | succ n ih => intro x2 x3 w_enemiesByDay w_p1_facts hf; exact t_X1_findEnemiesByDay_10_b C hQ hk2 ih hf
def f_X1_findEnemiesByDay_2_b (v_p1_people : Int32) (v_p1_day : Int32) (v_p1_dead : Int32) (v_p1_hates : Nat → Int32) (v_p1_vs : Nat → Int32) (v_p1_kinds : Nat → Int32) (v_p1_holding_length : Int32) (v_p1_holding_need : Int32) (v_p1_holding_steps : Nat → Int32) (v_p1_holding_numbers : Nat → Int32) (v_p1_rows : Nat → Int32) (k2 : Int32 → (Nat → Int32) → (Nat → Int32) → Option ((Nat → Int32) × (Nat → Int32))) (x2 : Int32) (w_enemiesByDay : Nat → Int32) (w_p1_facts : Nat → Int32) : Option ((Nat → Int32) × (Nat → Int32)) := (if (6 : Int32) ≤ x2 then (some (w_enemiesByDay, w_p1_facts)) else (f_X1_findEnemiesByDay_10 v_p1_people v_p1_day v_p1_dead v_p1_hates v_p1_vs v_p1_kinds v_p1_holding_length v_p1_holding_need v_p1_holding_steps v_p1_holding_numbers v_p1_rows k2 1000 x2 (0 : Int32) w_enemiesByDay w_p1_facts))
def f_X1_findEnemiesByDay_2 (v_p1_people : Int32) (v_p1_day : Int32) (v_p1_dead : Int32) (v_p1_hates : Nat → Int32) (v_p1_vs : Nat → Int32) (v_p1_kinds : Nat → Int32) (v_p1_holding_length : Int32) (v_p1_holding_need : Int32) (v_p1_holding_steps : Nat → Int32) (v_p1_holding_numbers : Nat → Int32) (v_p1_rows : Nat → Int32) : Nat → Int32 → (Nat → Int32) → (Nat → Int32) → Option ((Nat → Int32) × (Nat → Int32))
  | 0 => fun _ _ _ => none
  | n + 1 => f_X1_findEnemiesByDay_2_b v_p1_people v_p1_day v_p1_dead v_p1_hates v_p1_vs v_p1_kinds v_p1_holding_length v_p1_holding_need v_p1_holding_steps v_p1_holding_numbers v_p1_rows (f_X1_findEnemiesByDay_2 v_p1_people v_p1_day v_p1_dead v_p1_hates v_p1_vs v_p1_kinds v_p1_holding_length v_p1_holding_need v_p1_holding_steps v_p1_holding_numbers v_p1_rows n)
set_option maxRecDepth 20000 in
set_option maxHeartbeats 1000000 in
theorem t_X1_findEnemiesByDay_2_b {G : Gx} {K : Kx} (C : Cx G K cX1_findEnemiesByDay RX1 5 5) {a_t : Nat} {r_t : Nat → Nat} {a_p1 : Nat} {r_p1 : Nat → Nat} {r_p1_holding : Nat → Nat} {v_p1_people : Int32} {v_p1_day : Int32} {v_p1_dead : Int32} {v_p1_buried : Int32} {a_p1_holding : Nat} {v_p1_hates : Nat → Int32} {v_p1_vs : Nat → Int32} {v_p1_kinds : Nat → Int32} {v_p1_holding_length : Int32} {v_p1_holding_need : Int32} {v_p1_holding_steps : Nat → Int32} {v_p1_holding_numbers : Nat → Int32} {v_p1_rows : Nat → Int32} {q : (Nat → Int32) × (Nat → Int32)} (hQ : k_retV G K cX1_findEnemiesByDay 5 [oX1 a_t r_t, oX6 a_p1 r_p1 v_p1_people v_p1_day v_p1_dead v_p1_buried a_p1_holding, aI G (r_t 2) 36 q.1, aI G (r_p1 8) 36 v_p1_hates, aI G (r_p1 6) 6 v_p1_vs, aI G (r_p1 5) 6 v_p1_kinds, aI G (r_p1 13) 6 q.2, oX2 a_p1_holding r_p1_holding v_p1_holding_length v_p1_holding_need, aI G (r_p1_holding 0) 100 v_p1_holding_steps, aI G (r_p1_holding 1) 100 v_p1_holding_numbers, aI G (r_p1 9) 24 v_p1_rows]) {k2 : Int32 → (Nat → Int32) → (Nat → Int32) → Option ((Nat → Int32) × (Nat → Int32))} (hk2 : ∀ (x2 : Int32) (w_enemiesByDay : Nat → Int32) (w_p1_facts : Nat → Int32), k2 x2 w_enemiesByDay w_p1_facts = some q → J G K 5 0 0 [oX1 a_t r_t, oX6 a_p1 r_p1 v_p1_people v_p1_day v_p1_dead v_p1_buried a_p1_holding, aI G (r_t 2) 36 w_enemiesByDay, aI G (r_p1 8) 36 v_p1_hates, aI G (r_p1 6) 6 v_p1_vs, aI G (r_p1 5) 6 v_p1_kinds, aI G (r_p1 13) 6 w_p1_facts, oX2 a_p1_holding r_p1_holding v_p1_holding_length v_p1_holding_need, aI G (r_p1_holding 0) 100 v_p1_holding_steps, aI G (r_p1_holding 1) 100 v_p1_holding_numbers, aI G (r_p1 9) 24 v_p1_rows] [(0, .ref a_t), (1, .ref a_p1), (2, .int x2)] 2 []) {x2 : Int32} {w_enemiesByDay : Nat → Int32} {w_p1_facts : Nat → Int32} (hf : f_X1_findEnemiesByDay_2_b v_p1_people v_p1_day v_p1_dead v_p1_hates v_p1_vs v_p1_kinds v_p1_holding_length v_p1_holding_need v_p1_holding_steps v_p1_holding_numbers v_p1_rows k2 x2 w_enemiesByDay w_p1_facts = some q) : J G K 5 0 0 [oX1 a_t r_t, oX6 a_p1 r_p1 v_p1_people v_p1_day v_p1_dead v_p1_buried a_p1_holding, aI G (r_t 2) 36 w_enemiesByDay, aI G (r_p1 8) 36 v_p1_hates, aI G (r_p1 6) 6 v_p1_vs, aI G (r_p1 5) 6 v_p1_kinds, aI G (r_p1 13) 6 w_p1_facts, oX2 a_p1_holding r_p1_holding v_p1_holding_length v_p1_holding_need, aI G (r_p1_holding 0) 100 v_p1_holding_steps, aI G (r_p1_holding 1) 100 v_p1_holding_numbers, aI G (r_p1 9) 24 v_p1_rows] [(0, .ref a_t), (1, .ref a_p1), (2, .int x2)] 2 [] := by
  unfold f_X1_findEnemiesByDay_2_b at hf
  refine j_iload_n C (pc := 2) 2 rfl rfl dX1_findEnemiesByDay_2 ?_
  refine j_bipush C (pc := 3) (v := 6) (by decide) dX1_findEnemiesByDay_3 ?_
  refine j_icmp_ge C (pc := 5) 66 dX1_findEnemiesByDay_5 (by decide) hf (fun hf => ?_) (fun hf => ?_)
  · obtain rfl := Option.some.inj hf
    exact hQ _ _ dX1_findEnemiesByDay_66
  · refine j_iconst C (pc := 8) (v := 0) (by decide) dX1_findEnemiesByDay_8 ?_
    refine j_istore_n C (pc := 9) (L' := [(3, .int (0 : Int32)), (0, .ref a_t), (1, .ref a_p1), (2, .int x2)]) dX1_findEnemiesByDay_9 rfl (by decide) rfl ?_
    refine j_sub [1, 2, 3, 0] rfl ?_
    exact t_X1_findEnemiesByDay_10 C hQ hk2 1000 _ _ _ _ hf
theorem t_X1_findEnemiesByDay_2 {G : Gx} {K : Kx} (C : Cx G K cX1_findEnemiesByDay RX1 5 5) {a_t : Nat} {r_t : Nat → Nat} {a_p1 : Nat} {r_p1 : Nat → Nat} {r_p1_holding : Nat → Nat} {v_p1_people : Int32} {v_p1_day : Int32} {v_p1_dead : Int32} {v_p1_buried : Int32} {a_p1_holding : Nat} {v_p1_hates : Nat → Int32} {v_p1_vs : Nat → Int32} {v_p1_kinds : Nat → Int32} {v_p1_holding_length : Int32} {v_p1_holding_need : Int32} {v_p1_holding_steps : Nat → Int32} {v_p1_holding_numbers : Nat → Int32} {v_p1_rows : Nat → Int32} {q : (Nat → Int32) × (Nat → Int32)} (hQ : k_retV G K cX1_findEnemiesByDay 5 [oX1 a_t r_t, oX6 a_p1 r_p1 v_p1_people v_p1_day v_p1_dead v_p1_buried a_p1_holding, aI G (r_t 2) 36 q.1, aI G (r_p1 8) 36 v_p1_hates, aI G (r_p1 6) 6 v_p1_vs, aI G (r_p1 5) 6 v_p1_kinds, aI G (r_p1 13) 6 q.2, oX2 a_p1_holding r_p1_holding v_p1_holding_length v_p1_holding_need, aI G (r_p1_holding 0) 100 v_p1_holding_steps, aI G (r_p1_holding 1) 100 v_p1_holding_numbers, aI G (r_p1 9) 24 v_p1_rows]) : ∀ (n : Nat) (x2 : Int32) (w_enemiesByDay : Nat → Int32) (w_p1_facts : Nat → Int32), f_X1_findEnemiesByDay_2 v_p1_people v_p1_day v_p1_dead v_p1_hates v_p1_vs v_p1_kinds v_p1_holding_length v_p1_holding_need v_p1_holding_steps v_p1_holding_numbers v_p1_rows n x2 w_enemiesByDay w_p1_facts = some q → J G K 5 0 0 [oX1 a_t r_t, oX6 a_p1 r_p1 v_p1_people v_p1_day v_p1_dead v_p1_buried a_p1_holding, aI G (r_t 2) 36 w_enemiesByDay, aI G (r_p1 8) 36 v_p1_hates, aI G (r_p1 6) 6 v_p1_vs, aI G (r_p1 5) 6 v_p1_kinds, aI G (r_p1 13) 6 w_p1_facts, oX2 a_p1_holding r_p1_holding v_p1_holding_length v_p1_holding_need, aI G (r_p1_holding 0) 100 v_p1_holding_steps, aI G (r_p1_holding 1) 100 v_p1_holding_numbers, aI G (r_p1 9) 24 v_p1_rows] [(0, .ref a_t), (1, .ref a_p1), (2, .int x2)] 2 [] := by
  intro n
  induction n with
  | zero => intro x2 w_enemiesByDay w_p1_facts hf; cases hf
  | succ n ih => intro x2 w_enemiesByDay w_p1_facts hf; exact t_X1_findEnemiesByDay_2_b C hQ ih hf
def f_X1_findEnemiesByDay (v_p1_people : Int32) (v_p1_day : Int32) (v_p1_dead : Int32) (v_enemiesByDay : Nat → Int32) (v_p1_hates : Nat → Int32) (v_p1_vs : Nat → Int32) (v_p1_kinds : Nat → Int32) (v_p1_facts : Nat → Int32) (v_p1_holding_length : Int32) (v_p1_holding_need : Int32) (v_p1_holding_steps : Nat → Int32) (v_p1_holding_numbers : Nat → Int32) (v_p1_rows : Nat → Int32) : Option ((Nat → Int32) × (Nat → Int32)) := (f_X1_findEnemiesByDay_2 v_p1_people v_p1_day v_p1_dead v_p1_hates v_p1_vs v_p1_kinds v_p1_holding_length v_p1_holding_need v_p1_holding_steps v_p1_holding_numbers v_p1_rows 1000 (0 : Int32) v_enemiesByDay v_p1_facts)
set_option maxRecDepth 20000 in
set_option maxHeartbeats 1000000 in
theorem t_X1_findEnemiesByDay {G : Gx} {K : Kx} (C : Cx G K cX1_findEnemiesByDay RX1 5 5) {a_t : Nat} {r_t : Nat → Nat} {a_p1 : Nat} {r_p1 : Nat → Nat} {r_p1_holding : Nat → Nat} {v_p1_people : Int32} {v_p1_day : Int32} {v_p1_dead : Int32} {v_p1_buried : Int32} {a_p1_holding : Nat} {v_enemiesByDay : Nat → Int32} {v_p1_hates : Nat → Int32} {v_p1_vs : Nat → Int32} {v_p1_kinds : Nat → Int32} {v_p1_facts : Nat → Int32} {v_p1_holding_length : Int32} {v_p1_holding_need : Int32} {v_p1_holding_steps : Nat → Int32} {v_p1_holding_numbers : Nat → Int32} {v_p1_rows : Nat → Int32} {q : (Nat → Int32) × (Nat → Int32)} (hQ : k_retV G K cX1_findEnemiesByDay 5 [oX1 a_t r_t, oX6 a_p1 r_p1 v_p1_people v_p1_day v_p1_dead v_p1_buried a_p1_holding, aI G (r_t 2) 36 q.1, aI G (r_p1 8) 36 v_p1_hates, aI G (r_p1 6) 6 v_p1_vs, aI G (r_p1 5) 6 v_p1_kinds, aI G (r_p1 13) 6 q.2, oX2 a_p1_holding r_p1_holding v_p1_holding_length v_p1_holding_need, aI G (r_p1_holding 0) 100 v_p1_holding_steps, aI G (r_p1_holding 1) 100 v_p1_holding_numbers, aI G (r_p1 9) 24 v_p1_rows]) (hf : f_X1_findEnemiesByDay v_p1_people v_p1_day v_p1_dead v_enemiesByDay v_p1_hates v_p1_vs v_p1_kinds v_p1_facts v_p1_holding_length v_p1_holding_need v_p1_holding_steps v_p1_holding_numbers v_p1_rows = some q) : J G K 5 0 0 [oX1 a_t r_t, oX6 a_p1 r_p1 v_p1_people v_p1_day v_p1_dead v_p1_buried a_p1_holding, aI G (r_t 2) 36 v_enemiesByDay, aI G (r_p1 8) 36 v_p1_hates, aI G (r_p1 6) 6 v_p1_vs, aI G (r_p1 5) 6 v_p1_kinds, aI G (r_p1 13) 6 v_p1_facts, oX2 a_p1_holding r_p1_holding v_p1_holding_length v_p1_holding_need, aI G (r_p1_holding 0) 100 v_p1_holding_steps, aI G (r_p1_holding 1) 100 v_p1_holding_numbers, aI G (r_p1 9) 24 v_p1_rows] [(0, .ref a_t), (1, .ref a_p1)] 0 [] := by
  unfold f_X1_findEnemiesByDay at hf
  refine j_iconst C (pc := 0) (v := 0) (by decide) dX1_findEnemiesByDay_0 ?_
  refine j_istore_n C (pc := 1) (L' := [(2, .int (0 : Int32)), (0, .ref a_t), (1, .ref a_p1)]) dX1_findEnemiesByDay_1 rfl (by decide) rfl ?_
  refine j_sub [1, 2, 0] rfl ?_
  exact t_X1_findEnemiesByDay_2 C hQ 1000 _ _ _ hf
def ct_X1_findEnemiesByDay (G : Gx) (l : Launch) (F : Int32 → Int32 → Int32 → (Nat → Int32) → (Nat → Int32) → (Nat → Int32) → (Nat → Int32) → (Nat → Int32) → Int32 → Int32 → (Nat → Int32) → (Nat → Int32) → (Nat → Int32) → Option ((Nat → Int32) × (Nat → Int32))) (lv : Nat) : Prop := ∀ (a_t : Nat) (r_t : Nat → Nat) (a_p1 : Nat) (r_p1 : Nat → Nat) (r_p1_holding : Nat → Nat) (v_p1_people : Int32) (v_p1_day : Int32) (v_p1_dead : Int32) (v_p1_buried : Int32) (a_p1_holding : Nat) (v_enemiesByDay : Nat → Int32) (v_p1_hates : Nat → Int32) (v_p1_vs : Nat → Int32) (v_p1_kinds : Nat → Int32) (v_p1_facts : Nat → Int32) (v_p1_holding_length : Int32) (v_p1_holding_need : Int32) (v_p1_holding_steps : Nat → Int32) (v_p1_holding_numbers : Nat → Int32) (v_p1_rows : Nat → Int32), ∀ (q : (Nat → Int32) × (Nat → Int32)), F v_p1_people v_p1_day v_p1_dead v_enemiesByDay v_p1_hates v_p1_vs v_p1_kinds v_p1_facts v_p1_holding_length v_p1_holding_need v_p1_holding_steps v_p1_holding_numbers v_p1_rows = some q → MV G l yX1_findEnemiesByDay cX1_findEnemiesByDay 5 lv [.ref a_t, .ref a_p1] [oX1 a_t r_t, oX6 a_p1 r_p1 v_p1_people v_p1_day v_p1_dead v_p1_buried a_p1_holding, aI G (r_t 2) 36 v_enemiesByDay, aI G (r_p1 8) 36 v_p1_hates, aI G (r_p1 6) 6 v_p1_vs, aI G (r_p1 5) 6 v_p1_kinds, aI G (r_p1 13) 6 v_p1_facts, oX2 a_p1_holding r_p1_holding v_p1_holding_length v_p1_holding_need, aI G (r_p1_holding 0) 100 v_p1_holding_steps, aI G (r_p1_holding 1) 100 v_p1_holding_numbers, aI G (r_p1 9) 24 v_p1_rows] [oX1 a_t r_t, oX6 a_p1 r_p1 v_p1_people v_p1_day v_p1_dead v_p1_buried a_p1_holding, aI G (r_t 2) 36 q.1, aI G (r_p1 8) 36 v_p1_hates, aI G (r_p1 6) 6 v_p1_vs, aI G (r_p1 5) 6 v_p1_kinds, aI G (r_p1 13) 6 q.2, oX2 a_p1_holding r_p1_holding v_p1_holding_length v_p1_holding_need, aI G (r_p1_holding 0) 100 v_p1_holding_steps, aI G (r_p1_holding 1) 100 v_p1_holding_numbers, aI G (r_p1 9) 24 v_p1_rows]
theorem c_X1_findEnemiesByDay (G : Gx) (l : Launch) : ct_X1_findEnemiesByDay G l f_X1_findEnemiesByDay 5 := by
  intro a_t r_t a_p1 r_p1 r_p1_holding v_p1_people v_p1_day v_p1_dead v_p1_buried a_p1_holding v_enemiesByDay v_p1_hates v_p1_vs v_p1_kinds v_p1_facts v_p1_holding_length v_p1_holding_need v_p1_holding_steps v_p1_holding_numbers v_p1_rows q hf
  exact mV_of (by decide +kernel) rfl (fun K hl C hQ => t_X1_findEnemiesByDay C hQ hf)
def ct_X1_mostFrom (G : Gx) (l : Launch) (F : (Nat → Int32) → Int32 → Int32 → Option (Int32)) (lv : Nat) : Prop := ∀ (a_p1 : Nat) (v_p1 : Nat → Int32) (p2 : Int32) (p3 : Int32), ∀ (q : Int32), F v_p1 p2 p3 = some q → MI G l yX1_mostFrom cX1_mostFrom 5 .int lv [.ref a_p1, .int p2, .int p3] [aI G a_p1 6 v_p1] [aI G a_p1 6 v_p1] q
-- X1_mostFrom
def f_X1_mostFrom_30_b (rec_X1_mostFrom : (Nat → Int32) → Int32 → Int32 → Option (Int32)) (v_p1 : Nat → Int32) (p2 : Int32) (p3 : Int32) (k30 : Int32 → Int32 → Option (Int32)) (x3 : Int32) (x4 : Int32) : Option (Int32) := (if (6 : Int32) ≤ x4 then (some x3) else (gd p2 6 ((f_X7_bit ((v_p1 p2.toNatClampNeg) &&& (p3 ^^^ (-1 : Int32))) x4).bind fun q1 => (if q1 = (1 : Int32) then ((rec_X1_mostFrom v_p1 (p2 + (1 : Int32)) (p3 ||| ((1 : Int32) <<< (x4 &&& 31)))).bind fun q2 => ((f_J9_max_7cf53 x3 (q2 + (1 : Int32))).bind fun q3 => (k30 q3 (x4 + (1 : Int32))))) else (k30 x3 (x4 + (1 : Int32)))))))
def f_X1_mostFrom_30 (rec_X1_mostFrom : (Nat → Int32) → Int32 → Int32 → Option (Int32)) (v_p1 : Nat → Int32) (p2 : Int32) (p3 : Int32) : Nat → Int32 → Int32 → Option (Int32)
  | 0 => fun _ _ => none
  | n + 1 => f_X1_mostFrom_30_b rec_X1_mostFrom v_p1 p2 p3 (f_X1_mostFrom_30 rec_X1_mostFrom v_p1 p2 p3 n)
set_option maxRecDepth 20000 in
set_option maxHeartbeats 1000000 in
theorem t_X1_mostFrom_30_b {G : Gx} {K : Kx} {d : Nat} {rec_X1_mostFrom : (Nat → Int32) → Int32 → Int32 → Option (Int32)} (C : Cx G K cX1_mostFrom RX1 5 (2 + (d + 1))) {a_p1 : Nat} {v_p1 : Nat → Int32} {p2 : Int32} {p3 : Int32} {q : Int32} (hQ : k_retI G K cX1_mostFrom 5 .int [aI G a_p1 6 v_p1] q) (ih_X1_mostFrom : ct_X1_mostFrom G K.2.1 rec_X1_mostFrom (2 + d)) {k30 : Int32 → Int32 → Option (Int32)} (hk30 : ∀ (x3 : Int32) (x4 : Int32), k30 x3 x4 = some q → J G K 5 0 0 [aI G a_p1 6 v_p1] [(0, .ref a_p1), (1, .int p2), (2, .int p3), (3, .int x3), (4, .int x4)] 30 []) {x3 : Int32} {x4 : Int32} (hf : f_X1_mostFrom_30_b rec_X1_mostFrom v_p1 p2 p3 k30 x3 x4 = some q) : J G K 5 0 0 [aI G a_p1 6 v_p1] [(0, .ref a_p1), (1, .int p2), (2, .int p3), (3, .int x3), (4, .int x4)] 30 [] := by
  unfold f_X1_mostFrom_30_b at hf
  refine j_iload C (pc := 30) 4 rfl dX1_mostFrom_30 ?_
  refine j_bipush C (pc := 32) (v := 6) (by decide) dX1_mostFrom_32 ?_
  refine j_icmp_ge C (pc := 34) 79 dX1_mostFrom_34 (by decide) hf (fun hf => ?_) (fun hf => ?_)
  · refine j_iload_n C (pc := 79) 3 rfl rfl dX1_mostFrom_79 ?_
    obtain rfl := Option.some.inj hf
    exact hQ _ _ dX1_mostFrom_80 rfl
  · refine j_aload_n C (pc := 37) 0 rfl rfl dX1_mostFrom_37 ?_
    refine j_iload_n C (pc := 38) 1 rfl rfl dX1_mostFrom_38 ?_
    refine j_iald C (pc := 39) 0 rfl hf dX1_mostFrom_39 (fun hf => ?_)
    refine j_iload_n C (pc := 40) 2 rfl rfl dX1_mostFrom_40 ?_
    refine j_iconst C (pc := 41) (v := -1) (by decide) dX1_mostFrom_41 ?_
    refine j_ixor C (pc := 42) dX1_mostFrom_42 ?_
    refine j_iand C (pc := 43) dX1_mostFrom_43 ?_
    refine j_iload C (pc := 44) 4 rfl dX1_mostFrom_44 ?_
    refine j_cSNI C (pc := 46) (As := [.int ((v_p1 p2.toNatClampNeg) &&& (p3 ^^^ (-1 : Int32))), .int x4]) (st := []) (ws' := fun q1 => [aI G a_p1 6 v_p1]) ml_X1_24 ms_X7_bit hf (fun q1 h => (c_X7_bit G K.2.1) ((v_p1 p2.toNatClampNeg) &&& (p3 ^^^ (-1 : Int32))) x4 q1 h) [] [none] 1 rfl (by decide +kernel) (by decide +kernel) (fun _ => rfl) (fun _ => rfl) (Nat.ble_eq_true_of_le (by omega)) rfl rfl rfl ⟨Nat.zero_le _, Nat.zero_le _⟩ dX1_mostFrom_46 (fun q1 hf => ?_)
    refine j_iconst C (pc := 49) (v := 1) (by decide) dX1_mostFrom_49 ?_
    refine j_icmp_ne C (pc := 50) 73 dX1_mostFrom_50 (by decide) hf (fun hf => ?_) (fun hf => ?_)
    · refine j_iinc C (pc := 73) (L' := [(4, .int (x4 + (1 : Int32))), (0, .ref a_p1), (1, .int p2), (2, .int p3), (3, .int x3)]) (v := x4 + (1 : Int32)) dX1_mostFrom_73 (t := 4) rfl rfl (by decide) rfl ?_
      refine j_goto C (pc := 76) 30 dX1_mostFrom_76 (by decide) ?_
      refine j_sub [1, 2, 3, 4, 0] rfl ?_
      exact hk30 _ _ hf
    · refine j_iload_n C (pc := 53) 3 rfl rfl dX1_mostFrom_53 ?_
      refine j_aload_n C (pc := 54) 0 rfl rfl dX1_mostFrom_54 ?_
      refine j_iload_n C (pc := 55) 1 rfl rfl dX1_mostFrom_55 ?_
      refine j_iconst C (pc := 56) (v := 1) (by decide) dX1_mostFrom_56 ?_
      refine j_iadd C (pc := 57) dX1_mostFrom_57 ?_
      refine j_iload_n C (pc := 58) 2 rfl rfl dX1_mostFrom_58 ?_
      refine j_iconst C (pc := 59) (v := 1) (by decide) dX1_mostFrom_59 ?_
      refine j_iload C (pc := 60) 4 rfl dX1_mostFrom_60 ?_
      refine j_ishl C (pc := 62) dX1_mostFrom_62 ?_
      refine j_ior C (pc := 63) dX1_mostFrom_63 ?_
      refine j_cSI C (pc := 64) (As := [.ref a_p1, .int (p2 + (1 : Int32)), .int (p3 ||| ((1 : Int32) <<< (x4 &&& 31)))]) (st := [.int x3]) (ws' := fun q2 => [aI G a_p1 6 v_p1]) ml_X1_61 ms_X1_mostFrom hf (fun q2 h => ih_X1_mostFrom a_p1 v_p1 (p2 + (1 : Int32)) (p3 ||| ((1 : Int32) <<< (x4 &&& 31))) q2 h) [0] [some 0] 1 rfl (by decide +kernel) (by decide +kernel) (fun _ => rfl) (fun _ => rfl) (Nat.ble_eq_true_of_le (by omega)) rfl rfl rfl ⟨Nat.zero_le _, Nat.zero_le _⟩ dX1_mostFrom_64 (fun q2 hf => ?_)
      refine j_iconst C (pc := 67) (v := 1) (by decide) dX1_mostFrom_67 ?_
      refine j_iadd C (pc := 68) dX1_mostFrom_68 ?_
      refine j_cSI C (pc := 69) (As := [.int x3, .int (q2 + (1 : Int32))]) (st := []) (ws' := fun q3 => [aI G a_p1 6 v_p1]) ml_X1_65 ms_J9_max_7cf53 hf (fun q3 h => (c_J9_max_7cf53 G K.2.1) x3 (q2 + (1 : Int32)) q3 h) [] [none] 1 rfl (by decide +kernel) (by decide +kernel) (fun _ => rfl) (fun _ => rfl) (Nat.ble_eq_true_of_le (by omega)) rfl rfl rfl ⟨Nat.zero_le _, Nat.zero_le _⟩ dX1_mostFrom_69 (fun q3 hf => ?_)
      refine j_istore_n C (pc := 72) (L' := [(3, .int q3), (0, .ref a_p1), (1, .int p2), (2, .int p3), (4, .int x4)]) dX1_mostFrom_72 rfl (by decide) rfl ?_
      refine j_iinc C (pc := 73) (L' := [(4, .int (x4 + (1 : Int32))), (3, .int q3), (0, .ref a_p1), (1, .int p2), (2, .int p3)]) (v := x4 + (1 : Int32)) dX1_mostFrom_73 (t := 4) rfl rfl (by decide) rfl ?_
      refine j_goto C (pc := 76) 30 dX1_mostFrom_76 (by decide) ?_
      refine j_sub [2, 3, 4, 1, 0] rfl ?_
      exact hk30 _ _ hf
theorem t_X1_mostFrom_30 {G : Gx} {K : Kx} {d : Nat} {rec_X1_mostFrom : (Nat → Int32) → Int32 → Int32 → Option (Int32)} (C : Cx G K cX1_mostFrom RX1 5 (2 + (d + 1))) {a_p1 : Nat} {v_p1 : Nat → Int32} {p2 : Int32} {p3 : Int32} {q : Int32} (hQ : k_retI G K cX1_mostFrom 5 .int [aI G a_p1 6 v_p1] q) (ih_X1_mostFrom : ct_X1_mostFrom G K.2.1 rec_X1_mostFrom (2 + d)) : ∀ (n : Nat) (x3 : Int32) (x4 : Int32), f_X1_mostFrom_30 rec_X1_mostFrom v_p1 p2 p3 n x3 x4 = some q → J G K 5 0 0 [aI G a_p1 6 v_p1] [(0, .ref a_p1), (1, .int p2), (2, .int p3), (3, .int x3), (4, .int x4)] 30 [] := by
  intro n
  induction n with
  | zero => intro x3 x4 hf; cases hf
  | succ n ih => intro x3 x4 hf; exact t_X1_mostFrom_30_b C hQ ih_X1_mostFrom ih hf
def f_X1_mostFrom_b (rec_X1_mostFrom : (Nat → Int32) → Int32 → Int32 → Option (Int32)) (v_p1 : Nat → Int32) (p2 : Int32) (p3 : Int32) : Option (Int32) := (if p2 < 0 then (some (0 : Int32)) else (if (6 : Int32) ≤ p2 then (some (0 : Int32)) else (if p2 < (6 : Int32) then ((rec_X1_mostFrom v_p1 (p2 + (1 : Int32)) p3).bind fun q1 => (f_X1_mostFrom_30 rec_X1_mostFrom v_p1 p2 p3 1000 q1 (0 : Int32))) else (some (0 : Int32)))))
set_option maxRecDepth 20000 in
set_option maxHeartbeats 1000000 in
theorem t_X1_mostFrom {G : Gx} {K : Kx} {d : Nat} {rec_X1_mostFrom : (Nat → Int32) → Int32 → Int32 → Option (Int32)} (C : Cx G K cX1_mostFrom RX1 5 (2 + (d + 1))) {a_p1 : Nat} {v_p1 : Nat → Int32} {p2 : Int32} {p3 : Int32} {q : Int32} (hQ : k_retI G K cX1_mostFrom 5 .int [aI G a_p1 6 v_p1] q) (ih_X1_mostFrom : ct_X1_mostFrom G K.2.1 rec_X1_mostFrom (2 + d)) (hf : f_X1_mostFrom_b rec_X1_mostFrom v_p1 p2 p3 = some q) : J G K 5 0 0 [aI G a_p1 6 v_p1] [(0, .ref a_p1), (1, .int p2), (2, .int p3)] 0 [] := by
  unfold f_X1_mostFrom_b at hf
  refine j_iload_n C (pc := 0) 1 rfl rfl dX1_mostFrom_0 ?_
  refine j_if_lt C (pc := 1) 16 dX1_mostFrom_1 (by decide) hf (fun hf => ?_) (fun hf => ?_)
  · refine j_iconst C (pc := 16) (v := 0) (by decide) dX1_mostFrom_16 ?_
    obtain rfl := Option.some.inj hf
    exact hQ _ _ dX1_mostFrom_17 rfl
  · refine j_iload_n C (pc := 4) 1 rfl rfl dX1_mostFrom_4 ?_
    refine j_bipush C (pc := 5) (v := 6) (by decide) dX1_mostFrom_5 ?_
    refine j_icmp_ge C (pc := 7) 16 dX1_mostFrom_7 (by decide) hf (fun hf => ?_) (fun hf => ?_)
    · refine j_iconst C (pc := 16) (v := 0) (by decide) dX1_mostFrom_16 ?_
      obtain rfl := Option.some.inj hf
      exact hQ _ _ dX1_mostFrom_17 rfl
    · refine j_iload_n C (pc := 10) 1 rfl rfl dX1_mostFrom_10 ?_
      refine j_aload_n C (pc := 11) 0 rfl rfl dX1_mostFrom_11 ?_
      refine j_alen C (pc := 12) (v := 6) 0 rfl rfl rfl dX1_mostFrom_12 ?_
      refine j_icmp_lt C (pc := 13) 18 dX1_mostFrom_13 (by decide) hf (fun hf => ?_) (fun hf => ?_)
      · refine j_aload_n C (pc := 18) 0 rfl rfl dX1_mostFrom_18 ?_
        refine j_iload_n C (pc := 19) 1 rfl rfl dX1_mostFrom_19 ?_
        refine j_iconst C (pc := 20) (v := 1) (by decide) dX1_mostFrom_20 ?_
        refine j_iadd C (pc := 21) dX1_mostFrom_21 ?_
        refine j_iload_n C (pc := 22) 2 rfl rfl dX1_mostFrom_22 ?_
        refine j_cSI C (pc := 23) (As := [.ref a_p1, .int (p2 + (1 : Int32)), .int p3]) (st := []) (ws' := fun q1 => [aI G a_p1 6 v_p1]) ml_X1_61 ms_X1_mostFrom hf (fun q1 h => ih_X1_mostFrom a_p1 v_p1 (p2 + (1 : Int32)) p3 q1 h) [0] [some 0] 1 rfl (by decide +kernel) (by decide +kernel) (fun _ => rfl) (fun _ => rfl) (Nat.ble_eq_true_of_le (by omega)) rfl rfl rfl ⟨Nat.zero_le _, Nat.zero_le _⟩ dX1_mostFrom_23 (fun q1 hf => ?_)
        refine j_istore_n C (pc := 26) (L' := [(3, .int q1), (0, .ref a_p1), (1, .int p2), (2, .int p3)]) dX1_mostFrom_26 rfl (by decide) rfl ?_
        refine j_iconst C (pc := 27) (v := 0) (by decide) dX1_mostFrom_27 ?_
        refine j_istore C (pc := 28) (L' := [(4, .int (0 : Int32)), (3, .int q1), (0, .ref a_p1), (1, .int p2), (2, .int p3)]) dX1_mostFrom_28 (by decide) rfl ?_
        refine j_sub [2, 3, 4, 1, 0] rfl ?_
        exact t_X1_mostFrom_30 C hQ ih_X1_mostFrom 1000 _ _ hf
      · refine j_iconst C (pc := 16) (v := 0) (by decide) dX1_mostFrom_16 ?_
        obtain rfl := Option.some.inj hf
        exact hQ _ _ dX1_mostFrom_17 rfl
def f_X1_mostFrom : Nat → (Nat → Int32) → Int32 → Int32 → Option (Int32)
  | 0 => fun _ _ _ => none
  | d + 1 => f_X1_mostFrom_b (f_X1_mostFrom d)
theorem c_X1_mostFrom (G : Gx) (l : Launch) : ∀ d : Nat, ct_X1_mostFrom G l (f_X1_mostFrom d) (2 + d) := by
  intro d
  induction d with
  | zero => intro a_p1 v_p1 p2 p3 q hf; cases hf
  | succ d ih =>
    intro a_p1 v_p1 p2 p3 q hf
    exact mI_of (by decide +kernel) rfl (fun K hl C hQ => by subst hl; exact t_X1_mostFrom C hQ ih hf)
-- X1_findThrowers
def f_X1_findThrowers_98 (k34 : Int32 → Int32 → Int32 → Int32 → (Nat → Int32) → (Nat → Int32) → (Nat → Int32) → Option (Int32 × (Nat → Int32) × (Nat → Int32) × (Nat → Int32))) (k53 : Int32 → Int32 → Int32 → Int32 → Int32 → (Nat → Int32) → (Nat → Int32) → (Nat → Int32) → Option (Int32 × (Nat → Int32) × (Nat → Int32) × (Nat → Int32))) (k0 : Int32) (x2 : Int32) (x3 : Int32) (x4 : Int32) (x5 : Int32) (x6 : Int32) (w_enemies : Nat → Int32) (w_p1_facts : Nat → Int32) (w_throwers : Nat → Int32) : Option (Int32 × (Nat → Int32) × (Nat → Int32) × (Nat → Int32)) := (if k0 = 0 then (k53 x2 x3 x4 x5 (x6 + (1 : Int32)) w_enemies w_p1_facts w_throwers) else ((f_X1_mostFrom 10 w_enemies (x5 + (1 : Int32)) (x4 ||| ((1 : Int32) <<< (x6 &&& 31)))).bind fun q1 => (if (q1 + (1 : Int32)) = x3 then (gd x5 6 (nm (x4 ||| ((1 : Int32) <<< (x6 &&& 31))) fun y2 => (k53 x2 (x3 + (-1 : Int32)) y2 x5 (x6 + (1 : Int32)) w_enemies w_p1_facts (upd w_throwers x5.toNatClampNeg x6)))) else (k53 x2 x3 x4 x5 (x6 + (1 : Int32)) w_enemies w_p1_facts w_throwers))))
set_option maxRecDepth 20000 in
set_option maxHeartbeats 1000000 in
theorem t_X1_findThrowers_98 {G : Gx} {K : Kx} (C : Cx G K cX1_findThrowers RX1 8 13) {a_t : Nat} {r_t : Nat → Nat} {a_p1 : Nat} {r_p1 : Nat → Nat} {r_p1_holding : Nat → Nat} {v_p1_people : Int32} {v_p1_day : Int32} {v_p1_dead : Int32} {v_p1_buried : Int32} {a_p1_holding : Nat} {v_p1_hates : Nat → Int32} {v_p1_vs : Nat → Int32} {v_p1_kinds : Nat → Int32} {v_p1_holding_length : Int32} {v_p1_holding_need : Int32} {v_p1_holding_steps : Nat → Int32} {v_p1_holding_numbers : Nat → Int32} {v_p1_rows : Nat → Int32} {q : Int32 × (Nat → Int32) × (Nat → Int32) × (Nat → Int32)} (hQ : k_retI G K cX1_findThrowers 8 .int [oX1 a_t r_t, oX6 a_p1 r_p1 v_p1_people v_p1_day v_p1_dead v_p1_buried a_p1_holding, aI G (r_t 0) 6 q.2.1, aI G (r_p1 8) 36 v_p1_hates, aI G (r_p1 6) 6 v_p1_vs, aI G (r_p1 5) 6 v_p1_kinds, aI G (r_p1 13) 6 q.2.2.1, oX2 a_p1_holding r_p1_holding v_p1_holding_length v_p1_holding_need, aI G (r_p1_holding 0) 100 v_p1_holding_steps, aI G (r_p1_holding 1) 100 v_p1_holding_numbers, aI G (r_p1 9) 24 v_p1_rows, aI G (r_t 1) 6 q.2.2.2] q.1) {k34 : Int32 → Int32 → Int32 → Int32 → (Nat → Int32) → (Nat → Int32) → (Nat → Int32) → Option (Int32 × (Nat → Int32) × (Nat → Int32) × (Nat → Int32))} {k53 : Int32 → Int32 → Int32 → Int32 → Int32 → (Nat → Int32) → (Nat → Int32) → (Nat → Int32) → Option (Int32 × (Nat → Int32) × (Nat → Int32) × (Nat → Int32))} (hk34 : ∀ (x2 : Int32) (x3 : Int32) (x4 : Int32) (x5 : Int32) (w_enemies : Nat → Int32) (w_p1_facts : Nat → Int32) (w_throwers : Nat → Int32), k34 x2 x3 x4 x5 w_enemies w_p1_facts w_throwers = some q → J G K 8 0 0 [oX1 a_t r_t, oX6 a_p1 r_p1 v_p1_people v_p1_day v_p1_dead v_p1_buried a_p1_holding, aI G (r_t 0) 6 w_enemies, aI G (r_p1 8) 36 v_p1_hates, aI G (r_p1 6) 6 v_p1_vs, aI G (r_p1 5) 6 v_p1_kinds, aI G (r_p1 13) 6 w_p1_facts, oX2 a_p1_holding r_p1_holding v_p1_holding_length v_p1_holding_need, aI G (r_p1_holding 0) 100 v_p1_holding_steps, aI G (r_p1_holding 1) 100 v_p1_holding_numbers, aI G (r_p1 9) 24 v_p1_rows, aI G (r_t 1) 6 w_throwers] [(0, .ref a_t), (2, .int x2), (3, .int x3), (4, .int x4), (5, .int x5)] 34 []) (hk53 : ∀ (x2 : Int32) (x3 : Int32) (x4 : Int32) (x5 : Int32) (x6 : Int32) (w_enemies : Nat → Int32) (w_p1_facts : Nat → Int32) (w_throwers : Nat → Int32), k53 x2 x3 x4 x5 x6 w_enemies w_p1_facts w_throwers = some q → J G K 8 0 0 [oX1 a_t r_t, oX6 a_p1 r_p1 v_p1_people v_p1_day v_p1_dead v_p1_buried a_p1_holding, aI G (r_t 0) 6 w_enemies, aI G (r_p1 8) 36 v_p1_hates, aI G (r_p1 6) 6 v_p1_vs, aI G (r_p1 5) 6 v_p1_kinds, aI G (r_p1 13) 6 w_p1_facts, oX2 a_p1_holding r_p1_holding v_p1_holding_length v_p1_holding_need, aI G (r_p1_holding 0) 100 v_p1_holding_steps, aI G (r_p1_holding 1) 100 v_p1_holding_numbers, aI G (r_p1 9) 24 v_p1_rows, aI G (r_t 1) 6 w_throwers] [(0, .ref a_t), (2, .int x2), (3, .int x3), (4, .int x4), (5, .int x5), (6, .int x6)] 53 []) {k0 : Int32} {x2 : Int32} {x3 : Int32} {x4 : Int32} {x5 : Int32} {x6 : Int32} {w_enemies : Nat → Int32} {w_p1_facts : Nat → Int32} {w_throwers : Nat → Int32} (hf : f_X1_findThrowers_98 k34 k53 k0 x2 x3 x4 x5 x6 w_enemies w_p1_facts w_throwers = some q) : J G K 8 0 0 [oX1 a_t r_t, oX6 a_p1 r_p1 v_p1_people v_p1_day v_p1_dead v_p1_buried a_p1_holding, aI G (r_t 0) 6 w_enemies, aI G (r_p1 8) 36 v_p1_hates, aI G (r_p1 6) 6 v_p1_vs, aI G (r_p1 5) 6 v_p1_kinds, aI G (r_p1 13) 6 w_p1_facts, oX2 a_p1_holding r_p1_holding v_p1_holding_length v_p1_holding_need, aI G (r_p1_holding 0) 100 v_p1_holding_steps, aI G (r_p1_holding 1) 100 v_p1_holding_numbers, aI G (r_p1 9) 24 v_p1_rows, aI G (r_t 1) 6 w_throwers] [(0, .ref a_t), (2, .int x2), (3, .int x3), (4, .int x4), (5, .int x5), (6, .int x6)] 98 [.int k0] := by
  unfold f_X1_findThrowers_98 at hf
  refine j_istore C (pc := 98) (L' := [(7, .int k0), (0, .ref a_t), (2, .int x2), (3, .int x3), (4, .int x4), (5, .int x5), (6, .int x6)]) dX1_findThrowers_98 (by decide) rfl ?_
  refine j_iload C (pc := 100) 0 rfl dX1_findThrowers_100 ?_
  refine j_if_eq C (pc := 102) 150 dX1_findThrowers_102 (by decide) hf (fun hf => ?_) (fun hf => ?_)
  · refine j_iinc C (pc := 150) (L' := [(6, .int (x6 + (1 : Int32))), (7, .int k0), (0, .ref a_t), (2, .int x2), (3, .int x3), (4, .int x4), (5, .int x5)]) (v := x6 + (1 : Int32)) dX1_findThrowers_150 (t := 6) rfl rfl (by decide) rfl ?_
    refine j_goto C (pc := 153) 53 dX1_findThrowers_153 (by decide) ?_
    refine j_sub [2, 3, 4, 5, 6, 0] rfl ?_
    exact hk53 _ _ _ _ _ _ _ _ hf
  · refine j_aload_n C (pc := 105) 1 rfl rfl dX1_findThrowers_105 ?_
    refine j_get C (pc := 106) kc_X1 fl_X1_9 0 rfl rfl dX1_findThrowers_106 ?_
    refine j_iload C (pc := 109) 5 rfl dX1_findThrowers_109 ?_
    refine j_iconst C (pc := 111) (v := 1) (by decide) dX1_findThrowers_111 ?_
    refine j_iadd C (pc := 112) dX1_findThrowers_112 ?_
    refine j_iload C (pc := 113) 4 rfl dX1_findThrowers_113 ?_
    refine j_iconst C (pc := 115) (v := 1) (by decide) dX1_findThrowers_115 ?_
    refine j_iload C (pc := 116) 6 rfl dX1_findThrowers_116 ?_
    refine j_ishl C (pc := 118) dX1_findThrowers_118 ?_
    refine j_ior C (pc := 119) dX1_findThrowers_119 ?_
    refine j_cSI C (pc := 120) (As := [.ref (r_t 0), .int (x5 + (1 : Int32)), .int (x4 ||| ((1 : Int32) <<< (x6 &&& 31)))]) (st := []) (ws' := fun q1 => [oX1 a_t r_t, oX6 a_p1 r_p1 v_p1_people v_p1_day v_p1_dead v_p1_buried a_p1_holding, aI G (r_t 0) 6 w_enemies, aI G (r_p1 8) 36 v_p1_hates, aI G (r_p1 6) 6 v_p1_vs, aI G (r_p1 5) 6 v_p1_kinds, aI G (r_p1 13) 6 w_p1_facts, oX2 a_p1_holding r_p1_holding v_p1_holding_length v_p1_holding_need, aI G (r_p1_holding 0) 100 v_p1_holding_steps, aI G (r_p1_holding 1) 100 v_p1_holding_numbers, aI G (r_p1 9) 24 v_p1_rows, aI G (r_t 1) 6 w_throwers]) ml_X1_61 ms_X1_mostFrom hf (fun q1 h => (c_X1_mostFrom G K.2.1 10) (r_t 0) w_enemies (x5 + (1 : Int32)) (x4 ||| ((1 : Int32) <<< (x6 &&& 31))) q1 h) [2] [none, none, some 0, none, none, none, none, none, none, none, none, none] 12 rfl (by decide +kernel) (by decide +kernel) (fun _ => rfl) (fun _ => rfl) rfl rfl rfl rfl ⟨Nat.zero_le _, Nat.zero_le _⟩ dX1_findThrowers_120 (fun q1 hf => ?_)
    refine j_iconst C (pc := 123) (v := 1) (by decide) dX1_findThrowers_123 ?_
    refine j_iadd C (pc := 124) dX1_findThrowers_124 ?_
    refine j_iload_n C (pc := 125) 3 rfl rfl dX1_findThrowers_125 ?_
    refine j_icmp_ne C (pc := 126) 150 dX1_findThrowers_126 (by decide) hf (fun hf => ?_) (fun hf => ?_)
    · refine j_iinc C (pc := 150) (L' := [(6, .int (x6 + (1 : Int32))), (7, .int k0), (0, .ref a_t), (2, .int x2), (3, .int x3), (4, .int x4), (5, .int x5)]) (v := x6 + (1 : Int32)) dX1_findThrowers_150 (t := 6) rfl rfl (by decide) rfl ?_
      refine j_goto C (pc := 153) 53 dX1_findThrowers_153 (by decide) ?_
      refine j_sub [2, 3, 4, 5, 6, 0] rfl ?_
      exact hk53 _ _ _ _ _ _ _ _ hf
    · refine j_aload_n C (pc := 129) 1 rfl rfl dX1_findThrowers_129 ?_
      refine j_get C (pc := 130) kc_X1 fl_X1_15 0 rfl rfl dX1_findThrowers_130 ?_
      refine j_iload C (pc := 133) 5 rfl dX1_findThrowers_133 ?_
      refine j_iload C (pc := 135) 6 rfl dX1_findThrowers_135 ?_
      refine j_iast C (pc := 137) (ws' := [oX1 a_t r_t, oX6 a_p1 r_p1 v_p1_people v_p1_day v_p1_dead v_p1_buried a_p1_holding, aI G (r_t 0) 6 w_enemies, aI G (r_p1 8) 36 v_p1_hates, aI G (r_p1 6) 6 v_p1_vs, aI G (r_p1 5) 6 v_p1_kinds, aI G (r_p1 13) 6 w_p1_facts, oX2 a_p1_holding r_p1_holding v_p1_holding_length v_p1_holding_need, aI G (r_p1_holding 0) 100 v_p1_holding_steps, aI G (r_p1_holding 1) 100 v_p1_holding_numbers, aI G (r_p1 9) 24 v_p1_rows, aI G (r_t 1) 6 (upd w_throwers x5.toNatClampNeg x6)]) 11 rfl hf rfl dX1_findThrowers_137 (fun hf => ?_)
      refine j_iload C (pc := 138) 4 rfl dX1_findThrowers_138 ?_
      refine j_iconst C (pc := 140) (v := 1) (by decide) dX1_findThrowers_140 ?_
      refine j_iload C (pc := 141) 6 rfl dX1_findThrowers_141 ?_
      refine j_ishl C (pc := 143) dX1_findThrowers_143 ?_
      refine j_ior C (pc := 144) dX1_findThrowers_144 ?_
      refine j_nm hf (fun y2 hf => ?_)
      refine j_istore C (pc := 145) (L' := [(4, .int y2), (7, .int k0), (0, .ref a_t), (2, .int x2), (3, .int x3), (5, .int x5), (6, .int x6)]) dX1_findThrowers_145 (by decide) rfl ?_
      refine j_iinc C (pc := 147) (L' := [(3, .int (x3 + (-1 : Int32))), (4, .int y2), (7, .int k0), (0, .ref a_t), (2, .int x2), (5, .int x5), (6, .int x6)]) (v := x3 + (-1 : Int32)) dX1_findThrowers_147 (t := 4) rfl rfl (by decide) rfl ?_
      refine j_iinc C (pc := 150) (L' := [(6, .int (x6 + (1 : Int32))), (3, .int (x3 + (-1 : Int32))), (4, .int y2), (7, .int k0), (0, .ref a_t), (2, .int x2), (5, .int x5)]) (v := x6 + (1 : Int32)) dX1_findThrowers_150 (t := 6) rfl rfl (by decide) rfl ?_
      refine j_goto C (pc := 153) 53 dX1_findThrowers_153 (by decide) ?_
      refine j_sub [4, 5, 1, 2, 6, 0] rfl ?_
      exact hk53 _ _ _ _ _ _ _ _ hf
def f_X1_findThrowers_53_b (k34 : Int32 → Int32 → Int32 → Int32 → (Nat → Int32) → (Nat → Int32) → (Nat → Int32) → Option (Int32 × (Nat → Int32) × (Nat → Int32) × (Nat → Int32))) (k53 : Int32 → Int32 → Int32 → Int32 → Int32 → (Nat → Int32) → (Nat → Int32) → (Nat → Int32) → Option (Int32 × (Nat → Int32) × (Nat → Int32) × (Nat → Int32))) (x2 : Int32) (x3 : Int32) (x4 : Int32) (x5 : Int32) (x6 : Int32) (w_enemies : Nat → Int32) (w_p1_facts : Nat → Int32) (w_throwers : Nat → Int32) : Option (Int32 × (Nat → Int32) × (Nat → Int32) × (Nat → Int32)) := (if (6 : Int32) ≤ x6 then (k34 x2 x3 x4 (x5 + (1 : Int32)) w_enemies w_p1_facts w_throwers) else (gd x5 6 (if (w_throwers x5.toNatClampNeg) = (-5 : Int32) then (gd x5 6 ((f_X7_bit ((w_enemies x5.toNatClampNeg) &&& (x4 ^^^ (-1 : Int32))) x6).bind fun q1 => (if q1 = (1 : Int32) then (f_X1_findThrowers_98 k34 k53 (1 : Int32) x2 x3 x4 x5 x6 w_enemies w_p1_facts w_throwers) else (f_X1_findThrowers_98 k34 k53 (0 : Int32) x2 x3 x4 x5 x6 w_enemies w_p1_facts w_throwers)))) else (k34 x2 x3 x4 (x5 + (1 : Int32)) w_enemies w_p1_facts w_throwers))))
def f_X1_findThrowers_53 (k34 : Int32 → Int32 → Int32 → Int32 → (Nat → Int32) → (Nat → Int32) → (Nat → Int32) → Option (Int32 × (Nat → Int32) × (Nat → Int32) × (Nat → Int32))) : Nat → Int32 → Int32 → Int32 → Int32 → Int32 → (Nat → Int32) → (Nat → Int32) → (Nat → Int32) → Option (Int32 × (Nat → Int32) × (Nat → Int32) × (Nat → Int32))
  | 0 => fun _ _ _ _ _ _ _ _ => none
  | n + 1 => f_X1_findThrowers_53_b k34 (f_X1_findThrowers_53 k34 n)
set_option maxRecDepth 20000 in
set_option maxHeartbeats 1000000 in
theorem t_X1_findThrowers_53_b {G : Gx} {K : Kx} (C : Cx G K cX1_findThrowers RX1 8 13) {a_t : Nat} {r_t : Nat → Nat} {a_p1 : Nat} {r_p1 : Nat → Nat} {r_p1_holding : Nat → Nat} {v_p1_people : Int32} {v_p1_day : Int32} {v_p1_dead : Int32} {v_p1_buried : Int32} {a_p1_holding : Nat} {v_p1_hates : Nat → Int32} {v_p1_vs : Nat → Int32} {v_p1_kinds : Nat → Int32} {v_p1_holding_length : Int32} {v_p1_holding_need : Int32} {v_p1_holding_steps : Nat → Int32} {v_p1_holding_numbers : Nat → Int32} {v_p1_rows : Nat → Int32} {q : Int32 × (Nat → Int32) × (Nat → Int32) × (Nat → Int32)} (hQ : k_retI G K cX1_findThrowers 8 .int [oX1 a_t r_t, oX6 a_p1 r_p1 v_p1_people v_p1_day v_p1_dead v_p1_buried a_p1_holding, aI G (r_t 0) 6 q.2.1, aI G (r_p1 8) 36 v_p1_hates, aI G (r_p1 6) 6 v_p1_vs, aI G (r_p1 5) 6 v_p1_kinds, aI G (r_p1 13) 6 q.2.2.1, oX2 a_p1_holding r_p1_holding v_p1_holding_length v_p1_holding_need, aI G (r_p1_holding 0) 100 v_p1_holding_steps, aI G (r_p1_holding 1) 100 v_p1_holding_numbers, aI G (r_p1 9) 24 v_p1_rows, aI G (r_t 1) 6 q.2.2.2] q.1) {k34 : Int32 → Int32 → Int32 → Int32 → (Nat → Int32) → (Nat → Int32) → (Nat → Int32) → Option (Int32 × (Nat → Int32) × (Nat → Int32) × (Nat → Int32))} {k53 : Int32 → Int32 → Int32 → Int32 → Int32 → (Nat → Int32) → (Nat → Int32) → (Nat → Int32) → Option (Int32 × (Nat → Int32) × (Nat → Int32) × (Nat → Int32))} (hk34 : ∀ (x2 : Int32) (x3 : Int32) (x4 : Int32) (x5 : Int32) (w_enemies : Nat → Int32) (w_p1_facts : Nat → Int32) (w_throwers : Nat → Int32), k34 x2 x3 x4 x5 w_enemies w_p1_facts w_throwers = some q → J G K 8 0 0 [oX1 a_t r_t, oX6 a_p1 r_p1 v_p1_people v_p1_day v_p1_dead v_p1_buried a_p1_holding, aI G (r_t 0) 6 w_enemies, aI G (r_p1 8) 36 v_p1_hates, aI G (r_p1 6) 6 v_p1_vs, aI G (r_p1 5) 6 v_p1_kinds, aI G (r_p1 13) 6 w_p1_facts, oX2 a_p1_holding r_p1_holding v_p1_holding_length v_p1_holding_need, aI G (r_p1_holding 0) 100 v_p1_holding_steps, aI G (r_p1_holding 1) 100 v_p1_holding_numbers, aI G (r_p1 9) 24 v_p1_rows, aI G (r_t 1) 6 w_throwers] [(0, .ref a_t), (2, .int x2), (3, .int x3), (4, .int x4), (5, .int x5)] 34 []) (hk53 : ∀ (x2 : Int32) (x3 : Int32) (x4 : Int32) (x5 : Int32) (x6 : Int32) (w_enemies : Nat → Int32) (w_p1_facts : Nat → Int32) (w_throwers : Nat → Int32), k53 x2 x3 x4 x5 x6 w_enemies w_p1_facts w_throwers = some q → J G K 8 0 0 [oX1 a_t r_t, oX6 a_p1 r_p1 v_p1_people v_p1_day v_p1_dead v_p1_buried a_p1_holding, aI G (r_t 0) 6 w_enemies, aI G (r_p1 8) 36 v_p1_hates, aI G (r_p1 6) 6 v_p1_vs, aI G (r_p1 5) 6 v_p1_kinds, aI G (r_p1 13) 6 w_p1_facts, oX2 a_p1_holding r_p1_holding v_p1_holding_length v_p1_holding_need, aI G (r_p1_holding 0) 100 v_p1_holding_steps, aI G (r_p1_holding 1) 100 v_p1_holding_numbers, aI G (r_p1 9) 24 v_p1_rows, aI G (r_t 1) 6 w_throwers] [(0, .ref a_t), (2, .int x2), (3, .int x3), (4, .int x4), (5, .int x5), (6, .int x6)] 53 []) {x2 : Int32} {x3 : Int32} {x4 : Int32} {x5 : Int32} {x6 : Int32} {w_enemies : Nat → Int32} {w_p1_facts : Nat → Int32} {w_throwers : Nat → Int32} (hf : f_X1_findThrowers_53_b k34 k53 x2 x3 x4 x5 x6 w_enemies w_p1_facts w_throwers = some q) : J G K 8 0 0 [oX1 a_t r_t, oX6 a_p1 r_p1 v_p1_people v_p1_day v_p1_dead v_p1_buried a_p1_holding, aI G (r_t 0) 6 w_enemies, aI G (r_p1 8) 36 v_p1_hates, aI G (r_p1 6) 6 v_p1_vs, aI G (r_p1 5) 6 v_p1_kinds, aI G (r_p1 13) 6 w_p1_facts, oX2 a_p1_holding r_p1_holding v_p1_holding_length v_p1_holding_need, aI G (r_p1_holding 0) 100 v_p1_holding_steps, aI G (r_p1_holding 1) 100 v_p1_holding_numbers, aI G (r_p1 9) 24 v_p1_rows, aI G (r_t 1) 6 w_throwers] [(0, .ref a_t), (2, .int x2), (3, .int x3), (4, .int x4), (5, .int x5), (6, .int x6)] 53 [] := by
  unfold f_X1_findThrowers_53_b at hf
  refine j_iload C (pc := 53) 5 rfl dX1_findThrowers_53 ?_
  refine j_bipush C (pc := 55) (v := 6) (by decide) dX1_findThrowers_55 ?_
  refine j_icmp_ge C (pc := 57) 156 dX1_findThrowers_57 (by decide) hf (fun hf => ?_) (fun hf => ?_)
  · refine j_iinc C (pc := 156) (L' := [(5, .int (x5 + (1 : Int32))), (0, .ref a_t), (2, .int x2), (3, .int x3), (4, .int x4), (6, .int x6)]) (v := x5 + (1 : Int32)) dX1_findThrowers_156 (t := 4) rfl rfl (by decide) rfl ?_
    refine j_goto C (pc := 159) 34 dX1_findThrowers_159 (by decide) ?_
    refine j_sub [1, 2, 3, 4, 0] rfl ?_
    exact hk34 _ _ _ _ _ _ _ hf
  · refine j_aload_n C (pc := 60) 0 rfl rfl dX1_findThrowers_60 ?_
    refine j_get C (pc := 61) kc_X1 fl_X1_15 0 rfl rfl dX1_findThrowers_61 ?_
    refine j_iload C (pc := 64) 4 rfl dX1_findThrowers_64 ?_
    refine j_iald C (pc := 66) 11 rfl hf dX1_findThrowers_66 (fun hf => ?_)
    refine j_bipush C (pc := 67) (v := -5) (by decide) dX1_findThrowers_67 ?_
    refine j_icmp_ne C (pc := 69) 156 dX1_findThrowers_69 (by decide) hf (fun hf => ?_) (fun hf => ?_)
    · refine j_iinc C (pc := 156) (L' := [(5, .int (x5 + (1 : Int32))), (0, .ref a_t), (2, .int x2), (3, .int x3), (4, .int x4), (6, .int x6)]) (v := x5 + (1 : Int32)) dX1_findThrowers_156 (t := 4) rfl rfl (by decide) rfl ?_
      refine j_goto C (pc := 159) 34 dX1_findThrowers_159 (by decide) ?_
      refine j_sub [1, 2, 3, 4, 0] rfl ?_
      exact hk34 _ _ _ _ _ _ _ hf
    · refine j_aload_n C (pc := 72) 0 rfl rfl dX1_findThrowers_72 ?_
      refine j_get C (pc := 73) kc_X1 fl_X1_9 0 rfl rfl dX1_findThrowers_73 ?_
      refine j_iload C (pc := 76) 4 rfl dX1_findThrowers_76 ?_
      refine j_iald C (pc := 78) 2 rfl hf dX1_findThrowers_78 (fun hf => ?_)
      refine j_iload C (pc := 79) 3 rfl dX1_findThrowers_79 ?_
      refine j_iconst C (pc := 81) (v := -1) (by decide) dX1_findThrowers_81 ?_
      refine j_ixor C (pc := 82) dX1_findThrowers_82 ?_
      refine j_iand C (pc := 83) dX1_findThrowers_83 ?_
      refine j_iload C (pc := 84) 5 rfl dX1_findThrowers_84 ?_
      refine j_cSNI C (pc := 86) (As := [.int ((w_enemies x5.toNatClampNeg) &&& (x4 ^^^ (-1 : Int32))), .int x6]) (st := []) (ws' := fun q1 => [oX1 a_t r_t, oX6 a_p1 r_p1 v_p1_people v_p1_day v_p1_dead v_p1_buried a_p1_holding, aI G (r_t 0) 6 w_enemies, aI G (r_p1 8) 36 v_p1_hates, aI G (r_p1 6) 6 v_p1_vs, aI G (r_p1 5) 6 v_p1_kinds, aI G (r_p1 13) 6 w_p1_facts, oX2 a_p1_holding r_p1_holding v_p1_holding_length v_p1_holding_need, aI G (r_p1_holding 0) 100 v_p1_holding_steps, aI G (r_p1_holding 1) 100 v_p1_holding_numbers, aI G (r_p1 9) 24 v_p1_rows, aI G (r_t 1) 6 w_throwers]) ml_X1_24 ms_X7_bit hf (fun q1 h => (c_X7_bit G K.2.1) ((w_enemies x5.toNatClampNeg) &&& (x4 ^^^ (-1 : Int32))) x6 q1 h) [] [none, none, none, none, none, none, none, none, none, none, none, none] 12 rfl (by decide +kernel) (by decide +kernel) (fun _ => rfl) (fun _ => rfl) rfl rfl rfl rfl ⟨Nat.zero_le _, Nat.zero_le _⟩ dX1_findThrowers_86 (fun q1 hf => ?_)
      refine j_iconst C (pc := 89) (v := 1) (by decide) dX1_findThrowers_89 ?_
      refine j_icmp_ne C (pc := 90) 97 dX1_findThrowers_90 (by decide) hf (fun hf => ?_) (fun hf => ?_)
      · refine j_iconst C (pc := 97) (v := 0) (by decide) dX1_findThrowers_97 ?_
        exact t_X1_findThrowers_98 C hQ hk34 hk53 hf
      · refine j_iconst C (pc := 93) (v := 1) (by decide) dX1_findThrowers_93 ?_
        refine j_goto C (pc := 94) 98 dX1_findThrowers_94 (by decide) ?_
        exact t_X1_findThrowers_98 C hQ hk34 hk53 hf
theorem t_X1_findThrowers_53 {G : Gx} {K : Kx} (C : Cx G K cX1_findThrowers RX1 8 13) {a_t : Nat} {r_t : Nat → Nat} {a_p1 : Nat} {r_p1 : Nat → Nat} {r_p1_holding : Nat → Nat} {v_p1_people : Int32} {v_p1_day : Int32} {v_p1_dead : Int32} {v_p1_buried : Int32} {a_p1_holding : Nat} {v_p1_hates : Nat → Int32} {v_p1_vs : Nat → Int32} {v_p1_kinds : Nat → Int32} {v_p1_holding_length : Int32} {v_p1_holding_need : Int32} {v_p1_holding_steps : Nat → Int32} {v_p1_holding_numbers : Nat → Int32} {v_p1_rows : Nat → Int32} {q : Int32 × (Nat → Int32) × (Nat → Int32) × (Nat → Int32)} (hQ : k_retI G K cX1_findThrowers 8 .int [oX1 a_t r_t, oX6 a_p1 r_p1 v_p1_people v_p1_day v_p1_dead v_p1_buried a_p1_holding, aI G (r_t 0) 6 q.2.1, aI G (r_p1 8) 36 v_p1_hates, aI G (r_p1 6) 6 v_p1_vs, aI G (r_p1 5) 6 v_p1_kinds, aI G (r_p1 13) 6 q.2.2.1, oX2 a_p1_holding r_p1_holding v_p1_holding_length v_p1_holding_need, aI G (r_p1_holding 0) 100 v_p1_holding_steps, aI G (r_p1_holding 1) 100 v_p1_holding_numbers, aI G (r_p1 9) 24 v_p1_rows, aI G (r_t 1) 6 q.2.2.2] q.1) {k34 : Int32 → Int32 → Int32 → Int32 → (Nat → Int32) → (Nat → Int32) → (Nat → Int32) → Option (Int32 × (Nat → Int32) × (Nat → Int32) × (Nat → Int32))} (hk34 : ∀ (x2 : Int32) (x3 : Int32) (x4 : Int32) (x5 : Int32) (w_enemies : Nat → Int32) (w_p1_facts : Nat → Int32) (w_throwers : Nat → Int32), k34 x2 x3 x4 x5 w_enemies w_p1_facts w_throwers = some q → J G K 8 0 0 [oX1 a_t r_t, oX6 a_p1 r_p1 v_p1_people v_p1_day v_p1_dead v_p1_buried a_p1_holding, aI G (r_t 0) 6 w_enemies, aI G (r_p1 8) 36 v_p1_hates, aI G (r_p1 6) 6 v_p1_vs, aI G (r_p1 5) 6 v_p1_kinds, aI G (r_p1 13) 6 w_p1_facts, oX2 a_p1_holding r_p1_holding v_p1_holding_length v_p1_holding_need, aI G (r_p1_holding 0) 100 v_p1_holding_steps, aI G (r_p1_holding 1) 100 v_p1_holding_numbers, aI G (r_p1 9) 24 v_p1_rows, aI G (r_t 1) 6 w_throwers] [(0, .ref a_t), (2, .int x2), (3, .int x3), (4, .int x4), (5, .int x5)] 34 []) : ∀ (n : Nat) (x2 : Int32) (x3 : Int32) (x4 : Int32) (x5 : Int32) (x6 : Int32) (w_enemies : Nat → Int32) (w_p1_facts : Nat → Int32) (w_throwers : Nat → Int32), f_X1_findThrowers_53 k34 n x2 x3 x4 x5 x6 w_enemies w_p1_facts w_throwers = some q → J G K 8 0 0 [oX1 a_t r_t, oX6 a_p1 r_p1 v_p1_people v_p1_day v_p1_dead v_p1_buried a_p1_holding, aI G (r_t 0) 6 w_enemies, aI G (r_p1 8) 36 v_p1_hates, aI G (r_p1 6) 6 v_p1_vs, aI G (r_p1 5) 6 v_p1_kinds, aI G (r_p1 13) 6 w_p1_facts, oX2 a_p1_holding r_p1_holding v_p1_holding_length v_p1_holding_need, aI G (r_p1_holding 0) 100 v_p1_holding_steps, aI G (r_p1_holding 1) 100 v_p1_holding_numbers, aI G (r_p1 9) 24 v_p1_rows, aI G (r_t 1) 6 w_throwers] [(0, .ref a_t), (2, .int x2), (3, .int x3), (4, .int x4), (5, .int x5), (6, .int x6)] 53 [] := by
  intro n
  induction n with
  | zero => intro x2 x3 x4 x5 x6 w_enemies w_p1_facts w_throwers hf; cases hf
  | succ n ih => intro x2 x3 x4 x5 x6 w_enemies w_p1_facts w_throwers hf; exact t_X1_findThrowers_53_b C hQ hk34 ih hf
def f_X1_findThrowers_34_b (k34 : Int32 → Int32 → Int32 → Int32 → (Nat → Int32) → (Nat → Int32) → (Nat → Int32) → Option (Int32 × (Nat → Int32) × (Nat → Int32) × (Nat → Int32))) (x2 : Int32) (x3 : Int32) (x4 : Int32) (x5 : Int32) (w_enemies : Nat → Int32) (w_p1_facts : Nat → Int32) (w_throwers : Nat → Int32) : Option (Int32 × (Nat → Int32) × (Nat → Int32) × (Nat → Int32)) := (if (6 : Int32) ≤ x5 then (some (x2, w_enemies, w_p1_facts, w_throwers)) else (gd x5 6 (f_X1_findThrowers_53 k34 1000 x2 x3 x4 x5 (0 : Int32) w_enemies w_p1_facts (upd w_throwers x5.toNatClampNeg (-5 : Int32)))))
def f_X1_findThrowers_34 : Nat → Int32 → Int32 → Int32 → Int32 → (Nat → Int32) → (Nat → Int32) → (Nat → Int32) → Option (Int32 × (Nat → Int32) × (Nat → Int32) × (Nat → Int32))
  | 0 => fun _ _ _ _ _ _ _ => none
  | n + 1 => f_X1_findThrowers_34_b (f_X1_findThrowers_34 n)
set_option maxRecDepth 20000 in
set_option maxHeartbeats 1000000 in
theorem t_X1_findThrowers_34_b {G : Gx} {K : Kx} (C : Cx G K cX1_findThrowers RX1 8 13) {a_t : Nat} {r_t : Nat → Nat} {a_p1 : Nat} {r_p1 : Nat → Nat} {r_p1_holding : Nat → Nat} {v_p1_people : Int32} {v_p1_day : Int32} {v_p1_dead : Int32} {v_p1_buried : Int32} {a_p1_holding : Nat} {v_p1_hates : Nat → Int32} {v_p1_vs : Nat → Int32} {v_p1_kinds : Nat → Int32} {v_p1_holding_length : Int32} {v_p1_holding_need : Int32} {v_p1_holding_steps : Nat → Int32} {v_p1_holding_numbers : Nat → Int32} {v_p1_rows : Nat → Int32} {q : Int32 × (Nat → Int32) × (Nat → Int32) × (Nat → Int32)} (hQ : k_retI G K cX1_findThrowers 8 .int [oX1 a_t r_t, oX6 a_p1 r_p1 v_p1_people v_p1_day v_p1_dead v_p1_buried a_p1_holding, aI G (r_t 0) 6 q.2.1, aI G (r_p1 8) 36 v_p1_hates, aI G (r_p1 6) 6 v_p1_vs, aI G (r_p1 5) 6 v_p1_kinds, aI G (r_p1 13) 6 q.2.2.1, oX2 a_p1_holding r_p1_holding v_p1_holding_length v_p1_holding_need, aI G (r_p1_holding 0) 100 v_p1_holding_steps, aI G (r_p1_holding 1) 100 v_p1_holding_numbers, aI G (r_p1 9) 24 v_p1_rows, aI G (r_t 1) 6 q.2.2.2] q.1) {k34 : Int32 → Int32 → Int32 → Int32 → (Nat → Int32) → (Nat → Int32) → (Nat → Int32) → Option (Int32 × (Nat → Int32) × (Nat → Int32) × (Nat → Int32))} (hk34 : ∀ (x2 : Int32) (x3 : Int32) (x4 : Int32) (x5 : Int32) (w_enemies : Nat → Int32) (w_p1_facts : Nat → Int32) (w_throwers : Nat → Int32), k34 x2 x3 x4 x5 w_enemies w_p1_facts w_throwers = some q → J G K 8 0 0 [oX1 a_t r_t, oX6 a_p1 r_p1 v_p1_people v_p1_day v_p1_dead v_p1_buried a_p1_holding, aI G (r_t 0) 6 w_enemies, aI G (r_p1 8) 36 v_p1_hates, aI G (r_p1 6) 6 v_p1_vs, aI G (r_p1 5) 6 v_p1_kinds, aI G (r_p1 13) 6 w_p1_facts, oX2 a_p1_holding r_p1_holding v_p1_holding_length v_p1_holding_need, aI G (r_p1_holding 0) 100 v_p1_holding_steps, aI G (r_p1_holding 1) 100 v_p1_holding_numbers, aI G (r_p1 9) 24 v_p1_rows, aI G (r_t 1) 6 w_throwers] [(0, .ref a_t), (2, .int x2), (3, .int x3), (4, .int x4), (5, .int x5)] 34 []) {x2 : Int32} {x3 : Int32} {x4 : Int32} {x5 : Int32} {w_enemies : Nat → Int32} {w_p1_facts : Nat → Int32} {w_throwers : Nat → Int32} (hf : f_X1_findThrowers_34_b k34 x2 x3 x4 x5 w_enemies w_p1_facts w_throwers = some q) : J G K 8 0 0 [oX1 a_t r_t, oX6 a_p1 r_p1 v_p1_people v_p1_day v_p1_dead v_p1_buried a_p1_holding, aI G (r_t 0) 6 w_enemies, aI G (r_p1 8) 36 v_p1_hates, aI G (r_p1 6) 6 v_p1_vs, aI G (r_p1 5) 6 v_p1_kinds, aI G (r_p1 13) 6 w_p1_facts, oX2 a_p1_holding r_p1_holding v_p1_holding_length v_p1_holding_need, aI G (r_p1_holding 0) 100 v_p1_holding_steps, aI G (r_p1_holding 1) 100 v_p1_holding_numbers, aI G (r_p1 9) 24 v_p1_rows, aI G (r_t 1) 6 w_throwers] [(0, .ref a_t), (2, .int x2), (3, .int x3), (4, .int x4), (5, .int x5)] 34 [] := by
  unfold f_X1_findThrowers_34_b at hf
  refine j_iload C (pc := 34) 4 rfl dX1_findThrowers_34 ?_
  refine j_bipush C (pc := 36) (v := 6) (by decide) dX1_findThrowers_36 ?_
  refine j_icmp_ge C (pc := 38) 162 dX1_findThrowers_38 (by decide) hf (fun hf => ?_) (fun hf => ?_)
  · refine j_iload_n C (pc := 162) 1 rfl rfl dX1_findThrowers_162 ?_
    obtain rfl := Option.some.inj hf
    exact hQ _ _ dX1_findThrowers_163 rfl
  · refine j_aload_n C (pc := 41) 0 rfl rfl dX1_findThrowers_41 ?_
    refine j_get C (pc := 42) kc_X1 fl_X1_15 0 rfl rfl dX1_findThrowers_42 ?_
    refine j_iload C (pc := 45) 4 rfl dX1_findThrowers_45 ?_
    refine j_bipush C (pc := 47) (v := -5) (by decide) dX1_findThrowers_47 ?_
    refine j_iast C (pc := 49) (ws' := [oX1 a_t r_t, oX6 a_p1 r_p1 v_p1_people v_p1_day v_p1_dead v_p1_buried a_p1_holding, aI G (r_t 0) 6 w_enemies, aI G (r_p1 8) 36 v_p1_hates, aI G (r_p1 6) 6 v_p1_vs, aI G (r_p1 5) 6 v_p1_kinds, aI G (r_p1 13) 6 w_p1_facts, oX2 a_p1_holding r_p1_holding v_p1_holding_length v_p1_holding_need, aI G (r_p1_holding 0) 100 v_p1_holding_steps, aI G (r_p1_holding 1) 100 v_p1_holding_numbers, aI G (r_p1 9) 24 v_p1_rows, aI G (r_t 1) 6 (upd w_throwers x5.toNatClampNeg (-5 : Int32))]) 11 rfl hf rfl dX1_findThrowers_49 (fun hf => ?_)
    refine j_iconst C (pc := 50) (v := 0) (by decide) dX1_findThrowers_50 ?_
    refine j_istore C (pc := 51) (L' := [(6, .int (0 : Int32)), (0, .ref a_t), (2, .int x2), (3, .int x3), (4, .int x4), (5, .int x5)]) dX1_findThrowers_51 (by decide) rfl ?_
    refine j_sub [1, 2, 3, 4, 5, 0] rfl ?_
    exact t_X1_findThrowers_53 C hQ hk34 1000 _ _ _ _ _ _ _ _ hf
theorem t_X1_findThrowers_34 {G : Gx} {K : Kx} (C : Cx G K cX1_findThrowers RX1 8 13) {a_t : Nat} {r_t : Nat → Nat} {a_p1 : Nat} {r_p1 : Nat → Nat} {r_p1_holding : Nat → Nat} {v_p1_people : Int32} {v_p1_day : Int32} {v_p1_dead : Int32} {v_p1_buried : Int32} {a_p1_holding : Nat} {v_p1_hates : Nat → Int32} {v_p1_vs : Nat → Int32} {v_p1_kinds : Nat → Int32} {v_p1_holding_length : Int32} {v_p1_holding_need : Int32} {v_p1_holding_steps : Nat → Int32} {v_p1_holding_numbers : Nat → Int32} {v_p1_rows : Nat → Int32} {q : Int32 × (Nat → Int32) × (Nat → Int32) × (Nat → Int32)} (hQ : k_retI G K cX1_findThrowers 8 .int [oX1 a_t r_t, oX6 a_p1 r_p1 v_p1_people v_p1_day v_p1_dead v_p1_buried a_p1_holding, aI G (r_t 0) 6 q.2.1, aI G (r_p1 8) 36 v_p1_hates, aI G (r_p1 6) 6 v_p1_vs, aI G (r_p1 5) 6 v_p1_kinds, aI G (r_p1 13) 6 q.2.2.1, oX2 a_p1_holding r_p1_holding v_p1_holding_length v_p1_holding_need, aI G (r_p1_holding 0) 100 v_p1_holding_steps, aI G (r_p1_holding 1) 100 v_p1_holding_numbers, aI G (r_p1 9) 24 v_p1_rows, aI G (r_t 1) 6 q.2.2.2] q.1) : ∀ (n : Nat) (x2 : Int32) (x3 : Int32) (x4 : Int32) (x5 : Int32) (w_enemies : Nat → Int32) (w_p1_facts : Nat → Int32) (w_throwers : Nat → Int32), f_X1_findThrowers_34 n x2 x3 x4 x5 w_enemies w_p1_facts w_throwers = some q → J G K 8 0 0 [oX1 a_t r_t, oX6 a_p1 r_p1 v_p1_people v_p1_day v_p1_dead v_p1_buried a_p1_holding, aI G (r_t 0) 6 w_enemies, aI G (r_p1 8) 36 v_p1_hates, aI G (r_p1 6) 6 v_p1_vs, aI G (r_p1 5) 6 v_p1_kinds, aI G (r_p1 13) 6 w_p1_facts, oX2 a_p1_holding r_p1_holding v_p1_holding_length v_p1_holding_need, aI G (r_p1_holding 0) 100 v_p1_holding_steps, aI G (r_p1_holding 1) 100 v_p1_holding_numbers, aI G (r_p1 9) 24 v_p1_rows, aI G (r_t 1) 6 w_throwers] [(0, .ref a_t), (2, .int x2), (3, .int x3), (4, .int x4), (5, .int x5)] 34 [] := by
  intro n
  induction n with
  | zero => intro x2 x3 x4 x5 w_enemies w_p1_facts w_throwers hf; cases hf
  | succ n ih => intro x2 x3 x4 x5 w_enemies w_p1_facts w_throwers hf; exact t_X1_findThrowers_34_b C hQ ih hf
def f_X1_findThrowers (v_p1_people : Int32) (v_p1_day : Int32) (v_p1_dead : Int32) (v_p1_buried : Int32) (v_enemies : Nat → Int32) (v_p1_hates : Nat → Int32) (v_p1_vs : Nat → Int32) (v_p1_kinds : Nat → Int32) (v_p1_facts : Nat → Int32) (v_p1_holding_length : Int32) (v_p1_holding_need : Int32) (v_p1_holding_steps : Nat → Int32) (v_p1_holding_numbers : Nat → Int32) (v_p1_rows : Nat → Int32) (v_throwers : Nat → Int32) : Option (Int32 × (Nat → Int32) × (Nat → Int32) × (Nat → Int32)) := ((f_X1_findEnemies v_p1_people v_p1_day v_p1_dead v_enemies v_p1_hates v_p1_vs v_p1_kinds v_p1_facts v_p1_holding_length v_p1_holding_need v_p1_holding_steps v_p1_holding_numbers v_p1_rows (v_p1_dead &&& (v_p1_buried ^^^ (-1 : Int32)))).bind fun q1 => ((f_X1_mostFrom 10 q1.1 (0 : Int32) (0 : Int32)).bind fun q2 => (f_X1_findThrowers_34 1000 q2 q2 (0 : Int32) (0 : Int32) q1.1 q1.2 v_throwers)))
set_option maxRecDepth 20000 in
set_option maxHeartbeats 1000000 in
theorem t_X1_findThrowers {G : Gx} {K : Kx} (C : Cx G K cX1_findThrowers RX1 8 13) {a_t : Nat} {r_t : Nat → Nat} {a_p1 : Nat} {r_p1 : Nat → Nat} {r_p1_holding : Nat → Nat} {v_p1_people : Int32} {v_p1_day : Int32} {v_p1_dead : Int32} {v_p1_buried : Int32} {a_p1_holding : Nat} {v_enemies : Nat → Int32} {v_p1_hates : Nat → Int32} {v_p1_vs : Nat → Int32} {v_p1_kinds : Nat → Int32} {v_p1_facts : Nat → Int32} {v_p1_holding_length : Int32} {v_p1_holding_need : Int32} {v_p1_holding_steps : Nat → Int32} {v_p1_holding_numbers : Nat → Int32} {v_p1_rows : Nat → Int32} {v_throwers : Nat → Int32} {q : Int32 × (Nat → Int32) × (Nat → Int32) × (Nat → Int32)} (hQ : k_retI G K cX1_findThrowers 8 .int [oX1 a_t r_t, oX6 a_p1 r_p1 v_p1_people v_p1_day v_p1_dead v_p1_buried a_p1_holding, aI G (r_t 0) 6 q.2.1, aI G (r_p1 8) 36 v_p1_hates, aI G (r_p1 6) 6 v_p1_vs, aI G (r_p1 5) 6 v_p1_kinds, aI G (r_p1 13) 6 q.2.2.1, oX2 a_p1_holding r_p1_holding v_p1_holding_length v_p1_holding_need, aI G (r_p1_holding 0) 100 v_p1_holding_steps, aI G (r_p1_holding 1) 100 v_p1_holding_numbers, aI G (r_p1 9) 24 v_p1_rows, aI G (r_t 1) 6 q.2.2.2] q.1) (hf : f_X1_findThrowers v_p1_people v_p1_day v_p1_dead v_p1_buried v_enemies v_p1_hates v_p1_vs v_p1_kinds v_p1_facts v_p1_holding_length v_p1_holding_need v_p1_holding_steps v_p1_holding_numbers v_p1_rows v_throwers = some q) : J G K 8 0 0 [oX1 a_t r_t, oX6 a_p1 r_p1 v_p1_people v_p1_day v_p1_dead v_p1_buried a_p1_holding, aI G (r_t 0) 6 v_enemies, aI G (r_p1 8) 36 v_p1_hates, aI G (r_p1 6) 6 v_p1_vs, aI G (r_p1 5) 6 v_p1_kinds, aI G (r_p1 13) 6 v_p1_facts, oX2 a_p1_holding r_p1_holding v_p1_holding_length v_p1_holding_need, aI G (r_p1_holding 0) 100 v_p1_holding_steps, aI G (r_p1_holding 1) 100 v_p1_holding_numbers, aI G (r_p1 9) 24 v_p1_rows, aI G (r_t 1) 6 v_throwers] [(0, .ref a_t), (1, .ref a_p1)] 0 [] := by
  unfold f_X1_findThrowers at hf
  refine j_aload_n C (pc := 0) 0 rfl rfl dX1_findThrowers_0 ?_
  refine j_aload_n C (pc := 1) 1 rfl rfl dX1_findThrowers_1 ?_
  refine j_aload_n C (pc := 2) 1 rfl rfl dX1_findThrowers_2 ?_
  refine j_getN C (pc := 3) kc_X6 fl_X1_55 1 rfl rfl dX1_findThrowers_3 ?_
  refine j_aload_n C (pc := 6) 1 rfl rfl dX1_findThrowers_6 ?_
  refine j_getN C (pc := 7) kc_X6 fl_X1_58 1 rfl rfl dX1_findThrowers_7 ?_
  refine j_iconst C (pc := 10) (v := -1) (by decide) dX1_findThrowers_10 ?_
  refine j_ixor C (pc := 11) dX1_findThrowers_11 ?_
  refine j_iand C (pc := 12) dX1_findThrowers_12 ?_
  refine j_cVZ C (pc := 13) (As := [.ref a_p1, .int (v_p1_dead &&& (v_p1_buried ^^^ (-1 : Int32)))]) (st := []) (ws' := fun q1 => [oX1 a_t r_t, oX6 a_p1 r_p1 v_p1_people v_p1_day v_p1_dead v_p1_buried a_p1_holding, aI G (r_t 0) 6 q1.1, aI G (r_p1 8) 36 v_p1_hates, aI G (r_p1 6) 6 v_p1_vs, aI G (r_p1 5) 6 v_p1_kinds, aI G (r_p1 13) 6 q1.2, oX2 a_p1_holding r_p1_holding v_p1_holding_length v_p1_holding_need, aI G (r_p1_holding 0) 100 v_p1_holding_steps, aI G (r_p1_holding 1) 100 v_p1_holding_numbers, aI G (r_p1 9) 24 v_p1_rows, aI G (r_t 1) 6 v_throwers]) ml_X1_41 ms_X1_findEnemies hf (fun q1 h => (c_X1_findEnemies G K.2.1) a_t r_t a_p1 r_p1 r_p1_holding v_p1_people v_p1_day v_p1_dead v_p1_buried a_p1_holding v_enemies v_p1_hates v_p1_vs v_p1_kinds v_p1_facts v_p1_holding_length v_p1_holding_need v_p1_holding_steps v_p1_holding_numbers v_p1_rows (v_p1_dead &&& (v_p1_buried ^^^ (-1 : Int32))) q1 h) [0, 1, 2, 3, 4, 5, 6, 7, 8, 9, 10] [some 0, some 1, some 2, some 3, some 4, some 5, some 6, some 7, some 8, some 9, some 10, none] 12 rfl (by decide +kernel) (by decide +kernel) (fun _ => rfl) (fun _ => rfl) rfl rfl rfl rfl ⟨Nat.zero_le _, Nat.zero_le _⟩ dX1_findThrowers_13 kc_X1 0 rfl (fun q1 hf => ?_)
  refine j_aload_n C (pc := 16) 0 rfl rfl dX1_findThrowers_16 ?_
  refine j_get C (pc := 17) kc_X1 fl_X1_9 0 rfl rfl dX1_findThrowers_17 ?_
  refine j_iconst C (pc := 20) (v := 0) (by decide) dX1_findThrowers_20 ?_
  refine j_iconst C (pc := 21) (v := 0) (by decide) dX1_findThrowers_21 ?_
  refine j_cSI C (pc := 22) (As := [.ref (r_t 0), .int (0 : Int32), .int (0 : Int32)]) (st := []) (ws' := fun q2 => [oX1 a_t r_t, oX6 a_p1 r_p1 v_p1_people v_p1_day v_p1_dead v_p1_buried a_p1_holding, aI G (r_t 0) 6 q1.1, aI G (r_p1 8) 36 v_p1_hates, aI G (r_p1 6) 6 v_p1_vs, aI G (r_p1 5) 6 v_p1_kinds, aI G (r_p1 13) 6 q1.2, oX2 a_p1_holding r_p1_holding v_p1_holding_length v_p1_holding_need, aI G (r_p1_holding 0) 100 v_p1_holding_steps, aI G (r_p1_holding 1) 100 v_p1_holding_numbers, aI G (r_p1 9) 24 v_p1_rows, aI G (r_t 1) 6 v_throwers]) ml_X1_61 ms_X1_mostFrom hf (fun q2 h => (c_X1_mostFrom G K.2.1 10) (r_t 0) q1.1 (0 : Int32) (0 : Int32) q2 h) [2] [none, none, some 0, none, none, none, none, none, none, none, none, none] 12 rfl (by decide +kernel) (by decide +kernel) (fun _ => rfl) (fun _ => rfl) rfl rfl rfl rfl ⟨Nat.zero_le _, Nat.zero_le _⟩ dX1_findThrowers_22 (fun q2 hf => ?_)
  refine j_istore_n C (pc := 25) (L' := [(2, .int q2), (0, .ref a_t), (1, .ref a_p1)]) dX1_findThrowers_25 rfl (by decide) rfl ?_
  refine j_iload_n C (pc := 26) 0 rfl rfl dX1_findThrowers_26 ?_
  refine j_istore_n C (pc := 27) (L' := [(3, .int q2), (2, .int q2), (0, .ref a_t), (1, .ref a_p1)]) dX1_findThrowers_27 rfl (by decide) rfl ?_
  refine j_iconst C (pc := 28) (v := 0) (by decide) dX1_findThrowers_28 ?_
  refine j_istore C (pc := 29) (L' := [(4, .int (0 : Int32)), (3, .int q2), (2, .int q2), (0, .ref a_t), (1, .ref a_p1)]) dX1_findThrowers_29 (by decide) rfl ?_
  refine j_iconst C (pc := 31) (v := 0) (by decide) dX1_findThrowers_31 ?_
  refine j_istore C (pc := 32) (L' := [(5, .int (0 : Int32)), (4, .int (0 : Int32)), (3, .int q2), (2, .int q2), (0, .ref a_t), (1, .ref a_p1)]) dX1_findThrowers_32 (by decide) rfl ?_
  refine j_sub [4, 3, 2, 1, 0] rfl ?_
  exact t_X1_findThrowers_34 C hQ 1000 _ _ _ _ _ _ _ hf
def ct_X1_findThrowers (G : Gx) (l : Launch) (F : Int32 → Int32 → Int32 → Int32 → (Nat → Int32) → (Nat → Int32) → (Nat → Int32) → (Nat → Int32) → (Nat → Int32) → Int32 → Int32 → (Nat → Int32) → (Nat → Int32) → (Nat → Int32) → (Nat → Int32) → Option (Int32 × (Nat → Int32) × (Nat → Int32) × (Nat → Int32))) (lv : Nat) : Prop := ∀ (a_t : Nat) (r_t : Nat → Nat) (a_p1 : Nat) (r_p1 : Nat → Nat) (r_p1_holding : Nat → Nat) (v_p1_people : Int32) (v_p1_day : Int32) (v_p1_dead : Int32) (v_p1_buried : Int32) (a_p1_holding : Nat) (v_enemies : Nat → Int32) (v_p1_hates : Nat → Int32) (v_p1_vs : Nat → Int32) (v_p1_kinds : Nat → Int32) (v_p1_facts : Nat → Int32) (v_p1_holding_length : Int32) (v_p1_holding_need : Int32) (v_p1_holding_steps : Nat → Int32) (v_p1_holding_numbers : Nat → Int32) (v_p1_rows : Nat → Int32) (v_throwers : Nat → Int32), ∀ (q : Int32 × (Nat → Int32) × (Nat → Int32) × (Nat → Int32)), F v_p1_people v_p1_day v_p1_dead v_p1_buried v_enemies v_p1_hates v_p1_vs v_p1_kinds v_p1_facts v_p1_holding_length v_p1_holding_need v_p1_holding_steps v_p1_holding_numbers v_p1_rows v_throwers = some q → MI G l yX1_findThrowers cX1_findThrowers 8 .int lv [.ref a_t, .ref a_p1] [oX1 a_t r_t, oX6 a_p1 r_p1 v_p1_people v_p1_day v_p1_dead v_p1_buried a_p1_holding, aI G (r_t 0) 6 v_enemies, aI G (r_p1 8) 36 v_p1_hates, aI G (r_p1 6) 6 v_p1_vs, aI G (r_p1 5) 6 v_p1_kinds, aI G (r_p1 13) 6 v_p1_facts, oX2 a_p1_holding r_p1_holding v_p1_holding_length v_p1_holding_need, aI G (r_p1_holding 0) 100 v_p1_holding_steps, aI G (r_p1_holding 1) 100 v_p1_holding_numbers, aI G (r_p1 9) 24 v_p1_rows, aI G (r_t 1) 6 v_throwers] [oX1 a_t r_t, oX6 a_p1 r_p1 v_p1_people v_p1_day v_p1_dead v_p1_buried a_p1_holding, aI G (r_t 0) 6 q.2.1, aI G (r_p1 8) 36 v_p1_hates, aI G (r_p1 6) 6 v_p1_vs, aI G (r_p1 5) 6 v_p1_kinds, aI G (r_p1 13) 6 q.2.2.1, oX2 a_p1_holding r_p1_holding v_p1_holding_length v_p1_holding_need, aI G (r_p1_holding 0) 100 v_p1_holding_steps, aI G (r_p1_holding 1) 100 v_p1_holding_numbers, aI G (r_p1 9) 24 v_p1_rows, aI G (r_t 1) 6 q.2.2.2] q.1
theorem c_X1_findThrowers (G : Gx) (l : Launch) : ct_X1_findThrowers G l f_X1_findThrowers 13 := by
  intro a_t r_t a_p1 r_p1 r_p1_holding v_p1_people v_p1_day v_p1_dead v_p1_buried a_p1_holding v_enemies v_p1_hates v_p1_vs v_p1_kinds v_p1_facts v_p1_holding_length v_p1_holding_need v_p1_holding_steps v_p1_holding_numbers v_p1_rows v_throwers q hf
  exact mI_of (by decide +kernel) rfl (fun K hl C hQ => t_X1_findThrowers C hQ hf)
-- X6_alive
def f_X6_alive (v_people : Int32) (v_dead : Int32) : Option (Int32) := (some ((((1 : Int32) <<< (v_people &&& 31)) - (1 : Int32)) &&& (v_dead ^^^ (-1 : Int32))))
set_option maxRecDepth 20000 in
set_option maxHeartbeats 1000000 in
theorem t_X6_alive {G : Gx} {K : Kx} (C : Cx G K cX6_alive RX6 1 1) {a_t : Nat} {r_t : Nat → Nat} {v_people : Int32} {v_day : Int32} {v_dead : Int32} {v_buried : Int32} {a_holding : Nat} {q : Int32} (hQ : k_retI G K cX6_alive 1 .int [oX6 a_t r_t v_people v_day v_dead v_buried a_holding] q) (hf : f_X6_alive v_people v_dead = some q) : J G K 1 0 0 [oX6 a_t r_t v_people v_day v_dead v_buried a_holding] [(0, .ref a_t)] 0 [] := by
  unfold f_X6_alive at hf
  refine j_iconst C (pc := 0) (v := 1) (by decide) dX6_alive_0 ?_
  refine j_aload_n C (pc := 1) 0 rfl rfl dX6_alive_1 ?_
  refine j_get C (pc := 2) kc_X6 fl_X6_52 0 rfl rfl dX6_alive_2 ?_
  refine j_ishl C (pc := 5) dX6_alive_5 ?_
  refine j_iconst C (pc := 6) (v := 1) (by decide) dX6_alive_6 ?_
  refine j_isub C (pc := 7) dX6_alive_7 ?_
  refine j_aload_n C (pc := 8) 0 rfl rfl dX6_alive_8 ?_
  refine j_get C (pc := 9) kc_X6 fl_X6_60 0 rfl rfl dX6_alive_9 ?_
  refine j_iconst C (pc := 12) (v := -1) (by decide) dX6_alive_12 ?_
  refine j_ixor C (pc := 13) dX6_alive_13 ?_
  refine j_iand C (pc := 14) dX6_alive_14 ?_
  obtain rfl := Option.some.inj hf
  exact hQ _ _ dX6_alive_15 rfl
def ct_X6_alive (G : Gx) (l : Launch) (F : Int32 → Int32 → Option (Int32)) (lv : Nat) : Prop := ∀ (a_t : Nat) (r_t : Nat → Nat) (v_people : Int32) (v_day : Int32) (v_dead : Int32) (v_buried : Int32) (a_holding : Nat), ∀ (q : Int32), F v_people v_dead = some q → MI G l yX6_alive cX6_alive 1 .int lv [.ref a_t] [oX6 a_t r_t v_people v_day v_dead v_buried a_holding] [oX6 a_t r_t v_people v_day v_dead v_buried a_holding] q
theorem c_X6_alive (G : Gx) (l : Launch) : ct_X6_alive G l f_X6_alive 1 := by
  intro a_t r_t v_people v_day v_dead v_buried a_holding q hf
  exact mI_of (by decide +kernel) rfl (fun K hl C hQ => t_X6_alive C hQ hf)
-- X1_findWays
def f_X1_findWays_51_b (v_enemiesByDay : Nat → Int32) (k36 : Int32 → Int32 → (Nat → Int32) → Option ((Nat → Int32))) (k51 : Int32 → Int32 → Int32 → Int32 → (Nat → Int32) → Option ((Nat → Int32))) (x2 : Int32) (x3 : Int32) (x4 : Int32) (x5 : Int32) (w_ways : Nat → Int32) : Option ((Nat → Int32)) := (if (6 : Int32) ≤ x5 then (k36 x2 (x3 + (1 : Int32)) w_ways) else (if (6 : Int32) ≤ x4 then (k36 x2 (x3 + (1 : Int32)) w_ways) else (gd ((x4 * (6 : Int32)) + x5) 36 (nm ((v_enemiesByDay ((x4 * (6 : Int32)) + x5).toNatClampNeg) &&& (x3 ^^^ (-1 : Int32))) fun y1 => ((f_X7_bit (x2 &&& (x3 ^^^ (-1 : Int32))) x5).bind fun q2 => (if q2 = (1 : Int32) then (if y1 = 0 then (k51 x2 x3 x4 (x5 + (1 : Int32)) w_ways) else (gd (x3 ||| ((1 : Int32) <<< (x5 &&& 31))) 64 (gd x3 64 (gd (x3 ||| ((1 : Int32) <<< (x5 &&& 31))) 64 (k51 x2 x3 x4 (x5 + (1 : Int32)) (upd w_ways (x3 ||| ((1 : Int32) <<< (x5 &&& 31))).toNatClampNeg ((w_ways (x3 ||| ((1 : Int32) <<< (x5 &&& 31))).toNatClampNeg) + (w_ways x3.toNatClampNeg)))))))) else (k51 x2 x3 x4 (x5 + (1 : Int32)) w_ways)))))))
def f_X1_findWays_51 (v_enemiesByDay : Nat → Int32) (k36 : Int32 → Int32 → (Nat → Int32) → Option ((Nat → Int32))) : Nat → Int32 → Int32 → Int32 → Int32 → (Nat → Int32) → Option ((Nat → Int32))
  | 0 => fun _ _ _ _ _ => none
  | n + 1 => f_X1_findWays_51_b v_enemiesByDay k36 (f_X1_findWays_51 v_enemiesByDay k36 n)
set_option maxRecDepth 20000 in
set_option maxHeartbeats 1000000 in
theorem t_X1_findWays_51_b {G : Gx} {K : Kx} (C : Cx G K cX1_findWays RX1 7 2) {a_t : Nat} {r_t : Nat → Nat} {a_p1 : Nat} {r_p1 : Nat → Nat} {v_p1_people : Int32} {v_p1_day : Int32} {v_p1_dead : Int32} {v_p1_buried : Int32} {a_p1_holding : Nat} {v_enemiesByDay : Nat → Int32} {q : (Nat → Int32)} (hQ : k_retV G K cX1_findWays 7 [oX1 a_t r_t, oX6 a_p1 r_p1 v_p1_people v_p1_day v_p1_dead v_p1_buried a_p1_holding, aI G (r_t 3) 64 q, aI G (r_t 2) 36 v_enemiesByDay]) {k36 : Int32 → Int32 → (Nat → Int32) → Option ((Nat → Int32))} {k51 : Int32 → Int32 → Int32 → Int32 → (Nat → Int32) → Option ((Nat → Int32))} (hk36 : ∀ (x2 : Int32) (x3 : Int32) (w_ways : Nat → Int32), k36 x2 x3 w_ways = some q → J G K 7 0 0 [oX1 a_t r_t, oX6 a_p1 r_p1 v_p1_people v_p1_day v_p1_dead v_p1_buried a_p1_holding, aI G (r_t 3) 64 w_ways, aI G (r_t 2) 36 v_enemiesByDay] [(0, .ref a_t), (2, .int x2), (3, .int x3)] 36 []) (hk51 : ∀ (x2 : Int32) (x3 : Int32) (x4 : Int32) (x5 : Int32) (w_ways : Nat → Int32), k51 x2 x3 x4 x5 w_ways = some q → J G K 7 0 0 [oX1 a_t r_t, oX6 a_p1 r_p1 v_p1_people v_p1_day v_p1_dead v_p1_buried a_p1_holding, aI G (r_t 3) 64 w_ways, aI G (r_t 2) 36 v_enemiesByDay] [(0, .ref a_t), (2, .int x2), (3, .int x3), (4, .int x4), (5, .int x5)] 51 []) {x2 : Int32} {x3 : Int32} {x4 : Int32} {x5 : Int32} {w_ways : Nat → Int32} (hf : f_X1_findWays_51_b v_enemiesByDay k36 k51 x2 x3 x4 x5 w_ways = some q) : J G K 7 0 0 [oX1 a_t r_t, oX6 a_p1 r_p1 v_p1_people v_p1_day v_p1_dead v_p1_buried a_p1_holding, aI G (r_t 3) 64 w_ways, aI G (r_t 2) 36 v_enemiesByDay] [(0, .ref a_t), (2, .int x2), (3, .int x3), (4, .int x4), (5, .int x5)] 51 [] := by
  unfold f_X1_findWays_51_b at hf
  refine j_iload C (pc := 51) 4 rfl dX1_findWays_51 ?_
  refine j_bipush C (pc := 53) (v := 6) (by decide) dX1_findWays_53 ?_
  refine j_icmp_ge C (pc := 55) 129 dX1_findWays_55 (by decide) hf (fun hf => ?_) (fun hf => ?_)
  · refine j_iinc C (pc := 129) (L' := [(3, .int (x3 + (1 : Int32))), (0, .ref a_t), (2, .int x2), (4, .int x4), (5, .int x5)]) (v := x3 + (1 : Int32)) dX1_findWays_129 (t := 2) rfl rfl (by decide) rfl ?_
    refine j_goto C (pc := 132) 36 dX1_findWays_132 (by decide) ?_
    refine j_sub [1, 2, 0] rfl ?_
    exact hk36 _ _ _ hf
  · refine j_iload C (pc := 58) 3 rfl dX1_findWays_58 ?_
    refine j_bipush C (pc := 60) (v := 6) (by decide) dX1_findWays_60 ?_
    refine j_icmp_ge C (pc := 62) 129 dX1_findWays_62 (by decide) hf (fun hf => ?_) (fun hf => ?_)
    · refine j_iinc C (pc := 129) (L' := [(3, .int (x3 + (1 : Int32))), (0, .ref a_t), (2, .int x2), (4, .int x4), (5, .int x5)]) (v := x3 + (1 : Int32)) dX1_findWays_129 (t := 2) rfl rfl (by decide) rfl ?_
      refine j_goto C (pc := 132) 36 dX1_findWays_132 (by decide) ?_
      refine j_sub [1, 2, 0] rfl ?_
      exact hk36 _ _ _ hf
    · refine j_aload_n C (pc := 65) 0 rfl rfl dX1_findWays_65 ?_
      refine j_get C (pc := 66) kc_X1 fl_X1_18 0 rfl rfl dX1_findWays_66 ?_
      refine j_iload C (pc := 69) 3 rfl dX1_findWays_69 ?_
      refine j_bipush C (pc := 71) (v := 6) (by decide) dX1_findWays_71 ?_
      refine j_imul C (pc := 73) dX1_findWays_73 ?_
      refine j_iload C (pc := 74) 4 rfl dX1_findWays_74 ?_
      refine j_iadd C (pc := 76) dX1_findWays_76 ?_
      refine j_iald C (pc := 77) 3 rfl hf dX1_findWays_77 (fun hf => ?_)
      refine j_iload_n C (pc := 78) 2 rfl rfl dX1_findWays_78 ?_
      refine j_iconst C (pc := 79) (v := -1) (by decide) dX1_findWays_79 ?_
      refine j_ixor C (pc := 80) dX1_findWays_80 ?_
      refine j_iand C (pc := 81) dX1_findWays_81 ?_
      refine j_nm hf (fun y1 hf => ?_)
      refine j_istore C (pc := 82) (L' := [(6, .int y1), (0, .ref a_t), (2, .int x2), (3, .int x3), (4, .int x4), (5, .int x5)]) dX1_findWays_82 (by decide) rfl ?_
      refine j_iload_n C (pc := 84) 2 rfl rfl dX1_findWays_84 ?_
      refine j_iload_n C (pc := 85) 3 rfl rfl dX1_findWays_85 ?_
      refine j_iconst C (pc := 86) (v := -1) (by decide) dX1_findWays_86 ?_
      refine j_ixor C (pc := 87) dX1_findWays_87 ?_
      refine j_iand C (pc := 88) dX1_findWays_88 ?_
      refine j_iload C (pc := 89) 5 rfl dX1_findWays_89 ?_
      refine j_cSNI C (pc := 91) (As := [.int (x2 &&& (x3 ^^^ (-1 : Int32))), .int x5]) (st := []) (ws' := fun q2 => [oX1 a_t r_t, oX6 a_p1 r_p1 v_p1_people v_p1_day v_p1_dead v_p1_buried a_p1_holding, aI G (r_t 3) 64 w_ways, aI G (r_t 2) 36 v_enemiesByDay]) ml_X1_24 ms_X7_bit hf (fun q2 h => (c_X7_bit G K.2.1) (x2 &&& (x3 ^^^ (-1 : Int32))) x5 q2 h) [] [none, none, none, none] 4 rfl (by decide +kernel) (by decide +kernel) (fun _ => rfl) (fun _ => rfl) rfl rfl rfl rfl ⟨Nat.zero_le _, Nat.zero_le _⟩ dX1_findWays_91 (fun q2 hf => ?_)
      refine j_iconst C (pc := 94) (v := 1) (by decide) dX1_findWays_94 ?_
      refine j_icmp_ne C (pc := 95) 123 dX1_findWays_95 (by decide) hf (fun hf => ?_) (fun hf => ?_)
      · refine j_iinc C (pc := 123) (L' := [(5, .int (x5 + (1 : Int32))), (6, .int y1), (0, .ref a_t), (2, .int x2), (3, .int x3), (4, .int x4)]) (v := x5 + (1 : Int32)) dX1_findWays_123 (t := 5) rfl rfl (by decide) rfl ?_
        refine j_goto C (pc := 126) 51 dX1_findWays_126 (by decide) ?_
        refine j_sub [2, 3, 4, 5, 0] rfl ?_
        exact hk51 _ _ _ _ _ hf
      · refine j_iload C (pc := 98) 0 rfl dX1_findWays_98 ?_
        refine j_if_eq C (pc := 100) 123 dX1_findWays_100 (by decide) hf (fun hf => ?_) (fun hf => ?_)
        · refine j_iinc C (pc := 123) (L' := [(5, .int (x5 + (1 : Int32))), (6, .int y1), (0, .ref a_t), (2, .int x2), (3, .int x3), (4, .int x4)]) (v := x5 + (1 : Int32)) dX1_findWays_123 (t := 5) rfl rfl (by decide) rfl ?_
          refine j_goto C (pc := 126) 51 dX1_findWays_126 (by decide) ?_
          refine j_sub [2, 3, 4, 5, 0] rfl ?_
          exact hk51 _ _ _ _ _ hf
        · refine j_aload_n C (pc := 103) 1 rfl rfl dX1_findWays_103 ?_
          refine j_get C (pc := 104) kc_X1 fl_X1_21 0 rfl rfl dX1_findWays_104 ?_
          refine j_iload_n C (pc := 107) 3 rfl rfl dX1_findWays_107 ?_
          refine j_iconst C (pc := 108) (v := 1) (by decide) dX1_findWays_108 ?_
          refine j_iload C (pc := 109) 5 rfl dX1_findWays_109 ?_
          refine j_ishl C (pc := 111) dX1_findWays_111 ?_
          refine j_ior C (pc := 112) dX1_findWays_112 ?_
          refine j_dup2 C (pc := 113) rfl rfl dX1_findWays_113 ?_
          refine j_iald C (pc := 114) 2 rfl hf dX1_findWays_114 (fun hf => ?_)
          refine j_aload_n C (pc := 115) 1 rfl rfl dX1_findWays_115 ?_
          refine j_get C (pc := 116) kc_X1 fl_X1_21 0 rfl rfl dX1_findWays_116 ?_
          refine j_iload_n C (pc := 119) 3 rfl rfl dX1_findWays_119 ?_
          refine j_iald C (pc := 120) 2 rfl hf dX1_findWays_120 (fun hf => ?_)
          refine j_iadd C (pc := 121) dX1_findWays_121 ?_
          refine j_iast C (pc := 122) (ws' := [oX1 a_t r_t, oX6 a_p1 r_p1 v_p1_people v_p1_day v_p1_dead v_p1_buried a_p1_holding, aI G (r_t 3) 64 (upd w_ways (x3 ||| ((1 : Int32) <<< (x5 &&& 31))).toNatClampNeg ((w_ways (x3 ||| ((1 : Int32) <<< (x5 &&& 31))).toNatClampNeg) + (w_ways x3.toNatClampNeg))), aI G (r_t 2) 36 v_enemiesByDay]) 2 rfl hf rfl dX1_findWays_122 (fun hf => ?_)
          refine j_iinc C (pc := 123) (L' := [(5, .int (x5 + (1 : Int32))), (6, .int y1), (0, .ref a_t), (2, .int x2), (3, .int x3), (4, .int x4)]) (v := x5 + (1 : Int32)) dX1_findWays_123 (t := 5) rfl rfl (by decide) rfl ?_
          refine j_goto C (pc := 126) 51 dX1_findWays_126 (by decide) ?_
          refine j_sub [2, 3, 4, 5, 0] rfl ?_
          exact hk51 _ _ _ _ _ hf
theorem t_X1_findWays_51 {G : Gx} {K : Kx} (C : Cx G K cX1_findWays RX1 7 2) {a_t : Nat} {r_t : Nat → Nat} {a_p1 : Nat} {r_p1 : Nat → Nat} {v_p1_people : Int32} {v_p1_day : Int32} {v_p1_dead : Int32} {v_p1_buried : Int32} {a_p1_holding : Nat} {v_enemiesByDay : Nat → Int32} {q : (Nat → Int32)} (hQ : k_retV G K cX1_findWays 7 [oX1 a_t r_t, oX6 a_p1 r_p1 v_p1_people v_p1_day v_p1_dead v_p1_buried a_p1_holding, aI G (r_t 3) 64 q, aI G (r_t 2) 36 v_enemiesByDay]) {k36 : Int32 → Int32 → (Nat → Int32) → Option ((Nat → Int32))} (hk36 : ∀ (x2 : Int32) (x3 : Int32) (w_ways : Nat → Int32), k36 x2 x3 w_ways = some q → J G K 7 0 0 [oX1 a_t r_t, oX6 a_p1 r_p1 v_p1_people v_p1_day v_p1_dead v_p1_buried a_p1_holding, aI G (r_t 3) 64 w_ways, aI G (r_t 2) 36 v_enemiesByDay] [(0, .ref a_t), (2, .int x2), (3, .int x3)] 36 []) : ∀ (n : Nat) (x2 : Int32) (x3 : Int32) (x4 : Int32) (x5 : Int32) (w_ways : Nat → Int32), f_X1_findWays_51 v_enemiesByDay k36 n x2 x3 x4 x5 w_ways = some q → J G K 7 0 0 [oX1 a_t r_t, oX6 a_p1 r_p1 v_p1_people v_p1_day v_p1_dead v_p1_buried a_p1_holding, aI G (r_t 3) 64 w_ways, aI G (r_t 2) 36 v_enemiesByDay] [(0, .ref a_t), (2, .int x2), (3, .int x3), (4, .int x4), (5, .int x5)] 51 [] := by
  intro n
  induction n with
  | zero => intro x2 x3 x4 x5 w_ways hf; cases hf
  | succ n ih => intro x2 x3 x4 x5 w_ways hf; exact t_X1_findWays_51_b C hQ hk36 ih hf
def f_X1_findWays_36_b (v_enemiesByDay : Nat → Int32) (k36 : Int32 → Int32 → (Nat → Int32) → Option ((Nat → Int32))) (x2 : Int32) (x3 : Int32) (w_ways : Nat → Int32) : Option ((Nat → Int32)) := (if (64 : Int32) ≤ x3 then (some w_ways) else ((f_J6_bitCount_0f7a4 x3).bind fun q1 => (f_X1_findWays_51 v_enemiesByDay k36 1000 x2 x3 q1 (0 : Int32) w_ways)))
def f_X1_findWays_36 (v_enemiesByDay : Nat → Int32) : Nat → Int32 → Int32 → (Nat → Int32) → Option ((Nat → Int32))
  | 0 => fun _ _ _ => none
  | n + 1 => f_X1_findWays_36_b v_enemiesByDay (f_X1_findWays_36 v_enemiesByDay n)
set_option maxRecDepth 20000 in
set_option maxHeartbeats 1000000 in
theorem t_X1_findWays_36_b {G : Gx} {K : Kx} (C : Cx G K cX1_findWays RX1 7 2) {a_t : Nat} {r_t : Nat → Nat} {a_p1 : Nat} {r_p1 : Nat → Nat} {v_p1_people : Int32} {v_p1_day : Int32} {v_p1_dead : Int32} {v_p1_buried : Int32} {a_p1_holding : Nat} {v_enemiesByDay : Nat → Int32} {q : (Nat → Int32)} (hQ : k_retV G K cX1_findWays 7 [oX1 a_t r_t, oX6 a_p1 r_p1 v_p1_people v_p1_day v_p1_dead v_p1_buried a_p1_holding, aI G (r_t 3) 64 q, aI G (r_t 2) 36 v_enemiesByDay]) {k36 : Int32 → Int32 → (Nat → Int32) → Option ((Nat → Int32))} (hk36 : ∀ (x2 : Int32) (x3 : Int32) (w_ways : Nat → Int32), k36 x2 x3 w_ways = some q → J G K 7 0 0 [oX1 a_t r_t, oX6 a_p1 r_p1 v_p1_people v_p1_day v_p1_dead v_p1_buried a_p1_holding, aI G (r_t 3) 64 w_ways, aI G (r_t 2) 36 v_enemiesByDay] [(0, .ref a_t), (2, .int x2), (3, .int x3)] 36 []) {x2 : Int32} {x3 : Int32} {w_ways : Nat → Int32} (hf : f_X1_findWays_36_b v_enemiesByDay k36 x2 x3 w_ways = some q) : J G K 7 0 0 [oX1 a_t r_t, oX6 a_p1 r_p1 v_p1_people v_p1_day v_p1_dead v_p1_buried a_p1_holding, aI G (r_t 3) 64 w_ways, aI G (r_t 2) 36 v_enemiesByDay] [(0, .ref a_t), (2, .int x2), (3, .int x3)] 36 [] := by
  unfold f_X1_findWays_36_b at hf
  refine j_iload_n C (pc := 36) 2 rfl rfl dX1_findWays_36 ?_
  refine j_bipush C (pc := 37) (v := 64) (by decide) dX1_findWays_37 ?_
  refine j_icmp_ge C (pc := 39) 135 dX1_findWays_39 (by decide) hf (fun hf => ?_) (fun hf => ?_)
  · obtain rfl := Option.some.inj hf
    exact hQ _ _ dX1_findWays_135
  · refine j_iload_n C (pc := 42) 2 rfl rfl dX1_findWays_42 ?_
    refine j_cSI C (pc := 43) (As := [.int x3]) (st := []) (ws' := fun q1 => [oX1 a_t r_t, oX6 a_p1 r_p1 v_p1_people v_p1_day v_p1_dead v_p1_buried a_p1_holding, aI G (r_t 3) 64 w_ways, aI G (r_t 2) 36 v_enemiesByDay]) ml_X1_45 ms_J6_bitCount_0f7a4 hf (fun q1 h => (c_J6_bitCount_0f7a4 G K.2.1) x3 q1 h) [] [none, none, none, none] 4 rfl (by decide +kernel) (by decide +kernel) (fun _ => rfl) (fun _ => rfl) rfl rfl rfl rfl ⟨Nat.zero_le _, Nat.zero_le _⟩ dX1_findWays_43 (fun q1 hf => ?_)
    refine j_istore C (pc := 46) (L' := [(4, .int q1), (0, .ref a_t), (2, .int x2), (3, .int x3)]) dX1_findWays_46 (by decide) rfl ?_
    refine j_iconst C (pc := 48) (v := 0) (by decide) dX1_findWays_48 ?_
    refine j_istore C (pc := 49) (L' := [(5, .int (0 : Int32)), (4, .int q1), (0, .ref a_t), (2, .int x2), (3, .int x3)]) dX1_findWays_49 (by decide) rfl ?_
    refine j_sub [2, 3, 4, 1, 0] rfl ?_
    exact t_X1_findWays_51 C hQ hk36 1000 _ _ _ _ _ hf
theorem t_X1_findWays_36 {G : Gx} {K : Kx} (C : Cx G K cX1_findWays RX1 7 2) {a_t : Nat} {r_t : Nat → Nat} {a_p1 : Nat} {r_p1 : Nat → Nat} {v_p1_people : Int32} {v_p1_day : Int32} {v_p1_dead : Int32} {v_p1_buried : Int32} {a_p1_holding : Nat} {v_enemiesByDay : Nat → Int32} {q : (Nat → Int32)} (hQ : k_retV G K cX1_findWays 7 [oX1 a_t r_t, oX6 a_p1 r_p1 v_p1_people v_p1_day v_p1_dead v_p1_buried a_p1_holding, aI G (r_t 3) 64 q, aI G (r_t 2) 36 v_enemiesByDay]) : ∀ (n : Nat) (x2 : Int32) (x3 : Int32) (w_ways : Nat → Int32), f_X1_findWays_36 v_enemiesByDay n x2 x3 w_ways = some q → J G K 7 0 0 [oX1 a_t r_t, oX6 a_p1 r_p1 v_p1_people v_p1_day v_p1_dead v_p1_buried a_p1_holding, aI G (r_t 3) 64 w_ways, aI G (r_t 2) 36 v_enemiesByDay] [(0, .ref a_t), (2, .int x2), (3, .int x3)] 36 [] := by
  intro n
  induction n with
  | zero => intro x2 x3 w_ways hf; cases hf
  | succ n ih => intro x2 x3 w_ways hf; exact t_X1_findWays_36_b C hQ ih hf
def f_X1_findWays_7_b (v_enemiesByDay : Nat → Int32) (k7 : Int32 → Int32 → (Nat → Int32) → Option ((Nat → Int32))) (x2 : Int32) (x3 : Int32) (w_ways : Nat → Int32) : Option ((Nat → Int32)) := (if (64 : Int32) ≤ x3 then (f_X1_findWays_36 v_enemiesByDay 1000 x2 (0 : Int32) w_ways) else (if x3 = 0 then (gd x3 64 (k7 x2 (x3 + (1 : Int32)) (upd w_ways x3.toNatClampNeg (1 : Int32)))) else (gd x3 64 (k7 x2 (x3 + (1 : Int32)) (upd w_ways x3.toNatClampNeg (0 : Int32))))))
def f_X1_findWays_7 (v_enemiesByDay : Nat → Int32) : Nat → Int32 → Int32 → (Nat → Int32) → Option ((Nat → Int32))
  | 0 => fun _ _ _ => none
  | n + 1 => f_X1_findWays_7_b v_enemiesByDay (f_X1_findWays_7 v_enemiesByDay n)
set_option maxRecDepth 20000 in
set_option maxHeartbeats 1000000 in
theorem t_X1_findWays_7_b {G : Gx} {K : Kx} (C : Cx G K cX1_findWays RX1 7 2) {a_t : Nat} {r_t : Nat → Nat} {a_p1 : Nat} {r_p1 : Nat → Nat} {v_p1_people : Int32} {v_p1_day : Int32} {v_p1_dead : Int32} {v_p1_buried : Int32} {a_p1_holding : Nat} {v_enemiesByDay : Nat → Int32} {q : (Nat → Int32)} (hQ : k_retV G K cX1_findWays 7 [oX1 a_t r_t, oX6 a_p1 r_p1 v_p1_people v_p1_day v_p1_dead v_p1_buried a_p1_holding, aI G (r_t 3) 64 q, aI G (r_t 2) 36 v_enemiesByDay]) {k7 : Int32 → Int32 → (Nat → Int32) → Option ((Nat → Int32))} (hk7 : ∀ (x2 : Int32) (x3 : Int32) (w_ways : Nat → Int32), k7 x2 x3 w_ways = some q → J G K 7 0 0 [oX1 a_t r_t, oX6 a_p1 r_p1 v_p1_people v_p1_day v_p1_dead v_p1_buried a_p1_holding, aI G (r_t 3) 64 w_ways, aI G (r_t 2) 36 v_enemiesByDay] [(0, .ref a_t), (2, .int x2), (3, .int x3)] 7 []) {x2 : Int32} {x3 : Int32} {w_ways : Nat → Int32} (hf : f_X1_findWays_7_b v_enemiesByDay k7 x2 x3 w_ways = some q) : J G K 7 0 0 [oX1 a_t r_t, oX6 a_p1 r_p1 v_p1_people v_p1_day v_p1_dead v_p1_buried a_p1_holding, aI G (r_t 3) 64 w_ways, aI G (r_t 2) 36 v_enemiesByDay] [(0, .ref a_t), (2, .int x2), (3, .int x3)] 7 [] := by
  unfold f_X1_findWays_7_b at hf
  refine j_iload_n C (pc := 7) 2 rfl rfl dX1_findWays_7 ?_
  refine j_bipush C (pc := 8) (v := 64) (by decide) dX1_findWays_8 ?_
  refine j_icmp_ge C (pc := 10) 34 dX1_findWays_10 (by decide) hf (fun hf => ?_) (fun hf => ?_)
  · refine j_iconst C (pc := 34) (v := 0) (by decide) dX1_findWays_34 ?_
    refine j_istore_n C (pc := 35) (L' := [(3, .int (0 : Int32)), (0, .ref a_t), (2, .int x2)]) dX1_findWays_35 rfl (by decide) rfl ?_
    refine j_sub [1, 2, 0] rfl ?_
    exact t_X1_findWays_36 C hQ 1000 _ _ _ hf
  · refine j_aload_n C (pc := 13) 0 rfl rfl dX1_findWays_13 ?_
    refine j_get C (pc := 14) kc_X1 fl_X1_21 0 rfl rfl dX1_findWays_14 ?_
    refine j_iload_n C (pc := 17) 2 rfl rfl dX1_findWays_17 ?_
    refine j_iload_n C (pc := 18) 2 rfl rfl dX1_findWays_18 ?_
    refine j_if_ne C (pc := 19) 26 dX1_findWays_19 (by decide) hf (fun hf => ?_) (fun hf => ?_)
    · refine j_iconst C (pc := 26) (v := 0) (by decide) dX1_findWays_26 ?_
      refine j_iast C (pc := 27) (ws' := [oX1 a_t r_t, oX6 a_p1 r_p1 v_p1_people v_p1_day v_p1_dead v_p1_buried a_p1_holding, aI G (r_t 3) 64 (upd w_ways x3.toNatClampNeg (0 : Int32)), aI G (r_t 2) 36 v_enemiesByDay]) 2 rfl hf rfl dX1_findWays_27 (fun hf => ?_)
      refine j_iinc C (pc := 28) (L' := [(3, .int (x3 + (1 : Int32))), (0, .ref a_t), (2, .int x2)]) (v := x3 + (1 : Int32)) dX1_findWays_28 (t := 2) rfl rfl (by decide) rfl ?_
      refine j_goto C (pc := 31) 7 dX1_findWays_31 (by decide) ?_
      refine j_sub [1, 2, 0] rfl ?_
      exact hk7 _ _ _ hf
    · refine j_iconst C (pc := 22) (v := 1) (by decide) dX1_findWays_22 ?_
      refine j_goto C (pc := 23) 27 dX1_findWays_23 (by decide) ?_
      refine j_iast C (pc := 27) (ws' := [oX1 a_t r_t, oX6 a_p1 r_p1 v_p1_people v_p1_day v_p1_dead v_p1_buried a_p1_holding, aI G (r_t 3) 64 (upd w_ways x3.toNatClampNeg (1 : Int32)), aI G (r_t 2) 36 v_enemiesByDay]) 2 rfl hf rfl dX1_findWays_27 (fun hf => ?_)
      refine j_iinc C (pc := 28) (L' := [(3, .int (x3 + (1 : Int32))), (0, .ref a_t), (2, .int x2)]) (v := x3 + (1 : Int32)) dX1_findWays_28 (t := 2) rfl rfl (by decide) rfl ?_
      refine j_goto C (pc := 31) 7 dX1_findWays_31 (by decide) ?_
      refine j_sub [1, 2, 0] rfl ?_
      exact hk7 _ _ _ hf
theorem t_X1_findWays_7 {G : Gx} {K : Kx} (C : Cx G K cX1_findWays RX1 7 2) {a_t : Nat} {r_t : Nat → Nat} {a_p1 : Nat} {r_p1 : Nat → Nat} {v_p1_people : Int32} {v_p1_day : Int32} {v_p1_dead : Int32} {v_p1_buried : Int32} {a_p1_holding : Nat} {v_enemiesByDay : Nat → Int32} {q : (Nat → Int32)} (hQ : k_retV G K cX1_findWays 7 [oX1 a_t r_t, oX6 a_p1 r_p1 v_p1_people v_p1_day v_p1_dead v_p1_buried a_p1_holding, aI G (r_t 3) 64 q, aI G (r_t 2) 36 v_enemiesByDay]) : ∀ (n : Nat) (x2 : Int32) (x3 : Int32) (w_ways : Nat → Int32), f_X1_findWays_7 v_enemiesByDay n x2 x3 w_ways = some q → J G K 7 0 0 [oX1 a_t r_t, oX6 a_p1 r_p1 v_p1_people v_p1_day v_p1_dead v_p1_buried a_p1_holding, aI G (r_t 3) 64 w_ways, aI G (r_t 2) 36 v_enemiesByDay] [(0, .ref a_t), (2, .int x2), (3, .int x3)] 7 [] := by
  intro n
  induction n with
  | zero => intro x2 x3 w_ways hf; cases hf
  | succ n ih => intro x2 x3 w_ways hf; exact t_X1_findWays_7_b C hQ ih hf
def f_X1_findWays (v_p1_people : Int32) (v_p1_dead : Int32) (v_ways : Nat → Int32) (v_enemiesByDay : Nat → Int32) : Option ((Nat → Int32)) := ((f_X6_alive v_p1_people v_p1_dead).bind fun q1 => (f_X1_findWays_7 v_enemiesByDay 1000 q1 (0 : Int32) v_ways))
set_option maxRecDepth 20000 in
set_option maxHeartbeats 1000000 in
theorem t_X1_findWays {G : Gx} {K : Kx} (C : Cx G K cX1_findWays RX1 7 2) {a_t : Nat} {r_t : Nat → Nat} {a_p1 : Nat} {r_p1 : Nat → Nat} {v_p1_people : Int32} {v_p1_day : Int32} {v_p1_dead : Int32} {v_p1_buried : Int32} {a_p1_holding : Nat} {v_ways : Nat → Int32} {v_enemiesByDay : Nat → Int32} {q : (Nat → Int32)} (hQ : k_retV G K cX1_findWays 7 [oX1 a_t r_t, oX6 a_p1 r_p1 v_p1_people v_p1_day v_p1_dead v_p1_buried a_p1_holding, aI G (r_t 3) 64 q, aI G (r_t 2) 36 v_enemiesByDay]) (hf : f_X1_findWays v_p1_people v_p1_dead v_ways v_enemiesByDay = some q) : J G K 7 0 0 [oX1 a_t r_t, oX6 a_p1 r_p1 v_p1_people v_p1_day v_p1_dead v_p1_buried a_p1_holding, aI G (r_t 3) 64 v_ways, aI G (r_t 2) 36 v_enemiesByDay] [(0, .ref a_t), (1, .ref a_p1)] 0 [] := by
  unfold f_X1_findWays at hf
  refine j_aload_n C (pc := 0) 1 rfl rfl dX1_findWays_0 ?_
  refine j_cVI C (pc := 1) (As := []) (st := []) (ws' := fun q1 => [oX1 a_t r_t, oX6 a_p1 r_p1 v_p1_people v_p1_day v_p1_dead v_p1_buried a_p1_holding, aI G (r_t 3) 64 v_ways, aI G (r_t 2) 36 v_enemiesByDay]) ml_X1_37 ms_X6_alive hf (fun q1 h => (c_X6_alive G K.2.1) a_p1 r_p1 v_p1_people v_p1_day v_p1_dead v_p1_buried a_p1_holding q1 h) [1] [none, some 0, none, none] 4 rfl (by decide +kernel) (by decide +kernel) (fun _ => rfl) (fun _ => rfl) rfl rfl rfl rfl ⟨Nat.zero_le _, Nat.zero_le _⟩ dX1_findWays_1 kc_X6 1 rfl (fun q1 hf => ?_)
  refine j_istore_n C (pc := 4) (L' := [(2, .int q1), (0, .ref a_t), (1, .ref a_p1)]) dX1_findWays_4 rfl (by decide) rfl ?_
  refine j_iconst C (pc := 5) (v := 0) (by decide) dX1_findWays_5 ?_
  refine j_istore_n C (pc := 6) (L' := [(3, .int (0 : Int32)), (2, .int q1), (0, .ref a_t), (1, .ref a_p1)]) dX1_findWays_6 rfl (by decide) rfl ?_
  refine j_sub [2, 1, 0] rfl ?_
  exact t_X1_findWays_7 C hQ 1000 _ _ _ hf
def ct_X1_findWays (G : Gx) (l : Launch) (F : Int32 → Int32 → (Nat → Int32) → (Nat → Int32) → Option ((Nat → Int32))) (lv : Nat) : Prop := ∀ (a_t : Nat) (r_t : Nat → Nat) (a_p1 : Nat) (r_p1 : Nat → Nat) (v_p1_people : Int32) (v_p1_day : Int32) (v_p1_dead : Int32) (v_p1_buried : Int32) (a_p1_holding : Nat) (v_ways : Nat → Int32) (v_enemiesByDay : Nat → Int32), ∀ (q : (Nat → Int32)), F v_p1_people v_p1_dead v_ways v_enemiesByDay = some q → MV G l yX1_findWays cX1_findWays 7 lv [.ref a_t, .ref a_p1] [oX1 a_t r_t, oX6 a_p1 r_p1 v_p1_people v_p1_day v_p1_dead v_p1_buried a_p1_holding, aI G (r_t 3) 64 v_ways, aI G (r_t 2) 36 v_enemiesByDay] [oX1 a_t r_t, oX6 a_p1 r_p1 v_p1_people v_p1_day v_p1_dead v_p1_buried a_p1_holding, aI G (r_t 3) 64 q, aI G (r_t 2) 36 v_enemiesByDay]
theorem c_X1_findWays (G : Gx) (l : Launch) : ct_X1_findWays G l f_X1_findWays 2 := by
  intro a_t r_t a_p1 r_p1 v_p1_people v_p1_day v_p1_dead v_p1_buried a_p1_holding v_ways v_enemiesByDay q hf
  exact mV_of (by decide +kernel) rfl (fun K hl C hQ => t_X1_findWays C hQ hf)
-- X1_isEnough
def f_X1_isEnough_2_b (v_enemies : Nat → Int32) (p1 : Int32) (p2 : Int32) (k2 : Int32 → Option (Int32)) (x3 : Int32) : Option (Int32) := (if (6 : Int32) ≤ x3 then (some (1 : Int32)) else ((f_X7_bit p2 x3).bind fun q1 => (if q1 = (1 : Int32) then (gd x3 6 (if ((v_enemies x3.toNatClampNeg) &&& p1) = 0 then (some (0 : Int32)) else (k2 (x3 + (1 : Int32))))) else (k2 (x3 + (1 : Int32))))))
def f_X1_isEnough_2 (v_enemies : Nat → Int32) (p1 : Int32) (p2 : Int32) : Nat → Int32 → Option (Int32)
  | 0 => fun _ => none
  | n + 1 => f_X1_isEnough_2_b v_enemies p1 p2 (f_X1_isEnough_2 v_enemies p1 p2 n)
set_option maxRecDepth 20000 in
set_option maxHeartbeats 1000000 in
theorem t_X1_isEnough_2_b {G : Gx} {K : Kx} (C : Cx G K cX1_isEnough RX1 4 2) {a_t : Nat} {r_t : Nat → Nat} {v_enemies : Nat → Int32} {p1 : Int32} {p2 : Int32} {q : Int32} (hQ : k_retI G K cX1_isEnough 4 .boolean [oX1 a_t r_t, aI G (r_t 0) 6 v_enemies] q) {k2 : Int32 → Option (Int32)} (hk2 : ∀ (x3 : Int32), k2 x3 = some q → J G K 4 0 0 [oX1 a_t r_t, aI G (r_t 0) 6 v_enemies] [(0, .ref a_t), (1, .int p1), (2, .int p2), (3, .int x3)] 2 []) {x3 : Int32} (hf : f_X1_isEnough_2_b v_enemies p1 p2 k2 x3 = some q) : J G K 4 0 0 [oX1 a_t r_t, aI G (r_t 0) 6 v_enemies] [(0, .ref a_t), (1, .int p1), (2, .int p2), (3, .int x3)] 2 [] := by
  unfold f_X1_isEnough_2_b at hf
  refine j_iload_n C (pc := 2) 3 rfl rfl dX1_isEnough_2 ?_
  refine j_bipush C (pc := 3) (v := 6) (by decide) dX1_isEnough_3 ?_
  refine j_icmp_ge C (pc := 5) 36 dX1_isEnough_5 (by decide) hf (fun hf => ?_) (fun hf => ?_)
  · refine j_iconst C (pc := 36) (v := 1) (by decide) dX1_isEnough_36 ?_
    obtain rfl := Option.some.inj hf
    exact hQ _ _ dX1_isEnough_37 (show narrow .boolean (.int (1 : Int32)) = .int (1 : Int32) from rfl)
  · refine j_iload_n C (pc := 8) 2 rfl rfl dX1_isEnough_8 ?_
    refine j_iload_n C (pc := 9) 3 rfl rfl dX1_isEnough_9 ?_
    refine j_cSNI C (pc := 10) (As := [.int p2, .int x3]) (st := []) (ws' := fun q1 => [oX1 a_t r_t, aI G (r_t 0) 6 v_enemies]) ml_X1_24 ms_X7_bit hf (fun q1 h => (c_X7_bit G K.2.1) p2 x3 q1 h) [] [none, none] 2 rfl (by decide +kernel) (by decide +kernel) (fun _ => rfl) (fun _ => rfl) rfl rfl rfl rfl ⟨Nat.zero_le _, Nat.zero_le _⟩ dX1_isEnough_10 (fun q1 hf => ?_)
    refine j_iconst C (pc := 13) (v := 1) (by decide) dX1_isEnough_13 ?_
    refine j_icmp_ne C (pc := 14) 30 dX1_isEnough_14 (by decide) hf (fun hf => ?_) (fun hf => ?_)
    · refine j_iinc C (pc := 30) (L' := [(3, .int (x3 + (1 : Int32))), (0, .ref a_t), (1, .int p1), (2, .int p2)]) (v := x3 + (1 : Int32)) dX1_isEnough_30 (t := 3) rfl rfl (by decide) rfl ?_
      refine j_goto C (pc := 33) 2 dX1_isEnough_33 (by decide) ?_
      refine j_sub [1, 2, 3, 0] rfl ?_
      exact hk2 _ hf
    · refine j_aload_n C (pc := 17) 0 rfl rfl dX1_isEnough_17 ?_
      refine j_get C (pc := 18) kc_X1 fl_X1_9 0 rfl rfl dX1_isEnough_18 ?_
      refine j_iload_n C (pc := 21) 3 rfl rfl dX1_isEnough_21 ?_
      refine j_iald C (pc := 22) 1 rfl hf dX1_isEnough_22 (fun hf => ?_)
      refine j_iload_n C (pc := 23) 1 rfl rfl dX1_isEnough_23 ?_
      refine j_iand C (pc := 24) dX1_isEnough_24 ?_
      refine j_if_ne C (pc := 25) 30 dX1_isEnough_25 (by decide) hf (fun hf => ?_) (fun hf => ?_)
      · refine j_iinc C (pc := 30) (L' := [(3, .int (x3 + (1 : Int32))), (0, .ref a_t), (1, .int p1), (2, .int p2)]) (v := x3 + (1 : Int32)) dX1_isEnough_30 (t := 3) rfl rfl (by decide) rfl ?_
        refine j_goto C (pc := 33) 2 dX1_isEnough_33 (by decide) ?_
        refine j_sub [1, 2, 3, 0] rfl ?_
        exact hk2 _ hf
      · refine j_iconst C (pc := 28) (v := 0) (by decide) dX1_isEnough_28 ?_
        obtain rfl := Option.some.inj hf
        exact hQ _ _ dX1_isEnough_29 (show narrow .boolean (.int (0 : Int32)) = .int (0 : Int32) from rfl)
theorem t_X1_isEnough_2 {G : Gx} {K : Kx} (C : Cx G K cX1_isEnough RX1 4 2) {a_t : Nat} {r_t : Nat → Nat} {v_enemies : Nat → Int32} {p1 : Int32} {p2 : Int32} {q : Int32} (hQ : k_retI G K cX1_isEnough 4 .boolean [oX1 a_t r_t, aI G (r_t 0) 6 v_enemies] q) : ∀ (n : Nat) (x3 : Int32), f_X1_isEnough_2 v_enemies p1 p2 n x3 = some q → J G K 4 0 0 [oX1 a_t r_t, aI G (r_t 0) 6 v_enemies] [(0, .ref a_t), (1, .int p1), (2, .int p2), (3, .int x3)] 2 [] := by
  intro n
  induction n with
  | zero => intro x3 hf; cases hf
  | succ n ih => intro x3 hf; exact t_X1_isEnough_2_b C hQ ih hf
def f_X1_isEnough (v_enemies : Nat → Int32) (p1 : Int32) (p2 : Int32) : Option (Int32) := (f_X1_isEnough_2 v_enemies p1 p2 1000 (0 : Int32))
set_option maxRecDepth 20000 in
set_option maxHeartbeats 1000000 in
theorem t_X1_isEnough {G : Gx} {K : Kx} (C : Cx G K cX1_isEnough RX1 4 2) {a_t : Nat} {r_t : Nat → Nat} {v_enemies : Nat → Int32} {p1 : Int32} {p2 : Int32} {q : Int32} (hQ : k_retI G K cX1_isEnough 4 .boolean [oX1 a_t r_t, aI G (r_t 0) 6 v_enemies] q) (hf : f_X1_isEnough v_enemies p1 p2 = some q) : J G K 4 0 0 [oX1 a_t r_t, aI G (r_t 0) 6 v_enemies] [(0, .ref a_t), (1, .int p1), (2, .int p2)] 0 [] := by
  unfold f_X1_isEnough at hf
  refine j_iconst C (pc := 0) (v := 0) (by decide) dX1_isEnough_0 ?_
  refine j_istore_n C (pc := 1) (L' := [(3, .int (0 : Int32)), (0, .ref a_t), (1, .int p1), (2, .int p2)]) dX1_isEnough_1 rfl (by decide) rfl ?_
  refine j_sub [1, 2, 3, 0] rfl ?_
  exact t_X1_isEnough_2 C hQ 1000 _ hf
def ct_X1_isEnough (G : Gx) (l : Launch) (F : (Nat → Int32) → Int32 → Int32 → Option (Int32)) (lv : Nat) : Prop := ∀ (a_t : Nat) (r_t : Nat → Nat) (v_enemies : Nat → Int32) (p1 : Int32) (p2 : Int32), ∀ (q : Int32), F v_enemies p1 p2 = some q → MI G l yX1_isEnough cX1_isEnough 4 .boolean lv [.ref a_t, .int p1, .int p2] [oX1 a_t r_t, aI G (r_t 0) 6 v_enemies] [oX1 a_t r_t, aI G (r_t 0) 6 v_enemies] q
theorem c_X1_isEnough (G : Gx) (l : Launch) : ct_X1_isEnough G l f_X1_isEnough 2 := by
  intro a_t r_t v_enemies p1 p2 q hf
  exact mI_of (by decide +kernel) rfl (fun K hl C hQ => t_X1_isEnough C hQ hf)
-- X1_keep
def f_X1_keep_21_b (k21 : Int32 → Int32 → Int32 → Int32 → (Nat → Int32) → (Nat → Int32) → Option (Int32 × (Nat → Int32) × (Nat → Int32))) (x2 : Int32) (x3 : Int32) (x4 : Int32) (x5 : Int32) (w_enemies : Nat → Int32) (w_p1_facts : Nat → Int32) : Option (Int32 × (Nat → Int32) × (Nat → Int32)) := (if (64 : Int32) ≤ x5 then (some (x3, w_enemies, w_p1_facts)) else ((f_J6_bitCount_0f7a4 x5).bind fun q1 => (if (x5 &&& (x2 ^^^ (-1 : Int32))) = 0 then (if x4 ≤ q1 then (k21 x2 x3 x4 (x5 + (1 : Int32)) w_enemies w_p1_facts) else ((f_X1_isEnough w_enemies x5 x2).bind fun q2 => (if q2 = 0 then (k21 x2 x3 x4 (x5 + (1 : Int32)) w_enemies w_p1_facts) else (k21 x2 x5 q1 (x5 + (1 : Int32)) w_enemies w_p1_facts)))) else (k21 x2 x3 x4 (x5 + (1 : Int32)) w_enemies w_p1_facts))))
def f_X1_keep_21 : Nat → Int32 → Int32 → Int32 → Int32 → (Nat → Int32) → (Nat → Int32) → Option (Int32 × (Nat → Int32) × (Nat → Int32))
  | 0 => fun _ _ _ _ _ _ => none
  | n + 1 => f_X1_keep_21_b (f_X1_keep_21 n)
set_option maxRecDepth 20000 in
set_option maxHeartbeats 1000000 in
theorem t_X1_keep_21_b {G : Gx} {K : Kx} (C : Cx G K cX1_keep RX1 7 6) {a_t : Nat} {r_t : Nat → Nat} {a_p1 : Nat} {r_p1 : Nat → Nat} {r_p1_holding : Nat → Nat} {v_p1_people : Int32} {v_p1_day : Int32} {v_p1_dead : Int32} {v_p1_buried : Int32} {a_p1_holding : Nat} {v_p1_hates : Nat → Int32} {v_p1_vs : Nat → Int32} {v_p1_kinds : Nat → Int32} {v_p1_holding_length : Int32} {v_p1_holding_need : Int32} {v_p1_holding_steps : Nat → Int32} {v_p1_holding_numbers : Nat → Int32} {v_p1_rows : Nat → Int32} {q : Int32 × (Nat → Int32) × (Nat → Int32)} (hQ : k_retI G K cX1_keep 7 .int [oX1 a_t r_t, oX6 a_p1 r_p1 v_p1_people v_p1_day v_p1_dead v_p1_buried a_p1_holding, aI G (r_t 0) 6 q.2.1, aI G (r_p1 8) 36 v_p1_hates, aI G (r_p1 6) 6 v_p1_vs, aI G (r_p1 5) 6 v_p1_kinds, aI G (r_p1 13) 6 q.2.2, oX2 a_p1_holding r_p1_holding v_p1_holding_length v_p1_holding_need, aI G (r_p1_holding 0) 100 v_p1_holding_steps, aI G (r_p1_holding 1) 100 v_p1_holding_numbers, aI G (r_p1 9) 24 v_p1_rows] q.1) {k21 : Int32 → Int32 → Int32 → Int32 → (Nat → Int32) → (Nat → Int32) → Option (Int32 × (Nat → Int32) × (Nat → Int32))} (hk21 : ∀ (x2 : Int32) (x3 : Int32) (x4 : Int32) (x5 : Int32) (w_enemies : Nat → Int32) (w_p1_facts : Nat → Int32), k21 x2 x3 x4 x5 w_enemies w_p1_facts = some q → J G K 7 0 0 [oX1 a_t r_t, oX6 a_p1 r_p1 v_p1_people v_p1_day v_p1_dead v_p1_buried a_p1_holding, aI G (r_t 0) 6 w_enemies, aI G (r_p1 8) 36 v_p1_hates, aI G (r_p1 6) 6 v_p1_vs, aI G (r_p1 5) 6 v_p1_kinds, aI G (r_p1 13) 6 w_p1_facts, oX2 a_p1_holding r_p1_holding v_p1_holding_length v_p1_holding_need, aI G (r_p1_holding 0) 100 v_p1_holding_steps, aI G (r_p1_holding 1) 100 v_p1_holding_numbers, aI G (r_p1 9) 24 v_p1_rows] [(0, .ref a_t), (2, .int x2), (3, .int x3), (4, .int x4), (5, .int x5)] 21 []) {x2 : Int32} {x3 : Int32} {x4 : Int32} {x5 : Int32} {w_enemies : Nat → Int32} {w_p1_facts : Nat → Int32} (hf : f_X1_keep_21_b k21 x2 x3 x4 x5 w_enemies w_p1_facts = some q) : J G K 7 0 0 [oX1 a_t r_t, oX6 a_p1 r_p1 v_p1_people v_p1_day v_p1_dead v_p1_buried a_p1_holding, aI G (r_t 0) 6 w_enemies, aI G (r_p1 8) 36 v_p1_hates, aI G (r_p1 6) 6 v_p1_vs, aI G (r_p1 5) 6 v_p1_kinds, aI G (r_p1 13) 6 w_p1_facts, oX2 a_p1_holding r_p1_holding v_p1_holding_length v_p1_holding_need, aI G (r_p1_holding 0) 100 v_p1_holding_steps, aI G (r_p1_holding 1) 100 v_p1_holding_numbers, aI G (r_p1 9) 24 v_p1_rows] [(0, .ref a_t), (2, .int x2), (3, .int x3), (4, .int x4), (5, .int x5)] 21 [] := by
  unfold f_X1_keep_21_b at hf
  refine j_iload C (pc := 21) 4 rfl dX1_keep_21 ?_
  refine j_bipush C (pc := 23) (v := 64) (by decide) dX1_keep_23 ?_
  refine j_icmp_ge C (pc := 25) 74 dX1_keep_25 (by decide) hf (fun hf => ?_) (fun hf => ?_)
  · refine j_iload_n C (pc := 74) 2 rfl rfl dX1_keep_74 ?_
    obtain rfl := Option.some.inj hf
    exact hQ _ _ dX1_keep_75 rfl
  · refine j_iload C (pc := 28) 4 rfl dX1_keep_28 ?_
    refine j_cSI C (pc := 30) (As := [.int x5]) (st := []) (ws' := fun q1 => [oX1 a_t r_t, oX6 a_p1 r_p1 v_p1_people v_p1_day v_p1_dead v_p1_buried a_p1_holding, aI G (r_t 0) 6 w_enemies, aI G (r_p1 8) 36 v_p1_hates, aI G (r_p1 6) 6 v_p1_vs, aI G (r_p1 5) 6 v_p1_kinds, aI G (r_p1 13) 6 w_p1_facts, oX2 a_p1_holding r_p1_holding v_p1_holding_length v_p1_holding_need, aI G (r_p1_holding 0) 100 v_p1_holding_steps, aI G (r_p1_holding 1) 100 v_p1_holding_numbers, aI G (r_p1 9) 24 v_p1_rows]) ml_X1_45 ms_J6_bitCount_0f7a4 hf (fun q1 h => (c_J6_bitCount_0f7a4 G K.2.1) x5 q1 h) [] [none, none, none, none, none, none, none, none, none, none, none] 11 rfl (by decide +kernel) (by decide +kernel) (fun _ => rfl) (fun _ => rfl) rfl rfl rfl rfl ⟨Nat.zero_le _, Nat.zero_le _⟩ dX1_keep_30 (fun q1 hf => ?_)
    refine j_istore C (pc := 33) (L' := [(6, .int q1), (0, .ref a_t), (2, .int x2), (3, .int x3), (4, .int x4), (5, .int x5)]) dX1_keep_33 (by decide) rfl ?_
    refine j_iload C (pc := 35) 5 rfl dX1_keep_35 ?_
    refine j_iload_n C (pc := 37) 2 rfl rfl dX1_keep_37 ?_
    refine j_iconst C (pc := 38) (v := -1) (by decide) dX1_keep_38 ?_
    refine j_ixor C (pc := 39) dX1_keep_39 ?_
    refine j_iand C (pc := 40) dX1_keep_40 ?_
    refine j_if_ne C (pc := 41) 68 dX1_keep_41 (by decide) hf (fun hf => ?_) (fun hf => ?_)
    · refine j_iinc C (pc := 68) (L' := [(5, .int (x5 + (1 : Int32))), (6, .int q1), (0, .ref a_t), (2, .int x2), (3, .int x3), (4, .int x4)]) (v := x5 + (1 : Int32)) dX1_keep_68 (t := 5) rfl rfl (by decide) rfl ?_
      refine j_goto C (pc := 71) 21 dX1_keep_71 (by decide) ?_
      refine j_sub [2, 3, 4, 5, 0] rfl ?_
      exact hk21 _ _ _ _ _ _ hf
    · refine j_iload C (pc := 44) 0 rfl dX1_keep_44 ?_
      refine j_iload C (pc := 46) 4 rfl dX1_keep_46 ?_
      refine j_icmp_ge C (pc := 48) 68 dX1_keep_48 (by decide) hf (fun hf => ?_) (fun hf => ?_)
      · refine j_iinc C (pc := 68) (L' := [(5, .int (x5 + (1 : Int32))), (6, .int q1), (0, .ref a_t), (2, .int x2), (3, .int x3), (4, .int x4)]) (v := x5 + (1 : Int32)) dX1_keep_68 (t := 5) rfl rfl (by decide) rfl ?_
        refine j_goto C (pc := 71) 21 dX1_keep_71 (by decide) ?_
        refine j_sub [2, 3, 4, 5, 0] rfl ?_
        exact hk21 _ _ _ _ _ _ hf
      · refine j_aload_n C (pc := 51) 1 rfl rfl dX1_keep_51 ?_
        refine j_iload C (pc := 52) 5 rfl dX1_keep_52 ?_
        refine j_iload_n C (pc := 54) 2 rfl rfl dX1_keep_54 ?_
        refine j_cVI C (pc := 55) (As := [.int x5, .int x2]) (st := []) (ws' := fun q2 => [oX1 a_t r_t, oX6 a_p1 r_p1 v_p1_people v_p1_day v_p1_dead v_p1_buried a_p1_holding, aI G (r_t 0) 6 w_enemies, aI G (r_p1 8) 36 v_p1_hates, aI G (r_p1 6) 6 v_p1_vs, aI G (r_p1 5) 6 v_p1_kinds, aI G (r_p1 13) 6 w_p1_facts, oX2 a_p1_holding r_p1_holding v_p1_holding_length v_p1_holding_need, aI G (r_p1_holding 0) 100 v_p1_holding_steps, aI G (r_p1_holding 1) 100 v_p1_holding_numbers, aI G (r_p1 9) 24 v_p1_rows]) ml_X1_51 ms_X1_isEnough hf (fun q2 h => (c_X1_isEnough G K.2.1) a_t r_t w_enemies x5 x2 q2 h) [0, 2] [some 0, none, some 1, none, none, none, none, none, none, none, none] 11 rfl (by decide +kernel) (by decide +kernel) (fun _ => rfl) (fun _ => rfl) rfl rfl rfl rfl ⟨Nat.zero_le _, Nat.zero_le _⟩ dX1_keep_55 kc_X1 0 rfl (fun q2 hf => ?_)
        refine j_if_eq C (pc := 58) 68 dX1_keep_58 (by decide) hf (fun hf => ?_) (fun hf => ?_)
        · refine j_iinc C (pc := 68) (L' := [(5, .int (x5 + (1 : Int32))), (6, .int q1), (0, .ref a_t), (2, .int x2), (3, .int x3), (4, .int x4)]) (v := x5 + (1 : Int32)) dX1_keep_68 (t := 5) rfl rfl (by decide) rfl ?_
          refine j_goto C (pc := 71) 21 dX1_keep_71 (by decide) ?_
          refine j_sub [2, 3, 4, 5, 0] rfl ?_
          exact hk21 _ _ _ _ _ _ hf
        · refine j_iload C (pc := 61) 5 rfl dX1_keep_61 ?_
          refine j_istore_n C (pc := 63) (L' := [(3, .int x5), (6, .int q1), (0, .ref a_t), (2, .int x2), (4, .int x4), (5, .int x5)]) dX1_keep_63 rfl (by decide) rfl ?_
          refine j_iload C (pc := 64) 1 rfl dX1_keep_64 ?_
          refine j_istore C (pc := 66) (L' := [(4, .int q1), (3, .int x5), (6, .int q1), (0, .ref a_t), (2, .int x2), (5, .int x5)]) dX1_keep_66 (by decide) rfl ?_
          refine j_iinc C (pc := 68) (L' := [(5, .int (x5 + (1 : Int32))), (4, .int q1), (3, .int x5), (6, .int q1), (0, .ref a_t), (2, .int x2)]) (v := x5 + (1 : Int32)) dX1_keep_68 (t := 5) rfl rfl (by decide) rfl ?_
          refine j_goto C (pc := 71) 21 dX1_keep_71 (by decide) ?_
          refine j_sub [4, 5, 2, 1, 0] rfl ?_
          exact hk21 _ _ _ _ _ _ hf
theorem t_X1_keep_21 {G : Gx} {K : Kx} (C : Cx G K cX1_keep RX1 7 6) {a_t : Nat} {r_t : Nat → Nat} {a_p1 : Nat} {r_p1 : Nat → Nat} {r_p1_holding : Nat → Nat} {v_p1_people : Int32} {v_p1_day : Int32} {v_p1_dead : Int32} {v_p1_buried : Int32} {a_p1_holding : Nat} {v_p1_hates : Nat → Int32} {v_p1_vs : Nat → Int32} {v_p1_kinds : Nat → Int32} {v_p1_holding_length : Int32} {v_p1_holding_need : Int32} {v_p1_holding_steps : Nat → Int32} {v_p1_holding_numbers : Nat → Int32} {v_p1_rows : Nat → Int32} {q : Int32 × (Nat → Int32) × (Nat → Int32)} (hQ : k_retI G K cX1_keep 7 .int [oX1 a_t r_t, oX6 a_p1 r_p1 v_p1_people v_p1_day v_p1_dead v_p1_buried a_p1_holding, aI G (r_t 0) 6 q.2.1, aI G (r_p1 8) 36 v_p1_hates, aI G (r_p1 6) 6 v_p1_vs, aI G (r_p1 5) 6 v_p1_kinds, aI G (r_p1 13) 6 q.2.2, oX2 a_p1_holding r_p1_holding v_p1_holding_length v_p1_holding_need, aI G (r_p1_holding 0) 100 v_p1_holding_steps, aI G (r_p1_holding 1) 100 v_p1_holding_numbers, aI G (r_p1 9) 24 v_p1_rows] q.1) : ∀ (n : Nat) (x2 : Int32) (x3 : Int32) (x4 : Int32) (x5 : Int32) (w_enemies : Nat → Int32) (w_p1_facts : Nat → Int32), f_X1_keep_21 n x2 x3 x4 x5 w_enemies w_p1_facts = some q → J G K 7 0 0 [oX1 a_t r_t, oX6 a_p1 r_p1 v_p1_people v_p1_day v_p1_dead v_p1_buried a_p1_holding, aI G (r_t 0) 6 w_enemies, aI G (r_p1 8) 36 v_p1_hates, aI G (r_p1 6) 6 v_p1_vs, aI G (r_p1 5) 6 v_p1_kinds, aI G (r_p1 13) 6 w_p1_facts, oX2 a_p1_holding r_p1_holding v_p1_holding_length v_p1_holding_need, aI G (r_p1_holding 0) 100 v_p1_holding_steps, aI G (r_p1_holding 1) 100 v_p1_holding_numbers, aI G (r_p1 9) 24 v_p1_rows] [(0, .ref a_t), (2, .int x2), (3, .int x3), (4, .int x4), (5, .int x5)] 21 [] := by
  intro n
  induction n with
  | zero => intro x2 x3 x4 x5 w_enemies w_p1_facts hf; cases hf
  | succ n ih => intro x2 x3 x4 x5 w_enemies w_p1_facts hf; exact t_X1_keep_21_b C hQ ih hf
def f_X1_keep (v_p1_people : Int32) (v_p1_day : Int32) (v_p1_dead : Int32) (v_enemies : Nat → Int32) (v_p1_hates : Nat → Int32) (v_p1_vs : Nat → Int32) (v_p1_kinds : Nat → Int32) (v_p1_facts : Nat → Int32) (v_p1_holding_length : Int32) (v_p1_holding_need : Int32) (v_p1_holding_steps : Nat → Int32) (v_p1_holding_numbers : Nat → Int32) (v_p1_rows : Nat → Int32) : Option (Int32 × (Nat → Int32) × (Nat → Int32)) := ((f_X6_alive v_p1_people v_p1_dead).bind fun q1 => ((f_X1_findEnemies v_p1_people v_p1_day v_p1_dead v_enemies v_p1_hates v_p1_vs v_p1_kinds v_p1_facts v_p1_holding_length v_p1_holding_need v_p1_holding_steps v_p1_holding_numbers v_p1_rows q1).bind fun q2 => (f_X1_keep_21 1000 q1 (-5 : Int32) (7 : Int32) (0 : Int32) q2.1 q2.2)))
set_option maxRecDepth 20000 in
set_option maxHeartbeats 1000000 in
theorem t_X1_keep {G : Gx} {K : Kx} (C : Cx G K cX1_keep RX1 7 6) {a_t : Nat} {r_t : Nat → Nat} {a_p1 : Nat} {r_p1 : Nat → Nat} {r_p1_holding : Nat → Nat} {v_p1_people : Int32} {v_p1_day : Int32} {v_p1_dead : Int32} {v_p1_buried : Int32} {a_p1_holding : Nat} {v_enemies : Nat → Int32} {v_p1_hates : Nat → Int32} {v_p1_vs : Nat → Int32} {v_p1_kinds : Nat → Int32} {v_p1_facts : Nat → Int32} {v_p1_holding_length : Int32} {v_p1_holding_need : Int32} {v_p1_holding_steps : Nat → Int32} {v_p1_holding_numbers : Nat → Int32} {v_p1_rows : Nat → Int32} {q : Int32 × (Nat → Int32) × (Nat → Int32)} (hQ : k_retI G K cX1_keep 7 .int [oX1 a_t r_t, oX6 a_p1 r_p1 v_p1_people v_p1_day v_p1_dead v_p1_buried a_p1_holding, aI G (r_t 0) 6 q.2.1, aI G (r_p1 8) 36 v_p1_hates, aI G (r_p1 6) 6 v_p1_vs, aI G (r_p1 5) 6 v_p1_kinds, aI G (r_p1 13) 6 q.2.2, oX2 a_p1_holding r_p1_holding v_p1_holding_length v_p1_holding_need, aI G (r_p1_holding 0) 100 v_p1_holding_steps, aI G (r_p1_holding 1) 100 v_p1_holding_numbers, aI G (r_p1 9) 24 v_p1_rows] q.1) (hf : f_X1_keep v_p1_people v_p1_day v_p1_dead v_enemies v_p1_hates v_p1_vs v_p1_kinds v_p1_facts v_p1_holding_length v_p1_holding_need v_p1_holding_steps v_p1_holding_numbers v_p1_rows = some q) : J G K 7 0 0 [oX1 a_t r_t, oX6 a_p1 r_p1 v_p1_people v_p1_day v_p1_dead v_p1_buried a_p1_holding, aI G (r_t 0) 6 v_enemies, aI G (r_p1 8) 36 v_p1_hates, aI G (r_p1 6) 6 v_p1_vs, aI G (r_p1 5) 6 v_p1_kinds, aI G (r_p1 13) 6 v_p1_facts, oX2 a_p1_holding r_p1_holding v_p1_holding_length v_p1_holding_need, aI G (r_p1_holding 0) 100 v_p1_holding_steps, aI G (r_p1_holding 1) 100 v_p1_holding_numbers, aI G (r_p1 9) 24 v_p1_rows] [(0, .ref a_t), (1, .ref a_p1)] 0 [] := by
  unfold f_X1_keep at hf
  refine j_aload_n C (pc := 0) 1 rfl rfl dX1_keep_0 ?_
  refine j_cVI C (pc := 1) (As := []) (st := []) (ws' := fun q1 => [oX1 a_t r_t, oX6 a_p1 r_p1 v_p1_people v_p1_day v_p1_dead v_p1_buried a_p1_holding, aI G (r_t 0) 6 v_enemies, aI G (r_p1 8) 36 v_p1_hates, aI G (r_p1 6) 6 v_p1_vs, aI G (r_p1 5) 6 v_p1_kinds, aI G (r_p1 13) 6 v_p1_facts, oX2 a_p1_holding r_p1_holding v_p1_holding_length v_p1_holding_need, aI G (r_p1_holding 0) 100 v_p1_holding_steps, aI G (r_p1_holding 1) 100 v_p1_holding_numbers, aI G (r_p1 9) 24 v_p1_rows]) ml_X1_37 ms_X6_alive hf (fun q1 h => (c_X6_alive G K.2.1) a_p1 r_p1 v_p1_people v_p1_day v_p1_dead v_p1_buried a_p1_holding q1 h) [1] [none, some 0, none, none, none, none, none, none, none, none, none] 11 rfl (by decide +kernel) (by decide +kernel) (fun _ => rfl) (fun _ => rfl) rfl rfl rfl rfl ⟨Nat.zero_le _, Nat.zero_le _⟩ dX1_keep_1 kc_X6 1 rfl (fun q1 hf => ?_)
  refine j_istore_n C (pc := 4) (L' := [(2, .int q1), (0, .ref a_t), (1, .ref a_p1)]) dX1_keep_4 rfl (by decide) rfl ?_
  refine j_aload_n C (pc := 5) 1 rfl rfl dX1_keep_5 ?_
  refine j_aload_n C (pc := 6) 2 rfl rfl dX1_keep_6 ?_
  refine j_iload_n C (pc := 7) 0 rfl rfl dX1_keep_7 ?_
  refine j_cVZ C (pc := 8) (As := [.ref a_p1, .int q1]) (st := []) (ws' := fun q2 => [oX1 a_t r_t, oX6 a_p1 r_p1 v_p1_people v_p1_day v_p1_dead v_p1_buried a_p1_holding, aI G (r_t 0) 6 q2.1, aI G (r_p1 8) 36 v_p1_hates, aI G (r_p1 6) 6 v_p1_vs, aI G (r_p1 5) 6 v_p1_kinds, aI G (r_p1 13) 6 q2.2, oX2 a_p1_holding r_p1_holding v_p1_holding_length v_p1_holding_need, aI G (r_p1_holding 0) 100 v_p1_holding_steps, aI G (r_p1_holding 1) 100 v_p1_holding_numbers, aI G (r_p1 9) 24 v_p1_rows]) ml_X1_41 ms_X1_findEnemies hf (fun q2 h => (c_X1_findEnemies G K.2.1) a_t r_t a_p1 r_p1 r_p1_holding v_p1_people v_p1_day v_p1_dead v_p1_buried a_p1_holding v_enemies v_p1_hates v_p1_vs v_p1_kinds v_p1_facts v_p1_holding_length v_p1_holding_need v_p1_holding_steps v_p1_holding_numbers v_p1_rows q1 q2 h) [0, 1, 2, 3, 4, 5, 6, 7, 8, 9, 10] [some 0, some 1, some 2, some 3, some 4, some 5, some 6, some 7, some 8, some 9, some 10] 11 rfl (by decide +kernel) (by decide +kernel) (fun _ => rfl) (fun _ => rfl) rfl rfl rfl rfl ⟨Nat.zero_le _, Nat.zero_le _⟩ dX1_keep_8 kc_X1 0 rfl (fun q2 hf => ?_)
  refine j_bipush C (pc := 11) (v := -5) (by decide) dX1_keep_11 ?_
  refine j_istore_n C (pc := 13) (L' := [(3, .int (-5 : Int32)), (2, .int q1), (0, .ref a_t), (1, .ref a_p1)]) dX1_keep_13 rfl (by decide) rfl ?_
  refine j_bipush C (pc := 14) (v := 7) (by decide) dX1_keep_14 ?_
  refine j_istore C (pc := 16) (L' := [(4, .int (7 : Int32)), (3, .int (-5 : Int32)), (2, .int q1), (0, .ref a_t), (1, .ref a_p1)]) dX1_keep_16 (by decide) rfl ?_
  refine j_iconst C (pc := 18) (v := 0) (by decide) dX1_keep_18 ?_
  refine j_istore C (pc := 19) (L' := [(5, .int (0 : Int32)), (4, .int (7 : Int32)), (3, .int (-5 : Int32)), (2, .int q1), (0, .ref a_t), (1, .ref a_p1)]) dX1_keep_19 (by decide) rfl ?_
  refine j_sub [4, 3, 2, 1, 0] rfl ?_
  exact t_X1_keep_21 C hQ 1000 _ _ _ _ _ _ hf
def ct_X1_keep (G : Gx) (l : Launch) (F : Int32 → Int32 → Int32 → (Nat → Int32) → (Nat → Int32) → (Nat → Int32) → (Nat → Int32) → (Nat → Int32) → Int32 → Int32 → (Nat → Int32) → (Nat → Int32) → (Nat → Int32) → Option (Int32 × (Nat → Int32) × (Nat → Int32))) (lv : Nat) : Prop := ∀ (a_t : Nat) (r_t : Nat → Nat) (a_p1 : Nat) (r_p1 : Nat → Nat) (r_p1_holding : Nat → Nat) (v_p1_people : Int32) (v_p1_day : Int32) (v_p1_dead : Int32) (v_p1_buried : Int32) (a_p1_holding : Nat) (v_enemies : Nat → Int32) (v_p1_hates : Nat → Int32) (v_p1_vs : Nat → Int32) (v_p1_kinds : Nat → Int32) (v_p1_facts : Nat → Int32) (v_p1_holding_length : Int32) (v_p1_holding_need : Int32) (v_p1_holding_steps : Nat → Int32) (v_p1_holding_numbers : Nat → Int32) (v_p1_rows : Nat → Int32), ∀ (q : Int32 × (Nat → Int32) × (Nat → Int32)), F v_p1_people v_p1_day v_p1_dead v_enemies v_p1_hates v_p1_vs v_p1_kinds v_p1_facts v_p1_holding_length v_p1_holding_need v_p1_holding_steps v_p1_holding_numbers v_p1_rows = some q → MI G l yX1_keep cX1_keep 7 .int lv [.ref a_t, .ref a_p1] [oX1 a_t r_t, oX6 a_p1 r_p1 v_p1_people v_p1_day v_p1_dead v_p1_buried a_p1_holding, aI G (r_t 0) 6 v_enemies, aI G (r_p1 8) 36 v_p1_hates, aI G (r_p1 6) 6 v_p1_vs, aI G (r_p1 5) 6 v_p1_kinds, aI G (r_p1 13) 6 v_p1_facts, oX2 a_p1_holding r_p1_holding v_p1_holding_length v_p1_holding_need, aI G (r_p1_holding 0) 100 v_p1_holding_steps, aI G (r_p1_holding 1) 100 v_p1_holding_numbers, aI G (r_p1 9) 24 v_p1_rows] [oX1 a_t r_t, oX6 a_p1 r_p1 v_p1_people v_p1_day v_p1_dead v_p1_buried a_p1_holding, aI G (r_t 0) 6 q.2.1, aI G (r_p1 8) 36 v_p1_hates, aI G (r_p1 6) 6 v_p1_vs, aI G (r_p1 5) 6 v_p1_kinds, aI G (r_p1 13) 6 q.2.2, oX2 a_p1_holding r_p1_holding v_p1_holding_length v_p1_holding_need, aI G (r_p1_holding 0) 100 v_p1_holding_steps, aI G (r_p1_holding 1) 100 v_p1_holding_numbers, aI G (r_p1 9) 24 v_p1_rows] q.1
theorem c_X1_keep (G : Gx) (l : Launch) : ct_X1_keep G l f_X1_keep 6 := by
  intro a_t r_t a_p1 r_p1 r_p1_holding v_p1_people v_p1_day v_p1_dead v_p1_buried a_p1_holding v_enemies v_p1_hates v_p1_vs v_p1_kinds v_p1_facts v_p1_holding_length v_p1_holding_need v_p1_holding_steps v_p1_holding_numbers v_p1_rows q hf
  exact mI_of (by decide +kernel) rfl (fun K hl C hQ => t_X1_keep C hQ hf)
