-- X8_above
def f_X8_above (p1 : Int32) : Option (Int32) := (if p1 = (4 : Int32) then (some (1 : Int32)) else (if p1 = (5 : Int32) then (some (2 : Int32)) else (if p1 = (6 : Int32) then (some (3 : Int32)) else (some (0 : Int32)))))
set_option maxRecDepth 20000 in
set_option maxHeartbeats 1000000 in
theorem t_X8_above {G : Gx} {K : Kx} (C : Cx G K cX8_above RX8 1 1) {p1 : Int32} {q : Int32} (hQ : k_retI G K cX8_above 1 .int [] q) (hf : f_X8_above p1 = some q) : J G K 1 0 0 [] [(0, .int p1)] 0 [] := by
  unfold f_X8_above at hf
  refine j_iload_n C (pc := 0) 0 rfl rfl dX8_above_0 ?_
  refine j_iconst C (pc := 1) (v := 4) (by decide) dX8_above_1 ?_
  refine j_icmp_ne C (pc := 2) 9 dX8_above_2 (by decide) hf (fun hf => ?_) (fun hf => ?_)
  · refine j_iload_n C (pc := 9) 0 rfl rfl dX8_above_9 ?_
    refine j_iconst C (pc := 10) (v := 5) (by decide) dX8_above_10 ?_
    refine j_icmp_ne C (pc := 11) 18 dX8_above_11 (by decide) hf (fun hf => ?_) (fun hf => ?_)
    · refine j_iload_n C (pc := 18) 0 rfl rfl dX8_above_18 ?_
      refine j_bipush C (pc := 19) (v := 6) (by decide) dX8_above_19 ?_
      refine j_icmp_ne C (pc := 21) 28 dX8_above_21 (by decide) hf (fun hf => ?_) (fun hf => ?_)
      · refine j_iconst C (pc := 28) (v := 0) (by decide) dX8_above_28 ?_
        obtain rfl := Option.some.inj hf
        exact hQ _ _ dX8_above_29 rfl
      · refine j_iconst C (pc := 24) (v := 3) (by decide) dX8_above_24 ?_
        refine j_goto C (pc := 25) 29 dX8_above_25 (by decide) ?_
        obtain rfl := Option.some.inj hf
        exact hQ _ _ dX8_above_29 rfl
    · refine j_iconst C (pc := 14) (v := 2) (by decide) dX8_above_14 ?_
      refine j_goto C (pc := 15) 29 dX8_above_15 (by decide) ?_
      obtain rfl := Option.some.inj hf
      exact hQ _ _ dX8_above_29 rfl
  · refine j_iconst C (pc := 5) (v := 1) (by decide) dX8_above_5 ?_
    refine j_goto C (pc := 6) 29 dX8_above_6 (by decide) ?_
    obtain rfl := Option.some.inj hf
    exact hQ _ _ dX8_above_29 rfl
def ct_X8_above (G : Gx) (l : Launch) (F : Int32 → Option (Int32)) (lv : Nat) : Prop := ∀ (p1 : Int32), ∀ (q : Int32), F p1 = some q → MI G l yX8_above cX8_above 1 .int lv [.int p1] [] [] q
theorem c_X8_above (G : Gx) (l : Launch) : ct_X8_above G l f_X8_above 1 := by
  intro p1 q hf
  exact mI_of (by decide +kernel) rfl (fun K hl C hQ => t_X8_above C hQ hf)
-- X8_within
def f_X8_within (p1 : Int32) (p2 : Int32) (p3 : Int32) : Option (Int32) := (if p1 < p2 then (some (0 : Int32)) else (if p3 < p1 then (some (0 : Int32)) else (some (1 : Int32))))
set_option maxRecDepth 20000 in
set_option maxHeartbeats 1000000 in
theorem t_X8_within {G : Gx} {K : Kx} (C : Cx G K cX8_within RX8 3 1) {p1 : Int32} {p2 : Int32} {p3 : Int32} {q : Int32} (hQ : k_retI G K cX8_within 3 .boolean [] q) (hf : f_X8_within p1 p2 p3 = some q) : J G K 3 0 0 [] [(0, .int p1), (1, .int p2), (2, .int p3)] 0 [] := by
  unfold f_X8_within at hf
  refine j_iload_n C (pc := 0) 0 rfl rfl dX8_within_0 ?_
  refine j_iload_n C (pc := 1) 1 rfl rfl dX8_within_1 ?_
  refine j_icmp_lt C (pc := 2) 14 dX8_within_2 (by decide) hf (fun hf => ?_) (fun hf => ?_)
  · refine j_iconst C (pc := 14) (v := 0) (by decide) dX8_within_14 ?_
    obtain rfl := Option.some.inj hf
    exact hQ _ _ dX8_within_15 (show narrow .boolean (.int (0 : Int32)) = .int (0 : Int32) from rfl)
  · refine j_iload_n C (pc := 5) 0 rfl rfl dX8_within_5 ?_
    refine j_iload_n C (pc := 6) 2 rfl rfl dX8_within_6 ?_
    refine j_icmp_gt C (pc := 7) 14 dX8_within_7 (by decide) hf (fun hf => ?_) (fun hf => ?_)
    · refine j_iconst C (pc := 14) (v := 0) (by decide) dX8_within_14 ?_
      obtain rfl := Option.some.inj hf
      exact hQ _ _ dX8_within_15 (show narrow .boolean (.int (0 : Int32)) = .int (0 : Int32) from rfl)
    · refine j_iconst C (pc := 10) (v := 1) (by decide) dX8_within_10 ?_
      refine j_goto C (pc := 11) 15 dX8_within_11 (by decide) ?_
      obtain rfl := Option.some.inj hf
      exact hQ _ _ dX8_within_15 (show narrow .boolean (.int (1 : Int32)) = .int (1 : Int32) from rfl)
def ct_X8_within (G : Gx) (l : Launch) (F : Int32 → Int32 → Int32 → Option (Int32)) (lv : Nat) : Prop := ∀ (p1 : Int32) (p2 : Int32) (p3 : Int32), ∀ (q : Int32), F p1 p2 p3 = some q → MI G l yX8_within cX8_within 3 .boolean lv [.int p1, .int p2, .int p3] [] [] q
theorem c_X8_within (G : Gx) (l : Launch) : ct_X8_within G l f_X8_within 1 := by
  intro p1 p2 p3 q hf
  exact mI_of (by decide +kernel) rfl (fun K hl C hQ => t_X8_within C hQ hf)
-- X8_isOne
def f_X8_isOne (v_people : Int32) (p1 : Int32) : Option (Int32) := ((f_X8_within p1 (0 : Int32) (v_people - (1 : Int32))).bind fun q1 => (gn .boolean q1 (some q1)))
set_option maxRecDepth 20000 in
set_option maxHeartbeats 1000000 in
theorem t_X8_isOne {G : Gx} {K : Kx} (C : Cx G K cX8_isOne RX8 2 2) {a_t : Nat} {r_t : Nat → Nat} {v_people : Int32} {v_day : Int32} {v_texted : Int32} {v_at : Int32} {v_value : Int32} {v_digits : Int32} {v_open : Int32} {v_parishes : Int32} {v_holds : Int32} {v_coded : Int32} {v_seen : Int32} {v_inPlan : Int32} {v_inBook : Int32} {v_traced : Int32} {v_imaged : Int32} {v_most : Int32} {p1 : Int32} {q : Int32} (hQ : k_retI G K cX8_isOne 2 .boolean [oX8 a_t r_t v_people v_day v_texted v_at v_value v_digits v_open v_parishes v_holds v_coded v_seen v_inPlan v_inBook v_traced v_imaged v_most] q) (hf : f_X8_isOne v_people p1 = some q) : J G K 2 0 0 [oX8 a_t r_t v_people v_day v_texted v_at v_value v_digits v_open v_parishes v_holds v_coded v_seen v_inPlan v_inBook v_traced v_imaged v_most] [(0, .ref a_t), (1, .int p1)] 0 [] := by
  unfold f_X8_isOne at hf
  refine j_iload_n C (pc := 0) 1 rfl rfl dX8_isOne_0 ?_
  refine j_iconst C (pc := 1) (v := 0) (by decide) dX8_isOne_1 ?_
  refine j_aload_n C (pc := 2) 0 rfl rfl dX8_isOne_2 ?_
  refine j_get C (pc := 3) kc_X8 fl_X8_114 0 rfl rfl dX8_isOne_3 ?_
  refine j_iconst C (pc := 6) (v := 1) (by decide) dX8_isOne_6 ?_
  refine j_isub C (pc := 7) dX8_isOne_7 ?_
  refine j_cSI C (pc := 8) (As := [.int p1, .int (0 : Int32), .int (v_people - (1 : Int32))]) (st := []) (ws' := fun q1 => [oX8 a_t r_t v_people v_day v_texted v_at v_value v_digits v_open v_parishes v_holds v_coded v_seen v_inPlan v_inBook v_traced v_imaged v_most]) ml_X8_117 ms_X8_within hf (fun q1 h => (c_X8_within G K.2.1) p1 (0 : Int32) (v_people - (1 : Int32)) q1 h) [] [none] 1 rfl (by decide +kernel) (by decide +kernel) (fun _ => rfl) (fun _ => rfl) rfl rfl rfl rfl ⟨Nat.zero_le _, Nat.zero_le _⟩ dX8_isOne_8 (fun q1 hf => ?_)
  obtain ⟨hn, hf⟩ := gn_boolean hf
  obtain rfl := Option.some.inj hf
  exact hQ _ _ dX8_isOne_11 hn
def ct_X8_isOne (G : Gx) (l : Launch) (F : Int32 → Int32 → Option (Int32)) (lv : Nat) : Prop := ∀ (a_t : Nat) (r_t : Nat → Nat) (v_people : Int32) (v_day : Int32) (v_texted : Int32) (v_at : Int32) (v_value : Int32) (v_digits : Int32) (v_open : Int32) (v_parishes : Int32) (v_holds : Int32) (v_coded : Int32) (v_seen : Int32) (v_inPlan : Int32) (v_inBook : Int32) (v_traced : Int32) (v_imaged : Int32) (v_most : Int32) (p1 : Int32), ∀ (q : Int32), F v_people p1 = some q → MI G l yX8_isOne cX8_isOne 2 .boolean lv [.ref a_t, .int p1] [oX8 a_t r_t v_people v_day v_texted v_at v_value v_digits v_open v_parishes v_holds v_coded v_seen v_inPlan v_inBook v_traced v_imaged v_most] [oX8 a_t r_t v_people v_day v_texted v_at v_value v_digits v_open v_parishes v_holds v_coded v_seen v_inPlan v_inBook v_traced v_imaged v_most] q
theorem c_X8_isOne (G : Gx) (l : Launch) : ct_X8_isOne G l f_X8_isOne 2 := by
  intro a_t r_t v_people v_day v_texted v_at v_value v_digits v_open v_parishes v_holds v_coded v_seen v_inPlan v_inBook v_traced v_imaged v_most p1 q hf
  exact mI_of (by decide +kernel) rfl (fun K hl C hQ => t_X8_isOne C hQ hf)
-- X8_ran
def f_X8_ran (v_traced : Int32) (v_traces : Nat → Int32) (p1 : Int32) : Option (Int32 × (Nat → Int32)) := (if (20 : Int32) ≤ v_traced then (some (v_traced + (1 : Int32), v_traces)) else (gd v_traced 20 (some (v_traced + (1 : Int32), upd v_traces v_traced.toNatClampNeg p1))))
set_option maxRecDepth 20000 in
set_option maxHeartbeats 1000000 in
theorem t_X8_ran {G : Gx} {K : Kx} (C : Cx G K cX8_ran RX8 2 1) {a_t : Nat} {r_t : Nat → Nat} {v_people : Int32} {v_day : Int32} {v_texted : Int32} {v_at : Int32} {v_value : Int32} {v_digits : Int32} {v_open : Int32} {v_parishes : Int32} {v_holds : Int32} {v_coded : Int32} {v_seen : Int32} {v_inPlan : Int32} {v_inBook : Int32} {v_traced : Int32} {v_imaged : Int32} {v_most : Int32} {v_traces : Nat → Int32} {p1 : Int32} {q : Int32 × (Nat → Int32)} (hQ : k_retV G K cX8_ran 2 [oX8 a_t r_t v_people v_day v_texted v_at v_value v_digits v_open v_parishes v_holds v_coded v_seen v_inPlan v_inBook q.1 v_imaged v_most, aI G (r_t 38) 20 q.2]) (hf : f_X8_ran v_traced v_traces p1 = some q) : J G K 2 0 0 [oX8 a_t r_t v_people v_day v_texted v_at v_value v_digits v_open v_parishes v_holds v_coded v_seen v_inPlan v_inBook v_traced v_imaged v_most, aI G (r_t 38) 20 v_traces] [(0, .ref a_t), (1, .int p1)] 0 [] := by
  unfold f_X8_ran at hf
  refine j_aload_n C (pc := 0) 0 rfl rfl dX8_ran_0 ?_
  refine j_get C (pc := 1) kc_X8 fl_X8_327 0 rfl rfl dX8_ran_1 ?_
  refine j_bipush C (pc := 4) (v := 20) (by decide) dX8_ran_4 ?_
  refine j_icmp_ge C (pc := 6) 19 dX8_ran_6 (by decide) hf (fun hf => ?_) (fun hf => ?_)
  · refine j_aload_n C (pc := 19) 0 rfl rfl dX8_ran_19 ?_
    refine j_dup C (pc := 20) rfl dX8_ran_20 ?_
    refine j_get C (pc := 21) kc_X8 fl_X8_327 0 rfl rfl dX8_ran_21 ?_
    refine j_iconst C (pc := 24) (v := 1) (by decide) dX8_ran_24 ?_
    refine j_iadd C (pc := 25) dX8_ran_25 ?_
    refine j_put C (pc := 26) (ws' := [oX8 a_t r_t v_people v_day v_texted v_at v_value v_digits v_open v_parishes v_holds v_coded v_seen v_inPlan v_inBook (v_traced + (1 : Int32)) v_imaged v_most, aI G (r_t 38) 20 v_traces]) kc_X8 fl_X8_327 0 rfl rfl rfl rfl rfl rfl dX8_ran_26 ?_
    obtain rfl := Option.some.inj hf
    exact hQ _ _ dX8_ran_29
  · refine j_aload_n C (pc := 9) 0 rfl rfl dX8_ran_9 ?_
    refine j_get C (pc := 10) kc_X8 fl_X8_85 0 rfl rfl dX8_ran_10 ?_
    refine j_aload_n C (pc := 13) 0 rfl rfl dX8_ran_13 ?_
    refine j_get C (pc := 14) kc_X8 fl_X8_327 0 rfl rfl dX8_ran_14 ?_
    refine j_iload_n C (pc := 17) 1 rfl rfl dX8_ran_17 ?_
    refine j_iast C (pc := 18) (ws' := [oX8 a_t r_t v_people v_day v_texted v_at v_value v_digits v_open v_parishes v_holds v_coded v_seen v_inPlan v_inBook v_traced v_imaged v_most, aI G (r_t 38) 20 (upd v_traces v_traced.toNatClampNeg p1)]) 1 rfl hf rfl dX8_ran_18 (fun hf => ?_)
    refine j_aload_n C (pc := 19) 0 rfl rfl dX8_ran_19 ?_
    refine j_dup C (pc := 20) rfl dX8_ran_20 ?_
    refine j_get C (pc := 21) kc_X8 fl_X8_327 0 rfl rfl dX8_ran_21 ?_
    refine j_iconst C (pc := 24) (v := 1) (by decide) dX8_ran_24 ?_
    refine j_iadd C (pc := 25) dX8_ran_25 ?_
    refine j_put C (pc := 26) (ws' := [oX8 a_t r_t v_people v_day v_texted v_at v_value v_digits v_open v_parishes v_holds v_coded v_seen v_inPlan v_inBook (v_traced + (1 : Int32)) v_imaged v_most, aI G (r_t 38) 20 (upd v_traces v_traced.toNatClampNeg p1)]) kc_X8 fl_X8_327 0 rfl rfl rfl rfl rfl rfl dX8_ran_26 ?_
    obtain rfl := Option.some.inj hf
    exact hQ _ _ dX8_ran_29
def ct_X8_ran (G : Gx) (l : Launch) (F : Int32 → (Nat → Int32) → Int32 → Option (Int32 × (Nat → Int32))) (lv : Nat) : Prop := ∀ (a_t : Nat) (r_t : Nat → Nat) (v_people : Int32) (v_day : Int32) (v_texted : Int32) (v_at : Int32) (v_value : Int32) (v_digits : Int32) (v_open : Int32) (v_parishes : Int32) (v_holds : Int32) (v_coded : Int32) (v_seen : Int32) (v_inPlan : Int32) (v_inBook : Int32) (v_traced : Int32) (v_imaged : Int32) (v_most : Int32) (v_traces : Nat → Int32) (p1 : Int32), ∀ (q : Int32 × (Nat → Int32)), F v_traced v_traces p1 = some q → MV G l yX8_ran cX8_ran 2 lv [.ref a_t, .int p1] [oX8 a_t r_t v_people v_day v_texted v_at v_value v_digits v_open v_parishes v_holds v_coded v_seen v_inPlan v_inBook v_traced v_imaged v_most, aI G (r_t 38) 20 v_traces] [oX8 a_t r_t v_people v_day v_texted v_at v_value v_digits v_open v_parishes v_holds v_coded v_seen v_inPlan v_inBook q.1 v_imaged v_most, aI G (r_t 38) 20 q.2]
theorem c_X8_ran (G : Gx) (l : Launch) : ct_X8_ran G l f_X8_ran 1 := by
  intro a_t r_t v_people v_day v_texted v_at v_value v_digits v_open v_parishes v_holds v_coded v_seen v_inPlan v_inBook v_traced v_imaged v_most v_traces p1 q hf
  exact mV_of (by decide +kernel) rfl (fun K hl C hQ => t_X8_ran C hQ hf)
def ct_X8_digs (G : Gx) (l : Launch) (F : Int32 → (Nat → Int32) → (Nat → Int32) → Int32 → Int32 → Int32 → Option (Int32 × Int32 × (Nat → Int32))) (lv : Nat) : Prop := ∀ (a_t : Nat) (r_t : Nat → Nat) (v_people : Int32) (v_day : Int32) (v_texted : Int32) (v_at : Int32) (v_value : Int32) (v_digits : Int32) (v_open : Int32) (v_parishes : Int32) (v_holds : Int32) (v_coded : Int32) (v_seen : Int32) (v_inPlan : Int32) (v_inBook : Int32) (v_traced : Int32) (v_imaged : Int32) (v_most : Int32) (v_traces : Nat → Int32) (v_v : Nat → Int32) (p1 : Int32) (p2 : Int32) (p3 : Int32), ∀ (q : Int32 × Int32 × (Nat → Int32)), F v_traced v_traces v_v p1 p2 p3 = some q → MI G l yX8_digs cX8_digs 4 .int lv [.ref a_t, .int p1, .int p2, .int p3] [oX8 a_t r_t v_people v_day v_texted v_at v_value v_digits v_open v_parishes v_holds v_coded v_seen v_inPlan v_inBook v_traced v_imaged v_most, aI G (r_t 38) 20 v_traces, aI G (r_t 2) 6 v_v] [oX8 a_t r_t v_people v_day v_texted v_at v_value v_digits v_open v_parishes v_holds v_coded v_seen v_inPlan v_inBook q.2.1 v_imaged v_most, aI G (r_t 38) 20 q.2.2, aI G (r_t 2) 6 v_v] q.1
-- X8_digs
def f_X8_digs_b (rec_X8_digs : Int32 → (Nat → Int32) → (Nat → Int32) → Int32 → Int32 → Int32 → Option (Int32 × Int32 × (Nat → Int32))) (v_traced : Int32) (v_traces : Nat → Int32) (v_v : Nat → Int32) (p1 : Int32) (p2 : Int32) (p3 : Int32) : Option (Int32 × Int32 × (Nat → Int32)) := (if p2 = (0 : Int32) then ((f_X8_ran v_traced v_traces (10 : Int32)).bind fun q1 => (some (p3 + p1, q1.1, q1.2))) else (if p2 = (1 : Int32) then ((f_X8_above p2).bind fun q2 => ((rec_X8_digs v_traced v_traces v_v p1 q2 p3).bind fun q3 => (some (q3.1, q3.2.1, q3.2.2)))) else (if p2 = (2 : Int32) then ((f_X8_ran v_traced v_traces (30 : Int32)).bind fun q4 => ((rec_X8_digs q4.1 q4.2 v_v p1 (0 : Int32) (p3 * (3 : Int32))).bind fun q5 => (some (q5.1, q5.2.1, q5.2.2)))) else (if p2 = (3 : Int32) then ((f_X8_above p2).bind fun q6 => ((rec_X8_digs v_traced v_traces v_v p1 q6 p3).bind fun q7 => (some (q7.1, q7.2.1, q7.2.2)))) else (if p2 = (4 : Int32) then ((f_X8_ran v_traced v_traces (50 : Int32)).bind fun q8 => ((rec_X8_digs q8.1 q8.2 v_v p1 (1 : Int32) p3).bind fun q9 => (some (-q9.1, q9.2.1, q9.2.2)))) else (if p2 = (5 : Int32) then ((f_X8_above p2).bind fun q10 => ((rec_X8_digs v_traced v_traces v_v p1 q10 p3).bind fun q11 => (some (q11.1, q11.2.1, q11.2.2)))) else (if p2 = (6 : Int32) then ((f_X8_ran v_traced v_traces (71 : Int32)).bind fun q12 => ((rec_X8_digs q12.1 q12.2 v_v p1 (3 : Int32) p3).bind fun q13 => (gd p1 6 (some (q13.1 ^^^ (v_v p1.toNatClampNeg), q13.2.1, q13.2.2))))) else ((f_X8_above p2).bind fun q14 => ((rec_X8_digs v_traced v_traces v_v p1 q14 p3).bind fun q15 => (some (q15.1, q15.2.1, q15.2.2)))))))))))
set_option maxRecDepth 20000 in
set_option maxHeartbeats 1000000 in
theorem t_X8_digs {G : Gx} {K : Kx} {d : Nat} {rec_X8_digs : Int32 → (Nat → Int32) → (Nat → Int32) → Int32 → Int32 → Int32 → Option (Int32 × Int32 × (Nat → Int32))} (C : Cx G K cX8_digs RX8 4 (2 + (d + 1))) {a_t : Nat} {r_t : Nat → Nat} {v_people : Int32} {v_day : Int32} {v_texted : Int32} {v_at : Int32} {v_value : Int32} {v_digits : Int32} {v_open : Int32} {v_parishes : Int32} {v_holds : Int32} {v_coded : Int32} {v_seen : Int32} {v_inPlan : Int32} {v_inBook : Int32} {v_traced : Int32} {v_imaged : Int32} {v_most : Int32} {v_traces : Nat → Int32} {v_v : Nat → Int32} {p1 : Int32} {p2 : Int32} {p3 : Int32} {q : Int32 × Int32 × (Nat → Int32)} (hQ : k_retI G K cX8_digs 4 .int [oX8 a_t r_t v_people v_day v_texted v_at v_value v_digits v_open v_parishes v_holds v_coded v_seen v_inPlan v_inBook q.2.1 v_imaged v_most, aI G (r_t 38) 20 q.2.2, aI G (r_t 2) 6 v_v] q.1) (ih_X8_digs : ct_X8_digs G K.2.1 rec_X8_digs (2 + d)) (hf : f_X8_digs_b rec_X8_digs v_traced v_traces v_v p1 p2 p3 = some q) : J G K 4 0 0 [oX8 a_t r_t v_people v_day v_texted v_at v_value v_digits v_open v_parishes v_holds v_coded v_seen v_inPlan v_inBook v_traced v_imaged v_most, aI G (r_t 38) 20 v_traces, aI G (r_t 2) 6 v_v] [(0, .ref a_t), (1, .int p1), (2, .int p2), (3, .int p3)] 0 [] := by
  unfold f_X8_digs_b at hf
  refine j_iload_n C (pc := 0) 2 rfl rfl dX8_digs_0 ?_
  obtain ⟨h0, hf⟩ | ⟨h0, hf⟩ := k_or hf
  · refine j_tabIn C (pc := 1) 96 dX8_digs_1 (by rw [h0]; decide) (by rw [h0]; decide) (by rw [h0] <;> rfl) (by decide) ?_
    refine j_aload_n C (pc := 96) 0 rfl rfl dX8_digs_96 ?_
    refine j_bipush C (pc := 97) (v := 10) (by decide) dX8_digs_97 ?_
    refine j_cVZ C (pc := 99) (As := [.int (10 : Int32)]) (st := []) (ws' := fun q1 => [oX8 a_t r_t v_people v_day v_texted v_at v_value v_digits v_open v_parishes v_holds v_coded v_seen v_inPlan v_inBook q1.1 v_imaged v_most, aI G (r_t 38) 20 q1.2, aI G (r_t 2) 6 v_v]) ml_X8_330 ms_X8_ran hf (fun q1 h => (c_X8_ran G K.2.1) a_t r_t v_people v_day v_texted v_at v_value v_digits v_open v_parishes v_holds v_coded v_seen v_inPlan v_inBook v_traced v_imaged v_most v_traces (10 : Int32) q1 h) [0, 1] [some 0, some 1, none] 3 rfl (by decide +kernel) (by decide +kernel) (fun _ => rfl) (fun _ => rfl) (Nat.ble_eq_true_of_le (by omega)) rfl rfl rfl ⟨Nat.zero_le _, Nat.zero_le _⟩ dX8_digs_99 kc_X8 0 rfl (fun q1 hf => ?_)
    refine j_iload_n C (pc := 102) 3 rfl rfl dX8_digs_102 ?_
    refine j_iload_n C (pc := 103) 1 rfl rfl dX8_digs_103 ?_
    refine j_iadd C (pc := 104) dX8_digs_104 ?_
    obtain rfl := Option.some.inj hf
    exact hQ _ _ dX8_digs_105 rfl
  · skip
    obtain ⟨h1, hf⟩ | ⟨h1, hf⟩ := k_or hf
    · refine j_tabIn C (pc := 1) 106 dX8_digs_1 (by rw [h1]; decide) (by rw [h1]; decide) (by rw [h1] <;> rfl) (by decide) ?_
      refine j_aload_n C (pc := 106) 0 rfl rfl dX8_digs_106 ?_
      refine j_iload_n C (pc := 107) 1 rfl rfl dX8_digs_107 ?_
      refine j_iload_n C (pc := 108) 2 rfl rfl dX8_digs_108 ?_
      refine j_cSI C (pc := 109) (As := [.int p2]) (st := [.int p1, .ref a_t]) (ws' := fun q2 => [oX8 a_t r_t v_people v_day v_texted v_at v_value v_digits v_open v_parishes v_holds v_coded v_seen v_inPlan v_inBook v_traced v_imaged v_most, aI G (r_t 38) 20 v_traces, aI G (r_t 2) 6 v_v]) ml_X8_337 ms_X8_above hf (fun q2 h => (c_X8_above G K.2.1) p2 q2 h) [] [none, none, none] 3 rfl (by decide +kernel) (by decide +kernel) (fun _ => rfl) (fun _ => rfl) (Nat.ble_eq_true_of_le (by omega)) rfl rfl rfl ⟨Nat.zero_le _, Nat.zero_le _⟩ dX8_digs_109 (fun q2 hf => ?_)
      refine j_iload_n C (pc := 112) 3 rfl rfl dX8_digs_112 ?_
      refine j_cVI C (pc := 113) (As := [.int p1, .int q2, .int p3]) (st := []) (ws' := fun q3 => [oX8 a_t r_t v_people v_day v_texted v_at v_value v_digits v_open v_parishes v_holds v_coded v_seen v_inPlan v_inBook q3.2.1 v_imaged v_most, aI G (r_t 38) 20 q3.2.2, aI G (r_t 2) 6 v_v]) ml_X8_334 ms_X8_digs hf (fun q3 h => ih_X8_digs a_t r_t v_people v_day v_texted v_at v_value v_digits v_open v_parishes v_holds v_coded v_seen v_inPlan v_inBook v_traced v_imaged v_most v_traces v_v p1 q2 p3 q3 h) [0, 1, 2] [some 0, some 1, some 2] 3 rfl (by decide +kernel) (by decide +kernel) (fun _ => rfl) (fun _ => rfl) (Nat.ble_eq_true_of_le (by omega)) rfl rfl rfl ⟨Nat.zero_le _, Nat.zero_le _⟩ dX8_digs_113 kc_X8 0 rfl (fun q3 hf => ?_)
      obtain rfl := Option.some.inj hf
      exact hQ _ _ dX8_digs_116 rfl
    · skip
      obtain ⟨h2, hf⟩ | ⟨h2, hf⟩ := k_or hf
      · refine j_tabIn C (pc := 1) 44 dX8_digs_1 (by rw [h2]; decide) (by rw [h2]; decide) (by rw [h2] <;> rfl) (by decide) ?_
        refine j_aload_n C (pc := 44) 0 rfl rfl dX8_digs_44 ?_
        refine j_bipush C (pc := 45) (v := 30) (by decide) dX8_digs_45 ?_
        refine j_cVZ C (pc := 47) (As := [.int (30 : Int32)]) (st := []) (ws' := fun q4 => [oX8 a_t r_t v_people v_day v_texted v_at v_value v_digits v_open v_parishes v_holds v_coded v_seen v_inPlan v_inBook q4.1 v_imaged v_most, aI G (r_t 38) 20 q4.2, aI G (r_t 2) 6 v_v]) ml_X8_330 ms_X8_ran hf (fun q4 h => (c_X8_ran G K.2.1) a_t r_t v_people v_day v_texted v_at v_value v_digits v_open v_parishes v_holds v_coded v_seen v_inPlan v_inBook v_traced v_imaged v_most v_traces (30 : Int32) q4 h) [0, 1] [some 0, some 1, none] 3 rfl (by decide +kernel) (by decide +kernel) (fun _ => rfl) (fun _ => rfl) (Nat.ble_eq_true_of_le (by omega)) rfl rfl rfl ⟨Nat.zero_le _, Nat.zero_le _⟩ dX8_digs_47 kc_X8 0 rfl (fun q4 hf => ?_)
        refine j_aload_n C (pc := 50) 0 rfl rfl dX8_digs_50 ?_
        refine j_iload_n C (pc := 51) 1 rfl rfl dX8_digs_51 ?_
        refine j_iconst C (pc := 52) (v := 0) (by decide) dX8_digs_52 ?_
        refine j_iload_n C (pc := 53) 3 rfl rfl dX8_digs_53 ?_
        refine j_iconst C (pc := 54) (v := 3) (by decide) dX8_digs_54 ?_
        refine j_imul C (pc := 55) dX8_digs_55 ?_
        refine j_cVI C (pc := 56) (As := [.int p1, .int (0 : Int32), .int (p3 * (3 : Int32))]) (st := []) (ws' := fun q5 => [oX8 a_t r_t v_people v_day v_texted v_at v_value v_digits v_open v_parishes v_holds v_coded v_seen v_inPlan v_inBook q5.2.1 v_imaged v_most, aI G (r_t 38) 20 q5.2.2, aI G (r_t 2) 6 v_v]) ml_X8_334 ms_X8_digs hf (fun q5 h => ih_X8_digs a_t r_t v_people v_day v_texted v_at v_value v_digits v_open v_parishes v_holds v_coded v_seen v_inPlan v_inBook q4.1 v_imaged v_most q4.2 v_v p1 (0 : Int32) (p3 * (3 : Int32)) q5 h) [0, 1, 2] [some 0, some 1, some 2] 3 rfl (by decide +kernel) (by decide +kernel) (fun _ => rfl) (fun _ => rfl) (Nat.ble_eq_true_of_le (by omega)) rfl rfl rfl ⟨Nat.zero_le _, Nat.zero_le _⟩ dX8_digs_56 kc_X8 0 rfl (fun q5 hf => ?_)
        obtain rfl := Option.some.inj hf
        exact hQ _ _ dX8_digs_59 rfl
      · skip
        obtain ⟨h3, hf⟩ | ⟨h3, hf⟩ := k_or hf
        · refine j_tabIn C (pc := 1) 106 dX8_digs_1 (by rw [h3]; decide) (by rw [h3]; decide) (by rw [h3] <;> rfl) (by decide) ?_
          refine j_aload_n C (pc := 106) 0 rfl rfl dX8_digs_106 ?_
          refine j_iload_n C (pc := 107) 1 rfl rfl dX8_digs_107 ?_
          refine j_iload_n C (pc := 108) 2 rfl rfl dX8_digs_108 ?_
          refine j_cSI C (pc := 109) (As := [.int p2]) (st := [.int p1, .ref a_t]) (ws' := fun q6 => [oX8 a_t r_t v_people v_day v_texted v_at v_value v_digits v_open v_parishes v_holds v_coded v_seen v_inPlan v_inBook v_traced v_imaged v_most, aI G (r_t 38) 20 v_traces, aI G (r_t 2) 6 v_v]) ml_X8_337 ms_X8_above hf (fun q6 h => (c_X8_above G K.2.1) p2 q6 h) [] [none, none, none] 3 rfl (by decide +kernel) (by decide +kernel) (fun _ => rfl) (fun _ => rfl) (Nat.ble_eq_true_of_le (by omega)) rfl rfl rfl ⟨Nat.zero_le _, Nat.zero_le _⟩ dX8_digs_109 (fun q6 hf => ?_)
          refine j_iload_n C (pc := 112) 3 rfl rfl dX8_digs_112 ?_
          refine j_cVI C (pc := 113) (As := [.int p1, .int q6, .int p3]) (st := []) (ws' := fun q7 => [oX8 a_t r_t v_people v_day v_texted v_at v_value v_digits v_open v_parishes v_holds v_coded v_seen v_inPlan v_inBook q7.2.1 v_imaged v_most, aI G (r_t 38) 20 q7.2.2, aI G (r_t 2) 6 v_v]) ml_X8_334 ms_X8_digs hf (fun q7 h => ih_X8_digs a_t r_t v_people v_day v_texted v_at v_value v_digits v_open v_parishes v_holds v_coded v_seen v_inPlan v_inBook v_traced v_imaged v_most v_traces v_v p1 q6 p3 q7 h) [0, 1, 2] [some 0, some 1, some 2] 3 rfl (by decide +kernel) (by decide +kernel) (fun _ => rfl) (fun _ => rfl) (Nat.ble_eq_true_of_le (by omega)) rfl rfl rfl ⟨Nat.zero_le _, Nat.zero_le _⟩ dX8_digs_113 kc_X8 0 rfl (fun q7 hf => ?_)
          obtain rfl := Option.some.inj hf
          exact hQ _ _ dX8_digs_116 rfl
        · skip
          obtain ⟨h4, hf⟩ | ⟨h4, hf⟩ := k_or hf
          · refine j_tabIn C (pc := 1) 60 dX8_digs_1 (by rw [h4]; decide) (by rw [h4]; decide) (by rw [h4] <;> rfl) (by decide) ?_
            refine j_aload_n C (pc := 60) 0 rfl rfl dX8_digs_60 ?_
            refine j_bipush C (pc := 61) (v := 50) (by decide) dX8_digs_61 ?_
            refine j_cVZ C (pc := 63) (As := [.int (50 : Int32)]) (st := []) (ws' := fun q8 => [oX8 a_t r_t v_people v_day v_texted v_at v_value v_digits v_open v_parishes v_holds v_coded v_seen v_inPlan v_inBook q8.1 v_imaged v_most, aI G (r_t 38) 20 q8.2, aI G (r_t 2) 6 v_v]) ml_X8_330 ms_X8_ran hf (fun q8 h => (c_X8_ran G K.2.1) a_t r_t v_people v_day v_texted v_at v_value v_digits v_open v_parishes v_holds v_coded v_seen v_inPlan v_inBook v_traced v_imaged v_most v_traces (50 : Int32) q8 h) [0, 1] [some 0, some 1, none] 3 rfl (by decide +kernel) (by decide +kernel) (fun _ => rfl) (fun _ => rfl) (Nat.ble_eq_true_of_le (by omega)) rfl rfl rfl ⟨Nat.zero_le _, Nat.zero_le _⟩ dX8_digs_63 kc_X8 0 rfl (fun q8 hf => ?_)
            refine j_aload_n C (pc := 66) 0 rfl rfl dX8_digs_66 ?_
            refine j_iload_n C (pc := 67) 1 rfl rfl dX8_digs_67 ?_
            refine j_iconst C (pc := 68) (v := 1) (by decide) dX8_digs_68 ?_
            refine j_iload_n C (pc := 69) 3 rfl rfl dX8_digs_69 ?_
            refine j_cVI C (pc := 70) (As := [.int p1, .int (1 : Int32), .int p3]) (st := []) (ws' := fun q9 => [oX8 a_t r_t v_people v_day v_texted v_at v_value v_digits v_open v_parishes v_holds v_coded v_seen v_inPlan v_inBook q9.2.1 v_imaged v_most, aI G (r_t 38) 20 q9.2.2, aI G (r_t 2) 6 v_v]) ml_X8_334 ms_X8_digs hf (fun q9 h => ih_X8_digs a_t r_t v_people v_day v_texted v_at v_value v_digits v_open v_parishes v_holds v_coded v_seen v_inPlan v_inBook q8.1 v_imaged v_most q8.2 v_v p1 (1 : Int32) p3 q9 h) [0, 1, 2] [some 0, some 1, some 2] 3 rfl (by decide +kernel) (by decide +kernel) (fun _ => rfl) (fun _ => rfl) (Nat.ble_eq_true_of_le (by omega)) rfl rfl rfl ⟨Nat.zero_le _, Nat.zero_le _⟩ dX8_digs_70 kc_X8 0 rfl (fun q9 hf => ?_)
            refine j_ineg C (pc := 73) dX8_digs_73 ?_
            obtain rfl := Option.some.inj hf
            exact hQ _ _ dX8_digs_74 rfl
          · skip
            obtain ⟨h5, hf⟩ | ⟨h5, hf⟩ := k_or hf
            · refine j_tabIn C (pc := 1) 106 dX8_digs_1 (by rw [h5]; decide) (by rw [h5]; decide) (by rw [h5] <;> rfl) (by decide) ?_
              refine j_aload_n C (pc := 106) 0 rfl rfl dX8_digs_106 ?_
              refine j_iload_n C (pc := 107) 1 rfl rfl dX8_digs_107 ?_
              refine j_iload_n C (pc := 108) 2 rfl rfl dX8_digs_108 ?_
              refine j_cSI C (pc := 109) (As := [.int p2]) (st := [.int p1, .ref a_t]) (ws' := fun q10 => [oX8 a_t r_t v_people v_day v_texted v_at v_value v_digits v_open v_parishes v_holds v_coded v_seen v_inPlan v_inBook v_traced v_imaged v_most, aI G (r_t 38) 20 v_traces, aI G (r_t 2) 6 v_v]) ml_X8_337 ms_X8_above hf (fun q10 h => (c_X8_above G K.2.1) p2 q10 h) [] [none, none, none] 3 rfl (by decide +kernel) (by decide +kernel) (fun _ => rfl) (fun _ => rfl) (Nat.ble_eq_true_of_le (by omega)) rfl rfl rfl ⟨Nat.zero_le _, Nat.zero_le _⟩ dX8_digs_109 (fun q10 hf => ?_)
              refine j_iload_n C (pc := 112) 3 rfl rfl dX8_digs_112 ?_
              refine j_cVI C (pc := 113) (As := [.int p1, .int q10, .int p3]) (st := []) (ws' := fun q11 => [oX8 a_t r_t v_people v_day v_texted v_at v_value v_digits v_open v_parishes v_holds v_coded v_seen v_inPlan v_inBook q11.2.1 v_imaged v_most, aI G (r_t 38) 20 q11.2.2, aI G (r_t 2) 6 v_v]) ml_X8_334 ms_X8_digs hf (fun q11 h => ih_X8_digs a_t r_t v_people v_day v_texted v_at v_value v_digits v_open v_parishes v_holds v_coded v_seen v_inPlan v_inBook v_traced v_imaged v_most v_traces v_v p1 q10 p3 q11 h) [0, 1, 2] [some 0, some 1, some 2] 3 rfl (by decide +kernel) (by decide +kernel) (fun _ => rfl) (fun _ => rfl) (Nat.ble_eq_true_of_le (by omega)) rfl rfl rfl ⟨Nat.zero_le _, Nat.zero_le _⟩ dX8_digs_113 kc_X8 0 rfl (fun q11 hf => ?_)
              obtain rfl := Option.some.inj hf
              exact hQ _ _ dX8_digs_116 rfl
            · skip
              obtain ⟨h6, hf⟩ | ⟨h6, hf⟩ := k_or hf
              · refine j_tabIn C (pc := 1) 75 dX8_digs_1 (by rw [h6]; decide) (by rw [h6]; decide) (by rw [h6] <;> rfl) (by decide) ?_
                refine j_aload_n C (pc := 75) 0 rfl rfl dX8_digs_75 ?_
                refine j_bipush C (pc := 76) (v := 71) (by decide) dX8_digs_76 ?_
                refine j_cVZ C (pc := 78) (As := [.int (71 : Int32)]) (st := []) (ws' := fun q12 => [oX8 a_t r_t v_people v_day v_texted v_at v_value v_digits v_open v_parishes v_holds v_coded v_seen v_inPlan v_inBook q12.1 v_imaged v_most, aI G (r_t 38) 20 q12.2, aI G (r_t 2) 6 v_v]) ml_X8_330 ms_X8_ran hf (fun q12 h => (c_X8_ran G K.2.1) a_t r_t v_people v_day v_texted v_at v_value v_digits v_open v_parishes v_holds v_coded v_seen v_inPlan v_inBook v_traced v_imaged v_most v_traces (71 : Int32) q12 h) [0, 1] [some 0, some 1, none] 3 rfl (by decide +kernel) (by decide +kernel) (fun _ => rfl) (fun _ => rfl) (Nat.ble_eq_true_of_le (by omega)) rfl rfl rfl ⟨Nat.zero_le _, Nat.zero_le _⟩ dX8_digs_78 kc_X8 0 rfl (fun q12 hf => ?_)
                refine j_aload_n C (pc := 81) 0 rfl rfl dX8_digs_81 ?_
                refine j_iload_n C (pc := 82) 1 rfl rfl dX8_digs_82 ?_
                refine j_iconst C (pc := 83) (v := 3) (by decide) dX8_digs_83 ?_
                refine j_iload_n C (pc := 84) 3 rfl rfl dX8_digs_84 ?_
                refine j_cVI C (pc := 85) (As := [.int p1, .int (3 : Int32), .int p3]) (st := []) (ws' := fun q13 => [oX8 a_t r_t v_people v_day v_texted v_at v_value v_digits v_open v_parishes v_holds v_coded v_seen v_inPlan v_inBook q13.2.1 v_imaged v_most, aI G (r_t 38) 20 q13.2.2, aI G (r_t 2) 6 v_v]) ml_X8_334 ms_X8_digs hf (fun q13 h => ih_X8_digs a_t r_t v_people v_day v_texted v_at v_value v_digits v_open v_parishes v_holds v_coded v_seen v_inPlan v_inBook q12.1 v_imaged v_most q12.2 v_v p1 (3 : Int32) p3 q13 h) [0, 1, 2] [some 0, some 1, some 2] 3 rfl (by decide +kernel) (by decide +kernel) (fun _ => rfl) (fun _ => rfl) (Nat.ble_eq_true_of_le (by omega)) rfl rfl rfl ⟨Nat.zero_le _, Nat.zero_le _⟩ dX8_digs_85 kc_X8 0 rfl (fun q13 hf => ?_)
                refine j_aload_n C (pc := 88) 0 rfl rfl dX8_digs_88 ?_
                refine j_get C (pc := 89) kc_X8 fl_X8_15 0 rfl rfl dX8_digs_89 ?_
                refine j_iload_n C (pc := 92) 1 rfl rfl dX8_digs_92 ?_
                refine j_iald C (pc := 93) 2 rfl hf dX8_digs_93 (fun hf => ?_)
                refine j_ixor C (pc := 94) dX8_digs_94 ?_
                obtain rfl := Option.some.inj hf
                exact hQ _ _ dX8_digs_95 rfl
              · skip
                have hout : (p2).toInt < 0 ∨ 6 < (p2).toInt := by
                  have := lv_neT (a := 0) h0 rfl
                  have := lv_neT (a := 1) h1 rfl
                  have := lv_neT (a := 2) h2 rfl
                  have := lv_neT (a := 3) h3 rfl
                  have := lv_neT (a := 4) h4 rfl
                  have := lv_neT (a := 5) h5 rfl
                  have := lv_neT (a := 6) h6 rfl
                  omega
                refine j_tabOut C (pc := 1) 106 dX8_digs_1 hout (by decide) ?_
                refine j_aload_n C (pc := 106) 0 rfl rfl dX8_digs_106 ?_
                refine j_iload_n C (pc := 107) 1 rfl rfl dX8_digs_107 ?_
                refine j_iload_n C (pc := 108) 2 rfl rfl dX8_digs_108 ?_
                refine j_cSI C (pc := 109) (As := [.int p2]) (st := [.int p1, .ref a_t]) (ws' := fun q14 => [oX8 a_t r_t v_people v_day v_texted v_at v_value v_digits v_open v_parishes v_holds v_coded v_seen v_inPlan v_inBook v_traced v_imaged v_most, aI G (r_t 38) 20 v_traces, aI G (r_t 2) 6 v_v]) ml_X8_337 ms_X8_above hf (fun q14 h => (c_X8_above G K.2.1) p2 q14 h) [] [none, none, none] 3 rfl (by decide +kernel) (by decide +kernel) (fun _ => rfl) (fun _ => rfl) (Nat.ble_eq_true_of_le (by omega)) rfl rfl rfl ⟨Nat.zero_le _, Nat.zero_le _⟩ dX8_digs_109 (fun q14 hf => ?_)
                refine j_iload_n C (pc := 112) 3 rfl rfl dX8_digs_112 ?_
                refine j_cVI C (pc := 113) (As := [.int p1, .int q14, .int p3]) (st := []) (ws' := fun q15 => [oX8 a_t r_t v_people v_day v_texted v_at v_value v_digits v_open v_parishes v_holds v_coded v_seen v_inPlan v_inBook q15.2.1 v_imaged v_most, aI G (r_t 38) 20 q15.2.2, aI G (r_t 2) 6 v_v]) ml_X8_334 ms_X8_digs hf (fun q15 h => ih_X8_digs a_t r_t v_people v_day v_texted v_at v_value v_digits v_open v_parishes v_holds v_coded v_seen v_inPlan v_inBook v_traced v_imaged v_most v_traces v_v p1 q14 p3 q15 h) [0, 1, 2] [some 0, some 1, some 2] 3 rfl (by decide +kernel) (by decide +kernel) (fun _ => rfl) (fun _ => rfl) (Nat.ble_eq_true_of_le (by omega)) rfl rfl rfl ⟨Nat.zero_le _, Nat.zero_le _⟩ dX8_digs_113 kc_X8 0 rfl (fun q15 hf => ?_)
                obtain rfl := Option.some.inj hf
                exact hQ _ _ dX8_digs_116 rfl
def f_X8_digs : Nat → Int32 → (Nat → Int32) → (Nat → Int32) → Int32 → Int32 → Int32 → Option (Int32 × Int32 × (Nat → Int32))
  | 0 => fun _ _ _ _ _ _ => none
  | d + 1 => f_X8_digs_b (f_X8_digs d)
theorem c_X8_digs (G : Gx) (l : Launch) : ∀ d : Nat, ct_X8_digs G l (f_X8_digs d) (2 + d) := by
  intro d
  induction d with
  | zero => intro a_t r_t v_people v_day v_texted v_at v_value v_digits v_open v_parishes v_holds v_coded v_seen v_inPlan v_inBook v_traced v_imaged v_most v_traces v_v p1 p2 p3 q hf; cases hf
  | succ d ih =>
    intro a_t r_t v_people v_day v_texted v_at v_value v_digits v_open v_parishes v_holds v_coded v_seen v_inPlan v_inBook v_traced v_imaged v_most v_traces v_v p1 p2 p3 q hf
    exact mI_of (by decide +kernel) rfl (fun K hl C hQ => by subst hl; exact t_X8_digs C hQ ih hf)
def ct_X8_casts (G : Gx) (l : Launch) (F : Int32 → (Nat → Int32) → (Nat → Int32) → (Nat → Int32) → Int32 → Int32 → Int32 → Option (Int32 × Int32 × (Nat → Int32))) (lv : Nat) : Prop := ∀ (a_t : Nat) (r_t : Nat → Nat) (v_people : Int32) (v_day : Int32) (v_texted : Int32) (v_at : Int32) (v_value : Int32) (v_digits : Int32) (v_open : Int32) (v_parishes : Int32) (v_holds : Int32) (v_coded : Int32) (v_seen : Int32) (v_inPlan : Int32) (v_inBook : Int32) (v_traced : Int32) (v_imaged : Int32) (v_most : Int32) (v_traces : Nat → Int32) (v_kind : Nat → Int32) (v_v : Nat → Int32) (p1 : Int32) (p2 : Int32) (p3 : Int32), ∀ (q : Int32 × Int32 × (Nat → Int32)), F v_traced v_traces v_kind v_v p1 p2 p3 = some q → MI G l yX8_casts cX8_casts 5 .int lv [.ref a_t, .int p1, .int p2, .int p3] [oX8 a_t r_t v_people v_day v_texted v_at v_value v_digits v_open v_parishes v_holds v_coded v_seen v_inPlan v_inBook v_traced v_imaged v_most, aI G (r_t 38) 20 v_traces, aI G (r_t 1) 6 v_kind, aI G (r_t 2) 6 v_v] [oX8 a_t r_t v_people v_day v_texted v_at v_value v_digits v_open v_parishes v_holds v_coded v_seen v_inPlan v_inBook q.2.1 v_imaged v_most, aI G (r_t 38) 20 q.2.2, aI G (r_t 1) 6 v_kind, aI G (r_t 2) 6 v_v] q.1
-- X8_casts
def f_X8_casts_b (rec_X8_casts : Int32 → (Nat → Int32) → (Nat → Int32) → (Nat → Int32) → Int32 → Int32 → Int32 → Option (Int32 × Int32 × (Nat → Int32))) (v_traced : Int32) (v_traces : Nat → Int32) (v_kind : Nat → Int32) (v_v : Nat → Int32) (p1 : Int32) (p2 : Int32) (p3 : Int32) : Option (Int32 × Int32 × (Nat → Int32)) := (if p2 = (0 : Int32) then ((f_X8_ran v_traced v_traces (11 : Int32)).bind fun q1 => (gd p1 6 ((f_X8_digs 60 q1.1 q1.2 v_v p1 (v_kind p1.toNatClampNeg) p3).bind fun q2 => (gd p1 6 (some (q2.1 - (v_v p1.toNatClampNeg), q2.2.1, q2.2.2)))))) else (if p2 = (1 : Int32) then ((f_X8_ran v_traced v_traces (20 : Int32)).bind fun q3 => ((rec_X8_casts q3.1 q3.2 v_kind v_v p1 (0 : Int32) p3).bind fun q4 => (some (q4.1 ^^^ (6 : Int32), q4.2.1, q4.2.2)))) else (if p2 = (2 : Int32) then ((f_X8_above p2).bind fun q5 => ((rec_X8_casts v_traced v_traces v_kind v_v p1 q5 p3).bind fun q6 => (some (q6.1, q6.2.1, q6.2.2)))) else (if p2 = (3 : Int32) then ((f_X8_above p2).bind fun q7 => ((rec_X8_casts v_traced v_traces v_kind v_v p1 q7 p3).bind fun q8 => (some (q8.1, q8.2.1, q8.2.2)))) else (if p2 = (4 : Int32) then ((f_X8_ran v_traced v_traces (51 : Int32)).bind fun q9 => ((rec_X8_casts q9.1 q9.2 v_kind v_v p1 (1 : Int32) (p3 + (1 : Int32))).bind fun q10 => (some (q10.1, q10.2.1, q10.2.2)))) else (if p2 = (5 : Int32) then ((f_X8_above p2).bind fun q11 => ((rec_X8_casts v_traced v_traces v_kind v_v p1 q11 p3).bind fun q12 => (some (q12.1, q12.2.1, q12.2.2)))) else (if p2 = (6 : Int32) then ((f_X8_ran v_traced v_traces (70 : Int32)).bind fun q13 => ((rec_X8_casts q13.1 q13.2 v_kind v_v p1 (3 : Int32) p3).bind fun q14 => ((f_X8_digs 60 q14.2.1 q14.2.2 v_v p1 (3 : Int32) (2 : Int32)).bind fun q15 => (some (q14.1 + q15.1, q15.2.1, q15.2.2))))) else ((f_X8_above p2).bind fun q16 => ((rec_X8_casts v_traced v_traces v_kind v_v p1 q16 p3).bind fun q17 => (some (q17.1, q17.2.1, q17.2.2)))))))))))
set_option maxRecDepth 20000 in
set_option maxHeartbeats 1000000 in
theorem t_X8_casts {G : Gx} {K : Kx} {d : Nat} {rec_X8_casts : Int32 → (Nat → Int32) → (Nat → Int32) → (Nat → Int32) → Int32 → Int32 → Int32 → Option (Int32 × Int32 × (Nat → Int32))} (C : Cx G K cX8_casts RX8 5 (63 + (d + 1))) {a_t : Nat} {r_t : Nat → Nat} {v_people : Int32} {v_day : Int32} {v_texted : Int32} {v_at : Int32} {v_value : Int32} {v_digits : Int32} {v_open : Int32} {v_parishes : Int32} {v_holds : Int32} {v_coded : Int32} {v_seen : Int32} {v_inPlan : Int32} {v_inBook : Int32} {v_traced : Int32} {v_imaged : Int32} {v_most : Int32} {v_traces : Nat → Int32} {v_kind : Nat → Int32} {v_v : Nat → Int32} {p1 : Int32} {p2 : Int32} {p3 : Int32} {q : Int32 × Int32 × (Nat → Int32)} (hQ : k_retI G K cX8_casts 5 .int [oX8 a_t r_t v_people v_day v_texted v_at v_value v_digits v_open v_parishes v_holds v_coded v_seen v_inPlan v_inBook q.2.1 v_imaged v_most, aI G (r_t 38) 20 q.2.2, aI G (r_t 1) 6 v_kind, aI G (r_t 2) 6 v_v] q.1) (ih_X8_casts : ct_X8_casts G K.2.1 rec_X8_casts (63 + d)) (hf : f_X8_casts_b rec_X8_casts v_traced v_traces v_kind v_v p1 p2 p3 = some q) : J G K 5 0 0 [oX8 a_t r_t v_people v_day v_texted v_at v_value v_digits v_open v_parishes v_holds v_coded v_seen v_inPlan v_inBook v_traced v_imaged v_most, aI G (r_t 38) 20 v_traces, aI G (r_t 1) 6 v_kind, aI G (r_t 2) 6 v_v] [(0, .ref a_t), (1, .int p1), (2, .int p2), (3, .int p3)] 0 [] := by
  unfold f_X8_casts_b at hf
  refine j_iload_n C (pc := 0) 2 rfl rfl dX8_casts_0 ?_
  obtain ⟨h0, hf⟩ | ⟨h0, hf⟩ := k_or hf
  · refine j_tabIn C (pc := 1) 103 dX8_casts_1 (by rw [h0]; decide) (by rw [h0]; decide) (by rw [h0] <;> rfl) (by decide) ?_
    refine j_aload_n C (pc := 103) 0 rfl rfl dX8_casts_103 ?_
    refine j_bipush C (pc := 104) (v := 11) (by decide) dX8_casts_104 ?_
    refine j_cVZ C (pc := 106) (As := [.int (11 : Int32)]) (st := []) (ws' := fun q1 => [oX8 a_t r_t v_people v_day v_texted v_at v_value v_digits v_open v_parishes v_holds v_coded v_seen v_inPlan v_inBook q1.1 v_imaged v_most, aI G (r_t 38) 20 q1.2, aI G (r_t 1) 6 v_kind, aI G (r_t 2) 6 v_v]) ml_X8_330 ms_X8_ran hf (fun q1 h => (c_X8_ran G K.2.1) a_t r_t v_people v_day v_texted v_at v_value v_digits v_open v_parishes v_holds v_coded v_seen v_inPlan v_inBook v_traced v_imaged v_most v_traces (11 : Int32) q1 h) [0, 1] [some 0, some 1, none, none] 4 rfl (by decide +kernel) (by decide +kernel) (fun _ => rfl) (fun _ => rfl) (Nat.ble_eq_true_of_le (by omega)) rfl rfl rfl ⟨Nat.zero_le _, Nat.zero_le _⟩ dX8_casts_106 kc_X8 0 rfl (fun q1 hf => ?_)
    refine j_aload_n C (pc := 109) 0 rfl rfl dX8_casts_109 ?_
    refine j_iload_n C (pc := 110) 1 rfl rfl dX8_casts_110 ?_
    refine j_aload_n C (pc := 111) 0 rfl rfl dX8_casts_111 ?_
    refine j_get C (pc := 112) kc_X8 fl_X8_9 0 rfl rfl dX8_casts_112 ?_
    refine j_iload_n C (pc := 115) 1 rfl rfl dX8_casts_115 ?_
    refine j_iald C (pc := 116) 2 rfl hf dX8_casts_116 (fun hf => ?_)
    refine j_iload_n C (pc := 117) 3 rfl rfl dX8_casts_117 ?_
    refine j_cVI C (pc := 118) (As := [.int p1, .int (v_kind p1.toNatClampNeg), .int p3]) (st := []) (ws' := fun q2 => [oX8 a_t r_t v_people v_day v_texted v_at v_value v_digits v_open v_parishes v_holds v_coded v_seen v_inPlan v_inBook q2.2.1 v_imaged v_most, aI G (r_t 38) 20 q2.2.2, aI G (r_t 1) 6 v_kind, aI G (r_t 2) 6 v_v]) ml_X8_334 ms_X8_digs hf (fun q2 h => (c_X8_digs G K.2.1 60) a_t r_t v_people v_day v_texted v_at v_value v_digits v_open v_parishes v_holds v_coded v_seen v_inPlan v_inBook q1.1 v_imaged v_most q1.2 v_v p1 (v_kind p1.toNatClampNeg) p3 q2 h) [0, 1, 3] [some 0, some 1, none, some 2] 4 rfl (by decide +kernel) (by decide +kernel) (fun _ => rfl) (fun _ => rfl) (Nat.ble_eq_true_of_le (by omega)) rfl rfl rfl ⟨Nat.zero_le _, Nat.zero_le _⟩ dX8_casts_118 kc_X8 0 rfl (fun q2 hf => ?_)
    refine j_aload_n C (pc := 121) 0 rfl rfl dX8_casts_121 ?_
    refine j_get C (pc := 122) kc_X8 fl_X8_15 0 rfl rfl dX8_casts_122 ?_
    refine j_iload_n C (pc := 125) 1 rfl rfl dX8_casts_125 ?_
    refine j_iald C (pc := 126) 3 rfl hf dX8_casts_126 (fun hf => ?_)
    refine j_isub C (pc := 127) dX8_casts_127 ?_
    obtain rfl := Option.some.inj hf
    exact hQ _ _ dX8_casts_128 rfl
  · skip
    obtain ⟨h1, hf⟩ | ⟨h1, hf⟩ := k_or hf
    · refine j_tabIn C (pc := 1) 44 dX8_casts_1 (by rw [h1]; decide) (by rw [h1]; decide) (by rw [h1] <;> rfl) (by decide) ?_
      refine j_aload_n C (pc := 44) 0 rfl rfl dX8_casts_44 ?_
      refine j_bipush C (pc := 45) (v := 20) (by decide) dX8_casts_45 ?_
      refine j_cVZ C (pc := 47) (As := [.int (20 : Int32)]) (st := []) (ws' := fun q3 => [oX8 a_t r_t v_people v_day v_texted v_at v_value v_digits v_open v_parishes v_holds v_coded v_seen v_inPlan v_inBook q3.1 v_imaged v_most, aI G (r_t 38) 20 q3.2, aI G (r_t 1) 6 v_kind, aI G (r_t 2) 6 v_v]) ml_X8_330 ms_X8_ran hf (fun q3 h => (c_X8_ran G K.2.1) a_t r_t v_people v_day v_texted v_at v_value v_digits v_open v_parishes v_holds v_coded v_seen v_inPlan v_inBook v_traced v_imaged v_most v_traces (20 : Int32) q3 h) [0, 1] [some 0, some 1, none, none] 4 rfl (by decide +kernel) (by decide +kernel) (fun _ => rfl) (fun _ => rfl) (Nat.ble_eq_true_of_le (by omega)) rfl rfl rfl ⟨Nat.zero_le _, Nat.zero_le _⟩ dX8_casts_47 kc_X8 0 rfl (fun q3 hf => ?_)
      refine j_aload_n C (pc := 50) 0 rfl rfl dX8_casts_50 ?_
      refine j_iload_n C (pc := 51) 1 rfl rfl dX8_casts_51 ?_
      refine j_iconst C (pc := 52) (v := 0) (by decide) dX8_casts_52 ?_
      refine j_iload_n C (pc := 53) 3 rfl rfl dX8_casts_53 ?_
      refine j_cVI C (pc := 54) (As := [.int p1, .int (0 : Int32), .int p3]) (st := []) (ws' := fun q4 => [oX8 a_t r_t v_people v_day v_texted v_at v_value v_digits v_open v_parishes v_holds v_coded v_seen v_inPlan v_inBook q4.2.1 v_imaged v_most, aI G (r_t 38) 20 q4.2.2, aI G (r_t 1) 6 v_kind, aI G (r_t 2) 6 v_v]) ml_X8_340 ms_X8_casts hf (fun q4 h => ih_X8_casts a_t r_t v_people v_day v_texted v_at v_value v_digits v_open v_parishes v_holds v_coded v_seen v_inPlan v_inBook q3.1 v_imaged v_most q3.2 v_kind v_v p1 (0 : Int32) p3 q4 h) [0, 1, 2, 3] [some 0, some 1, some 2, some 3] 4 rfl (by decide +kernel) (by decide +kernel) (fun _ => rfl) (fun _ => rfl) (Nat.ble_eq_true_of_le (by omega)) rfl rfl rfl ⟨Nat.zero_le _, Nat.zero_le _⟩ dX8_casts_54 kc_X8 0 rfl (fun q4 hf => ?_)
      refine j_bipush C (pc := 57) (v := 6) (by decide) dX8_casts_57 ?_
      refine j_ixor C (pc := 59) dX8_casts_59 ?_
      obtain rfl := Option.some.inj hf
      exact hQ _ _ dX8_casts_60 rfl
    · skip
      obtain ⟨h2, hf⟩ | ⟨h2, hf⟩ := k_or hf
      · refine j_tabIn C (pc := 1) 129 dX8_casts_1 (by rw [h2]; decide) (by rw [h2]; decide) (by rw [h2] <;> rfl) (by decide) ?_
        refine j_aload_n C (pc := 129) 0 rfl rfl dX8_casts_129 ?_
        refine j_iload_n C (pc := 130) 1 rfl rfl dX8_casts_130 ?_
        refine j_iload_n C (pc := 131) 2 rfl rfl dX8_casts_131 ?_
        refine j_cSI C (pc := 132) (As := [.int p2]) (st := [.int p1, .ref a_t]) (ws' := fun q5 => [oX8 a_t r_t v_people v_day v_texted v_at v_value v_digits v_open v_parishes v_holds v_coded v_seen v_inPlan v_inBook v_traced v_imaged v_most, aI G (r_t 38) 20 v_traces, aI G (r_t 1) 6 v_kind, aI G (r_t 2) 6 v_v]) ml_X8_337 ms_X8_above hf (fun q5 h => (c_X8_above G K.2.1) p2 q5 h) [] [none, none, none, none] 4 rfl (by decide +kernel) (by decide +kernel) (fun _ => rfl) (fun _ => rfl) (Nat.ble_eq_true_of_le (by omega)) rfl rfl rfl ⟨Nat.zero_le _, Nat.zero_le _⟩ dX8_casts_132 (fun q5 hf => ?_)
        refine j_iload_n C (pc := 135) 3 rfl rfl dX8_casts_135 ?_
        refine j_cVI C (pc := 136) (As := [.int p1, .int q5, .int p3]) (st := []) (ws' := fun q6 => [oX8 a_t r_t v_people v_day v_texted v_at v_value v_digits v_open v_parishes v_holds v_coded v_seen v_inPlan v_inBook q6.2.1 v_imaged v_most, aI G (r_t 38) 20 q6.2.2, aI G (r_t 1) 6 v_kind, aI G (r_t 2) 6 v_v]) ml_X8_340 ms_X8_casts hf (fun q6 h => ih_X8_casts a_t r_t v_people v_day v_texted v_at v_value v_digits v_open v_parishes v_holds v_coded v_seen v_inPlan v_inBook v_traced v_imaged v_most v_traces v_kind v_v p1 q5 p3 q6 h) [0, 1, 2, 3] [some 0, some 1, some 2, some 3] 4 rfl (by decide +kernel) (by decide +kernel) (fun _ => rfl) (fun _ => rfl) (Nat.ble_eq_true_of_le (by omega)) rfl rfl rfl ⟨Nat.zero_le _, Nat.zero_le _⟩ dX8_casts_136 kc_X8 0 rfl (fun q6 hf => ?_)
        obtain rfl := Option.some.inj hf
        exact hQ _ _ dX8_casts_139 rfl
      · skip
        obtain ⟨h3, hf⟩ | ⟨h3, hf⟩ := k_or hf
        · refine j_tabIn C (pc := 1) 129 dX8_casts_1 (by rw [h3]; decide) (by rw [h3]; decide) (by rw [h3] <;> rfl) (by decide) ?_
          refine j_aload_n C (pc := 129) 0 rfl rfl dX8_casts_129 ?_
          refine j_iload_n C (pc := 130) 1 rfl rfl dX8_casts_130 ?_
          refine j_iload_n C (pc := 131) 2 rfl rfl dX8_casts_131 ?_
          refine j_cSI C (pc := 132) (As := [.int p2]) (st := [.int p1, .ref a_t]) (ws' := fun q7 => [oX8 a_t r_t v_people v_day v_texted v_at v_value v_digits v_open v_parishes v_holds v_coded v_seen v_inPlan v_inBook v_traced v_imaged v_most, aI G (r_t 38) 20 v_traces, aI G (r_t 1) 6 v_kind, aI G (r_t 2) 6 v_v]) ml_X8_337 ms_X8_above hf (fun q7 h => (c_X8_above G K.2.1) p2 q7 h) [] [none, none, none, none] 4 rfl (by decide +kernel) (by decide +kernel) (fun _ => rfl) (fun _ => rfl) (Nat.ble_eq_true_of_le (by omega)) rfl rfl rfl ⟨Nat.zero_le _, Nat.zero_le _⟩ dX8_casts_132 (fun q7 hf => ?_)
          refine j_iload_n C (pc := 135) 3 rfl rfl dX8_casts_135 ?_
          refine j_cVI C (pc := 136) (As := [.int p1, .int q7, .int p3]) (st := []) (ws' := fun q8 => [oX8 a_t r_t v_people v_day v_texted v_at v_value v_digits v_open v_parishes v_holds v_coded v_seen v_inPlan v_inBook q8.2.1 v_imaged v_most, aI G (r_t 38) 20 q8.2.2, aI G (r_t 1) 6 v_kind, aI G (r_t 2) 6 v_v]) ml_X8_340 ms_X8_casts hf (fun q8 h => ih_X8_casts a_t r_t v_people v_day v_texted v_at v_value v_digits v_open v_parishes v_holds v_coded v_seen v_inPlan v_inBook v_traced v_imaged v_most v_traces v_kind v_v p1 q7 p3 q8 h) [0, 1, 2, 3] [some 0, some 1, some 2, some 3] 4 rfl (by decide +kernel) (by decide +kernel) (fun _ => rfl) (fun _ => rfl) (Nat.ble_eq_true_of_le (by omega)) rfl rfl rfl ⟨Nat.zero_le _, Nat.zero_le _⟩ dX8_casts_136 kc_X8 0 rfl (fun q8 hf => ?_)
          obtain rfl := Option.some.inj hf
          exact hQ _ _ dX8_casts_139 rfl
        · skip
          obtain ⟨h4, hf⟩ | ⟨h4, hf⟩ := k_or hf
          · refine j_tabIn C (pc := 1) 61 dX8_casts_1 (by rw [h4]; decide) (by rw [h4]; decide) (by rw [h4] <;> rfl) (by decide) ?_
            refine j_aload_n C (pc := 61) 0 rfl rfl dX8_casts_61 ?_
            refine j_bipush C (pc := 62) (v := 51) (by decide) dX8_casts_62 ?_
            refine j_cVZ C (pc := 64) (As := [.int (51 : Int32)]) (st := []) (ws' := fun q9 => [oX8 a_t r_t v_people v_day v_texted v_at v_value v_digits v_open v_parishes v_holds v_coded v_seen v_inPlan v_inBook q9.1 v_imaged v_most, aI G (r_t 38) 20 q9.2, aI G (r_t 1) 6 v_kind, aI G (r_t 2) 6 v_v]) ml_X8_330 ms_X8_ran hf (fun q9 h => (c_X8_ran G K.2.1) a_t r_t v_people v_day v_texted v_at v_value v_digits v_open v_parishes v_holds v_coded v_seen v_inPlan v_inBook v_traced v_imaged v_most v_traces (51 : Int32) q9 h) [0, 1] [some 0, some 1, none, none] 4 rfl (by decide +kernel) (by decide +kernel) (fun _ => rfl) (fun _ => rfl) (Nat.ble_eq_true_of_le (by omega)) rfl rfl rfl ⟨Nat.zero_le _, Nat.zero_le _⟩ dX8_casts_64 kc_X8 0 rfl (fun q9 hf => ?_)
            refine j_aload_n C (pc := 67) 0 rfl rfl dX8_casts_67 ?_
            refine j_iload_n C (pc := 68) 1 rfl rfl dX8_casts_68 ?_
            refine j_iconst C (pc := 69) (v := 1) (by decide) dX8_casts_69 ?_
            refine j_iload_n C (pc := 70) 3 rfl rfl dX8_casts_70 ?_
            refine j_iconst C (pc := 71) (v := 1) (by decide) dX8_casts_71 ?_
            refine j_iadd C (pc := 72) dX8_casts_72 ?_
            refine j_cVI C (pc := 73) (As := [.int p1, .int (1 : Int32), .int (p3 + (1 : Int32))]) (st := []) (ws' := fun q10 => [oX8 a_t r_t v_people v_day v_texted v_at v_value v_digits v_open v_parishes v_holds v_coded v_seen v_inPlan v_inBook q10.2.1 v_imaged v_most, aI G (r_t 38) 20 q10.2.2, aI G (r_t 1) 6 v_kind, aI G (r_t 2) 6 v_v]) ml_X8_340 ms_X8_casts hf (fun q10 h => ih_X8_casts a_t r_t v_people v_day v_texted v_at v_value v_digits v_open v_parishes v_holds v_coded v_seen v_inPlan v_inBook q9.1 v_imaged v_most q9.2 v_kind v_v p1 (1 : Int32) (p3 + (1 : Int32)) q10 h) [0, 1, 2, 3] [some 0, some 1, some 2, some 3] 4 rfl (by decide +kernel) (by decide +kernel) (fun _ => rfl) (fun _ => rfl) (Nat.ble_eq_true_of_le (by omega)) rfl rfl rfl ⟨Nat.zero_le _, Nat.zero_le _⟩ dX8_casts_73 kc_X8 0 rfl (fun q10 hf => ?_)
            obtain rfl := Option.some.inj hf
            exact hQ _ _ dX8_casts_76 rfl
          · skip
            obtain ⟨h5, hf⟩ | ⟨h5, hf⟩ := k_or hf
            · refine j_tabIn C (pc := 1) 129 dX8_casts_1 (by rw [h5]; decide) (by rw [h5]; decide) (by rw [h5] <;> rfl) (by decide) ?_
              refine j_aload_n C (pc := 129) 0 rfl rfl dX8_casts_129 ?_
              refine j_iload_n C (pc := 130) 1 rfl rfl dX8_casts_130 ?_
              refine j_iload_n C (pc := 131) 2 rfl rfl dX8_casts_131 ?_
              refine j_cSI C (pc := 132) (As := [.int p2]) (st := [.int p1, .ref a_t]) (ws' := fun q11 => [oX8 a_t r_t v_people v_day v_texted v_at v_value v_digits v_open v_parishes v_holds v_coded v_seen v_inPlan v_inBook v_traced v_imaged v_most, aI G (r_t 38) 20 v_traces, aI G (r_t 1) 6 v_kind, aI G (r_t 2) 6 v_v]) ml_X8_337 ms_X8_above hf (fun q11 h => (c_X8_above G K.2.1) p2 q11 h) [] [none, none, none, none] 4 rfl (by decide +kernel) (by decide +kernel) (fun _ => rfl) (fun _ => rfl) (Nat.ble_eq_true_of_le (by omega)) rfl rfl rfl ⟨Nat.zero_le _, Nat.zero_le _⟩ dX8_casts_132 (fun q11 hf => ?_)
              refine j_iload_n C (pc := 135) 3 rfl rfl dX8_casts_135 ?_
              refine j_cVI C (pc := 136) (As := [.int p1, .int q11, .int p3]) (st := []) (ws' := fun q12 => [oX8 a_t r_t v_people v_day v_texted v_at v_value v_digits v_open v_parishes v_holds v_coded v_seen v_inPlan v_inBook q12.2.1 v_imaged v_most, aI G (r_t 38) 20 q12.2.2, aI G (r_t 1) 6 v_kind, aI G (r_t 2) 6 v_v]) ml_X8_340 ms_X8_casts hf (fun q12 h => ih_X8_casts a_t r_t v_people v_day v_texted v_at v_value v_digits v_open v_parishes v_holds v_coded v_seen v_inPlan v_inBook v_traced v_imaged v_most v_traces v_kind v_v p1 q11 p3 q12 h) [0, 1, 2, 3] [some 0, some 1, some 2, some 3] 4 rfl (by decide +kernel) (by decide +kernel) (fun _ => rfl) (fun _ => rfl) (Nat.ble_eq_true_of_le (by omega)) rfl rfl rfl ⟨Nat.zero_le _, Nat.zero_le _⟩ dX8_casts_136 kc_X8 0 rfl (fun q12 hf => ?_)
              obtain rfl := Option.some.inj hf
              exact hQ _ _ dX8_casts_139 rfl
            · skip
              obtain ⟨h6, hf⟩ | ⟨h6, hf⟩ := k_or hf
              · refine j_tabIn C (pc := 1) 77 dX8_casts_1 (by rw [h6]; decide) (by rw [h6]; decide) (by rw [h6] <;> rfl) (by decide) ?_
                refine j_aload_n C (pc := 77) 0 rfl rfl dX8_casts_77 ?_
                refine j_bipush C (pc := 78) (v := 70) (by decide) dX8_casts_78 ?_
                refine j_cVZ C (pc := 80) (As := [.int (70 : Int32)]) (st := []) (ws' := fun q13 => [oX8 a_t r_t v_people v_day v_texted v_at v_value v_digits v_open v_parishes v_holds v_coded v_seen v_inPlan v_inBook q13.1 v_imaged v_most, aI G (r_t 38) 20 q13.2, aI G (r_t 1) 6 v_kind, aI G (r_t 2) 6 v_v]) ml_X8_330 ms_X8_ran hf (fun q13 h => (c_X8_ran G K.2.1) a_t r_t v_people v_day v_texted v_at v_value v_digits v_open v_parishes v_holds v_coded v_seen v_inPlan v_inBook v_traced v_imaged v_most v_traces (70 : Int32) q13 h) [0, 1] [some 0, some 1, none, none] 4 rfl (by decide +kernel) (by decide +kernel) (fun _ => rfl) (fun _ => rfl) (Nat.ble_eq_true_of_le (by omega)) rfl rfl rfl ⟨Nat.zero_le _, Nat.zero_le _⟩ dX8_casts_80 kc_X8 0 rfl (fun q13 hf => ?_)
                refine j_aload_n C (pc := 83) 0 rfl rfl dX8_casts_83 ?_
                refine j_iload_n C (pc := 84) 1 rfl rfl dX8_casts_84 ?_
                refine j_iconst C (pc := 85) (v := 3) (by decide) dX8_casts_85 ?_
                refine j_iload_n C (pc := 86) 3 rfl rfl dX8_casts_86 ?_
                refine j_cVI C (pc := 87) (As := [.int p1, .int (3 : Int32), .int p3]) (st := []) (ws' := fun q14 => [oX8 a_t r_t v_people v_day v_texted v_at v_value v_digits v_open v_parishes v_holds v_coded v_seen v_inPlan v_inBook q14.2.1 v_imaged v_most, aI G (r_t 38) 20 q14.2.2, aI G (r_t 1) 6 v_kind, aI G (r_t 2) 6 v_v]) ml_X8_340 ms_X8_casts hf (fun q14 h => ih_X8_casts a_t r_t v_people v_day v_texted v_at v_value v_digits v_open v_parishes v_holds v_coded v_seen v_inPlan v_inBook q13.1 v_imaged v_most q13.2 v_kind v_v p1 (3 : Int32) p3 q14 h) [0, 1, 2, 3] [some 0, some 1, some 2, some 3] 4 rfl (by decide +kernel) (by decide +kernel) (fun _ => rfl) (fun _ => rfl) (Nat.ble_eq_true_of_le (by omega)) rfl rfl rfl ⟨Nat.zero_le _, Nat.zero_le _⟩ dX8_casts_87 kc_X8 0 rfl (fun q14 hf => ?_)
                refine j_istore C (pc := 90) (L' := [(4, .int q14.1), (0, .ref a_t), (1, .int p1), (2, .int p2), (3, .int p3)]) dX8_casts_90 (by decide) rfl ?_
                refine j_iload C (pc := 92) 0 rfl dX8_casts_92 ?_
                refine j_aload_n C (pc := 94) 1 rfl rfl dX8_casts_94 ?_
                refine j_iload_n C (pc := 95) 2 rfl rfl dX8_casts_95 ?_
                refine j_iconst C (pc := 96) (v := 3) (by decide) dX8_casts_96 ?_
                refine j_iconst C (pc := 97) (v := 2) (by decide) dX8_casts_97 ?_
                refine j_cVI C (pc := 98) (As := [.int p1, .int (3 : Int32), .int (2 : Int32)]) (st := [.int q14.1]) (ws' := fun q15 => [oX8 a_t r_t v_people v_day v_texted v_at v_value v_digits v_open v_parishes v_holds v_coded v_seen v_inPlan v_inBook q15.2.1 v_imaged v_most, aI G (r_t 38) 20 q15.2.2, aI G (r_t 1) 6 v_kind, aI G (r_t 2) 6 v_v]) ml_X8_334 ms_X8_digs hf (fun q15 h => (c_X8_digs G K.2.1 60) a_t r_t v_people v_day v_texted v_at v_value v_digits v_open v_parishes v_holds v_coded v_seen v_inPlan v_inBook q14.2.1 v_imaged v_most q14.2.2 v_v p1 (3 : Int32) (2 : Int32) q15 h) [0, 1, 3] [some 0, some 1, none, some 2] 4 rfl (by decide +kernel) (by decide +kernel) (fun _ => rfl) (fun _ => rfl) (Nat.ble_eq_true_of_le (by omega)) rfl rfl rfl ⟨Nat.zero_le _, Nat.zero_le _⟩ dX8_casts_98 kc_X8 0 rfl (fun q15 hf => ?_)
                refine j_iadd C (pc := 101) dX8_casts_101 ?_
                obtain rfl := Option.some.inj hf
                exact hQ _ _ dX8_casts_102 rfl
              · skip
                have hout : (p2).toInt < 0 ∨ 6 < (p2).toInt := by
                  have := lv_neT (a := 0) h0 rfl
                  have := lv_neT (a := 1) h1 rfl
                  have := lv_neT (a := 2) h2 rfl
                  have := lv_neT (a := 3) h3 rfl
                  have := lv_neT (a := 4) h4 rfl
                  have := lv_neT (a := 5) h5 rfl
                  have := lv_neT (a := 6) h6 rfl
                  omega
                refine j_tabOut C (pc := 1) 129 dX8_casts_1 hout (by decide) ?_
                refine j_aload_n C (pc := 129) 0 rfl rfl dX8_casts_129 ?_
                refine j_iload_n C (pc := 130) 1 rfl rfl dX8_casts_130 ?_
                refine j_iload_n C (pc := 131) 2 rfl rfl dX8_casts_131 ?_
                refine j_cSI C (pc := 132) (As := [.int p2]) (st := [.int p1, .ref a_t]) (ws' := fun q16 => [oX8 a_t r_t v_people v_day v_texted v_at v_value v_digits v_open v_parishes v_holds v_coded v_seen v_inPlan v_inBook v_traced v_imaged v_most, aI G (r_t 38) 20 v_traces, aI G (r_t 1) 6 v_kind, aI G (r_t 2) 6 v_v]) ml_X8_337 ms_X8_above hf (fun q16 h => (c_X8_above G K.2.1) p2 q16 h) [] [none, none, none, none] 4 rfl (by decide +kernel) (by decide +kernel) (fun _ => rfl) (fun _ => rfl) (Nat.ble_eq_true_of_le (by omega)) rfl rfl rfl ⟨Nat.zero_le _, Nat.zero_le _⟩ dX8_casts_132 (fun q16 hf => ?_)
                refine j_iload_n C (pc := 135) 3 rfl rfl dX8_casts_135 ?_
                refine j_cVI C (pc := 136) (As := [.int p1, .int q16, .int p3]) (st := []) (ws' := fun q17 => [oX8 a_t r_t v_people v_day v_texted v_at v_value v_digits v_open v_parishes v_holds v_coded v_seen v_inPlan v_inBook q17.2.1 v_imaged v_most, aI G (r_t 38) 20 q17.2.2, aI G (r_t 1) 6 v_kind, aI G (r_t 2) 6 v_v]) ml_X8_340 ms_X8_casts hf (fun q17 h => ih_X8_casts a_t r_t v_people v_day v_texted v_at v_value v_digits v_open v_parishes v_holds v_coded v_seen v_inPlan v_inBook v_traced v_imaged v_most v_traces v_kind v_v p1 q16 p3 q17 h) [0, 1, 2, 3] [some 0, some 1, some 2, some 3] 4 rfl (by decide +kernel) (by decide +kernel) (fun _ => rfl) (fun _ => rfl) (Nat.ble_eq_true_of_le (by omega)) rfl rfl rfl ⟨Nat.zero_le _, Nat.zero_le _⟩ dX8_casts_136 kc_X8 0 rfl (fun q17 hf => ?_)
                obtain rfl := Option.some.inj hf
                exact hQ _ _ dX8_casts_139 rfl
def f_X8_casts : Nat → Int32 → (Nat → Int32) → (Nat → Int32) → (Nat → Int32) → Int32 → Int32 → Int32 → Option (Int32 × Int32 × (Nat → Int32))
  | 0 => fun _ _ _ _ _ _ _ => none
  | d + 1 => f_X8_casts_b (f_X8_casts d)
theorem c_X8_casts (G : Gx) (l : Launch) : ∀ d : Nat, ct_X8_casts G l (f_X8_casts d) (63 + d) := by
  intro d
  induction d with
  | zero => intro a_t r_t v_people v_day v_texted v_at v_value v_digits v_open v_parishes v_holds v_coded v_seen v_inPlan v_inBook v_traced v_imaged v_most v_traces v_kind v_v p1 p2 p3 q hf; cases hf
  | succ d ih =>
    intro a_t r_t v_people v_day v_texted v_at v_value v_digits v_open v_parishes v_holds v_coded v_seen v_inPlan v_inBook v_traced v_imaged v_most v_traces v_kind v_v p1 p2 p3 q hf
    exact mI_of (by decide +kernel) rfl (fun K hl C hQ => by subst hl; exact t_X8_casts C hQ ih hf)
def ct_X8_tells (G : Gx) (l : Launch) (F : Int32 → (Nat → Int32) → (Nat → Int32) → (Nat → Int32) → Int32 → Int32 → Int32 → Option (Int32 × Int32 × (Nat → Int32))) (lv : Nat) : Prop := ∀ (a_t : Nat) (r_t : Nat → Nat) (v_people : Int32) (v_day : Int32) (v_texted : Int32) (v_at : Int32) (v_value : Int32) (v_digits : Int32) (v_open : Int32) (v_parishes : Int32) (v_holds : Int32) (v_coded : Int32) (v_seen : Int32) (v_inPlan : Int32) (v_inBook : Int32) (v_traced : Int32) (v_imaged : Int32) (v_most : Int32) (v_traces : Nat → Int32) (v_kind : Nat → Int32) (v_v : Nat → Int32) (p1 : Int32) (p2 : Int32) (p3 : Int32), ∀ (q : Int32 × Int32 × (Nat → Int32)), F v_traced v_traces v_kind v_v p1 p2 p3 = some q → MI G l yX8_tells cX8_tells 5 .int lv [.ref a_t, .int p1, .int p2, .int p3] [oX8 a_t r_t v_people v_day v_texted v_at v_value v_digits v_open v_parishes v_holds v_coded v_seen v_inPlan v_inBook v_traced v_imaged v_most, aI G (r_t 38) 20 v_traces, aI G (r_t 1) 6 v_kind, aI G (r_t 2) 6 v_v] [oX8 a_t r_t v_people v_day v_texted v_at v_value v_digits v_open v_parishes v_holds v_coded v_seen v_inPlan v_inBook q.2.1 v_imaged v_most, aI G (r_t 38) 20 q.2.2, aI G (r_t 1) 6 v_kind, aI G (r_t 2) 6 v_v] q.1
-- X8_tells
def f_X8_tells_b (rec_X8_tells : Int32 → (Nat → Int32) → (Nat → Int32) → (Nat → Int32) → Int32 → Int32 → Int32 → Option (Int32 × Int32 × (Nat → Int32))) (v_traced : Int32) (v_traces : Nat → Int32) (v_kind : Nat → Int32) (v_v : Nat → Int32) (p1 : Int32) (p2 : Int32) (p3 : Int32) : Option (Int32 × Int32 × (Nat → Int32)) := (if p2 = (0 : Int32) then ((f_X8_ran v_traced v_traces (12 : Int32)).bind fun q1 => (gd p1 6 ((f_X8_casts 60 q1.1 q1.2 v_kind v_v p1 (v_kind p1.toNatClampNeg) p3).bind fun q2 => (some (q2.1 * (2 : Int32), q2.2.1, q2.2.2))))) else (if p2 = (3 : Int32) then ((f_X8_ran v_traced v_traces (40 : Int32)).bind fun q3 => ((rec_X8_tells q3.1 q3.2 v_kind v_v p1 (0 : Int32) p3).bind fun q4 => (gd p1 6 ((f_X8_casts 60 q4.2.1 q4.2.2 v_kind v_v p1 (v_kind p1.toNatClampNeg) (1 : Int32)).bind fun q5 => (some (q4.1 + q5.1, q5.2.1, q5.2.2)))))) else (if p2 = (5 : Int32) then ((f_X8_ran v_traced v_traces (60 : Int32)).bind fun q6 => ((rec_X8_tells q6.1 q6.2 v_kind v_v p1 (2 : Int32) (p3 - p1)).bind fun q7 => (some (q7.1, q7.2.1, q7.2.2)))) else ((f_X8_above p2).bind fun q8 => ((rec_X8_tells v_traced v_traces v_kind v_v p1 q8 p3).bind fun q9 => (some (q9.1, q9.2.1, q9.2.2)))))))
set_option maxRecDepth 20000 in
set_option maxHeartbeats 1000000 in
theorem t_X8_tells {G : Gx} {K : Kx} {d : Nat} {rec_X8_tells : Int32 → (Nat → Int32) → (Nat → Int32) → (Nat → Int32) → Int32 → Int32 → Int32 → Option (Int32 × Int32 × (Nat → Int32))} (C : Cx G K cX8_tells RX8 5 (124 + (d + 1))) {a_t : Nat} {r_t : Nat → Nat} {v_people : Int32} {v_day : Int32} {v_texted : Int32} {v_at : Int32} {v_value : Int32} {v_digits : Int32} {v_open : Int32} {v_parishes : Int32} {v_holds : Int32} {v_coded : Int32} {v_seen : Int32} {v_inPlan : Int32} {v_inBook : Int32} {v_traced : Int32} {v_imaged : Int32} {v_most : Int32} {v_traces : Nat → Int32} {v_kind : Nat → Int32} {v_v : Nat → Int32} {p1 : Int32} {p2 : Int32} {p3 : Int32} {q : Int32 × Int32 × (Nat → Int32)} (hQ : k_retI G K cX8_tells 5 .int [oX8 a_t r_t v_people v_day v_texted v_at v_value v_digits v_open v_parishes v_holds v_coded v_seen v_inPlan v_inBook q.2.1 v_imaged v_most, aI G (r_t 38) 20 q.2.2, aI G (r_t 1) 6 v_kind, aI G (r_t 2) 6 v_v] q.1) (ih_X8_tells : ct_X8_tells G K.2.1 rec_X8_tells (124 + d)) (hf : f_X8_tells_b rec_X8_tells v_traced v_traces v_kind v_v p1 p2 p3 = some q) : J G K 5 0 0 [oX8 a_t r_t v_people v_day v_texted v_at v_value v_digits v_open v_parishes v_holds v_coded v_seen v_inPlan v_inBook v_traced v_imaged v_most, aI G (r_t 38) 20 v_traces, aI G (r_t 1) 6 v_kind, aI G (r_t 2) 6 v_v] [(0, .ref a_t), (1, .int p1), (2, .int p2), (3, .int p3)] 0 [] := by
  unfold f_X8_tells_b at hf
  refine j_iload_n C (pc := 0) 2 rfl rfl dX8_tells_0 ?_
  obtain ⟨h0, hf⟩ | ⟨h0, hf⟩ := k_or hf
  · refine j_lookup C (pc := 1) (off := 82) 83 dX8_tells_1 (by decide) (by rw [h0] <;> rfl) (by decide) ?_
    refine j_aload_n C (pc := 83) 0 rfl rfl dX8_tells_83 ?_
    refine j_bipush C (pc := 84) (v := 12) (by decide) dX8_tells_84 ?_
    refine j_cVZ C (pc := 86) (As := [.int (12 : Int32)]) (st := []) (ws' := fun q1 => [oX8 a_t r_t v_people v_day v_texted v_at v_value v_digits v_open v_parishes v_holds v_coded v_seen v_inPlan v_inBook q1.1 v_imaged v_most, aI G (r_t 38) 20 q1.2, aI G (r_t 1) 6 v_kind, aI G (r_t 2) 6 v_v]) ml_X8_330 ms_X8_ran hf (fun q1 h => (c_X8_ran G K.2.1) a_t r_t v_people v_day v_texted v_at v_value v_digits v_open v_parishes v_holds v_coded v_seen v_inPlan v_inBook v_traced v_imaged v_most v_traces (12 : Int32) q1 h) [0, 1] [some 0, some 1, none, none] 4 rfl (by decide +kernel) (by decide +kernel) (fun _ => rfl) (fun _ => rfl) (Nat.ble_eq_true_of_le (by omega)) rfl rfl rfl ⟨Nat.zero_le _, Nat.zero_le _⟩ dX8_tells_86 kc_X8 0 rfl (fun q1 hf => ?_)
    refine j_aload_n C (pc := 89) 0 rfl rfl dX8_tells_89 ?_
    refine j_iload_n C (pc := 90) 1 rfl rfl dX8_tells_90 ?_
    refine j_aload_n C (pc := 91) 0 rfl rfl dX8_tells_91 ?_
    refine j_get C (pc := 92) kc_X8 fl_X8_9 0 rfl rfl dX8_tells_92 ?_
    refine j_iload_n C (pc := 95) 1 rfl rfl dX8_tells_95 ?_
    refine j_iald C (pc := 96) 2 rfl hf dX8_tells_96 (fun hf => ?_)
    refine j_iload_n C (pc := 97) 3 rfl rfl dX8_tells_97 ?_
    refine j_cVI C (pc := 98) (As := [.int p1, .int (v_kind p1.toNatClampNeg), .int p3]) (st := []) (ws' := fun q2 => [oX8 a_t r_t v_people v_day v_texted v_at v_value v_digits v_open v_parishes v_holds v_coded v_seen v_inPlan v_inBook q2.2.1 v_imaged v_most, aI G (r_t 38) 20 q2.2.2, aI G (r_t 1) 6 v_kind, aI G (r_t 2) 6 v_v]) ml_X8_340 ms_X8_casts hf (fun q2 h => (c_X8_casts G K.2.1 60) a_t r_t v_people v_day v_texted v_at v_value v_digits v_open v_parishes v_holds v_coded v_seen v_inPlan v_inBook q1.1 v_imaged v_most q1.2 v_kind v_v p1 (v_kind p1.toNatClampNeg) p3 q2 h) [0, 1, 2, 3] [some 0, some 1, some 2, some 3] 4 rfl (by decide +kernel) (by decide +kernel) (fun _ => rfl) (fun _ => rfl) (Nat.ble_eq_true_of_le (by omega)) rfl rfl rfl ⟨Nat.zero_le _, Nat.zero_le _⟩ dX8_tells_98 kc_X8 0 rfl (fun q2 hf => ?_)
    refine j_iconst C (pc := 101) (v := 2) (by decide) dX8_tells_101 ?_
    refine j_imul C (pc := 102) dX8_tells_102 ?_
    obtain rfl := Option.some.inj hf
    exact hQ _ _ dX8_tells_103 rfl
  · skip
    obtain ⟨h3, hf⟩ | ⟨h3, hf⟩ := k_or hf
    · refine j_lookup C (pc := 1) (off := 35) 36 dX8_tells_1 (by decide) (by rw [h3] <;> rfl) (by decide) ?_
      refine j_aload_n C (pc := 36) 0 rfl rfl dX8_tells_36 ?_
      refine j_bipush C (pc := 37) (v := 40) (by decide) dX8_tells_37 ?_
      refine j_cVZ C (pc := 39) (As := [.int (40 : Int32)]) (st := []) (ws' := fun q3 => [oX8 a_t r_t v_people v_day v_texted v_at v_value v_digits v_open v_parishes v_holds v_coded v_seen v_inPlan v_inBook q3.1 v_imaged v_most, aI G (r_t 38) 20 q3.2, aI G (r_t 1) 6 v_kind, aI G (r_t 2) 6 v_v]) ml_X8_330 ms_X8_ran hf (fun q3 h => (c_X8_ran G K.2.1) a_t r_t v_people v_day v_texted v_at v_value v_digits v_open v_parishes v_holds v_coded v_seen v_inPlan v_inBook v_traced v_imaged v_most v_traces (40 : Int32) q3 h) [0, 1] [some 0, some 1, none, none] 4 rfl (by decide +kernel) (by decide +kernel) (fun _ => rfl) (fun _ => rfl) (Nat.ble_eq_true_of_le (by omega)) rfl rfl rfl ⟨Nat.zero_le _, Nat.zero_le _⟩ dX8_tells_39 kc_X8 0 rfl (fun q3 hf => ?_)
      refine j_aload_n C (pc := 42) 0 rfl rfl dX8_tells_42 ?_
      refine j_iload_n C (pc := 43) 1 rfl rfl dX8_tells_43 ?_
      refine j_iconst C (pc := 44) (v := 0) (by decide) dX8_tells_44 ?_
      refine j_iload_n C (pc := 45) 3 rfl rfl dX8_tells_45 ?_
      refine j_cVI C (pc := 46) (As := [.int p1, .int (0 : Int32), .int p3]) (st := []) (ws' := fun q4 => [oX8 a_t r_t v_people v_day v_texted v_at v_value v_digits v_open v_parishes v_holds v_coded v_seen v_inPlan v_inBook q4.2.1 v_imaged v_most, aI G (r_t 38) 20 q4.2.2, aI G (r_t 1) 6 v_kind, aI G (r_t 2) 6 v_v]) ml_X8_343 ms_X8_tells hf (fun q4 h => ih_X8_tells a_t r_t v_people v_day v_texted v_at v_value v_digits v_open v_parishes v_holds v_coded v_seen v_inPlan v_inBook q3.1 v_imaged v_most q3.2 v_kind v_v p1 (0 : Int32) p3 q4 h) [0, 1, 2, 3] [some 0, some 1, some 2, some 3] 4 rfl (by decide +kernel) (by decide +kernel) (fun _ => rfl) (fun _ => rfl) (Nat.ble_eq_true_of_le (by omega)) rfl rfl rfl ⟨Nat.zero_le _, Nat.zero_le _⟩ dX8_tells_46 kc_X8 0 rfl (fun q4 hf => ?_)
      refine j_istore C (pc := 49) (L' := [(4, .int q4.1), (0, .ref a_t), (1, .int p1), (2, .int p2), (3, .int p3)]) dX8_tells_49 (by decide) rfl ?_
      refine j_iload C (pc := 51) 0 rfl dX8_tells_51 ?_
      refine j_aload_n C (pc := 53) 1 rfl rfl dX8_tells_53 ?_
      refine j_iload_n C (pc := 54) 2 rfl rfl dX8_tells_54 ?_
      refine j_aload_n C (pc := 55) 1 rfl rfl dX8_tells_55 ?_
      refine j_get C (pc := 56) kc_X8 fl_X8_9 0 rfl rfl dX8_tells_56 ?_
      refine j_iload_n C (pc := 59) 2 rfl rfl dX8_tells_59 ?_
      refine j_iald C (pc := 60) 2 rfl hf dX8_tells_60 (fun hf => ?_)
      refine j_iconst C (pc := 61) (v := 1) (by decide) dX8_tells_61 ?_
      refine j_cVI C (pc := 62) (As := [.int p1, .int (v_kind p1.toNatClampNeg), .int (1 : Int32)]) (st := [.int q4.1]) (ws' := fun q5 => [oX8 a_t r_t v_people v_day v_texted v_at v_value v_digits v_open v_parishes v_holds v_coded v_seen v_inPlan v_inBook q5.2.1 v_imaged v_most, aI G (r_t 38) 20 q5.2.2, aI G (r_t 1) 6 v_kind, aI G (r_t 2) 6 v_v]) ml_X8_340 ms_X8_casts hf (fun q5 h => (c_X8_casts G K.2.1 60) a_t r_t v_people v_day v_texted v_at v_value v_digits v_open v_parishes v_holds v_coded v_seen v_inPlan v_inBook q4.2.1 v_imaged v_most q4.2.2 v_kind v_v p1 (v_kind p1.toNatClampNeg) (1 : Int32) q5 h) [0, 1, 2, 3] [some 0, some 1, some 2, some 3] 4 rfl (by decide +kernel) (by decide +kernel) (fun _ => rfl) (fun _ => rfl) (Nat.ble_eq_true_of_le (by omega)) rfl rfl rfl ⟨Nat.zero_le _, Nat.zero_le _⟩ dX8_tells_62 kc_X8 0 rfl (fun q5 hf => ?_)
      refine j_iadd C (pc := 65) dX8_tells_65 ?_
      obtain rfl := Option.some.inj hf
      exact hQ _ _ dX8_tells_66 rfl
    · skip
      obtain ⟨h5, hf⟩ | ⟨h5, hf⟩ := k_or hf
      · refine j_lookup C (pc := 1) (off := 66) 67 dX8_tells_1 (by decide) (by rw [h5] <;> rfl) (by decide) ?_
        refine j_aload_n C (pc := 67) 0 rfl rfl dX8_tells_67 ?_
        refine j_bipush C (pc := 68) (v := 60) (by decide) dX8_tells_68 ?_
        refine j_cVZ C (pc := 70) (As := [.int (60 : Int32)]) (st := []) (ws' := fun q6 => [oX8 a_t r_t v_people v_day v_texted v_at v_value v_digits v_open v_parishes v_holds v_coded v_seen v_inPlan v_inBook q6.1 v_imaged v_most, aI G (r_t 38) 20 q6.2, aI G (r_t 1) 6 v_kind, aI G (r_t 2) 6 v_v]) ml_X8_330 ms_X8_ran hf (fun q6 h => (c_X8_ran G K.2.1) a_t r_t v_people v_day v_texted v_at v_value v_digits v_open v_parishes v_holds v_coded v_seen v_inPlan v_inBook v_traced v_imaged v_most v_traces (60 : Int32) q6 h) [0, 1] [some 0, some 1, none, none] 4 rfl (by decide +kernel) (by decide +kernel) (fun _ => rfl) (fun _ => rfl) (Nat.ble_eq_true_of_le (by omega)) rfl rfl rfl ⟨Nat.zero_le _, Nat.zero_le _⟩ dX8_tells_70 kc_X8 0 rfl (fun q6 hf => ?_)
        refine j_aload_n C (pc := 73) 0 rfl rfl dX8_tells_73 ?_
        refine j_iload_n C (pc := 74) 1 rfl rfl dX8_tells_74 ?_
        refine j_iconst C (pc := 75) (v := 2) (by decide) dX8_tells_75 ?_
        refine j_iload_n C (pc := 76) 3 rfl rfl dX8_tells_76 ?_
        refine j_iload_n C (pc := 77) 1 rfl rfl dX8_tells_77 ?_
        refine j_isub C (pc := 78) dX8_tells_78 ?_
        refine j_cVI C (pc := 79) (As := [.int p1, .int (2 : Int32), .int (p3 - p1)]) (st := []) (ws' := fun q7 => [oX8 a_t r_t v_people v_day v_texted v_at v_value v_digits v_open v_parishes v_holds v_coded v_seen v_inPlan v_inBook q7.2.1 v_imaged v_most, aI G (r_t 38) 20 q7.2.2, aI G (r_t 1) 6 v_kind, aI G (r_t 2) 6 v_v]) ml_X8_343 ms_X8_tells hf (fun q7 h => ih_X8_tells a_t r_t v_people v_day v_texted v_at v_value v_digits v_open v_parishes v_holds v_coded v_seen v_inPlan v_inBook q6.1 v_imaged v_most q6.2 v_kind v_v p1 (2 : Int32) (p3 - p1) q7 h) [0, 1, 2, 3] [some 0, some 1, some 2, some 3] 4 rfl (by decide +kernel) (by decide +kernel) (fun _ => rfl) (fun _ => rfl) (Nat.ble_eq_true_of_le (by omega)) rfl rfl rfl ⟨Nat.zero_le _, Nat.zero_le _⟩ dX8_tells_79 kc_X8 0 rfl (fun q7 hf => ?_)
        obtain rfl := Option.some.inj hf
        exact hQ _ _ dX8_tells_82 rfl
      · skip
        refine j_lookup C (pc := 1) (off := 103) 104 dX8_tells_1 (by decide) (by show Op.lookupswitch.offset [(0, 82), (3, 35), (5, 66)] 103 _ = _; rw [lv_osw h0 (show ((0 : Int32)).toInt = 0 from rfl), lv_osw h3 (show ((3 : Int32)).toInt = 3 from rfl), lv_osw h5 (show ((5 : Int32)).toInt = 5 from rfl)] <;> rfl) (by decide) ?_
        refine j_aload_n C (pc := 104) 0 rfl rfl dX8_tells_104 ?_
        refine j_iload_n C (pc := 105) 1 rfl rfl dX8_tells_105 ?_
        refine j_iload_n C (pc := 106) 2 rfl rfl dX8_tells_106 ?_
        refine j_cSI C (pc := 107) (As := [.int p2]) (st := [.int p1, .ref a_t]) (ws' := fun q8 => [oX8 a_t r_t v_people v_day v_texted v_at v_value v_digits v_open v_parishes v_holds v_coded v_seen v_inPlan v_inBook v_traced v_imaged v_most, aI G (r_t 38) 20 v_traces, aI G (r_t 1) 6 v_kind, aI G (r_t 2) 6 v_v]) ml_X8_337 ms_X8_above hf (fun q8 h => (c_X8_above G K.2.1) p2 q8 h) [] [none, none, none, none] 4 rfl (by decide +kernel) (by decide +kernel) (fun _ => rfl) (fun _ => rfl) (Nat.ble_eq_true_of_le (by omega)) rfl rfl rfl ⟨Nat.zero_le _, Nat.zero_le _⟩ dX8_tells_107 (fun q8 hf => ?_)
        refine j_iload_n C (pc := 110) 3 rfl rfl dX8_tells_110 ?_
        refine j_cVI C (pc := 111) (As := [.int p1, .int q8, .int p3]) (st := []) (ws' := fun q9 => [oX8 a_t r_t v_people v_day v_texted v_at v_value v_digits v_open v_parishes v_holds v_coded v_seen v_inPlan v_inBook q9.2.1 v_imaged v_most, aI G (r_t 38) 20 q9.2.2, aI G (r_t 1) 6 v_kind, aI G (r_t 2) 6 v_v]) ml_X8_343 ms_X8_tells hf (fun q9 h => ih_X8_tells a_t r_t v_people v_day v_texted v_at v_value v_digits v_open v_parishes v_holds v_coded v_seen v_inPlan v_inBook v_traced v_imaged v_most v_traces v_kind v_v p1 q8 p3 q9 h) [0, 1, 2, 3] [some 0, some 1, some 2, some 3] 4 rfl (by decide +kernel) (by decide +kernel) (fun _ => rfl) (fun _ => rfl) (Nat.ble_eq_true_of_le (by omega)) rfl rfl rfl ⟨Nat.zero_le _, Nat.zero_le _⟩ dX8_tells_111 kc_X8 0 rfl (fun q9 hf => ?_)
        obtain rfl := Option.some.inj hf
        exact hQ _ _ dX8_tells_114 rfl
def f_X8_tells : Nat → Int32 → (Nat → Int32) → (Nat → Int32) → (Nat → Int32) → Int32 → Int32 → Int32 → Option (Int32 × Int32 × (Nat → Int32))
  | 0 => fun _ _ _ _ _ _ _ => none
  | d + 1 => f_X8_tells_b (f_X8_tells d)
theorem c_X8_tells (G : Gx) (l : Launch) : ∀ d : Nat, ct_X8_tells G l (f_X8_tells d) (124 + d) := by
  intro d
  induction d with
  | zero => intro a_t r_t v_people v_day v_texted v_at v_value v_digits v_open v_parishes v_holds v_coded v_seen v_inPlan v_inBook v_traced v_imaged v_most v_traces v_kind v_v p1 p2 p3 q hf; cases hf
  | succ d ih =>
    intro a_t r_t v_people v_day v_texted v_at v_value v_digits v_open v_parishes v_holds v_coded v_seen v_inPlan v_inBook v_traced v_imaged v_most v_traces v_kind v_v p1 p2 p3 q hf
    exact mI_of (by decide +kernel) rfl (fun K hl C hQ => by subst hl; exact t_X8_tells C hQ ih hf)
-- X8_act
def f_X8_act (v_people : Int32) (v_kind : Nat → Int32) (v_traces : Nat → Int32) (v_v : Nat → Int32) (p1 : Int32) (p2 : Int32) (p3 : Int32) : Option (Int32 × Int32 × (Nat → Int32)) := ((f_X8_isOne v_people p1).bind fun q1 => (if q1 = 0 then (some ((0 : Int32), (0 : Int32), v_traces)) else ((f_X8_within p2 (0 : Int32) (2 : Int32)).bind fun q2 => (if q2 = 0 then (some ((0 : Int32), (0 : Int32), v_traces)) else (gd p1 6 (nm (v_kind p1.toNatClampNeg) fun y3 => (if p2 = 0 then ((f_X8_digs 60 (0 : Int32) v_traces v_v p1 y3 p3).bind fun q6 => (some (q6.1, q6.2.1, q6.2.2))) else (if p2 = (1 : Int32) then ((f_X8_casts 60 (0 : Int32) v_traces v_kind v_v p1 y3 p3).bind fun q5 => (some (q5.1, q5.2.1, q5.2.2))) else ((f_X8_tells 60 (0 : Int32) v_traces v_kind v_v p1 y3 p3).bind fun q4 => (some (q4.1, q4.2.1, q4.2.2)))))))))))
set_option maxRecDepth 20000 in
set_option maxHeartbeats 1000000 in
theorem t_X8_act {G : Gx} {K : Kx} (C : Cx G K cX8_act RX8 5 185) {a_t : Nat} {r_t : Nat → Nat} {v_people : Int32} {v_day : Int32} {v_texted : Int32} {v_at : Int32} {v_value : Int32} {v_digits : Int32} {v_open : Int32} {v_parishes : Int32} {v_holds : Int32} {v_coded : Int32} {v_seen : Int32} {v_inPlan : Int32} {v_inBook : Int32} {v_traced : Int32} {v_imaged : Int32} {v_most : Int32} {v_kind : Nat → Int32} {v_traces : Nat → Int32} {v_v : Nat → Int32} {p1 : Int32} {p2 : Int32} {p3 : Int32} {q : Int32 × Int32 × (Nat → Int32)} (hQ : k_retI G K cX8_act 5 .int [oX8 a_t r_t v_people v_day v_texted v_at v_value v_digits v_open v_parishes v_holds v_coded v_seen v_inPlan v_inBook q.2.1 v_imaged v_most, aI G (r_t 1) 6 v_kind, aI G (r_t 38) 20 q.2.2, aI G (r_t 2) 6 v_v] q.1) (hf : f_X8_act v_people v_kind v_traces v_v p1 p2 p3 = some q) : J G K 5 0 0 [oX8 a_t r_t v_people v_day v_texted v_at v_value v_digits v_open v_parishes v_holds v_coded v_seen v_inPlan v_inBook v_traced v_imaged v_most, aI G (r_t 1) 6 v_kind, aI G (r_t 38) 20 v_traces, aI G (r_t 2) 6 v_v] [(0, .ref a_t), (1, .int p1), (2, .int p2), (3, .int p3)] 0 [] := by
  unfold f_X8_act at hf
  refine j_aload_n C (pc := 0) 0 rfl rfl dX8_act_0 ?_
  refine j_iconst C (pc := 1) (v := 0) (by decide) dX8_act_1 ?_
  refine j_put C (pc := 2) (ws' := [oX8 a_t r_t v_people v_day v_texted v_at v_value v_digits v_open v_parishes v_holds v_coded v_seen v_inPlan v_inBook (0 : Int32) v_imaged v_most, aI G (r_t 1) 6 v_kind, aI G (r_t 38) 20 v_traces, aI G (r_t 2) 6 v_v]) kc_X8 fl_X8_327 0 rfl rfl rfl rfl rfl rfl dX8_act_2 ?_
  refine j_aload_n C (pc := 5) 0 rfl rfl dX8_act_5 ?_
  refine j_iload_n C (pc := 6) 1 rfl rfl dX8_act_6 ?_
  refine j_cVI C (pc := 7) (As := [.int p1]) (st := []) (ws' := fun q1 => [oX8 a_t r_t v_people v_day v_texted v_at v_value v_digits v_open v_parishes v_holds v_coded v_seen v_inPlan v_inBook (0 : Int32) v_imaged v_most, aI G (r_t 1) 6 v_kind, aI G (r_t 38) 20 v_traces, aI G (r_t 2) 6 v_v]) ml_X8_121 ms_X8_isOne hf (fun q1 h => (c_X8_isOne G K.2.1) a_t r_t v_people v_day v_texted v_at v_value v_digits v_open v_parishes v_holds v_coded v_seen v_inPlan v_inBook (0 : Int32) v_imaged v_most p1 q1 h) [0] [some 0, none, none, none] 4 rfl (by decide +kernel) (by decide +kernel) (fun _ => rfl) (fun _ => rfl) rfl rfl rfl rfl ⟨Nat.zero_le _, Nat.zero_le _⟩ dX8_act_7 kc_X8 0 rfl (fun q1 hf => ?_)
  refine j_if_eq C (pc := 10) 22 dX8_act_10 (by decide) hf (fun hf => ?_) (fun hf => ?_)
  · refine j_iconst C (pc := 22) (v := 0) (by decide) dX8_act_22 ?_
    obtain rfl := Option.some.inj hf
    exact hQ _ _ dX8_act_23 rfl
  · refine j_iload_n C (pc := 13) 2 rfl rfl dX8_act_13 ?_
    refine j_iconst C (pc := 14) (v := 0) (by decide) dX8_act_14 ?_
    refine j_iconst C (pc := 15) (v := 2) (by decide) dX8_act_15 ?_
    refine j_cSI C (pc := 16) (As := [.int p2, .int (0 : Int32), .int (2 : Int32)]) (st := []) (ws' := fun q2 => [oX8 a_t r_t v_people v_day v_texted v_at v_value v_digits v_open v_parishes v_holds v_coded v_seen v_inPlan v_inBook (0 : Int32) v_imaged v_most, aI G (r_t 1) 6 v_kind, aI G (r_t 38) 20 v_traces, aI G (r_t 2) 6 v_v]) ml_X8_117 ms_X8_within hf (fun q2 h => (c_X8_within G K.2.1) p2 (0 : Int32) (2 : Int32) q2 h) [] [none, none, none, none] 4 rfl (by decide +kernel) (by decide +kernel) (fun _ => rfl) (fun _ => rfl) rfl rfl rfl rfl ⟨Nat.zero_le _, Nat.zero_le _⟩ dX8_act_16 (fun q2 hf => ?_)
    refine j_if_ne C (pc := 19) 24 dX8_act_19 (by decide) hf (fun hf => ?_) (fun hf => ?_)
    · refine j_aload_n C (pc := 24) 0 rfl rfl dX8_act_24 ?_
      refine j_get C (pc := 25) kc_X8 fl_X8_9 0 rfl rfl dX8_act_25 ?_
      refine j_iload_n C (pc := 28) 1 rfl rfl dX8_act_28 ?_
      refine j_iald C (pc := 29) 1 rfl hf dX8_act_29 (fun hf => ?_)
      refine j_nm hf (fun y3 hf => ?_)
      refine j_istore C (pc := 30) (L' := [(4, .int y3), (0, .ref a_t), (1, .int p1), (2, .int p2), (3, .int p3)]) dX8_act_30 (by decide) rfl ?_
      refine j_iload_n C (pc := 32) 3 rfl rfl dX8_act_32 ?_
      refine j_if_ne C (pc := 33) 47 dX8_act_33 (by decide) hf (fun hf => ?_) (fun hf => ?_)
      · refine j_iload_n C (pc := 47) 3 rfl rfl dX8_act_47 ?_
        refine j_iconst C (pc := 48) (v := 1) (by decide) dX8_act_48 ?_
        refine j_icmp_ne C (pc := 49) 63 dX8_act_49 (by decide) hf (fun hf => ?_) (fun hf => ?_)
        · refine j_aload_n C (pc := 63) 1 rfl rfl dX8_act_63 ?_
          refine j_iload_n C (pc := 64) 2 rfl rfl dX8_act_64 ?_
          refine j_iload C (pc := 65) 0 rfl dX8_act_65 ?_
          refine j_iload_n C (pc := 67) 4 rfl rfl dX8_act_67 ?_
          refine j_cVI C (pc := 68) (As := [.int p1, .int y3, .int p3]) (st := []) (ws' := fun q4 => [oX8 a_t r_t v_people v_day v_texted v_at v_value v_digits v_open v_parishes v_holds v_coded v_seen v_inPlan v_inBook q4.2.1 v_imaged v_most, aI G (r_t 1) 6 v_kind, aI G (r_t 38) 20 q4.2.2, aI G (r_t 2) 6 v_v]) ml_X8_343 ms_X8_tells hf (fun q4 h => (c_X8_tells G K.2.1 60) a_t r_t v_people v_day v_texted v_at v_value v_digits v_open v_parishes v_holds v_coded v_seen v_inPlan v_inBook (0 : Int32) v_imaged v_most v_traces v_kind v_v p1 y3 p3 q4 h) [0, 2, 1, 3] [some 0, some 2, some 1, some 3] 4 rfl (by decide +kernel) (by decide +kernel) (fun _ => rfl) (fun _ => rfl) rfl rfl rfl rfl ⟨Nat.zero_le _, Nat.zero_le _⟩ dX8_act_68 kc_X8 0 rfl (fun q4 hf => ?_)
          obtain rfl := Option.some.inj hf
          exact hQ _ _ dX8_act_71 rfl
        · refine j_aload_n C (pc := 52) 1 rfl rfl dX8_act_52 ?_
          refine j_iload_n C (pc := 53) 2 rfl rfl dX8_act_53 ?_
          refine j_iload C (pc := 54) 0 rfl dX8_act_54 ?_
          refine j_iload_n C (pc := 56) 4 rfl rfl dX8_act_56 ?_
          refine j_cVI C (pc := 57) (As := [.int p1, .int y3, .int p3]) (st := []) (ws' := fun q5 => [oX8 a_t r_t v_people v_day v_texted v_at v_value v_digits v_open v_parishes v_holds v_coded v_seen v_inPlan v_inBook q5.2.1 v_imaged v_most, aI G (r_t 1) 6 v_kind, aI G (r_t 38) 20 q5.2.2, aI G (r_t 2) 6 v_v]) ml_X8_340 ms_X8_casts hf (fun q5 h => (c_X8_casts G K.2.1 60) a_t r_t v_people v_day v_texted v_at v_value v_digits v_open v_parishes v_holds v_coded v_seen v_inPlan v_inBook (0 : Int32) v_imaged v_most v_traces v_kind v_v p1 y3 p3 q5 h) [0, 2, 1, 3] [some 0, some 2, some 1, some 3] 4 rfl (by decide +kernel) (by decide +kernel) (fun _ => rfl) (fun _ => rfl) rfl rfl rfl rfl ⟨Nat.zero_le _, Nat.zero_le _⟩ dX8_act_57 kc_X8 0 rfl (fun q5 hf => ?_)
          refine j_goto C (pc := 60) 71 dX8_act_60 (by decide) ?_
          obtain rfl := Option.some.inj hf
          exact hQ _ _ dX8_act_71 rfl
      · refine j_aload_n C (pc := 36) 1 rfl rfl dX8_act_36 ?_
        refine j_iload_n C (pc := 37) 2 rfl rfl dX8_act_37 ?_
        refine j_iload C (pc := 38) 0 rfl dX8_act_38 ?_
        refine j_iload_n C (pc := 40) 4 rfl rfl dX8_act_40 ?_
        refine j_cVI C (pc := 41) (As := [.int p1, .int y3, .int p3]) (st := []) (ws' := fun q6 => [oX8 a_t r_t v_people v_day v_texted v_at v_value v_digits v_open v_parishes v_holds v_coded v_seen v_inPlan v_inBook q6.2.1 v_imaged v_most, aI G (r_t 1) 6 v_kind, aI G (r_t 38) 20 q6.2.2, aI G (r_t 2) 6 v_v]) ml_X8_334 ms_X8_digs hf (fun q6 h => (c_X8_digs G K.2.1 60) a_t r_t v_people v_day v_texted v_at v_value v_digits v_open v_parishes v_holds v_coded v_seen v_inPlan v_inBook (0 : Int32) v_imaged v_most v_traces v_v p1 y3 p3 q6 h) [0, 2, 3] [some 0, none, some 1, some 2] 4 rfl (by decide +kernel) (by decide +kernel) (fun _ => rfl) (fun _ => rfl) rfl rfl rfl rfl ⟨Nat.zero_le _, Nat.zero_le _⟩ dX8_act_41 kc_X8 0 rfl (fun q6 hf => ?_)
        refine j_goto C (pc := 44) 71 dX8_act_44 (by decide) ?_
        obtain rfl := Option.some.inj hf
        exact hQ _ _ dX8_act_71 rfl
    · refine j_iconst C (pc := 22) (v := 0) (by decide) dX8_act_22 ?_
      obtain rfl := Option.some.inj hf
      exact hQ _ _ dX8_act_23 rfl
def ct_X8_act (G : Gx) (l : Launch) (F : Int32 → (Nat → Int32) → (Nat → Int32) → (Nat → Int32) → Int32 → Int32 → Int32 → Option (Int32 × Int32 × (Nat → Int32))) (lv : Nat) : Prop := ∀ (a_t : Nat) (r_t : Nat → Nat) (v_people : Int32) (v_day : Int32) (v_texted : Int32) (v_at : Int32) (v_value : Int32) (v_digits : Int32) (v_open : Int32) (v_parishes : Int32) (v_holds : Int32) (v_coded : Int32) (v_seen : Int32) (v_inPlan : Int32) (v_inBook : Int32) (v_traced : Int32) (v_imaged : Int32) (v_most : Int32) (v_kind : Nat → Int32) (v_traces : Nat → Int32) (v_v : Nat → Int32) (p1 : Int32) (p2 : Int32) (p3 : Int32), ∀ (q : Int32 × Int32 × (Nat → Int32)), F v_people v_kind v_traces v_v p1 p2 p3 = some q → MI G l yX8_act cX8_act 5 .int lv [.ref a_t, .int p1, .int p2, .int p3] [oX8 a_t r_t v_people v_day v_texted v_at v_value v_digits v_open v_parishes v_holds v_coded v_seen v_inPlan v_inBook v_traced v_imaged v_most, aI G (r_t 1) 6 v_kind, aI G (r_t 38) 20 v_traces, aI G (r_t 2) 6 v_v] [oX8 a_t r_t v_people v_day v_texted v_at v_value v_digits v_open v_parishes v_holds v_coded v_seen v_inPlan v_inBook q.2.1 v_imaged v_most, aI G (r_t 1) 6 v_kind, aI G (r_t 38) 20 q.2.2, aI G (r_t 2) 6 v_v] q.1
theorem c_X8_act (G : Gx) (l : Launch) : ct_X8_act G l f_X8_act 185 := by
  intro a_t r_t v_people v_day v_texted v_at v_value v_digits v_open v_parishes v_holds v_coded v_seen v_inPlan v_inBook v_traced v_imaged v_most v_kind v_traces v_v p1 p2 p3 q hf
  exact mI_of (by decide +kernel) rfl (fun K hl C hQ => t_X8_act C hQ hf)
-- X8_again
def f_X8_again_224_b (v_p1 : Nat → Int32) (k224 : Int32 → (Nat → Int32) → (Nat → Int32) → (Nat → Int32) → (Nat → Int32) → (Nat → Int32) → (Nat → Int32) → (Nat → Int32) → (Nat → Int32) → (Nat → Int32) → (Nat → Int32) → (Nat → Int32) → (Nat → Int32) → (Nat → Int32) → (Nat → Int32) → (Nat → Int32) → (Nat → Int32) → Option ((Nat → Int32) × (Nat → Int32) × (Nat → Int32) × (Nat → Int32) × (Nat → Int32) × (Nat → Int32) × (Nat → Int32) × (Nat → Int32) × (Nat → Int32) × (Nat → Int32) × (Nat → Int32) × (Nat → Int32) × (Nat → Int32) × Int32 × Int32 × Int32 × Int32 × Int32 × Int32 × (Nat → Int32) × (Nat → Int32) × (Nat → Int32))) (x2 : Int32) (w_kind : Nat → Int32) (w_v : Nat → Int32) (w_dead : Nat → Int32) (w_buried : Nat → Int32) (w_thrown : Nat → Int32) (w_rows : Nat → Int32) (w_hate : Nat → Int32) (w_seenBy : Nat → Int32) (w_seenOf : Nat → Int32) (w_seenIn : Nat → Int32) (w_seenSo : Nat → Int32) (w_goes : Nat → Int32) (w_whose : Nat → Int32) (w_bookBy : Nat → Int32) (w_bookOf : Nat → Int32) (w_bookHate : Nat → Int32) : Option ((Nat → Int32) × (Nat → Int32) × (Nat → Int32) × (Nat → Int32) × (Nat → Int32) × (Nat → Int32) × (Nat → Int32) × (Nat → Int32) × (Nat → Int32) × (Nat → Int32) × (Nat → Int32) × (Nat → Int32) × (Nat → Int32) × Int32 × Int32 × Int32 × Int32 × Int32 × Int32 × (Nat → Int32) × (Nat → Int32) × (Nat → Int32)) := (if (8 : Int32) ≤ x2 then (some (w_kind, w_v, w_dead, w_buried, w_thrown, w_rows, w_hate, w_seenBy, w_seenOf, w_seenIn, w_seenSo, w_goes, w_whose, v_p1 (154 : Int32).toNatClampNeg, v_p1 (155 : Int32).toNatClampNeg, v_p1 (156 : Int32).toNatClampNeg, v_p1 (157 : Int32).toNatClampNeg, v_p1 (158 : Int32).toNatClampNeg, v_p1 (159 : Int32).toNatClampNeg, w_bookBy, w_bookOf, w_bookHate)) else (gd ((130 : Int32) + x2) 163 (gd x2 8 (gd ((138 : Int32) + x2) 163 (gd x2 8 (gd ((146 : Int32) + x2) 163 (gd x2 8 (k224 (x2 + (1 : Int32)) w_kind w_v w_dead w_buried w_thrown w_rows w_hate w_seenBy w_seenOf w_seenIn w_seenSo w_goes w_whose (upd w_bookBy x2.toNatClampNeg (v_p1 ((130 : Int32) + x2).toNatClampNeg)) (upd w_bookOf x2.toNatClampNeg (v_p1 ((138 : Int32) + x2).toNatClampNeg)) (upd w_bookHate x2.toNatClampNeg (v_p1 ((146 : Int32) + x2).toNatClampNeg))))))))))
def f_X8_again_224 (v_p1 : Nat → Int32) : Nat → Int32 → (Nat → Int32) → (Nat → Int32) → (Nat → Int32) → (Nat → Int32) → (Nat → Int32) → (Nat → Int32) → (Nat → Int32) → (Nat → Int32) → (Nat → Int32) → (Nat → Int32) → (Nat → Int32) → (Nat → Int32) → (Nat → Int32) → (Nat → Int32) → (Nat → Int32) → (Nat → Int32) → Option ((Nat → Int32) × (Nat → Int32) × (Nat → Int32) × (Nat → Int32) × (Nat → Int32) × (Nat → Int32) × (Nat → Int32) × (Nat → Int32) × (Nat → Int32) × (Nat → Int32) × (Nat → Int32) × (Nat → Int32) × (Nat → Int32) × Int32 × Int32 × Int32 × Int32 × Int32 × Int32 × (Nat → Int32) × (Nat → Int32) × (Nat → Int32))
  | 0 => fun _ _ _ _ _ _ _ _ _ _ _ _ _ _ _ _ _ => none
  | n + 1 => f_X8_again_224_b v_p1 (f_X8_again_224 v_p1 n)
set_option maxRecDepth 20000 in
set_option maxHeartbeats 1000000 in
theorem t_X8_again_224_b {G : Gx} {K : Kx} (C : Cx G K cX8_again RX8 3 1) {a_t : Nat} {r_t : Nat → Nat} {a_p1 : Nat} {v_people : Int32} {v_day : Int32} {v_texted : Int32} {v_at : Int32} {v_value : Int32} {v_digits : Int32} {v_open : Int32} {v_parishes : Int32} {v_holds : Int32} {v_coded : Int32} {v_seen : Int32} {v_inPlan : Int32} {v_inBook : Int32} {v_traced : Int32} {v_imaged : Int32} {v_most : Int32} {v_p1 : Nat → Int32} {q : (Nat → Int32) × (Nat → Int32) × (Nat → Int32) × (Nat → Int32) × (Nat → Int32) × (Nat → Int32) × (Nat → Int32) × (Nat → Int32) × (Nat → Int32) × (Nat → Int32) × (Nat → Int32) × (Nat → Int32) × (Nat → Int32) × Int32 × Int32 × Int32 × Int32 × Int32 × Int32 × (Nat → Int32) × (Nat → Int32) × (Nat → Int32)} (hQ : k_retV G K cX8_again 3 [oX8 a_t r_t q.2.2.2.2.2.2.2.2.2.2.2.2.2.1 q.2.2.2.2.2.2.2.2.2.2.2.2.2.2.1 v_texted v_at v_value v_digits v_open v_parishes q.2.2.2.2.2.2.2.2.2.2.2.2.2.2.2.2.2.2.1 v_coded q.2.2.2.2.2.2.2.2.2.2.2.2.2.2.2.1 q.2.2.2.2.2.2.2.2.2.2.2.2.2.2.2.2.1 q.2.2.2.2.2.2.2.2.2.2.2.2.2.2.2.2.2.1 v_traced v_imaged v_most, aI G a_p1 163 v_p1, aI G (r_t 1) 6 q.1, aI G (r_t 2) 6 q.2.1, aI G (r_t 3) 6 q.2.2.1, aI G (r_t 4) 6 q.2.2.2.1, aI G (r_t 5) 6 q.2.2.2.2.1, aI G (r_t 6) 24 q.2.2.2.2.2.1, aI G (r_t 7) 36 q.2.2.2.2.2.2.1, aI G (r_t 26) 5 q.2.2.2.2.2.2.2.1, aI G (r_t 27) 5 q.2.2.2.2.2.2.2.2.1, aI G (r_t 28) 5 q.2.2.2.2.2.2.2.2.2.1, aI G (r_t 29) 5 q.2.2.2.2.2.2.2.2.2.2.1, aI G (r_t 31) 10 q.2.2.2.2.2.2.2.2.2.2.2.1, aI G (r_t 32) 10 q.2.2.2.2.2.2.2.2.2.2.2.2.1, aI G (r_t 34) 8 q.2.2.2.2.2.2.2.2.2.2.2.2.2.2.2.2.2.2.2.1, aI G (r_t 35) 8 q.2.2.2.2.2.2.2.2.2.2.2.2.2.2.2.2.2.2.2.2.1, aI G (r_t 36) 8 q.2.2.2.2.2.2.2.2.2.2.2.2.2.2.2.2.2.2.2.2.2]) {k224 : Int32 → (Nat → Int32) → (Nat → Int32) → (Nat → Int32) → (Nat → Int32) → (Nat → Int32) → (Nat → Int32) → (Nat → Int32) → (Nat → Int32) → (Nat → Int32) → (Nat → Int32) → (Nat → Int32) → (Nat → Int32) → (Nat → Int32) → (Nat → Int32) → (Nat → Int32) → (Nat → Int32) → Option ((Nat → Int32) × (Nat → Int32) × (Nat → Int32) × (Nat → Int32) × (Nat → Int32) × (Nat → Int32) × (Nat → Int32) × (Nat → Int32) × (Nat → Int32) × (Nat → Int32) × (Nat → Int32) × (Nat → Int32) × (Nat → Int32) × Int32 × Int32 × Int32 × Int32 × Int32 × Int32 × (Nat → Int32) × (Nat → Int32) × (Nat → Int32))} (hk224 : ∀ (x2 : Int32) (w_kind : Nat → Int32) (w_v : Nat → Int32) (w_dead : Nat → Int32) (w_buried : Nat → Int32) (w_thrown : Nat → Int32) (w_rows : Nat → Int32) (w_hate : Nat → Int32) (w_seenBy : Nat → Int32) (w_seenOf : Nat → Int32) (w_seenIn : Nat → Int32) (w_seenSo : Nat → Int32) (w_goes : Nat → Int32) (w_whose : Nat → Int32) (w_bookBy : Nat → Int32) (w_bookOf : Nat → Int32) (w_bookHate : Nat → Int32), k224 x2 w_kind w_v w_dead w_buried w_thrown w_rows w_hate w_seenBy w_seenOf w_seenIn w_seenSo w_goes w_whose w_bookBy w_bookOf w_bookHate = some q → J G K 3 0 0 [oX8 a_t r_t v_people v_day v_texted v_at v_value v_digits v_open v_parishes v_holds v_coded v_seen v_inPlan v_inBook v_traced v_imaged v_most, aI G a_p1 163 v_p1, aI G (r_t 1) 6 w_kind, aI G (r_t 2) 6 w_v, aI G (r_t 3) 6 w_dead, aI G (r_t 4) 6 w_buried, aI G (r_t 5) 6 w_thrown, aI G (r_t 6) 24 w_rows, aI G (r_t 7) 36 w_hate, aI G (r_t 26) 5 w_seenBy, aI G (r_t 27) 5 w_seenOf, aI G (r_t 28) 5 w_seenIn, aI G (r_t 29) 5 w_seenSo, aI G (r_t 31) 10 w_goes, aI G (r_t 32) 10 w_whose, aI G (r_t 34) 8 w_bookBy, aI G (r_t 35) 8 w_bookOf, aI G (r_t 36) 8 w_bookHate] [(0, .ref a_t), (1, .ref a_p1), (2, .int x2)] 224 []) {x2 : Int32} {w_kind : Nat → Int32} {w_v : Nat → Int32} {w_dead : Nat → Int32} {w_buried : Nat → Int32} {w_thrown : Nat → Int32} {w_rows : Nat → Int32} {w_hate : Nat → Int32} {w_seenBy : Nat → Int32} {w_seenOf : Nat → Int32} {w_seenIn : Nat → Int32} {w_seenSo : Nat → Int32} {w_goes : Nat → Int32} {w_whose : Nat → Int32} {w_bookBy : Nat → Int32} {w_bookOf : Nat → Int32} {w_bookHate : Nat → Int32} (hf : f_X8_again_224_b v_p1 k224 x2 w_kind w_v w_dead w_buried w_thrown w_rows w_hate w_seenBy w_seenOf w_seenIn w_seenSo w_goes w_whose w_bookBy w_bookOf w_bookHate = some q) : J G K 3 0 0 [oX8 a_t r_t v_people v_day v_texted v_at v_value v_digits v_open v_parishes v_holds v_coded v_seen v_inPlan v_inBook v_traced v_imaged v_most, aI G a_p1 163 v_p1, aI G (r_t 1) 6 w_kind, aI G (r_t 2) 6 w_v, aI G (r_t 3) 6 w_dead, aI G (r_t 4) 6 w_buried, aI G (r_t 5) 6 w_thrown, aI G (r_t 6) 24 w_rows, aI G (r_t 7) 36 w_hate, aI G (r_t 26) 5 w_seenBy, aI G (r_t 27) 5 w_seenOf, aI G (r_t 28) 5 w_seenIn, aI G (r_t 29) 5 w_seenSo, aI G (r_t 31) 10 w_goes, aI G (r_t 32) 10 w_whose, aI G (r_t 34) 8 w_bookBy, aI G (r_t 35) 8 w_bookOf, aI G (r_t 36) 8 w_bookHate] [(0, .ref a_t), (1, .ref a_p1), (2, .int x2)] 224 [] := by
  unfold f_X8_again_224_b at hf
  refine j_iload_n C (pc := 224) 2 rfl rfl dX8_again_224 ?_
  refine j_bipush C (pc := 225) (v := 8) (by decide) dX8_again_225 ?_
  refine j_icmp_ge C (pc := 227) 275 dX8_again_227 (by decide) hf (fun hf => ?_) (fun hf => ?_)
  · refine j_aload_n C (pc := 275) 0 rfl rfl dX8_again_275 ?_
    refine j_aload_n C (pc := 276) 1 rfl rfl dX8_again_276 ?_
    refine j_sipush C (pc := 277) (v := 154) (by decide) dX8_again_277 ?_
    refine j_iald C (pc := 280) 1 rfl (gd_mk (by decide) hf) dX8_again_280 (fun hf => ?_)
    refine j_put C (pc := 281) (ws' := [oX8 a_t r_t (v_p1 (154 : Int32).toNatClampNeg) v_day v_texted v_at v_value v_digits v_open v_parishes v_holds v_coded v_seen v_inPlan v_inBook v_traced v_imaged v_most, aI G a_p1 163 v_p1, aI G (r_t 1) 6 w_kind, aI G (r_t 2) 6 w_v, aI G (r_t 3) 6 w_dead, aI G (r_t 4) 6 w_buried, aI G (r_t 5) 6 w_thrown, aI G (r_t 6) 24 w_rows, aI G (r_t 7) 36 w_hate, aI G (r_t 26) 5 w_seenBy, aI G (r_t 27) 5 w_seenOf, aI G (r_t 28) 5 w_seenIn, aI G (r_t 29) 5 w_seenSo, aI G (r_t 31) 10 w_goes, aI G (r_t 32) 10 w_whose, aI G (r_t 34) 8 w_bookBy, aI G (r_t 35) 8 w_bookOf, aI G (r_t 36) 8 w_bookHate]) kc_X8 fl_X8_114 0 rfl rfl rfl rfl rfl rfl dX8_again_281 ?_
    refine j_aload_n C (pc := 284) 0 rfl rfl dX8_again_284 ?_
    refine j_aload_n C (pc := 285) 1 rfl rfl dX8_again_285 ?_
    refine j_sipush C (pc := 286) (v := 155) (by decide) dX8_again_286 ?_
    refine j_iald C (pc := 289) 1 rfl (gd_mk (by decide) hf) dX8_again_289 (fun hf => ?_)
    refine j_put C (pc := 290) (ws' := [oX8 a_t r_t (v_p1 (154 : Int32).toNatClampNeg) (v_p1 (155 : Int32).toNatClampNeg) v_texted v_at v_value v_digits v_open v_parishes v_holds v_coded v_seen v_inPlan v_inBook v_traced v_imaged v_most, aI G a_p1 163 v_p1, aI G (r_t 1) 6 w_kind, aI G (r_t 2) 6 w_v, aI G (r_t 3) 6 w_dead, aI G (r_t 4) 6 w_buried, aI G (r_t 5) 6 w_thrown, aI G (r_t 6) 24 w_rows, aI G (r_t 7) 36 w_hate, aI G (r_t 26) 5 w_seenBy, aI G (r_t 27) 5 w_seenOf, aI G (r_t 28) 5 w_seenIn, aI G (r_t 29) 5 w_seenSo, aI G (r_t 31) 10 w_goes, aI G (r_t 32) 10 w_whose, aI G (r_t 34) 8 w_bookBy, aI G (r_t 35) 8 w_bookOf, aI G (r_t 36) 8 w_bookHate]) kc_X8 fl_X8_125 0 rfl rfl rfl rfl rfl rfl dX8_again_290 ?_
    refine j_aload_n C (pc := 293) 0 rfl rfl dX8_again_293 ?_
    refine j_aload_n C (pc := 294) 1 rfl rfl dX8_again_294 ?_
    refine j_sipush C (pc := 295) (v := 156) (by decide) dX8_again_295 ?_
    refine j_iald C (pc := 298) 1 rfl (gd_mk (by decide) hf) dX8_again_298 (fun hf => ?_)
    refine j_put C (pc := 299) (ws' := [oX8 a_t r_t (v_p1 (154 : Int32).toNatClampNeg) (v_p1 (155 : Int32).toNatClampNeg) v_texted v_at v_value v_digits v_open v_parishes v_holds v_coded (v_p1 (156 : Int32).toNatClampNeg) v_inPlan v_inBook v_traced v_imaged v_most, aI G a_p1 163 v_p1, aI G (r_t 1) 6 w_kind, aI G (r_t 2) 6 w_v, aI G (r_t 3) 6 w_dead, aI G (r_t 4) 6 w_buried, aI G (r_t 5) 6 w_thrown, aI G (r_t 6) 24 w_rows, aI G (r_t 7) 36 w_hate, aI G (r_t 26) 5 w_seenBy, aI G (r_t 27) 5 w_seenOf, aI G (r_t 28) 5 w_seenIn, aI G (r_t 29) 5 w_seenSo, aI G (r_t 31) 10 w_goes, aI G (r_t 32) 10 w_whose, aI G (r_t 34) 8 w_bookBy, aI G (r_t 35) 8 w_bookOf, aI G (r_t 36) 8 w_bookHate]) kc_X8 fl_X8_305 0 rfl rfl rfl rfl rfl rfl dX8_again_299 ?_
    refine j_aload_n C (pc := 302) 0 rfl rfl dX8_again_302 ?_
    refine j_aload_n C (pc := 303) 1 rfl rfl dX8_again_303 ?_
    refine j_sipush C (pc := 304) (v := 157) (by decide) dX8_again_304 ?_
    refine j_iald C (pc := 307) 1 rfl (gd_mk (by decide) hf) dX8_again_307 (fun hf => ?_)
    refine j_put C (pc := 308) (ws' := [oX8 a_t r_t (v_p1 (154 : Int32).toNatClampNeg) (v_p1 (155 : Int32).toNatClampNeg) v_texted v_at v_value v_digits v_open v_parishes v_holds v_coded (v_p1 (156 : Int32).toNatClampNeg) (v_p1 (157 : Int32).toNatClampNeg) v_inBook v_traced v_imaged v_most, aI G a_p1 163 v_p1, aI G (r_t 1) 6 w_kind, aI G (r_t 2) 6 w_v, aI G (r_t 3) 6 w_dead, aI G (r_t 4) 6 w_buried, aI G (r_t 5) 6 w_thrown, aI G (r_t 6) 24 w_rows, aI G (r_t 7) 36 w_hate, aI G (r_t 26) 5 w_seenBy, aI G (r_t 27) 5 w_seenOf, aI G (r_t 28) 5 w_seenIn, aI G (r_t 29) 5 w_seenSo, aI G (r_t 31) 10 w_goes, aI G (r_t 32) 10 w_whose, aI G (r_t 34) 8 w_bookBy, aI G (r_t 35) 8 w_bookOf, aI G (r_t 36) 8 w_bookHate]) kc_X8 fl_X8_317 0 rfl rfl rfl rfl rfl rfl dX8_again_308 ?_
    refine j_aload_n C (pc := 311) 0 rfl rfl dX8_again_311 ?_
    refine j_aload_n C (pc := 312) 1 rfl rfl dX8_again_312 ?_
    refine j_sipush C (pc := 313) (v := 158) (by decide) dX8_again_313 ?_
    refine j_iald C (pc := 316) 1 rfl (gd_mk (by decide) hf) dX8_again_316 (fun hf => ?_)
    refine j_put C (pc := 317) (ws' := [oX8 a_t r_t (v_p1 (154 : Int32).toNatClampNeg) (v_p1 (155 : Int32).toNatClampNeg) v_texted v_at v_value v_digits v_open v_parishes v_holds v_coded (v_p1 (156 : Int32).toNatClampNeg) (v_p1 (157 : Int32).toNatClampNeg) (v_p1 (158 : Int32).toNatClampNeg) v_traced v_imaged v_most, aI G a_p1 163 v_p1, aI G (r_t 1) 6 w_kind, aI G (r_t 2) 6 w_v, aI G (r_t 3) 6 w_dead, aI G (r_t 4) 6 w_buried, aI G (r_t 5) 6 w_thrown, aI G (r_t 6) 24 w_rows, aI G (r_t 7) 36 w_hate, aI G (r_t 26) 5 w_seenBy, aI G (r_t 27) 5 w_seenOf, aI G (r_t 28) 5 w_seenIn, aI G (r_t 29) 5 w_seenSo, aI G (r_t 31) 10 w_goes, aI G (r_t 32) 10 w_whose, aI G (r_t 34) 8 w_bookBy, aI G (r_t 35) 8 w_bookOf, aI G (r_t 36) 8 w_bookHate]) kc_X8 fl_X8_320 0 rfl rfl rfl rfl rfl rfl dX8_again_317 ?_
    refine j_aload_n C (pc := 320) 0 rfl rfl dX8_again_320 ?_
    refine j_aload_n C (pc := 321) 1 rfl rfl dX8_again_321 ?_
    refine j_sipush C (pc := 322) (v := 159) (by decide) dX8_again_322 ?_
    refine j_iald C (pc := 325) 1 rfl (gd_mk (by decide) hf) dX8_again_325 (fun hf => ?_)
    refine j_put C (pc := 326) (ws' := [oX8 a_t r_t (v_p1 (154 : Int32).toNatClampNeg) (v_p1 (155 : Int32).toNatClampNeg) v_texted v_at v_value v_digits v_open v_parishes (v_p1 (159 : Int32).toNatClampNeg) v_coded (v_p1 (156 : Int32).toNatClampNeg) (v_p1 (157 : Int32).toNatClampNeg) (v_p1 (158 : Int32).toNatClampNeg) v_traced v_imaged v_most, aI G a_p1 163 v_p1, aI G (r_t 1) 6 w_kind, aI G (r_t 2) 6 w_v, aI G (r_t 3) 6 w_dead, aI G (r_t 4) 6 w_buried, aI G (r_t 5) 6 w_thrown, aI G (r_t 6) 24 w_rows, aI G (r_t 7) 36 w_hate, aI G (r_t 26) 5 w_seenBy, aI G (r_t 27) 5 w_seenOf, aI G (r_t 28) 5 w_seenIn, aI G (r_t 29) 5 w_seenSo, aI G (r_t 31) 10 w_goes, aI G (r_t 32) 10 w_whose, aI G (r_t 34) 8 w_bookBy, aI G (r_t 35) 8 w_bookOf, aI G (r_t 36) 8 w_bookHate]) kc_X8 fl_X8_110 0 rfl rfl rfl rfl rfl rfl dX8_again_326 ?_
    obtain rfl := Option.some.inj hf
    exact hQ _ _ dX8_again_329
  · refine j_aload_n C (pc := 230) 0 rfl rfl dX8_again_230 ?_
    refine j_get C (pc := 231) kc_X8 fl_X8_76 0 rfl rfl dX8_again_231 ?_
    refine j_iload_n C (pc := 234) 2 rfl rfl dX8_again_234 ?_
    refine j_aload_n C (pc := 235) 1 rfl rfl dX8_again_235 ?_
    refine j_sipush C (pc := 236) (v := 130) (by decide) dX8_again_236 ?_
    refine j_iload_n C (pc := 239) 2 rfl rfl dX8_again_239 ?_
    refine j_iadd C (pc := 240) dX8_again_240 ?_
    refine j_iald C (pc := 241) 1 rfl hf dX8_again_241 (fun hf => ?_)
    refine j_iast C (pc := 242) (ws' := [oX8 a_t r_t v_people v_day v_texted v_at v_value v_digits v_open v_parishes v_holds v_coded v_seen v_inPlan v_inBook v_traced v_imaged v_most, aI G a_p1 163 v_p1, aI G (r_t 1) 6 w_kind, aI G (r_t 2) 6 w_v, aI G (r_t 3) 6 w_dead, aI G (r_t 4) 6 w_buried, aI G (r_t 5) 6 w_thrown, aI G (r_t 6) 24 w_rows, aI G (r_t 7) 36 w_hate, aI G (r_t 26) 5 w_seenBy, aI G (r_t 27) 5 w_seenOf, aI G (r_t 28) 5 w_seenIn, aI G (r_t 29) 5 w_seenSo, aI G (r_t 31) 10 w_goes, aI G (r_t 32) 10 w_whose, aI G (r_t 34) 8 (upd w_bookBy x2.toNatClampNeg (v_p1 ((130 : Int32) + x2).toNatClampNeg)), aI G (r_t 35) 8 w_bookOf, aI G (r_t 36) 8 w_bookHate]) 15 rfl hf rfl dX8_again_242 (fun hf => ?_)
    refine j_aload_n C (pc := 243) 0 rfl rfl dX8_again_243 ?_
    refine j_get C (pc := 244) kc_X8 fl_X8_79 0 rfl rfl dX8_again_244 ?_
    refine j_iload_n C (pc := 247) 2 rfl rfl dX8_again_247 ?_
    refine j_aload_n C (pc := 248) 1 rfl rfl dX8_again_248 ?_
    refine j_sipush C (pc := 249) (v := 138) (by decide) dX8_again_249 ?_
    refine j_iload_n C (pc := 252) 2 rfl rfl dX8_again_252 ?_
    refine j_iadd C (pc := 253) dX8_again_253 ?_
    refine j_iald C (pc := 254) 1 rfl hf dX8_again_254 (fun hf => ?_)
    refine j_iast C (pc := 255) (ws' := [oX8 a_t r_t v_people v_day v_texted v_at v_value v_digits v_open v_parishes v_holds v_coded v_seen v_inPlan v_inBook v_traced v_imaged v_most, aI G a_p1 163 v_p1, aI G (r_t 1) 6 w_kind, aI G (r_t 2) 6 w_v, aI G (r_t 3) 6 w_dead, aI G (r_t 4) 6 w_buried, aI G (r_t 5) 6 w_thrown, aI G (r_t 6) 24 w_rows, aI G (r_t 7) 36 w_hate, aI G (r_t 26) 5 w_seenBy, aI G (r_t 27) 5 w_seenOf, aI G (r_t 28) 5 w_seenIn, aI G (r_t 29) 5 w_seenSo, aI G (r_t 31) 10 w_goes, aI G (r_t 32) 10 w_whose, aI G (r_t 34) 8 (upd w_bookBy x2.toNatClampNeg (v_p1 ((130 : Int32) + x2).toNatClampNeg)), aI G (r_t 35) 8 (upd w_bookOf x2.toNatClampNeg (v_p1 ((138 : Int32) + x2).toNatClampNeg)), aI G (r_t 36) 8 w_bookHate]) 16 rfl hf rfl dX8_again_255 (fun hf => ?_)
    refine j_aload_n C (pc := 256) 0 rfl rfl dX8_again_256 ?_
    refine j_get C (pc := 257) kc_X8 fl_X8_82 0 rfl rfl dX8_again_257 ?_
    refine j_iload_n C (pc := 260) 2 rfl rfl dX8_again_260 ?_
    refine j_aload_n C (pc := 261) 1 rfl rfl dX8_again_261 ?_
    refine j_sipush C (pc := 262) (v := 146) (by decide) dX8_again_262 ?_
    refine j_iload_n C (pc := 265) 2 rfl rfl dX8_again_265 ?_
    refine j_iadd C (pc := 266) dX8_again_266 ?_
    refine j_iald C (pc := 267) 1 rfl hf dX8_again_267 (fun hf => ?_)
    refine j_iast C (pc := 268) (ws' := [oX8 a_t r_t v_people v_day v_texted v_at v_value v_digits v_open v_parishes v_holds v_coded v_seen v_inPlan v_inBook v_traced v_imaged v_most, aI G a_p1 163 v_p1, aI G (r_t 1) 6 w_kind, aI G (r_t 2) 6 w_v, aI G (r_t 3) 6 w_dead, aI G (r_t 4) 6 w_buried, aI G (r_t 5) 6 w_thrown, aI G (r_t 6) 24 w_rows, aI G (r_t 7) 36 w_hate, aI G (r_t 26) 5 w_seenBy, aI G (r_t 27) 5 w_seenOf, aI G (r_t 28) 5 w_seenIn, aI G (r_t 29) 5 w_seenSo, aI G (r_t 31) 10 w_goes, aI G (r_t 32) 10 w_whose, aI G (r_t 34) 8 (upd w_bookBy x2.toNatClampNeg (v_p1 ((130 : Int32) + x2).toNatClampNeg)), aI G (r_t 35) 8 (upd w_bookOf x2.toNatClampNeg (v_p1 ((138 : Int32) + x2).toNatClampNeg)), aI G (r_t 36) 8 (upd w_bookHate x2.toNatClampNeg (v_p1 ((146 : Int32) + x2).toNatClampNeg))]) 17 rfl hf rfl dX8_again_268 (fun hf => ?_)
    refine j_iinc C (pc := 269) (L' := [(2, .int (x2 + (1 : Int32))), (0, .ref a_t), (1, .ref a_p1)]) (v := x2 + (1 : Int32)) dX8_again_269 (t := 2) rfl rfl (by decide) rfl ?_
    refine j_goto C (pc := 272) 224 dX8_again_272 (by decide) ?_
    refine j_sub [1, 2, 0] rfl ?_
    exact hk224 _ _ _ _ _ _ _ _ _ _ _ _ _ _ _ _ _ hf
theorem t_X8_again_224 {G : Gx} {K : Kx} (C : Cx G K cX8_again RX8 3 1) {a_t : Nat} {r_t : Nat → Nat} {a_p1 : Nat} {v_people : Int32} {v_day : Int32} {v_texted : Int32} {v_at : Int32} {v_value : Int32} {v_digits : Int32} {v_open : Int32} {v_parishes : Int32} {v_holds : Int32} {v_coded : Int32} {v_seen : Int32} {v_inPlan : Int32} {v_inBook : Int32} {v_traced : Int32} {v_imaged : Int32} {v_most : Int32} {v_p1 : Nat → Int32} {q : (Nat → Int32) × (Nat → Int32) × (Nat → Int32) × (Nat → Int32) × (Nat → Int32) × (Nat → Int32) × (Nat → Int32) × (Nat → Int32) × (Nat → Int32) × (Nat → Int32) × (Nat → Int32) × (Nat → Int32) × (Nat → Int32) × Int32 × Int32 × Int32 × Int32 × Int32 × Int32 × (Nat → Int32) × (Nat → Int32) × (Nat → Int32)} (hQ : k_retV G K cX8_again 3 [oX8 a_t r_t q.2.2.2.2.2.2.2.2.2.2.2.2.2.1 q.2.2.2.2.2.2.2.2.2.2.2.2.2.2.1 v_texted v_at v_value v_digits v_open v_parishes q.2.2.2.2.2.2.2.2.2.2.2.2.2.2.2.2.2.2.1 v_coded q.2.2.2.2.2.2.2.2.2.2.2.2.2.2.2.1 q.2.2.2.2.2.2.2.2.2.2.2.2.2.2.2.2.1 q.2.2.2.2.2.2.2.2.2.2.2.2.2.2.2.2.2.1 v_traced v_imaged v_most, aI G a_p1 163 v_p1, aI G (r_t 1) 6 q.1, aI G (r_t 2) 6 q.2.1, aI G (r_t 3) 6 q.2.2.1, aI G (r_t 4) 6 q.2.2.2.1, aI G (r_t 5) 6 q.2.2.2.2.1, aI G (r_t 6) 24 q.2.2.2.2.2.1, aI G (r_t 7) 36 q.2.2.2.2.2.2.1, aI G (r_t 26) 5 q.2.2.2.2.2.2.2.1, aI G (r_t 27) 5 q.2.2.2.2.2.2.2.2.1, aI G (r_t 28) 5 q.2.2.2.2.2.2.2.2.2.1, aI G (r_t 29) 5 q.2.2.2.2.2.2.2.2.2.2.1, aI G (r_t 31) 10 q.2.2.2.2.2.2.2.2.2.2.2.1, aI G (r_t 32) 10 q.2.2.2.2.2.2.2.2.2.2.2.2.1, aI G (r_t 34) 8 q.2.2.2.2.2.2.2.2.2.2.2.2.2.2.2.2.2.2.2.1, aI G (r_t 35) 8 q.2.2.2.2.2.2.2.2.2.2.2.2.2.2.2.2.2.2.2.2.1, aI G (r_t 36) 8 q.2.2.2.2.2.2.2.2.2.2.2.2.2.2.2.2.2.2.2.2.2]) : ∀ (n : Nat) (x2 : Int32) (w_kind : Nat → Int32) (w_v : Nat → Int32) (w_dead : Nat → Int32) (w_buried : Nat → Int32) (w_thrown : Nat → Int32) (w_rows : Nat → Int32) (w_hate : Nat → Int32) (w_seenBy : Nat → Int32) (w_seenOf : Nat → Int32) (w_seenIn : Nat → Int32) (w_seenSo : Nat → Int32) (w_goes : Nat → Int32) (w_whose : Nat → Int32) (w_bookBy : Nat → Int32) (w_bookOf : Nat → Int32) (w_bookHate : Nat → Int32), f_X8_again_224 v_p1 n x2 w_kind w_v w_dead w_buried w_thrown w_rows w_hate w_seenBy w_seenOf w_seenIn w_seenSo w_goes w_whose w_bookBy w_bookOf w_bookHate = some q → J G K 3 0 0 [oX8 a_t r_t v_people v_day v_texted v_at v_value v_digits v_open v_parishes v_holds v_coded v_seen v_inPlan v_inBook v_traced v_imaged v_most, aI G a_p1 163 v_p1, aI G (r_t 1) 6 w_kind, aI G (r_t 2) 6 w_v, aI G (r_t 3) 6 w_dead, aI G (r_t 4) 6 w_buried, aI G (r_t 5) 6 w_thrown, aI G (r_t 6) 24 w_rows, aI G (r_t 7) 36 w_hate, aI G (r_t 26) 5 w_seenBy, aI G (r_t 27) 5 w_seenOf, aI G (r_t 28) 5 w_seenIn, aI G (r_t 29) 5 w_seenSo, aI G (r_t 31) 10 w_goes, aI G (r_t 32) 10 w_whose, aI G (r_t 34) 8 w_bookBy, aI G (r_t 35) 8 w_bookOf, aI G (r_t 36) 8 w_bookHate] [(0, .ref a_t), (1, .ref a_p1), (2, .int x2)] 224 [] := by
  intro n
  induction n with
  | zero => intro x2 w_kind w_v w_dead w_buried w_thrown w_rows w_hate w_seenBy w_seenOf w_seenIn w_seenSo w_goes w_whose w_bookBy w_bookOf w_bookHate hf; cases hf
  | succ n ih => intro x2 w_kind w_v w_dead w_buried w_thrown w_rows w_hate w_seenBy w_seenOf w_seenIn w_seenSo w_goes w_whose w_bookBy w_bookOf w_bookHate hf; exact t_X8_again_224_b C hQ ih hf
def f_X8_again_186_b (v_p1 : Nat → Int32) (v_bookBy : Nat → Int32) (v_bookOf : Nat → Int32) (v_bookHate : Nat → Int32) (k186 : Int32 → (Nat → Int32) → (Nat → Int32) → (Nat → Int32) → (Nat → Int32) → (Nat → Int32) → (Nat → Int32) → (Nat → Int32) → (Nat → Int32) → (Nat → Int32) → (Nat → Int32) → (Nat → Int32) → (Nat → Int32) → (Nat → Int32) → Option ((Nat → Int32) × (Nat → Int32) × (Nat → Int32) × (Nat → Int32) × (Nat → Int32) × (Nat → Int32) × (Nat → Int32) × (Nat → Int32) × (Nat → Int32) × (Nat → Int32) × (Nat → Int32) × (Nat → Int32) × (Nat → Int32) × Int32 × Int32 × Int32 × Int32 × Int32 × Int32 × (Nat → Int32) × (Nat → Int32) × (Nat → Int32))) (x2 : Int32) (w_kind : Nat → Int32) (w_v : Nat → Int32) (w_dead : Nat → Int32) (w_buried : Nat → Int32) (w_thrown : Nat → Int32) (w_rows : Nat → Int32) (w_hate : Nat → Int32) (w_seenBy : Nat → Int32) (w_seenOf : Nat → Int32) (w_seenIn : Nat → Int32) (w_seenSo : Nat → Int32) (w_goes : Nat → Int32) (w_whose : Nat → Int32) : Option ((Nat → Int32) × (Nat → Int32) × (Nat → Int32) × (Nat → Int32) × (Nat → Int32) × (Nat → Int32) × (Nat → Int32) × (Nat → Int32) × (Nat → Int32) × (Nat → Int32) × (Nat → Int32) × (Nat → Int32) × (Nat → Int32) × Int32 × Int32 × Int32 × Int32 × Int32 × Int32 × (Nat → Int32) × (Nat → Int32) × (Nat → Int32)) := (if (10 : Int32) ≤ x2 then (f_X8_again_224 v_p1 1000 (0 : Int32) w_kind w_v w_dead w_buried w_thrown w_rows w_hate w_seenBy w_seenOf w_seenIn w_seenSo w_goes w_whose v_bookBy v_bookOf v_bookHate) else (gd ((110 : Int32) + x2) 163 (gd x2 10 (gd ((120 : Int32) + x2) 163 (gd x2 10 (k186 (x2 + (1 : Int32)) w_kind w_v w_dead w_buried w_thrown w_rows w_hate w_seenBy w_seenOf w_seenIn w_seenSo (upd w_goes x2.toNatClampNeg (v_p1 ((110 : Int32) + x2).toNatClampNeg)) (upd w_whose x2.toNatClampNeg (v_p1 ((120 : Int32) + x2).toNatClampNeg))))))))
def f_X8_again_186 (v_p1 : Nat → Int32) (v_bookBy : Nat → Int32) (v_bookOf : Nat → Int32) (v_bookHate : Nat → Int32) : Nat → Int32 → (Nat → Int32) → (Nat → Int32) → (Nat → Int32) → (Nat → Int32) → (Nat → Int32) → (Nat → Int32) → (Nat → Int32) → (Nat → Int32) → (Nat → Int32) → (Nat → Int32) → (Nat → Int32) → (Nat → Int32) → (Nat → Int32) → Option ((Nat → Int32) × (Nat → Int32) × (Nat → Int32) × (Nat → Int32) × (Nat → Int32) × (Nat → Int32) × (Nat → Int32) × (Nat → Int32) × (Nat → Int32) × (Nat → Int32) × (Nat → Int32) × (Nat → Int32) × (Nat → Int32) × Int32 × Int32 × Int32 × Int32 × Int32 × Int32 × (Nat → Int32) × (Nat → Int32) × (Nat → Int32))
  | 0 => fun _ _ _ _ _ _ _ _ _ _ _ _ _ _ => none
  | n + 1 => f_X8_again_186_b v_p1 v_bookBy v_bookOf v_bookHate (f_X8_again_186 v_p1 v_bookBy v_bookOf v_bookHate n)
set_option maxRecDepth 20000 in
set_option maxHeartbeats 1000000 in
theorem t_X8_again_186_b {G : Gx} {K : Kx} (C : Cx G K cX8_again RX8 3 1) {a_t : Nat} {r_t : Nat → Nat} {a_p1 : Nat} {v_people : Int32} {v_day : Int32} {v_texted : Int32} {v_at : Int32} {v_value : Int32} {v_digits : Int32} {v_open : Int32} {v_parishes : Int32} {v_holds : Int32} {v_coded : Int32} {v_seen : Int32} {v_inPlan : Int32} {v_inBook : Int32} {v_traced : Int32} {v_imaged : Int32} {v_most : Int32} {v_p1 : Nat → Int32} {v_bookBy : Nat → Int32} {v_bookOf : Nat → Int32} {v_bookHate : Nat → Int32} {q : (Nat → Int32) × (Nat → Int32) × (Nat → Int32) × (Nat → Int32) × (Nat → Int32) × (Nat → Int32) × (Nat → Int32) × (Nat → Int32) × (Nat → Int32) × (Nat → Int32) × (Nat → Int32) × (Nat → Int32) × (Nat → Int32) × Int32 × Int32 × Int32 × Int32 × Int32 × Int32 × (Nat → Int32) × (Nat → Int32) × (Nat → Int32)} (hQ : k_retV G K cX8_again 3 [oX8 a_t r_t q.2.2.2.2.2.2.2.2.2.2.2.2.2.1 q.2.2.2.2.2.2.2.2.2.2.2.2.2.2.1 v_texted v_at v_value v_digits v_open v_parishes q.2.2.2.2.2.2.2.2.2.2.2.2.2.2.2.2.2.2.1 v_coded q.2.2.2.2.2.2.2.2.2.2.2.2.2.2.2.1 q.2.2.2.2.2.2.2.2.2.2.2.2.2.2.2.2.1 q.2.2.2.2.2.2.2.2.2.2.2.2.2.2.2.2.2.1 v_traced v_imaged v_most, aI G a_p1 163 v_p1, aI G (r_t 1) 6 q.1, aI G (r_t 2) 6 q.2.1, aI G (r_t 3) 6 q.2.2.1, aI G (r_t 4) 6 q.2.2.2.1, aI G (r_t 5) 6 q.2.2.2.2.1, aI G (r_t 6) 24 q.2.2.2.2.2.1, aI G (r_t 7) 36 q.2.2.2.2.2.2.1, aI G (r_t 26) 5 q.2.2.2.2.2.2.2.1, aI G (r_t 27) 5 q.2.2.2.2.2.2.2.2.1, aI G (r_t 28) 5 q.2.2.2.2.2.2.2.2.2.1, aI G (r_t 29) 5 q.2.2.2.2.2.2.2.2.2.2.1, aI G (r_t 31) 10 q.2.2.2.2.2.2.2.2.2.2.2.1, aI G (r_t 32) 10 q.2.2.2.2.2.2.2.2.2.2.2.2.1, aI G (r_t 34) 8 q.2.2.2.2.2.2.2.2.2.2.2.2.2.2.2.2.2.2.2.1, aI G (r_t 35) 8 q.2.2.2.2.2.2.2.2.2.2.2.2.2.2.2.2.2.2.2.2.1, aI G (r_t 36) 8 q.2.2.2.2.2.2.2.2.2.2.2.2.2.2.2.2.2.2.2.2.2]) {k186 : Int32 → (Nat → Int32) → (Nat → Int32) → (Nat → Int32) → (Nat → Int32) → (Nat → Int32) → (Nat → Int32) → (Nat → Int32) → (Nat → Int32) → (Nat → Int32) → (Nat → Int32) → (Nat → Int32) → (Nat → Int32) → (Nat → Int32) → Option ((Nat → Int32) × (Nat → Int32) × (Nat → Int32) × (Nat → Int32) × (Nat → Int32) × (Nat → Int32) × (Nat → Int32) × (Nat → Int32) × (Nat → Int32) × (Nat → Int32) × (Nat → Int32) × (Nat → Int32) × (Nat → Int32) × Int32 × Int32 × Int32 × Int32 × Int32 × Int32 × (Nat → Int32) × (Nat → Int32) × (Nat → Int32))} (hk186 : ∀ (x2 : Int32) (w_kind : Nat → Int32) (w_v : Nat → Int32) (w_dead : Nat → Int32) (w_buried : Nat → Int32) (w_thrown : Nat → Int32) (w_rows : Nat → Int32) (w_hate : Nat → Int32) (w_seenBy : Nat → Int32) (w_seenOf : Nat → Int32) (w_seenIn : Nat → Int32) (w_seenSo : Nat → Int32) (w_goes : Nat → Int32) (w_whose : Nat → Int32), k186 x2 w_kind w_v w_dead w_buried w_thrown w_rows w_hate w_seenBy w_seenOf w_seenIn w_seenSo w_goes w_whose = some q → J G K 3 0 0 [oX8 a_t r_t v_people v_day v_texted v_at v_value v_digits v_open v_parishes v_holds v_coded v_seen v_inPlan v_inBook v_traced v_imaged v_most, aI G a_p1 163 v_p1, aI G (r_t 1) 6 w_kind, aI G (r_t 2) 6 w_v, aI G (r_t 3) 6 w_dead, aI G (r_t 4) 6 w_buried, aI G (r_t 5) 6 w_thrown, aI G (r_t 6) 24 w_rows, aI G (r_t 7) 36 w_hate, aI G (r_t 26) 5 w_seenBy, aI G (r_t 27) 5 w_seenOf, aI G (r_t 28) 5 w_seenIn, aI G (r_t 29) 5 w_seenSo, aI G (r_t 31) 10 w_goes, aI G (r_t 32) 10 w_whose, aI G (r_t 34) 8 v_bookBy, aI G (r_t 35) 8 v_bookOf, aI G (r_t 36) 8 v_bookHate] [(0, .ref a_t), (1, .ref a_p1), (2, .int x2)] 186 []) {x2 : Int32} {w_kind : Nat → Int32} {w_v : Nat → Int32} {w_dead : Nat → Int32} {w_buried : Nat → Int32} {w_thrown : Nat → Int32} {w_rows : Nat → Int32} {w_hate : Nat → Int32} {w_seenBy : Nat → Int32} {w_seenOf : Nat → Int32} {w_seenIn : Nat → Int32} {w_seenSo : Nat → Int32} {w_goes : Nat → Int32} {w_whose : Nat → Int32} (hf : f_X8_again_186_b v_p1 v_bookBy v_bookOf v_bookHate k186 x2 w_kind w_v w_dead w_buried w_thrown w_rows w_hate w_seenBy w_seenOf w_seenIn w_seenSo w_goes w_whose = some q) : J G K 3 0 0 [oX8 a_t r_t v_people v_day v_texted v_at v_value v_digits v_open v_parishes v_holds v_coded v_seen v_inPlan v_inBook v_traced v_imaged v_most, aI G a_p1 163 v_p1, aI G (r_t 1) 6 w_kind, aI G (r_t 2) 6 w_v, aI G (r_t 3) 6 w_dead, aI G (r_t 4) 6 w_buried, aI G (r_t 5) 6 w_thrown, aI G (r_t 6) 24 w_rows, aI G (r_t 7) 36 w_hate, aI G (r_t 26) 5 w_seenBy, aI G (r_t 27) 5 w_seenOf, aI G (r_t 28) 5 w_seenIn, aI G (r_t 29) 5 w_seenSo, aI G (r_t 31) 10 w_goes, aI G (r_t 32) 10 w_whose, aI G (r_t 34) 8 v_bookBy, aI G (r_t 35) 8 v_bookOf, aI G (r_t 36) 8 v_bookHate] [(0, .ref a_t), (1, .ref a_p1), (2, .int x2)] 186 [] := by
  unfold f_X8_again_186_b at hf
  refine j_iload_n C (pc := 186) 2 rfl rfl dX8_again_186 ?_
  refine j_bipush C (pc := 187) (v := 10) (by decide) dX8_again_187 ?_
  refine j_icmp_ge C (pc := 189) 222 dX8_again_189 (by decide) hf (fun hf => ?_) (fun hf => ?_)
  · refine j_iconst C (pc := 222) (v := 0) (by decide) dX8_again_222 ?_
    refine j_istore_n C (pc := 223) (L' := [(2, .int (0 : Int32)), (0, .ref a_t), (1, .ref a_p1)]) dX8_again_223 rfl (by decide) rfl ?_
    refine j_sub [1, 2, 0] rfl ?_
    exact t_X8_again_224 C hQ 1000 _ _ _ _ _ _ _ _ _ _ _ _ _ _ _ _ _ hf
  · refine j_aload_n C (pc := 192) 0 rfl rfl dX8_again_192 ?_
    refine j_get C (pc := 193) kc_X8 fl_X8_70 0 rfl rfl dX8_again_193 ?_
    refine j_iload_n C (pc := 196) 2 rfl rfl dX8_again_196 ?_
    refine j_aload_n C (pc := 197) 1 rfl rfl dX8_again_197 ?_
    refine j_bipush C (pc := 198) (v := 110) (by decide) dX8_again_198 ?_
    refine j_iload_n C (pc := 200) 2 rfl rfl dX8_again_200 ?_
    refine j_iadd C (pc := 201) dX8_again_201 ?_
    refine j_iald C (pc := 202) 1 rfl hf dX8_again_202 (fun hf => ?_)
    refine j_iast C (pc := 203) (ws' := [oX8 a_t r_t v_people v_day v_texted v_at v_value v_digits v_open v_parishes v_holds v_coded v_seen v_inPlan v_inBook v_traced v_imaged v_most, aI G a_p1 163 v_p1, aI G (r_t 1) 6 w_kind, aI G (r_t 2) 6 w_v, aI G (r_t 3) 6 w_dead, aI G (r_t 4) 6 w_buried, aI G (r_t 5) 6 w_thrown, aI G (r_t 6) 24 w_rows, aI G (r_t 7) 36 w_hate, aI G (r_t 26) 5 w_seenBy, aI G (r_t 27) 5 w_seenOf, aI G (r_t 28) 5 w_seenIn, aI G (r_t 29) 5 w_seenSo, aI G (r_t 31) 10 (upd w_goes x2.toNatClampNeg (v_p1 ((110 : Int32) + x2).toNatClampNeg)), aI G (r_t 32) 10 w_whose, aI G (r_t 34) 8 v_bookBy, aI G (r_t 35) 8 v_bookOf, aI G (r_t 36) 8 v_bookHate]) 13 rfl hf rfl dX8_again_203 (fun hf => ?_)
    refine j_aload_n C (pc := 204) 0 rfl rfl dX8_again_204 ?_
    refine j_get C (pc := 205) kc_X8 fl_X8_73 0 rfl rfl dX8_again_205 ?_
    refine j_iload_n C (pc := 208) 2 rfl rfl dX8_again_208 ?_
    refine j_aload_n C (pc := 209) 1 rfl rfl dX8_again_209 ?_
    refine j_bipush C (pc := 210) (v := 120) (by decide) dX8_again_210 ?_
    refine j_iload_n C (pc := 212) 2 rfl rfl dX8_again_212 ?_
    refine j_iadd C (pc := 213) dX8_again_213 ?_
    refine j_iald C (pc := 214) 1 rfl hf dX8_again_214 (fun hf => ?_)
    refine j_iast C (pc := 215) (ws' := [oX8 a_t r_t v_people v_day v_texted v_at v_value v_digits v_open v_parishes v_holds v_coded v_seen v_inPlan v_inBook v_traced v_imaged v_most, aI G a_p1 163 v_p1, aI G (r_t 1) 6 w_kind, aI G (r_t 2) 6 w_v, aI G (r_t 3) 6 w_dead, aI G (r_t 4) 6 w_buried, aI G (r_t 5) 6 w_thrown, aI G (r_t 6) 24 w_rows, aI G (r_t 7) 36 w_hate, aI G (r_t 26) 5 w_seenBy, aI G (r_t 27) 5 w_seenOf, aI G (r_t 28) 5 w_seenIn, aI G (r_t 29) 5 w_seenSo, aI G (r_t 31) 10 (upd w_goes x2.toNatClampNeg (v_p1 ((110 : Int32) + x2).toNatClampNeg)), aI G (r_t 32) 10 (upd w_whose x2.toNatClampNeg (v_p1 ((120 : Int32) + x2).toNatClampNeg)), aI G (r_t 34) 8 v_bookBy, aI G (r_t 35) 8 v_bookOf, aI G (r_t 36) 8 v_bookHate]) 14 rfl hf rfl dX8_again_215 (fun hf => ?_)
    refine j_iinc C (pc := 216) (L' := [(2, .int (x2 + (1 : Int32))), (0, .ref a_t), (1, .ref a_p1)]) (v := x2 + (1 : Int32)) dX8_again_216 (t := 2) rfl rfl (by decide) rfl ?_
    refine j_goto C (pc := 219) 186 dX8_again_219 (by decide) ?_
    refine j_sub [1, 2, 0] rfl ?_
    exact hk186 _ _ _ _ _ _ _ _ _ _ _ _ _ _ hf
theorem t_X8_again_186 {G : Gx} {K : Kx} (C : Cx G K cX8_again RX8 3 1) {a_t : Nat} {r_t : Nat → Nat} {a_p1 : Nat} {v_people : Int32} {v_day : Int32} {v_texted : Int32} {v_at : Int32} {v_value : Int32} {v_digits : Int32} {v_open : Int32} {v_parishes : Int32} {v_holds : Int32} {v_coded : Int32} {v_seen : Int32} {v_inPlan : Int32} {v_inBook : Int32} {v_traced : Int32} {v_imaged : Int32} {v_most : Int32} {v_p1 : Nat → Int32} {v_bookBy : Nat → Int32} {v_bookOf : Nat → Int32} {v_bookHate : Nat → Int32} {q : (Nat → Int32) × (Nat → Int32) × (Nat → Int32) × (Nat → Int32) × (Nat → Int32) × (Nat → Int32) × (Nat → Int32) × (Nat → Int32) × (Nat → Int32) × (Nat → Int32) × (Nat → Int32) × (Nat → Int32) × (Nat → Int32) × Int32 × Int32 × Int32 × Int32 × Int32 × Int32 × (Nat → Int32) × (Nat → Int32) × (Nat → Int32)} (hQ : k_retV G K cX8_again 3 [oX8 a_t r_t q.2.2.2.2.2.2.2.2.2.2.2.2.2.1 q.2.2.2.2.2.2.2.2.2.2.2.2.2.2.1 v_texted v_at v_value v_digits v_open v_parishes q.2.2.2.2.2.2.2.2.2.2.2.2.2.2.2.2.2.2.1 v_coded q.2.2.2.2.2.2.2.2.2.2.2.2.2.2.2.1 q.2.2.2.2.2.2.2.2.2.2.2.2.2.2.2.2.1 q.2.2.2.2.2.2.2.2.2.2.2.2.2.2.2.2.2.1 v_traced v_imaged v_most, aI G a_p1 163 v_p1, aI G (r_t 1) 6 q.1, aI G (r_t 2) 6 q.2.1, aI G (r_t 3) 6 q.2.2.1, aI G (r_t 4) 6 q.2.2.2.1, aI G (r_t 5) 6 q.2.2.2.2.1, aI G (r_t 6) 24 q.2.2.2.2.2.1, aI G (r_t 7) 36 q.2.2.2.2.2.2.1, aI G (r_t 26) 5 q.2.2.2.2.2.2.2.1, aI G (r_t 27) 5 q.2.2.2.2.2.2.2.2.1, aI G (r_t 28) 5 q.2.2.2.2.2.2.2.2.2.1, aI G (r_t 29) 5 q.2.2.2.2.2.2.2.2.2.2.1, aI G (r_t 31) 10 q.2.2.2.2.2.2.2.2.2.2.2.1, aI G (r_t 32) 10 q.2.2.2.2.2.2.2.2.2.2.2.2.1, aI G (r_t 34) 8 q.2.2.2.2.2.2.2.2.2.2.2.2.2.2.2.2.2.2.2.1, aI G (r_t 35) 8 q.2.2.2.2.2.2.2.2.2.2.2.2.2.2.2.2.2.2.2.2.1, aI G (r_t 36) 8 q.2.2.2.2.2.2.2.2.2.2.2.2.2.2.2.2.2.2.2.2.2]) : ∀ (n : Nat) (x2 : Int32) (w_kind : Nat → Int32) (w_v : Nat → Int32) (w_dead : Nat → Int32) (w_buried : Nat → Int32) (w_thrown : Nat → Int32) (w_rows : Nat → Int32) (w_hate : Nat → Int32) (w_seenBy : Nat → Int32) (w_seenOf : Nat → Int32) (w_seenIn : Nat → Int32) (w_seenSo : Nat → Int32) (w_goes : Nat → Int32) (w_whose : Nat → Int32), f_X8_again_186 v_p1 v_bookBy v_bookOf v_bookHate n x2 w_kind w_v w_dead w_buried w_thrown w_rows w_hate w_seenBy w_seenOf w_seenIn w_seenSo w_goes w_whose = some q → J G K 3 0 0 [oX8 a_t r_t v_people v_day v_texted v_at v_value v_digits v_open v_parishes v_holds v_coded v_seen v_inPlan v_inBook v_traced v_imaged v_most, aI G a_p1 163 v_p1, aI G (r_t 1) 6 w_kind, aI G (r_t 2) 6 w_v, aI G (r_t 3) 6 w_dead, aI G (r_t 4) 6 w_buried, aI G (r_t 5) 6 w_thrown, aI G (r_t 6) 24 w_rows, aI G (r_t 7) 36 w_hate, aI G (r_t 26) 5 w_seenBy, aI G (r_t 27) 5 w_seenOf, aI G (r_t 28) 5 w_seenIn, aI G (r_t 29) 5 w_seenSo, aI G (r_t 31) 10 w_goes, aI G (r_t 32) 10 w_whose, aI G (r_t 34) 8 v_bookBy, aI G (r_t 35) 8 v_bookOf, aI G (r_t 36) 8 v_bookHate] [(0, .ref a_t), (1, .ref a_p1), (2, .int x2)] 186 [] := by
  intro n
  induction n with
  | zero => intro x2 w_kind w_v w_dead w_buried w_thrown w_rows w_hate w_seenBy w_seenOf w_seenIn w_seenSo w_goes w_whose hf; cases hf
  | succ n ih => intro x2 w_kind w_v w_dead w_buried w_thrown w_rows w_hate w_seenBy w_seenOf w_seenIn w_seenSo w_goes w_whose hf; exact t_X8_again_186_b C hQ ih hf
def f_X8_again_125_b (v_p1 : Nat → Int32) (v_goes : Nat → Int32) (v_whose : Nat → Int32) (v_bookBy : Nat → Int32) (v_bookOf : Nat → Int32) (v_bookHate : Nat → Int32) (k125 : Int32 → (Nat → Int32) → (Nat → Int32) → (Nat → Int32) → (Nat → Int32) → (Nat → Int32) → (Nat → Int32) → (Nat → Int32) → (Nat → Int32) → (Nat → Int32) → (Nat → Int32) → (Nat → Int32) → Option ((Nat → Int32) × (Nat → Int32) × (Nat → Int32) × (Nat → Int32) × (Nat → Int32) × (Nat → Int32) × (Nat → Int32) × (Nat → Int32) × (Nat → Int32) × (Nat → Int32) × (Nat → Int32) × (Nat → Int32) × (Nat → Int32) × Int32 × Int32 × Int32 × Int32 × Int32 × Int32 × (Nat → Int32) × (Nat → Int32) × (Nat → Int32))) (x2 : Int32) (w_kind : Nat → Int32) (w_v : Nat → Int32) (w_dead : Nat → Int32) (w_buried : Nat → Int32) (w_thrown : Nat → Int32) (w_rows : Nat → Int32) (w_hate : Nat → Int32) (w_seenBy : Nat → Int32) (w_seenOf : Nat → Int32) (w_seenIn : Nat → Int32) (w_seenSo : Nat → Int32) : Option ((Nat → Int32) × (Nat → Int32) × (Nat → Int32) × (Nat → Int32) × (Nat → Int32) × (Nat → Int32) × (Nat → Int32) × (Nat → Int32) × (Nat → Int32) × (Nat → Int32) × (Nat → Int32) × (Nat → Int32) × (Nat → Int32) × Int32 × Int32 × Int32 × Int32 × Int32 × Int32 × (Nat → Int32) × (Nat → Int32) × (Nat → Int32)) := (if (5 : Int32) ≤ x2 then (f_X8_again_186 v_p1 v_bookBy v_bookOf v_bookHate 1000 (0 : Int32) w_kind w_v w_dead w_buried w_thrown w_rows w_hate w_seenBy w_seenOf w_seenIn w_seenSo v_goes v_whose) else (gd ((90 : Int32) + x2) 163 (gd x2 5 (gd ((95 : Int32) + x2) 163 (gd x2 5 (gd ((100 : Int32) + x2) 163 (gd x2 5 (gd ((105 : Int32) + x2) 163 (gd x2 5 (k125 (x2 + (1 : Int32)) w_kind w_v w_dead w_buried w_thrown w_rows w_hate (upd w_seenBy x2.toNatClampNeg (v_p1 ((90 : Int32) + x2).toNatClampNeg)) (upd w_seenOf x2.toNatClampNeg (v_p1 ((95 : Int32) + x2).toNatClampNeg)) (upd w_seenIn x2.toNatClampNeg (v_p1 ((100 : Int32) + x2).toNatClampNeg)) (upd w_seenSo x2.toNatClampNeg (v_p1 ((105 : Int32) + x2).toNatClampNeg))))))))))))
def f_X8_again_125 (v_p1 : Nat → Int32) (v_goes : Nat → Int32) (v_whose : Nat → Int32) (v_bookBy : Nat → Int32) (v_bookOf : Nat → Int32) (v_bookHate : Nat → Int32) : Nat → Int32 → (Nat → Int32) → (Nat → Int32) → (Nat → Int32) → (Nat → Int32) → (Nat → Int32) → (Nat → Int32) → (Nat → Int32) → (Nat → Int32) → (Nat → Int32) → (Nat → Int32) → (Nat → Int32) → Option ((Nat → Int32) × (Nat → Int32) × (Nat → Int32) × (Nat → Int32) × (Nat → Int32) × (Nat → Int32) × (Nat → Int32) × (Nat → Int32) × (Nat → Int32) × (Nat → Int32) × (Nat → Int32) × (Nat → Int32) × (Nat → Int32) × Int32 × Int32 × Int32 × Int32 × Int32 × Int32 × (Nat → Int32) × (Nat → Int32) × (Nat → Int32))
  | 0 => fun _ _ _ _ _ _ _ _ _ _ _ _ => none
  | n + 1 => f_X8_again_125_b v_p1 v_goes v_whose v_bookBy v_bookOf v_bookHate (f_X8_again_125 v_p1 v_goes v_whose v_bookBy v_bookOf v_bookHate n)
set_option maxRecDepth 20000 in
set_option maxHeartbeats 1000000 in
theorem t_X8_again_125_b {G : Gx} {K : Kx} (C : Cx G K cX8_again RX8 3 1) {a_t : Nat} {r_t : Nat → Nat} {a_p1 : Nat} {v_people : Int32} {v_day : Int32} {v_texted : Int32} {v_at : Int32} {v_value : Int32} {v_digits : Int32} {v_open : Int32} {v_parishes : Int32} {v_holds : Int32} {v_coded : Int32} {v_seen : Int32} {v_inPlan : Int32} {v_inBook : Int32} {v_traced : Int32} {v_imaged : Int32} {v_most : Int32} {v_p1 : Nat → Int32} {v_goes : Nat → Int32} {v_whose : Nat → Int32} {v_bookBy : Nat → Int32} {v_bookOf : Nat → Int32} {v_bookHate : Nat → Int32} {q : (Nat → Int32) × (Nat → Int32) × (Nat → Int32) × (Nat → Int32) × (Nat → Int32) × (Nat → Int32) × (Nat → Int32) × (Nat → Int32) × (Nat → Int32) × (Nat → Int32) × (Nat → Int32) × (Nat → Int32) × (Nat → Int32) × Int32 × Int32 × Int32 × Int32 × Int32 × Int32 × (Nat → Int32) × (Nat → Int32) × (Nat → Int32)} (hQ : k_retV G K cX8_again 3 [oX8 a_t r_t q.2.2.2.2.2.2.2.2.2.2.2.2.2.1 q.2.2.2.2.2.2.2.2.2.2.2.2.2.2.1 v_texted v_at v_value v_digits v_open v_parishes q.2.2.2.2.2.2.2.2.2.2.2.2.2.2.2.2.2.2.1 v_coded q.2.2.2.2.2.2.2.2.2.2.2.2.2.2.2.1 q.2.2.2.2.2.2.2.2.2.2.2.2.2.2.2.2.1 q.2.2.2.2.2.2.2.2.2.2.2.2.2.2.2.2.2.1 v_traced v_imaged v_most, aI G a_p1 163 v_p1, aI G (r_t 1) 6 q.1, aI G (r_t 2) 6 q.2.1, aI G (r_t 3) 6 q.2.2.1, aI G (r_t 4) 6 q.2.2.2.1, aI G (r_t 5) 6 q.2.2.2.2.1, aI G (r_t 6) 24 q.2.2.2.2.2.1, aI G (r_t 7) 36 q.2.2.2.2.2.2.1, aI G (r_t 26) 5 q.2.2.2.2.2.2.2.1, aI G (r_t 27) 5 q.2.2.2.2.2.2.2.2.1, aI G (r_t 28) 5 q.2.2.2.2.2.2.2.2.2.1, aI G (r_t 29) 5 q.2.2.2.2.2.2.2.2.2.2.1, aI G (r_t 31) 10 q.2.2.2.2.2.2.2.2.2.2.2.1, aI G (r_t 32) 10 q.2.2.2.2.2.2.2.2.2.2.2.2.1, aI G (r_t 34) 8 q.2.2.2.2.2.2.2.2.2.2.2.2.2.2.2.2.2.2.2.1, aI G (r_t 35) 8 q.2.2.2.2.2.2.2.2.2.2.2.2.2.2.2.2.2.2.2.2.1, aI G (r_t 36) 8 q.2.2.2.2.2.2.2.2.2.2.2.2.2.2.2.2.2.2.2.2.2]) {k125 : Int32 → (Nat → Int32) → (Nat → Int32) → (Nat → Int32) → (Nat → Int32) → (Nat → Int32) → (Nat → Int32) → (Nat → Int32) → (Nat → Int32) → (Nat → Int32) → (Nat → Int32) → (Nat → Int32) → Option ((Nat → Int32) × (Nat → Int32) × (Nat → Int32) × (Nat → Int32) × (Nat → Int32) × (Nat → Int32) × (Nat → Int32) × (Nat → Int32) × (Nat → Int32) × (Nat → Int32) × (Nat → Int32) × (Nat → Int32) × (Nat → Int32) × Int32 × Int32 × Int32 × Int32 × Int32 × Int32 × (Nat → Int32) × (Nat → Int32) × (Nat → Int32))} (hk125 : ∀ (x2 : Int32) (w_kind : Nat → Int32) (w_v : Nat → Int32) (w_dead : Nat → Int32) (w_buried : Nat → Int32) (w_thrown : Nat → Int32) (w_rows : Nat → Int32) (w_hate : Nat → Int32) (w_seenBy : Nat → Int32) (w_seenOf : Nat → Int32) (w_seenIn : Nat → Int32) (w_seenSo : Nat → Int32), k125 x2 w_kind w_v w_dead w_buried w_thrown w_rows w_hate w_seenBy w_seenOf w_seenIn w_seenSo = some q → J G K 3 0 0 [oX8 a_t r_t v_people v_day v_texted v_at v_value v_digits v_open v_parishes v_holds v_coded v_seen v_inPlan v_inBook v_traced v_imaged v_most, aI G a_p1 163 v_p1, aI G (r_t 1) 6 w_kind, aI G (r_t 2) 6 w_v, aI G (r_t 3) 6 w_dead, aI G (r_t 4) 6 w_buried, aI G (r_t 5) 6 w_thrown, aI G (r_t 6) 24 w_rows, aI G (r_t 7) 36 w_hate, aI G (r_t 26) 5 w_seenBy, aI G (r_t 27) 5 w_seenOf, aI G (r_t 28) 5 w_seenIn, aI G (r_t 29) 5 w_seenSo, aI G (r_t 31) 10 v_goes, aI G (r_t 32) 10 v_whose, aI G (r_t 34) 8 v_bookBy, aI G (r_t 35) 8 v_bookOf, aI G (r_t 36) 8 v_bookHate] [(0, .ref a_t), (1, .ref a_p1), (2, .int x2)] 125 []) {x2 : Int32} {w_kind : Nat → Int32} {w_v : Nat → Int32} {w_dead : Nat → Int32} {w_buried : Nat → Int32} {w_thrown : Nat → Int32} {w_rows : Nat → Int32} {w_hate : Nat → Int32} {w_seenBy : Nat → Int32} {w_seenOf : Nat → Int32} {w_seenIn : Nat → Int32} {w_seenSo : Nat → Int32} (hf : f_X8_again_125_b v_p1 v_goes v_whose v_bookBy v_bookOf v_bookHate k125 x2 w_kind w_v w_dead w_buried w_thrown w_rows w_hate w_seenBy w_seenOf w_seenIn w_seenSo = some q) : J G K 3 0 0 [oX8 a_t r_t v_people v_day v_texted v_at v_value v_digits v_open v_parishes v_holds v_coded v_seen v_inPlan v_inBook v_traced v_imaged v_most, aI G a_p1 163 v_p1, aI G (r_t 1) 6 w_kind, aI G (r_t 2) 6 w_v, aI G (r_t 3) 6 w_dead, aI G (r_t 4) 6 w_buried, aI G (r_t 5) 6 w_thrown, aI G (r_t 6) 24 w_rows, aI G (r_t 7) 36 w_hate, aI G (r_t 26) 5 w_seenBy, aI G (r_t 27) 5 w_seenOf, aI G (r_t 28) 5 w_seenIn, aI G (r_t 29) 5 w_seenSo, aI G (r_t 31) 10 v_goes, aI G (r_t 32) 10 v_whose, aI G (r_t 34) 8 v_bookBy, aI G (r_t 35) 8 v_bookOf, aI G (r_t 36) 8 v_bookHate] [(0, .ref a_t), (1, .ref a_p1), (2, .int x2)] 125 [] := by
  unfold f_X8_again_125_b at hf
  refine j_iload_n C (pc := 125) 2 rfl rfl dX8_again_125 ?_
  refine j_iconst C (pc := 126) (v := 5) (by decide) dX8_again_126 ?_
  refine j_icmp_ge C (pc := 127) 184 dX8_again_127 (by decide) hf (fun hf => ?_) (fun hf => ?_)
  · refine j_iconst C (pc := 184) (v := 0) (by decide) dX8_again_184 ?_
    refine j_istore_n C (pc := 185) (L' := [(2, .int (0 : Int32)), (0, .ref a_t), (1, .ref a_p1)]) dX8_again_185 rfl (by decide) rfl ?_
    refine j_sub [1, 2, 0] rfl ?_
    exact t_X8_again_186 C hQ 1000 _ _ _ _ _ _ _ _ _ _ _ _ _ _ hf
  · refine j_aload_n C (pc := 130) 0 rfl rfl dX8_again_130 ?_
    refine j_get C (pc := 131) kc_X8 fl_X8_58 0 rfl rfl dX8_again_131 ?_
    refine j_iload_n C (pc := 134) 2 rfl rfl dX8_again_134 ?_
    refine j_aload_n C (pc := 135) 1 rfl rfl dX8_again_135 ?_
    refine j_bipush C (pc := 136) (v := 90) (by decide) dX8_again_136 ?_
    refine j_iload_n C (pc := 138) 2 rfl rfl dX8_again_138 ?_
    refine j_iadd C (pc := 139) dX8_again_139 ?_
    refine j_iald C (pc := 140) 1 rfl hf dX8_again_140 (fun hf => ?_)
    refine j_iast C (pc := 141) (ws' := [oX8 a_t r_t v_people v_day v_texted v_at v_value v_digits v_open v_parishes v_holds v_coded v_seen v_inPlan v_inBook v_traced v_imaged v_most, aI G a_p1 163 v_p1, aI G (r_t 1) 6 w_kind, aI G (r_t 2) 6 w_v, aI G (r_t 3) 6 w_dead, aI G (r_t 4) 6 w_buried, aI G (r_t 5) 6 w_thrown, aI G (r_t 6) 24 w_rows, aI G (r_t 7) 36 w_hate, aI G (r_t 26) 5 (upd w_seenBy x2.toNatClampNeg (v_p1 ((90 : Int32) + x2).toNatClampNeg)), aI G (r_t 27) 5 w_seenOf, aI G (r_t 28) 5 w_seenIn, aI G (r_t 29) 5 w_seenSo, aI G (r_t 31) 10 v_goes, aI G (r_t 32) 10 v_whose, aI G (r_t 34) 8 v_bookBy, aI G (r_t 35) 8 v_bookOf, aI G (r_t 36) 8 v_bookHate]) 9 rfl hf rfl dX8_again_141 (fun hf => ?_)
    refine j_aload_n C (pc := 142) 0 rfl rfl dX8_again_142 ?_
    refine j_get C (pc := 143) kc_X8 fl_X8_61 0 rfl rfl dX8_again_143 ?_
    refine j_iload_n C (pc := 146) 2 rfl rfl dX8_again_146 ?_
    refine j_aload_n C (pc := 147) 1 rfl rfl dX8_again_147 ?_
    refine j_bipush C (pc := 148) (v := 95) (by decide) dX8_again_148 ?_
    refine j_iload_n C (pc := 150) 2 rfl rfl dX8_again_150 ?_
    refine j_iadd C (pc := 151) dX8_again_151 ?_
    refine j_iald C (pc := 152) 1 rfl hf dX8_again_152 (fun hf => ?_)
    refine j_iast C (pc := 153) (ws' := [oX8 a_t r_t v_people v_day v_texted v_at v_value v_digits v_open v_parishes v_holds v_coded v_seen v_inPlan v_inBook v_traced v_imaged v_most, aI G a_p1 163 v_p1, aI G (r_t 1) 6 w_kind, aI G (r_t 2) 6 w_v, aI G (r_t 3) 6 w_dead, aI G (r_t 4) 6 w_buried, aI G (r_t 5) 6 w_thrown, aI G (r_t 6) 24 w_rows, aI G (r_t 7) 36 w_hate, aI G (r_t 26) 5 (upd w_seenBy x2.toNatClampNeg (v_p1 ((90 : Int32) + x2).toNatClampNeg)), aI G (r_t 27) 5 (upd w_seenOf x2.toNatClampNeg (v_p1 ((95 : Int32) + x2).toNatClampNeg)), aI G (r_t 28) 5 w_seenIn, aI G (r_t 29) 5 w_seenSo, aI G (r_t 31) 10 v_goes, aI G (r_t 32) 10 v_whose, aI G (r_t 34) 8 v_bookBy, aI G (r_t 35) 8 v_bookOf, aI G (r_t 36) 8 v_bookHate]) 10 rfl hf rfl dX8_again_153 (fun hf => ?_)
    refine j_aload_n C (pc := 154) 0 rfl rfl dX8_again_154 ?_
    refine j_get C (pc := 155) kc_X8 fl_X8_64 0 rfl rfl dX8_again_155 ?_
    refine j_iload_n C (pc := 158) 2 rfl rfl dX8_again_158 ?_
    refine j_aload_n C (pc := 159) 1 rfl rfl dX8_again_159 ?_
    refine j_bipush C (pc := 160) (v := 100) (by decide) dX8_again_160 ?_
    refine j_iload_n C (pc := 162) 2 rfl rfl dX8_again_162 ?_
    refine j_iadd C (pc := 163) dX8_again_163 ?_
    refine j_iald C (pc := 164) 1 rfl hf dX8_again_164 (fun hf => ?_)
    refine j_iast C (pc := 165) (ws' := [oX8 a_t r_t v_people v_day v_texted v_at v_value v_digits v_open v_parishes v_holds v_coded v_seen v_inPlan v_inBook v_traced v_imaged v_most, aI G a_p1 163 v_p1, aI G (r_t 1) 6 w_kind, aI G (r_t 2) 6 w_v, aI G (r_t 3) 6 w_dead, aI G (r_t 4) 6 w_buried, aI G (r_t 5) 6 w_thrown, aI G (r_t 6) 24 w_rows, aI G (r_t 7) 36 w_hate, aI G (r_t 26) 5 (upd w_seenBy x2.toNatClampNeg (v_p1 ((90 : Int32) + x2).toNatClampNeg)), aI G (r_t 27) 5 (upd w_seenOf x2.toNatClampNeg (v_p1 ((95 : Int32) + x2).toNatClampNeg)), aI G (r_t 28) 5 (upd w_seenIn x2.toNatClampNeg (v_p1 ((100 : Int32) + x2).toNatClampNeg)), aI G (r_t 29) 5 w_seenSo, aI G (r_t 31) 10 v_goes, aI G (r_t 32) 10 v_whose, aI G (r_t 34) 8 v_bookBy, aI G (r_t 35) 8 v_bookOf, aI G (r_t 36) 8 v_bookHate]) 11 rfl hf rfl dX8_again_165 (fun hf => ?_)
    refine j_aload_n C (pc := 166) 0 rfl rfl dX8_again_166 ?_
    refine j_get C (pc := 167) kc_X8 fl_X8_67 0 rfl rfl dX8_again_167 ?_
    refine j_iload_n C (pc := 170) 2 rfl rfl dX8_again_170 ?_
    refine j_aload_n C (pc := 171) 1 rfl rfl dX8_again_171 ?_
    refine j_bipush C (pc := 172) (v := 105) (by decide) dX8_again_172 ?_
    refine j_iload_n C (pc := 174) 2 rfl rfl dX8_again_174 ?_
    refine j_iadd C (pc := 175) dX8_again_175 ?_
    refine j_iald C (pc := 176) 1 rfl hf dX8_again_176 (fun hf => ?_)
    refine j_iast C (pc := 177) (ws' := [oX8 a_t r_t v_people v_day v_texted v_at v_value v_digits v_open v_parishes v_holds v_coded v_seen v_inPlan v_inBook v_traced v_imaged v_most, aI G a_p1 163 v_p1, aI G (r_t 1) 6 w_kind, aI G (r_t 2) 6 w_v, aI G (r_t 3) 6 w_dead, aI G (r_t 4) 6 w_buried, aI G (r_t 5) 6 w_thrown, aI G (r_t 6) 24 w_rows, aI G (r_t 7) 36 w_hate, aI G (r_t 26) 5 (upd w_seenBy x2.toNatClampNeg (v_p1 ((90 : Int32) + x2).toNatClampNeg)), aI G (r_t 27) 5 (upd w_seenOf x2.toNatClampNeg (v_p1 ((95 : Int32) + x2).toNatClampNeg)), aI G (r_t 28) 5 (upd w_seenIn x2.toNatClampNeg (v_p1 ((100 : Int32) + x2).toNatClampNeg)), aI G (r_t 29) 5 (upd w_seenSo x2.toNatClampNeg (v_p1 ((105 : Int32) + x2).toNatClampNeg)), aI G (r_t 31) 10 v_goes, aI G (r_t 32) 10 v_whose, aI G (r_t 34) 8 v_bookBy, aI G (r_t 35) 8 v_bookOf, aI G (r_t 36) 8 v_bookHate]) 12 rfl hf rfl dX8_again_177 (fun hf => ?_)
    refine j_iinc C (pc := 178) (L' := [(2, .int (x2 + (1 : Int32))), (0, .ref a_t), (1, .ref a_p1)]) (v := x2 + (1 : Int32)) dX8_again_178 (t := 2) rfl rfl (by decide) rfl ?_
    refine j_goto C (pc := 181) 125 dX8_again_181 (by decide) ?_
    refine j_sub [1, 2, 0] rfl ?_
    exact hk125 _ _ _ _ _ _ _ _ _ _ _ _ hf
theorem t_X8_again_125 {G : Gx} {K : Kx} (C : Cx G K cX8_again RX8 3 1) {a_t : Nat} {r_t : Nat → Nat} {a_p1 : Nat} {v_people : Int32} {v_day : Int32} {v_texted : Int32} {v_at : Int32} {v_value : Int32} {v_digits : Int32} {v_open : Int32} {v_parishes : Int32} {v_holds : Int32} {v_coded : Int32} {v_seen : Int32} {v_inPlan : Int32} {v_inBook : Int32} {v_traced : Int32} {v_imaged : Int32} {v_most : Int32} {v_p1 : Nat → Int32} {v_goes : Nat → Int32} {v_whose : Nat → Int32} {v_bookBy : Nat → Int32} {v_bookOf : Nat → Int32} {v_bookHate : Nat → Int32} {q : (Nat → Int32) × (Nat → Int32) × (Nat → Int32) × (Nat → Int32) × (Nat → Int32) × (Nat → Int32) × (Nat → Int32) × (Nat → Int32) × (Nat → Int32) × (Nat → Int32) × (Nat → Int32) × (Nat → Int32) × (Nat → Int32) × Int32 × Int32 × Int32 × Int32 × Int32 × Int32 × (Nat → Int32) × (Nat → Int32) × (Nat → Int32)} (hQ : k_retV G K cX8_again 3 [oX8 a_t r_t q.2.2.2.2.2.2.2.2.2.2.2.2.2.1 q.2.2.2.2.2.2.2.2.2.2.2.2.2.2.1 v_texted v_at v_value v_digits v_open v_parishes q.2.2.2.2.2.2.2.2.2.2.2.2.2.2.2.2.2.2.1 v_coded q.2.2.2.2.2.2.2.2.2.2.2.2.2.2.2.1 q.2.2.2.2.2.2.2.2.2.2.2.2.2.2.2.2.1 q.2.2.2.2.2.2.2.2.2.2.2.2.2.2.2.2.2.1 v_traced v_imaged v_most, aI G a_p1 163 v_p1, aI G (r_t 1) 6 q.1, aI G (r_t 2) 6 q.2.1, aI G (r_t 3) 6 q.2.2.1, aI G (r_t 4) 6 q.2.2.2.1, aI G (r_t 5) 6 q.2.2.2.2.1, aI G (r_t 6) 24 q.2.2.2.2.2.1, aI G (r_t 7) 36 q.2.2.2.2.2.2.1, aI G (r_t 26) 5 q.2.2.2.2.2.2.2.1, aI G (r_t 27) 5 q.2.2.2.2.2.2.2.2.1, aI G (r_t 28) 5 q.2.2.2.2.2.2.2.2.2.1, aI G (r_t 29) 5 q.2.2.2.2.2.2.2.2.2.2.1, aI G (r_t 31) 10 q.2.2.2.2.2.2.2.2.2.2.2.1, aI G (r_t 32) 10 q.2.2.2.2.2.2.2.2.2.2.2.2.1, aI G (r_t 34) 8 q.2.2.2.2.2.2.2.2.2.2.2.2.2.2.2.2.2.2.2.1, aI G (r_t 35) 8 q.2.2.2.2.2.2.2.2.2.2.2.2.2.2.2.2.2.2.2.2.1, aI G (r_t 36) 8 q.2.2.2.2.2.2.2.2.2.2.2.2.2.2.2.2.2.2.2.2.2]) : ∀ (n : Nat) (x2 : Int32) (w_kind : Nat → Int32) (w_v : Nat → Int32) (w_dead : Nat → Int32) (w_buried : Nat → Int32) (w_thrown : Nat → Int32) (w_rows : Nat → Int32) (w_hate : Nat → Int32) (w_seenBy : Nat → Int32) (w_seenOf : Nat → Int32) (w_seenIn : Nat → Int32) (w_seenSo : Nat → Int32), f_X8_again_125 v_p1 v_goes v_whose v_bookBy v_bookOf v_bookHate n x2 w_kind w_v w_dead w_buried w_thrown w_rows w_hate w_seenBy w_seenOf w_seenIn w_seenSo = some q → J G K 3 0 0 [oX8 a_t r_t v_people v_day v_texted v_at v_value v_digits v_open v_parishes v_holds v_coded v_seen v_inPlan v_inBook v_traced v_imaged v_most, aI G a_p1 163 v_p1, aI G (r_t 1) 6 w_kind, aI G (r_t 2) 6 w_v, aI G (r_t 3) 6 w_dead, aI G (r_t 4) 6 w_buried, aI G (r_t 5) 6 w_thrown, aI G (r_t 6) 24 w_rows, aI G (r_t 7) 36 w_hate, aI G (r_t 26) 5 w_seenBy, aI G (r_t 27) 5 w_seenOf, aI G (r_t 28) 5 w_seenIn, aI G (r_t 29) 5 w_seenSo, aI G (r_t 31) 10 v_goes, aI G (r_t 32) 10 v_whose, aI G (r_t 34) 8 v_bookBy, aI G (r_t 35) 8 v_bookOf, aI G (r_t 36) 8 v_bookHate] [(0, .ref a_t), (1, .ref a_p1), (2, .int x2)] 125 [] := by
  intro n
  induction n with
  | zero => intro x2 w_kind w_v w_dead w_buried w_thrown w_rows w_hate w_seenBy w_seenOf w_seenIn w_seenSo hf; cases hf
  | succ n ih => intro x2 w_kind w_v w_dead w_buried w_thrown w_rows w_hate w_seenBy w_seenOf w_seenIn w_seenSo hf; exact t_X8_again_125_b C hQ ih hf
def f_X8_again_99_b (v_p1 : Nat → Int32) (v_seenBy : Nat → Int32) (v_seenOf : Nat → Int32) (v_seenIn : Nat → Int32) (v_seenSo : Nat → Int32) (v_goes : Nat → Int32) (v_whose : Nat → Int32) (v_bookBy : Nat → Int32) (v_bookOf : Nat → Int32) (v_bookHate : Nat → Int32) (k99 : Int32 → (Nat → Int32) → (Nat → Int32) → (Nat → Int32) → (Nat → Int32) → (Nat → Int32) → (Nat → Int32) → (Nat → Int32) → Option ((Nat → Int32) × (Nat → Int32) × (Nat → Int32) × (Nat → Int32) × (Nat → Int32) × (Nat → Int32) × (Nat → Int32) × (Nat → Int32) × (Nat → Int32) × (Nat → Int32) × (Nat → Int32) × (Nat → Int32) × (Nat → Int32) × Int32 × Int32 × Int32 × Int32 × Int32 × Int32 × (Nat → Int32) × (Nat → Int32) × (Nat → Int32))) (x2 : Int32) (w_kind : Nat → Int32) (w_v : Nat → Int32) (w_dead : Nat → Int32) (w_buried : Nat → Int32) (w_thrown : Nat → Int32) (w_rows : Nat → Int32) (w_hate : Nat → Int32) : Option ((Nat → Int32) × (Nat → Int32) × (Nat → Int32) × (Nat → Int32) × (Nat → Int32) × (Nat → Int32) × (Nat → Int32) × (Nat → Int32) × (Nat → Int32) × (Nat → Int32) × (Nat → Int32) × (Nat → Int32) × (Nat → Int32) × Int32 × Int32 × Int32 × Int32 × Int32 × Int32 × (Nat → Int32) × (Nat → Int32) × (Nat → Int32)) := (if (36 : Int32) ≤ x2 then (f_X8_again_125 v_p1 v_goes v_whose v_bookBy v_bookOf v_bookHate 1000 (0 : Int32) w_kind w_v w_dead w_buried w_thrown w_rows w_hate v_seenBy v_seenOf v_seenIn v_seenSo) else (gd ((54 : Int32) + x2) 163 (gd x2 36 (k99 (x2 + (1 : Int32)) w_kind w_v w_dead w_buried w_thrown w_rows (upd w_hate x2.toNatClampNeg (v_p1 ((54 : Int32) + x2).toNatClampNeg))))))
def f_X8_again_99 (v_p1 : Nat → Int32) (v_seenBy : Nat → Int32) (v_seenOf : Nat → Int32) (v_seenIn : Nat → Int32) (v_seenSo : Nat → Int32) (v_goes : Nat → Int32) (v_whose : Nat → Int32) (v_bookBy : Nat → Int32) (v_bookOf : Nat → Int32) (v_bookHate : Nat → Int32) : Nat → Int32 → (Nat → Int32) → (Nat → Int32) → (Nat → Int32) → (Nat → Int32) → (Nat → Int32) → (Nat → Int32) → (Nat → Int32) → Option ((Nat → Int32) × (Nat → Int32) × (Nat → Int32) × (Nat → Int32) × (Nat → Int32) × (Nat → Int32) × (Nat → Int32) × (Nat → Int32) × (Nat → Int32) × (Nat → Int32) × (Nat → Int32) × (Nat → Int32) × (Nat → Int32) × Int32 × Int32 × Int32 × Int32 × Int32 × Int32 × (Nat → Int32) × (Nat → Int32) × (Nat → Int32))
  | 0 => fun _ _ _ _ _ _ _ _ => none
  | n + 1 => f_X8_again_99_b v_p1 v_seenBy v_seenOf v_seenIn v_seenSo v_goes v_whose v_bookBy v_bookOf v_bookHate (f_X8_again_99 v_p1 v_seenBy v_seenOf v_seenIn v_seenSo v_goes v_whose v_bookBy v_bookOf v_bookHate n)
set_option maxRecDepth 20000 in
set_option maxHeartbeats 1000000 in
theorem t_X8_again_99_b {G : Gx} {K : Kx} (C : Cx G K cX8_again RX8 3 1) {a_t : Nat} {r_t : Nat → Nat} {a_p1 : Nat} {v_people : Int32} {v_day : Int32} {v_texted : Int32} {v_at : Int32} {v_value : Int32} {v_digits : Int32} {v_open : Int32} {v_parishes : Int32} {v_holds : Int32} {v_coded : Int32} {v_seen : Int32} {v_inPlan : Int32} {v_inBook : Int32} {v_traced : Int32} {v_imaged : Int32} {v_most : Int32} {v_p1 : Nat → Int32} {v_seenBy : Nat → Int32} {v_seenOf : Nat → Int32} {v_seenIn : Nat → Int32} {v_seenSo : Nat → Int32} {v_goes : Nat → Int32} {v_whose : Nat → Int32} {v_bookBy : Nat → Int32} {v_bookOf : Nat → Int32} {v_bookHate : Nat → Int32} {q : (Nat → Int32) × (Nat → Int32) × (Nat → Int32) × (Nat → Int32) × (Nat → Int32) × (Nat → Int32) × (Nat → Int32) × (Nat → Int32) × (Nat → Int32) × (Nat → Int32) × (Nat → Int32) × (Nat → Int32) × (Nat → Int32) × Int32 × Int32 × Int32 × Int32 × Int32 × Int32 × (Nat → Int32) × (Nat → Int32) × (Nat → Int32)} (hQ : k_retV G K cX8_again 3 [oX8 a_t r_t q.2.2.2.2.2.2.2.2.2.2.2.2.2.1 q.2.2.2.2.2.2.2.2.2.2.2.2.2.2.1 v_texted v_at v_value v_digits v_open v_parishes q.2.2.2.2.2.2.2.2.2.2.2.2.2.2.2.2.2.2.1 v_coded q.2.2.2.2.2.2.2.2.2.2.2.2.2.2.2.1 q.2.2.2.2.2.2.2.2.2.2.2.2.2.2.2.2.1 q.2.2.2.2.2.2.2.2.2.2.2.2.2.2.2.2.2.1 v_traced v_imaged v_most, aI G a_p1 163 v_p1, aI G (r_t 1) 6 q.1, aI G (r_t 2) 6 q.2.1, aI G (r_t 3) 6 q.2.2.1, aI G (r_t 4) 6 q.2.2.2.1, aI G (r_t 5) 6 q.2.2.2.2.1, aI G (r_t 6) 24 q.2.2.2.2.2.1, aI G (r_t 7) 36 q.2.2.2.2.2.2.1, aI G (r_t 26) 5 q.2.2.2.2.2.2.2.1, aI G (r_t 27) 5 q.2.2.2.2.2.2.2.2.1, aI G (r_t 28) 5 q.2.2.2.2.2.2.2.2.2.1, aI G (r_t 29) 5 q.2.2.2.2.2.2.2.2.2.2.1, aI G (r_t 31) 10 q.2.2.2.2.2.2.2.2.2.2.2.1, aI G (r_t 32) 10 q.2.2.2.2.2.2.2.2.2.2.2.2.1, aI G (r_t 34) 8 q.2.2.2.2.2.2.2.2.2.2.2.2.2.2.2.2.2.2.2.1, aI G (r_t 35) 8 q.2.2.2.2.2.2.2.2.2.2.2.2.2.2.2.2.2.2.2.2.1, aI G (r_t 36) 8 q.2.2.2.2.2.2.2.2.2.2.2.2.2.2.2.2.2.2.2.2.2]) {k99 : Int32 → (Nat → Int32) → (Nat → Int32) → (Nat → Int32) → (Nat → Int32) → (Nat → Int32) → (Nat → Int32) → (Nat → Int32) → Option ((Nat → Int32) × (Nat → Int32) × (Nat → Int32) × (Nat → Int32) × (Nat → Int32) × (Nat → Int32) × (Nat → Int32) × (Nat → Int32) × (Nat → Int32) × (Nat → Int32) × (Nat → Int32) × (Nat → Int32) × (Nat → Int32) × Int32 × Int32 × Int32 × Int32 × Int32 × Int32 × (Nat → Int32) × (Nat → Int32) × (Nat → Int32))} (hk99 : ∀ (x2 : Int32) (w_kind : Nat → Int32) (w_v : Nat → Int32) (w_dead : Nat → Int32) (w_buried : Nat → Int32) (w_thrown : Nat → Int32) (w_rows : Nat → Int32) (w_hate : Nat → Int32), k99 x2 w_kind w_v w_dead w_buried w_thrown w_rows w_hate = some q → J G K 3 0 0 [oX8 a_t r_t v_people v_day v_texted v_at v_value v_digits v_open v_parishes v_holds v_coded v_seen v_inPlan v_inBook v_traced v_imaged v_most, aI G a_p1 163 v_p1, aI G (r_t 1) 6 w_kind, aI G (r_t 2) 6 w_v, aI G (r_t 3) 6 w_dead, aI G (r_t 4) 6 w_buried, aI G (r_t 5) 6 w_thrown, aI G (r_t 6) 24 w_rows, aI G (r_t 7) 36 w_hate, aI G (r_t 26) 5 v_seenBy, aI G (r_t 27) 5 v_seenOf, aI G (r_t 28) 5 v_seenIn, aI G (r_t 29) 5 v_seenSo, aI G (r_t 31) 10 v_goes, aI G (r_t 32) 10 v_whose, aI G (r_t 34) 8 v_bookBy, aI G (r_t 35) 8 v_bookOf, aI G (r_t 36) 8 v_bookHate] [(0, .ref a_t), (1, .ref a_p1), (2, .int x2)] 99 []) {x2 : Int32} {w_kind : Nat → Int32} {w_v : Nat → Int32} {w_dead : Nat → Int32} {w_buried : Nat → Int32} {w_thrown : Nat → Int32} {w_rows : Nat → Int32} {w_hate : Nat → Int32} (hf : f_X8_again_99_b v_p1 v_seenBy v_seenOf v_seenIn v_seenSo v_goes v_whose v_bookBy v_bookOf v_bookHate k99 x2 w_kind w_v w_dead w_buried w_thrown w_rows w_hate = some q) : J G K 3 0 0 [oX8 a_t r_t v_people v_day v_texted v_at v_value v_digits v_open v_parishes v_holds v_coded v_seen v_inPlan v_inBook v_traced v_imaged v_most, aI G a_p1 163 v_p1, aI G (r_t 1) 6 w_kind, aI G (r_t 2) 6 w_v, aI G (r_t 3) 6 w_dead, aI G (r_t 4) 6 w_buried, aI G (r_t 5) 6 w_thrown, aI G (r_t 6) 24 w_rows, aI G (r_t 7) 36 w_hate, aI G (r_t 26) 5 v_seenBy, aI G (r_t 27) 5 v_seenOf, aI G (r_t 28) 5 v_seenIn, aI G (r_t 29) 5 v_seenSo, aI G (r_t 31) 10 v_goes, aI G (r_t 32) 10 v_whose, aI G (r_t 34) 8 v_bookBy, aI G (r_t 35) 8 v_bookOf, aI G (r_t 36) 8 v_bookHate] [(0, .ref a_t), (1, .ref a_p1), (2, .int x2)] 99 [] := by
  unfold f_X8_again_99_b at hf
  refine j_iload_n C (pc := 99) 2 rfl rfl dX8_again_99 ?_
  refine j_bipush C (pc := 100) (v := 36) (by decide) dX8_again_100 ?_
  refine j_icmp_ge C (pc := 102) 123 dX8_again_102 (by decide) hf (fun hf => ?_) (fun hf => ?_)
  · refine j_iconst C (pc := 123) (v := 0) (by decide) dX8_again_123 ?_
    refine j_istore_n C (pc := 124) (L' := [(2, .int (0 : Int32)), (0, .ref a_t), (1, .ref a_p1)]) dX8_again_124 rfl (by decide) rfl ?_
    refine j_sub [1, 2, 0] rfl ?_
    exact t_X8_again_125 C hQ 1000 _ _ _ _ _ _ _ _ _ _ _ _ hf
  · refine j_aload_n C (pc := 105) 0 rfl rfl dX8_again_105 ?_
    refine j_get C (pc := 106) kc_X8 fl_X8_30 0 rfl rfl dX8_again_106 ?_
    refine j_iload_n C (pc := 109) 2 rfl rfl dX8_again_109 ?_
    refine j_aload_n C (pc := 110) 1 rfl rfl dX8_again_110 ?_
    refine j_bipush C (pc := 111) (v := 54) (by decide) dX8_again_111 ?_
    refine j_iload_n C (pc := 113) 2 rfl rfl dX8_again_113 ?_
    refine j_iadd C (pc := 114) dX8_again_114 ?_
    refine j_iald C (pc := 115) 1 rfl hf dX8_again_115 (fun hf => ?_)
    refine j_iast C (pc := 116) (ws' := [oX8 a_t r_t v_people v_day v_texted v_at v_value v_digits v_open v_parishes v_holds v_coded v_seen v_inPlan v_inBook v_traced v_imaged v_most, aI G a_p1 163 v_p1, aI G (r_t 1) 6 w_kind, aI G (r_t 2) 6 w_v, aI G (r_t 3) 6 w_dead, aI G (r_t 4) 6 w_buried, aI G (r_t 5) 6 w_thrown, aI G (r_t 6) 24 w_rows, aI G (r_t 7) 36 (upd w_hate x2.toNatClampNeg (v_p1 ((54 : Int32) + x2).toNatClampNeg)), aI G (r_t 26) 5 v_seenBy, aI G (r_t 27) 5 v_seenOf, aI G (r_t 28) 5 v_seenIn, aI G (r_t 29) 5 v_seenSo, aI G (r_t 31) 10 v_goes, aI G (r_t 32) 10 v_whose, aI G (r_t 34) 8 v_bookBy, aI G (r_t 35) 8 v_bookOf, aI G (r_t 36) 8 v_bookHate]) 8 rfl hf rfl dX8_again_116 (fun hf => ?_)
    refine j_iinc C (pc := 117) (L' := [(2, .int (x2 + (1 : Int32))), (0, .ref a_t), (1, .ref a_p1)]) (v := x2 + (1 : Int32)) dX8_again_117 (t := 2) rfl rfl (by decide) rfl ?_
    refine j_goto C (pc := 120) 99 dX8_again_120 (by decide) ?_
    refine j_sub [1, 2, 0] rfl ?_
    exact hk99 _ _ _ _ _ _ _ _ hf
theorem t_X8_again_99 {G : Gx} {K : Kx} (C : Cx G K cX8_again RX8 3 1) {a_t : Nat} {r_t : Nat → Nat} {a_p1 : Nat} {v_people : Int32} {v_day : Int32} {v_texted : Int32} {v_at : Int32} {v_value : Int32} {v_digits : Int32} {v_open : Int32} {v_parishes : Int32} {v_holds : Int32} {v_coded : Int32} {v_seen : Int32} {v_inPlan : Int32} {v_inBook : Int32} {v_traced : Int32} {v_imaged : Int32} {v_most : Int32} {v_p1 : Nat → Int32} {v_seenBy : Nat → Int32} {v_seenOf : Nat → Int32} {v_seenIn : Nat → Int32} {v_seenSo : Nat → Int32} {v_goes : Nat → Int32} {v_whose : Nat → Int32} {v_bookBy : Nat → Int32} {v_bookOf : Nat → Int32} {v_bookHate : Nat → Int32} {q : (Nat → Int32) × (Nat → Int32) × (Nat → Int32) × (Nat → Int32) × (Nat → Int32) × (Nat → Int32) × (Nat → Int32) × (Nat → Int32) × (Nat → Int32) × (Nat → Int32) × (Nat → Int32) × (Nat → Int32) × (Nat → Int32) × Int32 × Int32 × Int32 × Int32 × Int32 × Int32 × (Nat → Int32) × (Nat → Int32) × (Nat → Int32)} (hQ : k_retV G K cX8_again 3 [oX8 a_t r_t q.2.2.2.2.2.2.2.2.2.2.2.2.2.1 q.2.2.2.2.2.2.2.2.2.2.2.2.2.2.1 v_texted v_at v_value v_digits v_open v_parishes q.2.2.2.2.2.2.2.2.2.2.2.2.2.2.2.2.2.2.1 v_coded q.2.2.2.2.2.2.2.2.2.2.2.2.2.2.2.1 q.2.2.2.2.2.2.2.2.2.2.2.2.2.2.2.2.1 q.2.2.2.2.2.2.2.2.2.2.2.2.2.2.2.2.2.1 v_traced v_imaged v_most, aI G a_p1 163 v_p1, aI G (r_t 1) 6 q.1, aI G (r_t 2) 6 q.2.1, aI G (r_t 3) 6 q.2.2.1, aI G (r_t 4) 6 q.2.2.2.1, aI G (r_t 5) 6 q.2.2.2.2.1, aI G (r_t 6) 24 q.2.2.2.2.2.1, aI G (r_t 7) 36 q.2.2.2.2.2.2.1, aI G (r_t 26) 5 q.2.2.2.2.2.2.2.1, aI G (r_t 27) 5 q.2.2.2.2.2.2.2.2.1, aI G (r_t 28) 5 q.2.2.2.2.2.2.2.2.2.1, aI G (r_t 29) 5 q.2.2.2.2.2.2.2.2.2.2.1, aI G (r_t 31) 10 q.2.2.2.2.2.2.2.2.2.2.2.1, aI G (r_t 32) 10 q.2.2.2.2.2.2.2.2.2.2.2.2.1, aI G (r_t 34) 8 q.2.2.2.2.2.2.2.2.2.2.2.2.2.2.2.2.2.2.2.1, aI G (r_t 35) 8 q.2.2.2.2.2.2.2.2.2.2.2.2.2.2.2.2.2.2.2.2.1, aI G (r_t 36) 8 q.2.2.2.2.2.2.2.2.2.2.2.2.2.2.2.2.2.2.2.2.2]) : ∀ (n : Nat) (x2 : Int32) (w_kind : Nat → Int32) (w_v : Nat → Int32) (w_dead : Nat → Int32) (w_buried : Nat → Int32) (w_thrown : Nat → Int32) (w_rows : Nat → Int32) (w_hate : Nat → Int32), f_X8_again_99 v_p1 v_seenBy v_seenOf v_seenIn v_seenSo v_goes v_whose v_bookBy v_bookOf v_bookHate n x2 w_kind w_v w_dead w_buried w_thrown w_rows w_hate = some q → J G K 3 0 0 [oX8 a_t r_t v_people v_day v_texted v_at v_value v_digits v_open v_parishes v_holds v_coded v_seen v_inPlan v_inBook v_traced v_imaged v_most, aI G a_p1 163 v_p1, aI G (r_t 1) 6 w_kind, aI G (r_t 2) 6 w_v, aI G (r_t 3) 6 w_dead, aI G (r_t 4) 6 w_buried, aI G (r_t 5) 6 w_thrown, aI G (r_t 6) 24 w_rows, aI G (r_t 7) 36 w_hate, aI G (r_t 26) 5 v_seenBy, aI G (r_t 27) 5 v_seenOf, aI G (r_t 28) 5 v_seenIn, aI G (r_t 29) 5 v_seenSo, aI G (r_t 31) 10 v_goes, aI G (r_t 32) 10 v_whose, aI G (r_t 34) 8 v_bookBy, aI G (r_t 35) 8 v_bookOf, aI G (r_t 36) 8 v_bookHate] [(0, .ref a_t), (1, .ref a_p1), (2, .int x2)] 99 [] := by
  intro n
  induction n with
  | zero => intro x2 w_kind w_v w_dead w_buried w_thrown w_rows w_hate hf; cases hf
  | succ n ih => intro x2 w_kind w_v w_dead w_buried w_thrown w_rows w_hate hf; exact t_X8_again_99_b C hQ ih hf
def f_X8_again_73_b (v_p1 : Nat → Int32) (v_hate : Nat → Int32) (v_seenBy : Nat → Int32) (v_seenOf : Nat → Int32) (v_seenIn : Nat → Int32) (v_seenSo : Nat → Int32) (v_goes : Nat → Int32) (v_whose : Nat → Int32) (v_bookBy : Nat → Int32) (v_bookOf : Nat → Int32) (v_bookHate : Nat → Int32) (k73 : Int32 → (Nat → Int32) → (Nat → Int32) → (Nat → Int32) → (Nat → Int32) → (Nat → Int32) → (Nat → Int32) → Option ((Nat → Int32) × (Nat → Int32) × (Nat → Int32) × (Nat → Int32) × (Nat → Int32) × (Nat → Int32) × (Nat → Int32) × (Nat → Int32) × (Nat → Int32) × (Nat → Int32) × (Nat → Int32) × (Nat → Int32) × (Nat → Int32) × Int32 × Int32 × Int32 × Int32 × Int32 × Int32 × (Nat → Int32) × (Nat → Int32) × (Nat → Int32))) (x2 : Int32) (w_kind : Nat → Int32) (w_v : Nat → Int32) (w_dead : Nat → Int32) (w_buried : Nat → Int32) (w_thrown : Nat → Int32) (w_rows : Nat → Int32) : Option ((Nat → Int32) × (Nat → Int32) × (Nat → Int32) × (Nat → Int32) × (Nat → Int32) × (Nat → Int32) × (Nat → Int32) × (Nat → Int32) × (Nat → Int32) × (Nat → Int32) × (Nat → Int32) × (Nat → Int32) × (Nat → Int32) × Int32 × Int32 × Int32 × Int32 × Int32 × Int32 × (Nat → Int32) × (Nat → Int32) × (Nat → Int32)) := (if (24 : Int32) ≤ x2 then (f_X8_again_99 v_p1 v_seenBy v_seenOf v_seenIn v_seenSo v_goes v_whose v_bookBy v_bookOf v_bookHate 1000 (0 : Int32) w_kind w_v w_dead w_buried w_thrown w_rows v_hate) else (gd ((30 : Int32) + x2) 163 (gd x2 24 (k73 (x2 + (1 : Int32)) w_kind w_v w_dead w_buried w_thrown (upd w_rows x2.toNatClampNeg (v_p1 ((30 : Int32) + x2).toNatClampNeg))))))
def f_X8_again_73 (v_p1 : Nat → Int32) (v_hate : Nat → Int32) (v_seenBy : Nat → Int32) (v_seenOf : Nat → Int32) (v_seenIn : Nat → Int32) (v_seenSo : Nat → Int32) (v_goes : Nat → Int32) (v_whose : Nat → Int32) (v_bookBy : Nat → Int32) (v_bookOf : Nat → Int32) (v_bookHate : Nat → Int32) : Nat → Int32 → (Nat → Int32) → (Nat → Int32) → (Nat → Int32) → (Nat → Int32) → (Nat → Int32) → (Nat → Int32) → Option ((Nat → Int32) × (Nat → Int32) × (Nat → Int32) × (Nat → Int32) × (Nat → Int32) × (Nat → Int32) × (Nat → Int32) × (Nat → Int32) × (Nat → Int32) × (Nat → Int32) × (Nat → Int32) × (Nat → Int32) × (Nat → Int32) × Int32 × Int32 × Int32 × Int32 × Int32 × Int32 × (Nat → Int32) × (Nat → Int32) × (Nat → Int32))
  | 0 => fun _ _ _ _ _ _ _ => none
  | n + 1 => f_X8_again_73_b v_p1 v_hate v_seenBy v_seenOf v_seenIn v_seenSo v_goes v_whose v_bookBy v_bookOf v_bookHate (f_X8_again_73 v_p1 v_hate v_seenBy v_seenOf v_seenIn v_seenSo v_goes v_whose v_bookBy v_bookOf v_bookHate n)
set_option maxRecDepth 20000 in
set_option maxHeartbeats 1000000 in
theorem t_X8_again_73_b {G : Gx} {K : Kx} (C : Cx G K cX8_again RX8 3 1) {a_t : Nat} {r_t : Nat → Nat} {a_p1 : Nat} {v_people : Int32} {v_day : Int32} {v_texted : Int32} {v_at : Int32} {v_value : Int32} {v_digits : Int32} {v_open : Int32} {v_parishes : Int32} {v_holds : Int32} {v_coded : Int32} {v_seen : Int32} {v_inPlan : Int32} {v_inBook : Int32} {v_traced : Int32} {v_imaged : Int32} {v_most : Int32} {v_p1 : Nat → Int32} {v_hate : Nat → Int32} {v_seenBy : Nat → Int32} {v_seenOf : Nat → Int32} {v_seenIn : Nat → Int32} {v_seenSo : Nat → Int32} {v_goes : Nat → Int32} {v_whose : Nat → Int32} {v_bookBy : Nat → Int32} {v_bookOf : Nat → Int32} {v_bookHate : Nat → Int32} {q : (Nat → Int32) × (Nat → Int32) × (Nat → Int32) × (Nat → Int32) × (Nat → Int32) × (Nat → Int32) × (Nat → Int32) × (Nat → Int32) × (Nat → Int32) × (Nat → Int32) × (Nat → Int32) × (Nat → Int32) × (Nat → Int32) × Int32 × Int32 × Int32 × Int32 × Int32 × Int32 × (Nat → Int32) × (Nat → Int32) × (Nat → Int32)} (hQ : k_retV G K cX8_again 3 [oX8 a_t r_t q.2.2.2.2.2.2.2.2.2.2.2.2.2.1 q.2.2.2.2.2.2.2.2.2.2.2.2.2.2.1 v_texted v_at v_value v_digits v_open v_parishes q.2.2.2.2.2.2.2.2.2.2.2.2.2.2.2.2.2.2.1 v_coded q.2.2.2.2.2.2.2.2.2.2.2.2.2.2.2.1 q.2.2.2.2.2.2.2.2.2.2.2.2.2.2.2.2.1 q.2.2.2.2.2.2.2.2.2.2.2.2.2.2.2.2.2.1 v_traced v_imaged v_most, aI G a_p1 163 v_p1, aI G (r_t 1) 6 q.1, aI G (r_t 2) 6 q.2.1, aI G (r_t 3) 6 q.2.2.1, aI G (r_t 4) 6 q.2.2.2.1, aI G (r_t 5) 6 q.2.2.2.2.1, aI G (r_t 6) 24 q.2.2.2.2.2.1, aI G (r_t 7) 36 q.2.2.2.2.2.2.1, aI G (r_t 26) 5 q.2.2.2.2.2.2.2.1, aI G (r_t 27) 5 q.2.2.2.2.2.2.2.2.1, aI G (r_t 28) 5 q.2.2.2.2.2.2.2.2.2.1, aI G (r_t 29) 5 q.2.2.2.2.2.2.2.2.2.2.1, aI G (r_t 31) 10 q.2.2.2.2.2.2.2.2.2.2.2.1, aI G (r_t 32) 10 q.2.2.2.2.2.2.2.2.2.2.2.2.1, aI G (r_t 34) 8 q.2.2.2.2.2.2.2.2.2.2.2.2.2.2.2.2.2.2.2.1, aI G (r_t 35) 8 q.2.2.2.2.2.2.2.2.2.2.2.2.2.2.2.2.2.2.2.2.1, aI G (r_t 36) 8 q.2.2.2.2.2.2.2.2.2.2.2.2.2.2.2.2.2.2.2.2.2]) {k73 : Int32 → (Nat → Int32) → (Nat → Int32) → (Nat → Int32) → (Nat → Int32) → (Nat → Int32) → (Nat → Int32) → Option ((Nat → Int32) × (Nat → Int32) × (Nat → Int32) × (Nat → Int32) × (Nat → Int32) × (Nat → Int32) × (Nat → Int32) × (Nat → Int32) × (Nat → Int32) × (Nat → Int32) × (Nat → Int32) × (Nat → Int32) × (Nat → Int32) × Int32 × Int32 × Int32 × Int32 × Int32 × Int32 × (Nat → Int32) × (Nat → Int32) × (Nat → Int32))} (hk73 : ∀ (x2 : Int32) (w_kind : Nat → Int32) (w_v : Nat → Int32) (w_dead : Nat → Int32) (w_buried : Nat → Int32) (w_thrown : Nat → Int32) (w_rows : Nat → Int32), k73 x2 w_kind w_v w_dead w_buried w_thrown w_rows = some q → J G K 3 0 0 [oX8 a_t r_t v_people v_day v_texted v_at v_value v_digits v_open v_parishes v_holds v_coded v_seen v_inPlan v_inBook v_traced v_imaged v_most, aI G a_p1 163 v_p1, aI G (r_t 1) 6 w_kind, aI G (r_t 2) 6 w_v, aI G (r_t 3) 6 w_dead, aI G (r_t 4) 6 w_buried, aI G (r_t 5) 6 w_thrown, aI G (r_t 6) 24 w_rows, aI G (r_t 7) 36 v_hate, aI G (r_t 26) 5 v_seenBy, aI G (r_t 27) 5 v_seenOf, aI G (r_t 28) 5 v_seenIn, aI G (r_t 29) 5 v_seenSo, aI G (r_t 31) 10 v_goes, aI G (r_t 32) 10 v_whose, aI G (r_t 34) 8 v_bookBy, aI G (r_t 35) 8 v_bookOf, aI G (r_t 36) 8 v_bookHate] [(0, .ref a_t), (1, .ref a_p1), (2, .int x2)] 73 []) {x2 : Int32} {w_kind : Nat → Int32} {w_v : Nat → Int32} {w_dead : Nat → Int32} {w_buried : Nat → Int32} {w_thrown : Nat → Int32} {w_rows : Nat → Int32} (hf : f_X8_again_73_b v_p1 v_hate v_seenBy v_seenOf v_seenIn v_seenSo v_goes v_whose v_bookBy v_bookOf v_bookHate k73 x2 w_kind w_v w_dead w_buried w_thrown w_rows = some q) : J G K 3 0 0 [oX8 a_t r_t v_people v_day v_texted v_at v_value v_digits v_open v_parishes v_holds v_coded v_seen v_inPlan v_inBook v_traced v_imaged v_most, aI G a_p1 163 v_p1, aI G (r_t 1) 6 w_kind, aI G (r_t 2) 6 w_v, aI G (r_t 3) 6 w_dead, aI G (r_t 4) 6 w_buried, aI G (r_t 5) 6 w_thrown, aI G (r_t 6) 24 w_rows, aI G (r_t 7) 36 v_hate, aI G (r_t 26) 5 v_seenBy, aI G (r_t 27) 5 v_seenOf, aI G (r_t 28) 5 v_seenIn, aI G (r_t 29) 5 v_seenSo, aI G (r_t 31) 10 v_goes, aI G (r_t 32) 10 v_whose, aI G (r_t 34) 8 v_bookBy, aI G (r_t 35) 8 v_bookOf, aI G (r_t 36) 8 v_bookHate] [(0, .ref a_t), (1, .ref a_p1), (2, .int x2)] 73 [] := by
  unfold f_X8_again_73_b at hf
  refine j_iload_n C (pc := 73) 2 rfl rfl dX8_again_73 ?_
  refine j_bipush C (pc := 74) (v := 24) (by decide) dX8_again_74 ?_
  refine j_icmp_ge C (pc := 76) 97 dX8_again_76 (by decide) hf (fun hf => ?_) (fun hf => ?_)
  · refine j_iconst C (pc := 97) (v := 0) (by decide) dX8_again_97 ?_
    refine j_istore_n C (pc := 98) (L' := [(2, .int (0 : Int32)), (0, .ref a_t), (1, .ref a_p1)]) dX8_again_98 rfl (by decide) rfl ?_
    refine j_sub [1, 2, 0] rfl ?_
    exact t_X8_again_99 C hQ 1000 _ _ _ _ _ _ _ _ hf
  · refine j_aload_n C (pc := 79) 0 rfl rfl dX8_again_79 ?_
    refine j_get C (pc := 80) kc_X8 fl_X8_27 0 rfl rfl dX8_again_80 ?_
    refine j_iload_n C (pc := 83) 2 rfl rfl dX8_again_83 ?_
    refine j_aload_n C (pc := 84) 1 rfl rfl dX8_again_84 ?_
    refine j_bipush C (pc := 85) (v := 30) (by decide) dX8_again_85 ?_
    refine j_iload_n C (pc := 87) 2 rfl rfl dX8_again_87 ?_
    refine j_iadd C (pc := 88) dX8_again_88 ?_
    refine j_iald C (pc := 89) 1 rfl hf dX8_again_89 (fun hf => ?_)
    refine j_iast C (pc := 90) (ws' := [oX8 a_t r_t v_people v_day v_texted v_at v_value v_digits v_open v_parishes v_holds v_coded v_seen v_inPlan v_inBook v_traced v_imaged v_most, aI G a_p1 163 v_p1, aI G (r_t 1) 6 w_kind, aI G (r_t 2) 6 w_v, aI G (r_t 3) 6 w_dead, aI G (r_t 4) 6 w_buried, aI G (r_t 5) 6 w_thrown, aI G (r_t 6) 24 (upd w_rows x2.toNatClampNeg (v_p1 ((30 : Int32) + x2).toNatClampNeg)), aI G (r_t 7) 36 v_hate, aI G (r_t 26) 5 v_seenBy, aI G (r_t 27) 5 v_seenOf, aI G (r_t 28) 5 v_seenIn, aI G (r_t 29) 5 v_seenSo, aI G (r_t 31) 10 v_goes, aI G (r_t 32) 10 v_whose, aI G (r_t 34) 8 v_bookBy, aI G (r_t 35) 8 v_bookOf, aI G (r_t 36) 8 v_bookHate]) 7 rfl hf rfl dX8_again_90 (fun hf => ?_)
    refine j_iinc C (pc := 91) (L' := [(2, .int (x2 + (1 : Int32))), (0, .ref a_t), (1, .ref a_p1)]) (v := x2 + (1 : Int32)) dX8_again_91 (t := 2) rfl rfl (by decide) rfl ?_
    refine j_goto C (pc := 94) 73 dX8_again_94 (by decide) ?_
    refine j_sub [1, 2, 0] rfl ?_
    exact hk73 _ _ _ _ _ _ _ hf
theorem t_X8_again_73 {G : Gx} {K : Kx} (C : Cx G K cX8_again RX8 3 1) {a_t : Nat} {r_t : Nat → Nat} {a_p1 : Nat} {v_people : Int32} {v_day : Int32} {v_texted : Int32} {v_at : Int32} {v_value : Int32} {v_digits : Int32} {v_open : Int32} {v_parishes : Int32} {v_holds : Int32} {v_coded : Int32} {v_seen : Int32} {v_inPlan : Int32} {v_inBook : Int32} {v_traced : Int32} {v_imaged : Int32} {v_most : Int32} {v_p1 : Nat → Int32} {v_hate : Nat → Int32} {v_seenBy : Nat → Int32} {v_seenOf : Nat → Int32} {v_seenIn : Nat → Int32} {v_seenSo : Nat → Int32} {v_goes : Nat → Int32} {v_whose : Nat → Int32} {v_bookBy : Nat → Int32} {v_bookOf : Nat → Int32} {v_bookHate : Nat → Int32} {q : (Nat → Int32) × (Nat → Int32) × (Nat → Int32) × (Nat → Int32) × (Nat → Int32) × (Nat → Int32) × (Nat → Int32) × (Nat → Int32) × (Nat → Int32) × (Nat → Int32) × (Nat → Int32) × (Nat → Int32) × (Nat → Int32) × Int32 × Int32 × Int32 × Int32 × Int32 × Int32 × (Nat → Int32) × (Nat → Int32) × (Nat → Int32)} (hQ : k_retV G K cX8_again 3 [oX8 a_t r_t q.2.2.2.2.2.2.2.2.2.2.2.2.2.1 q.2.2.2.2.2.2.2.2.2.2.2.2.2.2.1 v_texted v_at v_value v_digits v_open v_parishes q.2.2.2.2.2.2.2.2.2.2.2.2.2.2.2.2.2.2.1 v_coded q.2.2.2.2.2.2.2.2.2.2.2.2.2.2.2.1 q.2.2.2.2.2.2.2.2.2.2.2.2.2.2.2.2.1 q.2.2.2.2.2.2.2.2.2.2.2.2.2.2.2.2.2.1 v_traced v_imaged v_most, aI G a_p1 163 v_p1, aI G (r_t 1) 6 q.1, aI G (r_t 2) 6 q.2.1, aI G (r_t 3) 6 q.2.2.1, aI G (r_t 4) 6 q.2.2.2.1, aI G (r_t 5) 6 q.2.2.2.2.1, aI G (r_t 6) 24 q.2.2.2.2.2.1, aI G (r_t 7) 36 q.2.2.2.2.2.2.1, aI G (r_t 26) 5 q.2.2.2.2.2.2.2.1, aI G (r_t 27) 5 q.2.2.2.2.2.2.2.2.1, aI G (r_t 28) 5 q.2.2.2.2.2.2.2.2.2.1, aI G (r_t 29) 5 q.2.2.2.2.2.2.2.2.2.2.1, aI G (r_t 31) 10 q.2.2.2.2.2.2.2.2.2.2.2.1, aI G (r_t 32) 10 q.2.2.2.2.2.2.2.2.2.2.2.2.1, aI G (r_t 34) 8 q.2.2.2.2.2.2.2.2.2.2.2.2.2.2.2.2.2.2.2.1, aI G (r_t 35) 8 q.2.2.2.2.2.2.2.2.2.2.2.2.2.2.2.2.2.2.2.2.1, aI G (r_t 36) 8 q.2.2.2.2.2.2.2.2.2.2.2.2.2.2.2.2.2.2.2.2.2]) : ∀ (n : Nat) (x2 : Int32) (w_kind : Nat → Int32) (w_v : Nat → Int32) (w_dead : Nat → Int32) (w_buried : Nat → Int32) (w_thrown : Nat → Int32) (w_rows : Nat → Int32), f_X8_again_73 v_p1 v_hate v_seenBy v_seenOf v_seenIn v_seenSo v_goes v_whose v_bookBy v_bookOf v_bookHate n x2 w_kind w_v w_dead w_buried w_thrown w_rows = some q → J G K 3 0 0 [oX8 a_t r_t v_people v_day v_texted v_at v_value v_digits v_open v_parishes v_holds v_coded v_seen v_inPlan v_inBook v_traced v_imaged v_most, aI G a_p1 163 v_p1, aI G (r_t 1) 6 w_kind, aI G (r_t 2) 6 w_v, aI G (r_t 3) 6 w_dead, aI G (r_t 4) 6 w_buried, aI G (r_t 5) 6 w_thrown, aI G (r_t 6) 24 w_rows, aI G (r_t 7) 36 v_hate, aI G (r_t 26) 5 v_seenBy, aI G (r_t 27) 5 v_seenOf, aI G (r_t 28) 5 v_seenIn, aI G (r_t 29) 5 v_seenSo, aI G (r_t 31) 10 v_goes, aI G (r_t 32) 10 v_whose, aI G (r_t 34) 8 v_bookBy, aI G (r_t 35) 8 v_bookOf, aI G (r_t 36) 8 v_bookHate] [(0, .ref a_t), (1, .ref a_p1), (2, .int x2)] 73 [] := by
  intro n
  induction n with
  | zero => intro x2 w_kind w_v w_dead w_buried w_thrown w_rows hf; cases hf
  | succ n ih => intro x2 w_kind w_v w_dead w_buried w_thrown w_rows hf; exact t_X8_again_73_b C hQ ih hf
def f_X8_again_2_b (v_p1 : Nat → Int32) (v_rows : Nat → Int32) (v_hate : Nat → Int32) (v_seenBy : Nat → Int32) (v_seenOf : Nat → Int32) (v_seenIn : Nat → Int32) (v_seenSo : Nat → Int32) (v_goes : Nat → Int32) (v_whose : Nat → Int32) (v_bookBy : Nat → Int32) (v_bookOf : Nat → Int32) (v_bookHate : Nat → Int32) (k2 : Int32 → (Nat → Int32) → (Nat → Int32) → (Nat → Int32) → (Nat → Int32) → (Nat → Int32) → Option ((Nat → Int32) × (Nat → Int32) × (Nat → Int32) × (Nat → Int32) × (Nat → Int32) × (Nat → Int32) × (Nat → Int32) × (Nat → Int32) × (Nat → Int32) × (Nat → Int32) × (Nat → Int32) × (Nat → Int32) × (Nat → Int32) × Int32 × Int32 × Int32 × Int32 × Int32 × Int32 × (Nat → Int32) × (Nat → Int32) × (Nat → Int32))) (x2 : Int32) (w_kind : Nat → Int32) (w_v : Nat → Int32) (w_dead : Nat → Int32) (w_buried : Nat → Int32) (w_thrown : Nat → Int32) : Option ((Nat → Int32) × (Nat → Int32) × (Nat → Int32) × (Nat → Int32) × (Nat → Int32) × (Nat → Int32) × (Nat → Int32) × (Nat → Int32) × (Nat → Int32) × (Nat → Int32) × (Nat → Int32) × (Nat → Int32) × (Nat → Int32) × Int32 × Int32 × Int32 × Int32 × Int32 × Int32 × (Nat → Int32) × (Nat → Int32) × (Nat → Int32)) := (if (6 : Int32) ≤ x2 then (f_X8_again_73 v_p1 v_hate v_seenBy v_seenOf v_seenIn v_seenSo v_goes v_whose v_bookBy v_bookOf v_bookHate 1000 (0 : Int32) w_kind w_v w_dead w_buried w_thrown v_rows) else (gd x2 163 (gd x2 6 (gd ((6 : Int32) + x2) 163 (gd x2 6 (gd ((12 : Int32) + x2) 163 (gd x2 6 (gd ((18 : Int32) + x2) 163 (gd x2 6 (gd ((24 : Int32) + x2) 163 (gd x2 6 (k2 (x2 + (1 : Int32)) (upd w_kind x2.toNatClampNeg (v_p1 x2.toNatClampNeg)) (upd w_v x2.toNatClampNeg (v_p1 ((6 : Int32) + x2).toNatClampNeg)) (upd w_dead x2.toNatClampNeg (v_p1 ((12 : Int32) + x2).toNatClampNeg)) (upd w_buried x2.toNatClampNeg (v_p1 ((18 : Int32) + x2).toNatClampNeg)) (upd w_thrown x2.toNatClampNeg (v_p1 ((24 : Int32) + x2).toNatClampNeg))))))))))))))
def f_X8_again_2 (v_p1 : Nat → Int32) (v_rows : Nat → Int32) (v_hate : Nat → Int32) (v_seenBy : Nat → Int32) (v_seenOf : Nat → Int32) (v_seenIn : Nat → Int32) (v_seenSo : Nat → Int32) (v_goes : Nat → Int32) (v_whose : Nat → Int32) (v_bookBy : Nat → Int32) (v_bookOf : Nat → Int32) (v_bookHate : Nat → Int32) : Nat → Int32 → (Nat → Int32) → (Nat → Int32) → (Nat → Int32) → (Nat → Int32) → (Nat → Int32) → Option ((Nat → Int32) × (Nat → Int32) × (Nat → Int32) × (Nat → Int32) × (Nat → Int32) × (Nat → Int32) × (Nat → Int32) × (Nat → Int32) × (Nat → Int32) × (Nat → Int32) × (Nat → Int32) × (Nat → Int32) × (Nat → Int32) × Int32 × Int32 × Int32 × Int32 × Int32 × Int32 × (Nat → Int32) × (Nat → Int32) × (Nat → Int32))
  | 0 => fun _ _ _ _ _ _ => none
  | n + 1 => f_X8_again_2_b v_p1 v_rows v_hate v_seenBy v_seenOf v_seenIn v_seenSo v_goes v_whose v_bookBy v_bookOf v_bookHate (f_X8_again_2 v_p1 v_rows v_hate v_seenBy v_seenOf v_seenIn v_seenSo v_goes v_whose v_bookBy v_bookOf v_bookHate n)
set_option maxRecDepth 20000 in
set_option maxHeartbeats 1000000 in
theorem t_X8_again_2_b {G : Gx} {K : Kx} (C : Cx G K cX8_again RX8 3 1) {a_t : Nat} {r_t : Nat → Nat} {a_p1 : Nat} {v_people : Int32} {v_day : Int32} {v_texted : Int32} {v_at : Int32} {v_value : Int32} {v_digits : Int32} {v_open : Int32} {v_parishes : Int32} {v_holds : Int32} {v_coded : Int32} {v_seen : Int32} {v_inPlan : Int32} {v_inBook : Int32} {v_traced : Int32} {v_imaged : Int32} {v_most : Int32} {v_p1 : Nat → Int32} {v_rows : Nat → Int32} {v_hate : Nat → Int32} {v_seenBy : Nat → Int32} {v_seenOf : Nat → Int32} {v_seenIn : Nat → Int32} {v_seenSo : Nat → Int32} {v_goes : Nat → Int32} {v_whose : Nat → Int32} {v_bookBy : Nat → Int32} {v_bookOf : Nat → Int32} {v_bookHate : Nat → Int32} {q : (Nat → Int32) × (Nat → Int32) × (Nat → Int32) × (Nat → Int32) × (Nat → Int32) × (Nat → Int32) × (Nat → Int32) × (Nat → Int32) × (Nat → Int32) × (Nat → Int32) × (Nat → Int32) × (Nat → Int32) × (Nat → Int32) × Int32 × Int32 × Int32 × Int32 × Int32 × Int32 × (Nat → Int32) × (Nat → Int32) × (Nat → Int32)} (hQ : k_retV G K cX8_again 3 [oX8 a_t r_t q.2.2.2.2.2.2.2.2.2.2.2.2.2.1 q.2.2.2.2.2.2.2.2.2.2.2.2.2.2.1 v_texted v_at v_value v_digits v_open v_parishes q.2.2.2.2.2.2.2.2.2.2.2.2.2.2.2.2.2.2.1 v_coded q.2.2.2.2.2.2.2.2.2.2.2.2.2.2.2.1 q.2.2.2.2.2.2.2.2.2.2.2.2.2.2.2.2.1 q.2.2.2.2.2.2.2.2.2.2.2.2.2.2.2.2.2.1 v_traced v_imaged v_most, aI G a_p1 163 v_p1, aI G (r_t 1) 6 q.1, aI G (r_t 2) 6 q.2.1, aI G (r_t 3) 6 q.2.2.1, aI G (r_t 4) 6 q.2.2.2.1, aI G (r_t 5) 6 q.2.2.2.2.1, aI G (r_t 6) 24 q.2.2.2.2.2.1, aI G (r_t 7) 36 q.2.2.2.2.2.2.1, aI G (r_t 26) 5 q.2.2.2.2.2.2.2.1, aI G (r_t 27) 5 q.2.2.2.2.2.2.2.2.1, aI G (r_t 28) 5 q.2.2.2.2.2.2.2.2.2.1, aI G (r_t 29) 5 q.2.2.2.2.2.2.2.2.2.2.1, aI G (r_t 31) 10 q.2.2.2.2.2.2.2.2.2.2.2.1, aI G (r_t 32) 10 q.2.2.2.2.2.2.2.2.2.2.2.2.1, aI G (r_t 34) 8 q.2.2.2.2.2.2.2.2.2.2.2.2.2.2.2.2.2.2.2.1, aI G (r_t 35) 8 q.2.2.2.2.2.2.2.2.2.2.2.2.2.2.2.2.2.2.2.2.1, aI G (r_t 36) 8 q.2.2.2.2.2.2.2.2.2.2.2.2.2.2.2.2.2.2.2.2.2]) {k2 : Int32 → (Nat → Int32) → (Nat → Int32) → (Nat → Int32) → (Nat → Int32) → (Nat → Int32) → Option ((Nat → Int32) × (Nat → Int32) × (Nat → Int32) × (Nat → Int32) × (Nat → Int32) × (Nat → Int32) × (Nat → Int32) × (Nat → Int32) × (Nat → Int32) × (Nat → Int32) × (Nat → Int32) × (Nat → Int32) × (Nat → Int32) × Int32 × Int32 × Int32 × Int32 × Int32 × Int32 × (Nat → Int32) × (Nat → Int32) × (Nat → Int32))} (hk2 : ∀ (x2 : Int32) (w_kind : Nat → Int32) (w_v : Nat → Int32) (w_dead : Nat → Int32) (w_buried : Nat → Int32) (w_thrown : Nat → Int32), k2 x2 w_kind w_v w_dead w_buried w_thrown = some q → J G K 3 0 0 [oX8 a_t r_t v_people v_day v_texted v_at v_value v_digits v_open v_parishes v_holds v_coded v_seen v_inPlan v_inBook v_traced v_imaged v_most, aI G a_p1 163 v_p1, aI G (r_t 1) 6 w_kind, aI G (r_t 2) 6 w_v, aI G (r_t 3) 6 w_dead, aI G (r_t 4) 6 w_buried, aI G (r_t 5) 6 w_thrown, aI G (r_t 6) 24 v_rows, aI G (r_t 7) 36 v_hate, aI G (r_t 26) 5 v_seenBy, aI G (r_t 27) 5 v_seenOf, aI G (r_t 28) 5 v_seenIn, aI G (r_t 29) 5 v_seenSo, aI G (r_t 31) 10 v_goes, aI G (r_t 32) 10 v_whose, aI G (r_t 34) 8 v_bookBy, aI G (r_t 35) 8 v_bookOf, aI G (r_t 36) 8 v_bookHate] [(0, .ref a_t), (1, .ref a_p1), (2, .int x2)] 2 []) {x2 : Int32} {w_kind : Nat → Int32} {w_v : Nat → Int32} {w_dead : Nat → Int32} {w_buried : Nat → Int32} {w_thrown : Nat → Int32} (hf : f_X8_again_2_b v_p1 v_rows v_hate v_seenBy v_seenOf v_seenIn v_seenSo v_goes v_whose v_bookBy v_bookOf v_bookHate k2 x2 w_kind w_v w_dead w_buried w_thrown = some q) : J G K 3 0 0 [oX8 a_t r_t v_people v_day v_texted v_at v_value v_digits v_open v_parishes v_holds v_coded v_seen v_inPlan v_inBook v_traced v_imaged v_most, aI G a_p1 163 v_p1, aI G (r_t 1) 6 w_kind, aI G (r_t 2) 6 w_v, aI G (r_t 3) 6 w_dead, aI G (r_t 4) 6 w_buried, aI G (r_t 5) 6 w_thrown, aI G (r_t 6) 24 v_rows, aI G (r_t 7) 36 v_hate, aI G (r_t 26) 5 v_seenBy, aI G (r_t 27) 5 v_seenOf, aI G (r_t 28) 5 v_seenIn, aI G (r_t 29) 5 v_seenSo, aI G (r_t 31) 10 v_goes, aI G (r_t 32) 10 v_whose, aI G (r_t 34) 8 v_bookBy, aI G (r_t 35) 8 v_bookOf, aI G (r_t 36) 8 v_bookHate] [(0, .ref a_t), (1, .ref a_p1), (2, .int x2)] 2 [] := by
  unfold f_X8_again_2_b at hf
  refine j_iload_n C (pc := 2) 2 rfl rfl dX8_again_2 ?_
  refine j_bipush C (pc := 3) (v := 6) (by decide) dX8_again_3 ?_
  refine j_icmp_ge C (pc := 5) 71 dX8_again_5 (by decide) hf (fun hf => ?_) (fun hf => ?_)
  · refine j_iconst C (pc := 71) (v := 0) (by decide) dX8_again_71 ?_
    refine j_istore_n C (pc := 72) (L' := [(2, .int (0 : Int32)), (0, .ref a_t), (1, .ref a_p1)]) dX8_again_72 rfl (by decide) rfl ?_
    refine j_sub [1, 2, 0] rfl ?_
    exact t_X8_again_73 C hQ 1000 _ _ _ _ _ _ _ hf
  · refine j_aload_n C (pc := 8) 0 rfl rfl dX8_again_8 ?_
    refine j_get C (pc := 9) kc_X8 fl_X8_9 0 rfl rfl dX8_again_9 ?_
    refine j_iload_n C (pc := 12) 2 rfl rfl dX8_again_12 ?_
    refine j_aload_n C (pc := 13) 1 rfl rfl dX8_again_13 ?_
    refine j_iload_n C (pc := 14) 2 rfl rfl dX8_again_14 ?_
    refine j_iald C (pc := 15) 1 rfl hf dX8_again_15 (fun hf => ?_)
    refine j_iast C (pc := 16) (ws' := [oX8 a_t r_t v_people v_day v_texted v_at v_value v_digits v_open v_parishes v_holds v_coded v_seen v_inPlan v_inBook v_traced v_imaged v_most, aI G a_p1 163 v_p1, aI G (r_t 1) 6 (upd w_kind x2.toNatClampNeg (v_p1 x2.toNatClampNeg)), aI G (r_t 2) 6 w_v, aI G (r_t 3) 6 w_dead, aI G (r_t 4) 6 w_buried, aI G (r_t 5) 6 w_thrown, aI G (r_t 6) 24 v_rows, aI G (r_t 7) 36 v_hate, aI G (r_t 26) 5 v_seenBy, aI G (r_t 27) 5 v_seenOf, aI G (r_t 28) 5 v_seenIn, aI G (r_t 29) 5 v_seenSo, aI G (r_t 31) 10 v_goes, aI G (r_t 32) 10 v_whose, aI G (r_t 34) 8 v_bookBy, aI G (r_t 35) 8 v_bookOf, aI G (r_t 36) 8 v_bookHate]) 2 rfl hf rfl dX8_again_16 (fun hf => ?_)
    refine j_aload_n C (pc := 17) 0 rfl rfl dX8_again_17 ?_
    refine j_get C (pc := 18) kc_X8 fl_X8_15 0 rfl rfl dX8_again_18 ?_
    refine j_iload_n C (pc := 21) 2 rfl rfl dX8_again_21 ?_
    refine j_aload_n C (pc := 22) 1 rfl rfl dX8_again_22 ?_
    refine j_bipush C (pc := 23) (v := 6) (by decide) dX8_again_23 ?_
    refine j_iload_n C (pc := 25) 2 rfl rfl dX8_again_25 ?_
    refine j_iadd C (pc := 26) dX8_again_26 ?_
    refine j_iald C (pc := 27) 1 rfl hf dX8_again_27 (fun hf => ?_)
    refine j_iast C (pc := 28) (ws' := [oX8 a_t r_t v_people v_day v_texted v_at v_value v_digits v_open v_parishes v_holds v_coded v_seen v_inPlan v_inBook v_traced v_imaged v_most, aI G a_p1 163 v_p1, aI G (r_t 1) 6 (upd w_kind x2.toNatClampNeg (v_p1 x2.toNatClampNeg)), aI G (r_t 2) 6 (upd w_v x2.toNatClampNeg (v_p1 ((6 : Int32) + x2).toNatClampNeg)), aI G (r_t 3) 6 w_dead, aI G (r_t 4) 6 w_buried, aI G (r_t 5) 6 w_thrown, aI G (r_t 6) 24 v_rows, aI G (r_t 7) 36 v_hate, aI G (r_t 26) 5 v_seenBy, aI G (r_t 27) 5 v_seenOf, aI G (r_t 28) 5 v_seenIn, aI G (r_t 29) 5 v_seenSo, aI G (r_t 31) 10 v_goes, aI G (r_t 32) 10 v_whose, aI G (r_t 34) 8 v_bookBy, aI G (r_t 35) 8 v_bookOf, aI G (r_t 36) 8 v_bookHate]) 3 rfl hf rfl dX8_again_28 (fun hf => ?_)
    refine j_aload_n C (pc := 29) 0 rfl rfl dX8_again_29 ?_
    refine j_get C (pc := 30) kc_X8 fl_X8_18 0 rfl rfl dX8_again_30 ?_
    refine j_iload_n C (pc := 33) 2 rfl rfl dX8_again_33 ?_
    refine j_aload_n C (pc := 34) 1 rfl rfl dX8_again_34 ?_
    refine j_bipush C (pc := 35) (v := 12) (by decide) dX8_again_35 ?_
    refine j_iload_n C (pc := 37) 2 rfl rfl dX8_again_37 ?_
    refine j_iadd C (pc := 38) dX8_again_38 ?_
    refine j_iald C (pc := 39) 1 rfl hf dX8_again_39 (fun hf => ?_)
    refine j_iast C (pc := 40) (ws' := [oX8 a_t r_t v_people v_day v_texted v_at v_value v_digits v_open v_parishes v_holds v_coded v_seen v_inPlan v_inBook v_traced v_imaged v_most, aI G a_p1 163 v_p1, aI G (r_t 1) 6 (upd w_kind x2.toNatClampNeg (v_p1 x2.toNatClampNeg)), aI G (r_t 2) 6 (upd w_v x2.toNatClampNeg (v_p1 ((6 : Int32) + x2).toNatClampNeg)), aI G (r_t 3) 6 (upd w_dead x2.toNatClampNeg (v_p1 ((12 : Int32) + x2).toNatClampNeg)), aI G (r_t 4) 6 w_buried, aI G (r_t 5) 6 w_thrown, aI G (r_t 6) 24 v_rows, aI G (r_t 7) 36 v_hate, aI G (r_t 26) 5 v_seenBy, aI G (r_t 27) 5 v_seenOf, aI G (r_t 28) 5 v_seenIn, aI G (r_t 29) 5 v_seenSo, aI G (r_t 31) 10 v_goes, aI G (r_t 32) 10 v_whose, aI G (r_t 34) 8 v_bookBy, aI G (r_t 35) 8 v_bookOf, aI G (r_t 36) 8 v_bookHate]) 4 rfl hf rfl dX8_again_40 (fun hf => ?_)
    refine j_aload_n C (pc := 41) 0 rfl rfl dX8_again_41 ?_
    refine j_get C (pc := 42) kc_X8 fl_X8_21 0 rfl rfl dX8_again_42 ?_
    refine j_iload_n C (pc := 45) 2 rfl rfl dX8_again_45 ?_
    refine j_aload_n C (pc := 46) 1 rfl rfl dX8_again_46 ?_
    refine j_bipush C (pc := 47) (v := 18) (by decide) dX8_again_47 ?_
    refine j_iload_n C (pc := 49) 2 rfl rfl dX8_again_49 ?_
    refine j_iadd C (pc := 50) dX8_again_50 ?_
    refine j_iald C (pc := 51) 1 rfl hf dX8_again_51 (fun hf => ?_)
    refine j_iast C (pc := 52) (ws' := [oX8 a_t r_t v_people v_day v_texted v_at v_value v_digits v_open v_parishes v_holds v_coded v_seen v_inPlan v_inBook v_traced v_imaged v_most, aI G a_p1 163 v_p1, aI G (r_t 1) 6 (upd w_kind x2.toNatClampNeg (v_p1 x2.toNatClampNeg)), aI G (r_t 2) 6 (upd w_v x2.toNatClampNeg (v_p1 ((6 : Int32) + x2).toNatClampNeg)), aI G (r_t 3) 6 (upd w_dead x2.toNatClampNeg (v_p1 ((12 : Int32) + x2).toNatClampNeg)), aI G (r_t 4) 6 (upd w_buried x2.toNatClampNeg (v_p1 ((18 : Int32) + x2).toNatClampNeg)), aI G (r_t 5) 6 w_thrown, aI G (r_t 6) 24 v_rows, aI G (r_t 7) 36 v_hate, aI G (r_t 26) 5 v_seenBy, aI G (r_t 27) 5 v_seenOf, aI G (r_t 28) 5 v_seenIn, aI G (r_t 29) 5 v_seenSo, aI G (r_t 31) 10 v_goes, aI G (r_t 32) 10 v_whose, aI G (r_t 34) 8 v_bookBy, aI G (r_t 35) 8 v_bookOf, aI G (r_t 36) 8 v_bookHate]) 5 rfl hf rfl dX8_again_52 (fun hf => ?_)
    refine j_aload_n C (pc := 53) 0 rfl rfl dX8_again_53 ?_
    refine j_get C (pc := 54) kc_X8 fl_X8_24 0 rfl rfl dX8_again_54 ?_
    refine j_iload_n C (pc := 57) 2 rfl rfl dX8_again_57 ?_
    refine j_aload_n C (pc := 58) 1 rfl rfl dX8_again_58 ?_
    refine j_bipush C (pc := 59) (v := 24) (by decide) dX8_again_59 ?_
    refine j_iload_n C (pc := 61) 2 rfl rfl dX8_again_61 ?_
    refine j_iadd C (pc := 62) dX8_again_62 ?_
    refine j_iald C (pc := 63) 1 rfl hf dX8_again_63 (fun hf => ?_)
    refine j_iast C (pc := 64) (ws' := [oX8 a_t r_t v_people v_day v_texted v_at v_value v_digits v_open v_parishes v_holds v_coded v_seen v_inPlan v_inBook v_traced v_imaged v_most, aI G a_p1 163 v_p1, aI G (r_t 1) 6 (upd w_kind x2.toNatClampNeg (v_p1 x2.toNatClampNeg)), aI G (r_t 2) 6 (upd w_v x2.toNatClampNeg (v_p1 ((6 : Int32) + x2).toNatClampNeg)), aI G (r_t 3) 6 (upd w_dead x2.toNatClampNeg (v_p1 ((12 : Int32) + x2).toNatClampNeg)), aI G (r_t 4) 6 (upd w_buried x2.toNatClampNeg (v_p1 ((18 : Int32) + x2).toNatClampNeg)), aI G (r_t 5) 6 (upd w_thrown x2.toNatClampNeg (v_p1 ((24 : Int32) + x2).toNatClampNeg)), aI G (r_t 6) 24 v_rows, aI G (r_t 7) 36 v_hate, aI G (r_t 26) 5 v_seenBy, aI G (r_t 27) 5 v_seenOf, aI G (r_t 28) 5 v_seenIn, aI G (r_t 29) 5 v_seenSo, aI G (r_t 31) 10 v_goes, aI G (r_t 32) 10 v_whose, aI G (r_t 34) 8 v_bookBy, aI G (r_t 35) 8 v_bookOf, aI G (r_t 36) 8 v_bookHate]) 6 rfl hf rfl dX8_again_64 (fun hf => ?_)
    refine j_iinc C (pc := 65) (L' := [(2, .int (x2 + (1 : Int32))), (0, .ref a_t), (1, .ref a_p1)]) (v := x2 + (1 : Int32)) dX8_again_65 (t := 2) rfl rfl (by decide) rfl ?_
    refine j_goto C (pc := 68) 2 dX8_again_68 (by decide) ?_
    refine j_sub [1, 2, 0] rfl ?_
    exact hk2 _ _ _ _ _ _ hf
theorem t_X8_again_2 {G : Gx} {K : Kx} (C : Cx G K cX8_again RX8 3 1) {a_t : Nat} {r_t : Nat → Nat} {a_p1 : Nat} {v_people : Int32} {v_day : Int32} {v_texted : Int32} {v_at : Int32} {v_value : Int32} {v_digits : Int32} {v_open : Int32} {v_parishes : Int32} {v_holds : Int32} {v_coded : Int32} {v_seen : Int32} {v_inPlan : Int32} {v_inBook : Int32} {v_traced : Int32} {v_imaged : Int32} {v_most : Int32} {v_p1 : Nat → Int32} {v_rows : Nat → Int32} {v_hate : Nat → Int32} {v_seenBy : Nat → Int32} {v_seenOf : Nat → Int32} {v_seenIn : Nat → Int32} {v_seenSo : Nat → Int32} {v_goes : Nat → Int32} {v_whose : Nat → Int32} {v_bookBy : Nat → Int32} {v_bookOf : Nat → Int32} {v_bookHate : Nat → Int32} {q : (Nat → Int32) × (Nat → Int32) × (Nat → Int32) × (Nat → Int32) × (Nat → Int32) × (Nat → Int32) × (Nat → Int32) × (Nat → Int32) × (Nat → Int32) × (Nat → Int32) × (Nat → Int32) × (Nat → Int32) × (Nat → Int32) × Int32 × Int32 × Int32 × Int32 × Int32 × Int32 × (Nat → Int32) × (Nat → Int32) × (Nat → Int32)} (hQ : k_retV G K cX8_again 3 [oX8 a_t r_t q.2.2.2.2.2.2.2.2.2.2.2.2.2.1 q.2.2.2.2.2.2.2.2.2.2.2.2.2.2.1 v_texted v_at v_value v_digits v_open v_parishes q.2.2.2.2.2.2.2.2.2.2.2.2.2.2.2.2.2.2.1 v_coded q.2.2.2.2.2.2.2.2.2.2.2.2.2.2.2.1 q.2.2.2.2.2.2.2.2.2.2.2.2.2.2.2.2.1 q.2.2.2.2.2.2.2.2.2.2.2.2.2.2.2.2.2.1 v_traced v_imaged v_most, aI G a_p1 163 v_p1, aI G (r_t 1) 6 q.1, aI G (r_t 2) 6 q.2.1, aI G (r_t 3) 6 q.2.2.1, aI G (r_t 4) 6 q.2.2.2.1, aI G (r_t 5) 6 q.2.2.2.2.1, aI G (r_t 6) 24 q.2.2.2.2.2.1, aI G (r_t 7) 36 q.2.2.2.2.2.2.1, aI G (r_t 26) 5 q.2.2.2.2.2.2.2.1, aI G (r_t 27) 5 q.2.2.2.2.2.2.2.2.1, aI G (r_t 28) 5 q.2.2.2.2.2.2.2.2.2.1, aI G (r_t 29) 5 q.2.2.2.2.2.2.2.2.2.2.1, aI G (r_t 31) 10 q.2.2.2.2.2.2.2.2.2.2.2.1, aI G (r_t 32) 10 q.2.2.2.2.2.2.2.2.2.2.2.2.1, aI G (r_t 34) 8 q.2.2.2.2.2.2.2.2.2.2.2.2.2.2.2.2.2.2.2.1, aI G (r_t 35) 8 q.2.2.2.2.2.2.2.2.2.2.2.2.2.2.2.2.2.2.2.2.1, aI G (r_t 36) 8 q.2.2.2.2.2.2.2.2.2.2.2.2.2.2.2.2.2.2.2.2.2]) : ∀ (n : Nat) (x2 : Int32) (w_kind : Nat → Int32) (w_v : Nat → Int32) (w_dead : Nat → Int32) (w_buried : Nat → Int32) (w_thrown : Nat → Int32), f_X8_again_2 v_p1 v_rows v_hate v_seenBy v_seenOf v_seenIn v_seenSo v_goes v_whose v_bookBy v_bookOf v_bookHate n x2 w_kind w_v w_dead w_buried w_thrown = some q → J G K 3 0 0 [oX8 a_t r_t v_people v_day v_texted v_at v_value v_digits v_open v_parishes v_holds v_coded v_seen v_inPlan v_inBook v_traced v_imaged v_most, aI G a_p1 163 v_p1, aI G (r_t 1) 6 w_kind, aI G (r_t 2) 6 w_v, aI G (r_t 3) 6 w_dead, aI G (r_t 4) 6 w_buried, aI G (r_t 5) 6 w_thrown, aI G (r_t 6) 24 v_rows, aI G (r_t 7) 36 v_hate, aI G (r_t 26) 5 v_seenBy, aI G (r_t 27) 5 v_seenOf, aI G (r_t 28) 5 v_seenIn, aI G (r_t 29) 5 v_seenSo, aI G (r_t 31) 10 v_goes, aI G (r_t 32) 10 v_whose, aI G (r_t 34) 8 v_bookBy, aI G (r_t 35) 8 v_bookOf, aI G (r_t 36) 8 v_bookHate] [(0, .ref a_t), (1, .ref a_p1), (2, .int x2)] 2 [] := by
  intro n
  induction n with
  | zero => intro x2 w_kind w_v w_dead w_buried w_thrown hf; cases hf
  | succ n ih => intro x2 w_kind w_v w_dead w_buried w_thrown hf; exact t_X8_again_2_b C hQ ih hf
def f_X8_again (v_p1 : Nat → Int32) (v_kind : Nat → Int32) (v_v : Nat → Int32) (v_dead : Nat → Int32) (v_buried : Nat → Int32) (v_thrown : Nat → Int32) (v_rows : Nat → Int32) (v_hate : Nat → Int32) (v_seenBy : Nat → Int32) (v_seenOf : Nat → Int32) (v_seenIn : Nat → Int32) (v_seenSo : Nat → Int32) (v_goes : Nat → Int32) (v_whose : Nat → Int32) (v_bookBy : Nat → Int32) (v_bookOf : Nat → Int32) (v_bookHate : Nat → Int32) : Option ((Nat → Int32) × (Nat → Int32) × (Nat → Int32) × (Nat → Int32) × (Nat → Int32) × (Nat → Int32) × (Nat → Int32) × (Nat → Int32) × (Nat → Int32) × (Nat → Int32) × (Nat → Int32) × (Nat → Int32) × (Nat → Int32) × Int32 × Int32 × Int32 × Int32 × Int32 × Int32 × (Nat → Int32) × (Nat → Int32) × (Nat → Int32)) := (f_X8_again_2 v_p1 v_rows v_hate v_seenBy v_seenOf v_seenIn v_seenSo v_goes v_whose v_bookBy v_bookOf v_bookHate 1000 (0 : Int32) v_kind v_v v_dead v_buried v_thrown)
set_option maxRecDepth 20000 in
set_option maxHeartbeats 1000000 in
theorem t_X8_again {G : Gx} {K : Kx} (C : Cx G K cX8_again RX8 3 1) {a_t : Nat} {r_t : Nat → Nat} {a_p1 : Nat} {v_people : Int32} {v_day : Int32} {v_texted : Int32} {v_at : Int32} {v_value : Int32} {v_digits : Int32} {v_open : Int32} {v_parishes : Int32} {v_holds : Int32} {v_coded : Int32} {v_seen : Int32} {v_inPlan : Int32} {v_inBook : Int32} {v_traced : Int32} {v_imaged : Int32} {v_most : Int32} {v_p1 : Nat → Int32} {v_kind : Nat → Int32} {v_v : Nat → Int32} {v_dead : Nat → Int32} {v_buried : Nat → Int32} {v_thrown : Nat → Int32} {v_rows : Nat → Int32} {v_hate : Nat → Int32} {v_seenBy : Nat → Int32} {v_seenOf : Nat → Int32} {v_seenIn : Nat → Int32} {v_seenSo : Nat → Int32} {v_goes : Nat → Int32} {v_whose : Nat → Int32} {v_bookBy : Nat → Int32} {v_bookOf : Nat → Int32} {v_bookHate : Nat → Int32} {q : (Nat → Int32) × (Nat → Int32) × (Nat → Int32) × (Nat → Int32) × (Nat → Int32) × (Nat → Int32) × (Nat → Int32) × (Nat → Int32) × (Nat → Int32) × (Nat → Int32) × (Nat → Int32) × (Nat → Int32) × (Nat → Int32) × Int32 × Int32 × Int32 × Int32 × Int32 × Int32 × (Nat → Int32) × (Nat → Int32) × (Nat → Int32)} (hQ : k_retV G K cX8_again 3 [oX8 a_t r_t q.2.2.2.2.2.2.2.2.2.2.2.2.2.1 q.2.2.2.2.2.2.2.2.2.2.2.2.2.2.1 v_texted v_at v_value v_digits v_open v_parishes q.2.2.2.2.2.2.2.2.2.2.2.2.2.2.2.2.2.2.1 v_coded q.2.2.2.2.2.2.2.2.2.2.2.2.2.2.2.1 q.2.2.2.2.2.2.2.2.2.2.2.2.2.2.2.2.1 q.2.2.2.2.2.2.2.2.2.2.2.2.2.2.2.2.2.1 v_traced v_imaged v_most, aI G a_p1 163 v_p1, aI G (r_t 1) 6 q.1, aI G (r_t 2) 6 q.2.1, aI G (r_t 3) 6 q.2.2.1, aI G (r_t 4) 6 q.2.2.2.1, aI G (r_t 5) 6 q.2.2.2.2.1, aI G (r_t 6) 24 q.2.2.2.2.2.1, aI G (r_t 7) 36 q.2.2.2.2.2.2.1, aI G (r_t 26) 5 q.2.2.2.2.2.2.2.1, aI G (r_t 27) 5 q.2.2.2.2.2.2.2.2.1, aI G (r_t 28) 5 q.2.2.2.2.2.2.2.2.2.1, aI G (r_t 29) 5 q.2.2.2.2.2.2.2.2.2.2.1, aI G (r_t 31) 10 q.2.2.2.2.2.2.2.2.2.2.2.1, aI G (r_t 32) 10 q.2.2.2.2.2.2.2.2.2.2.2.2.1, aI G (r_t 34) 8 q.2.2.2.2.2.2.2.2.2.2.2.2.2.2.2.2.2.2.2.1, aI G (r_t 35) 8 q.2.2.2.2.2.2.2.2.2.2.2.2.2.2.2.2.2.2.2.2.1, aI G (r_t 36) 8 q.2.2.2.2.2.2.2.2.2.2.2.2.2.2.2.2.2.2.2.2.2]) (hf : f_X8_again v_p1 v_kind v_v v_dead v_buried v_thrown v_rows v_hate v_seenBy v_seenOf v_seenIn v_seenSo v_goes v_whose v_bookBy v_bookOf v_bookHate = some q) : J G K 3 0 0 [oX8 a_t r_t v_people v_day v_texted v_at v_value v_digits v_open v_parishes v_holds v_coded v_seen v_inPlan v_inBook v_traced v_imaged v_most, aI G a_p1 163 v_p1, aI G (r_t 1) 6 v_kind, aI G (r_t 2) 6 v_v, aI G (r_t 3) 6 v_dead, aI G (r_t 4) 6 v_buried, aI G (r_t 5) 6 v_thrown, aI G (r_t 6) 24 v_rows, aI G (r_t 7) 36 v_hate, aI G (r_t 26) 5 v_seenBy, aI G (r_t 27) 5 v_seenOf, aI G (r_t 28) 5 v_seenIn, aI G (r_t 29) 5 v_seenSo, aI G (r_t 31) 10 v_goes, aI G (r_t 32) 10 v_whose, aI G (r_t 34) 8 v_bookBy, aI G (r_t 35) 8 v_bookOf, aI G (r_t 36) 8 v_bookHate] [(0, .ref a_t), (1, .ref a_p1)] 0 [] := by
  unfold f_X8_again at hf
  refine j_iconst C (pc := 0) (v := 0) (by decide) dX8_again_0 ?_
  refine j_istore_n C (pc := 1) (L' := [(2, .int (0 : Int32)), (0, .ref a_t), (1, .ref a_p1)]) dX8_again_1 rfl (by decide) rfl ?_
  refine j_sub [1, 2, 0] rfl ?_
  exact t_X8_again_2 C hQ 1000 _ _ _ _ _ _ hf
def ct_X8_again (G : Gx) (l : Launch) (F : (Nat → Int32) → (Nat → Int32) → (Nat → Int32) → (Nat → Int32) → (Nat → Int32) → (Nat → Int32) → (Nat → Int32) → (Nat → Int32) → (Nat → Int32) → (Nat → Int32) → (Nat → Int32) → (Nat → Int32) → (Nat → Int32) → (Nat → Int32) → (Nat → Int32) → (Nat → Int32) → (Nat → Int32) → Option ((Nat → Int32) × (Nat → Int32) × (Nat → Int32) × (Nat → Int32) × (Nat → Int32) × (Nat → Int32) × (Nat → Int32) × (Nat → Int32) × (Nat → Int32) × (Nat → Int32) × (Nat → Int32) × (Nat → Int32) × (Nat → Int32) × Int32 × Int32 × Int32 × Int32 × Int32 × Int32 × (Nat → Int32) × (Nat → Int32) × (Nat → Int32))) (lv : Nat) : Prop := ∀ (a_t : Nat) (r_t : Nat → Nat) (a_p1 : Nat) (v_people : Int32) (v_day : Int32) (v_texted : Int32) (v_at : Int32) (v_value : Int32) (v_digits : Int32) (v_open : Int32) (v_parishes : Int32) (v_holds : Int32) (v_coded : Int32) (v_seen : Int32) (v_inPlan : Int32) (v_inBook : Int32) (v_traced : Int32) (v_imaged : Int32) (v_most : Int32) (v_p1 : Nat → Int32) (v_kind : Nat → Int32) (v_v : Nat → Int32) (v_dead : Nat → Int32) (v_buried : Nat → Int32) (v_thrown : Nat → Int32) (v_rows : Nat → Int32) (v_hate : Nat → Int32) (v_seenBy : Nat → Int32) (v_seenOf : Nat → Int32) (v_seenIn : Nat → Int32) (v_seenSo : Nat → Int32) (v_goes : Nat → Int32) (v_whose : Nat → Int32) (v_bookBy : Nat → Int32) (v_bookOf : Nat → Int32) (v_bookHate : Nat → Int32), ∀ (q : (Nat → Int32) × (Nat → Int32) × (Nat → Int32) × (Nat → Int32) × (Nat → Int32) × (Nat → Int32) × (Nat → Int32) × (Nat → Int32) × (Nat → Int32) × (Nat → Int32) × (Nat → Int32) × (Nat → Int32) × (Nat → Int32) × Int32 × Int32 × Int32 × Int32 × Int32 × Int32 × (Nat → Int32) × (Nat → Int32) × (Nat → Int32)), F v_p1 v_kind v_v v_dead v_buried v_thrown v_rows v_hate v_seenBy v_seenOf v_seenIn v_seenSo v_goes v_whose v_bookBy v_bookOf v_bookHate = some q → MV G l yX8_again cX8_again 3 lv [.ref a_t, .ref a_p1] [oX8 a_t r_t v_people v_day v_texted v_at v_value v_digits v_open v_parishes v_holds v_coded v_seen v_inPlan v_inBook v_traced v_imaged v_most, aI G a_p1 163 v_p1, aI G (r_t 1) 6 v_kind, aI G (r_t 2) 6 v_v, aI G (r_t 3) 6 v_dead, aI G (r_t 4) 6 v_buried, aI G (r_t 5) 6 v_thrown, aI G (r_t 6) 24 v_rows, aI G (r_t 7) 36 v_hate, aI G (r_t 26) 5 v_seenBy, aI G (r_t 27) 5 v_seenOf, aI G (r_t 28) 5 v_seenIn, aI G (r_t 29) 5 v_seenSo, aI G (r_t 31) 10 v_goes, aI G (r_t 32) 10 v_whose, aI G (r_t 34) 8 v_bookBy, aI G (r_t 35) 8 v_bookOf, aI G (r_t 36) 8 v_bookHate] [oX8 a_t r_t q.2.2.2.2.2.2.2.2.2.2.2.2.2.1 q.2.2.2.2.2.2.2.2.2.2.2.2.2.2.1 v_texted v_at v_value v_digits v_open v_parishes q.2.2.2.2.2.2.2.2.2.2.2.2.2.2.2.2.2.2.1 v_coded q.2.2.2.2.2.2.2.2.2.2.2.2.2.2.2.1 q.2.2.2.2.2.2.2.2.2.2.2.2.2.2.2.2.1 q.2.2.2.2.2.2.2.2.2.2.2.2.2.2.2.2.2.1 v_traced v_imaged v_most, aI G a_p1 163 v_p1, aI G (r_t 1) 6 q.1, aI G (r_t 2) 6 q.2.1, aI G (r_t 3) 6 q.2.2.1, aI G (r_t 4) 6 q.2.2.2.1, aI G (r_t 5) 6 q.2.2.2.2.1, aI G (r_t 6) 24 q.2.2.2.2.2.1, aI G (r_t 7) 36 q.2.2.2.2.2.2.1, aI G (r_t 26) 5 q.2.2.2.2.2.2.2.1, aI G (r_t 27) 5 q.2.2.2.2.2.2.2.2.1, aI G (r_t 28) 5 q.2.2.2.2.2.2.2.2.2.1, aI G (r_t 29) 5 q.2.2.2.2.2.2.2.2.2.2.1, aI G (r_t 31) 10 q.2.2.2.2.2.2.2.2.2.2.2.1, aI G (r_t 32) 10 q.2.2.2.2.2.2.2.2.2.2.2.2.1, aI G (r_t 34) 8 q.2.2.2.2.2.2.2.2.2.2.2.2.2.2.2.2.2.2.2.1, aI G (r_t 35) 8 q.2.2.2.2.2.2.2.2.2.2.2.2.2.2.2.2.2.2.2.2.1, aI G (r_t 36) 8 q.2.2.2.2.2.2.2.2.2.2.2.2.2.2.2.2.2.2.2.2.2]
theorem c_X8_again (G : Gx) (l : Launch) : ct_X8_again G l f_X8_again 1 := by
  intro a_t r_t a_p1 v_people v_day v_texted v_at v_value v_digits v_open v_parishes v_holds v_coded v_seen v_inPlan v_inBook v_traced v_imaged v_most v_p1 v_kind v_v v_dead v_buried v_thrown v_rows v_hate v_seenBy v_seenOf v_seenIn v_seenSo v_goes v_whose v_bookBy v_bookOf v_bookHate q hf
  exact mV_of (by decide +kernel) rfl (fun K hl C hQ => t_X8_again C hQ hf)
-- X8_allHate
def f_X8_allHate_14_b (v_people : Int32) (v_hate : Nat → Int32) (k4 : Int32 → Int32 → Option (Int32)) (k14 : Int32 → Int32 → Int32 → Option (Int32)) (x1 : Int32) (x2 : Int32) (x3 : Int32) : Option (Int32) := (if v_people ≤ x3 then (k4 x1 (x2 + (1 : Int32))) else (if x2 = x3 then (k14 x1 x2 (x3 + (1 : Int32))) else (gd (((6 : Int32) * x2) + x3) 36 (nm (x1 + (v_hate (((6 : Int32) * x2) + x3).toNatClampNeg)) fun y1 => (k14 y1 x2 (x3 + (1 : Int32)))))))
def f_X8_allHate_14 (v_people : Int32) (v_hate : Nat → Int32) (k4 : Int32 → Int32 → Option (Int32)) : Nat → Int32 → Int32 → Int32 → Option (Int32)
  | 0 => fun _ _ _ => none
  | n + 1 => f_X8_allHate_14_b v_people v_hate k4 (f_X8_allHate_14 v_people v_hate k4 n)
set_option maxRecDepth 20000 in
set_option maxHeartbeats 1000000 in
theorem t_X8_allHate_14_b {G : Gx} {K : Kx} (C : Cx G K cX8_allHate RX8 4 1) {a_t : Nat} {r_t : Nat → Nat} {v_people : Int32} {v_day : Int32} {v_texted : Int32} {v_at : Int32} {v_value : Int32} {v_digits : Int32} {v_open : Int32} {v_parishes : Int32} {v_holds : Int32} {v_coded : Int32} {v_seen : Int32} {v_inPlan : Int32} {v_inBook : Int32} {v_traced : Int32} {v_imaged : Int32} {v_most : Int32} {v_hate : Nat → Int32} {q : Int32} (hQ : k_retI G K cX8_allHate 4 .int [oX8 a_t r_t v_people v_day v_texted v_at v_value v_digits v_open v_parishes v_holds v_coded v_seen v_inPlan v_inBook v_traced v_imaged v_most, aI G (r_t 7) 36 v_hate] q) {k4 : Int32 → Int32 → Option (Int32)} {k14 : Int32 → Int32 → Int32 → Option (Int32)} (hk4 : ∀ (x1 : Int32) (x2 : Int32), k4 x1 x2 = some q → J G K 4 0 0 [oX8 a_t r_t v_people v_day v_texted v_at v_value v_digits v_open v_parishes v_holds v_coded v_seen v_inPlan v_inBook v_traced v_imaged v_most, aI G (r_t 7) 36 v_hate] [(0, .ref a_t), (1, .int x1), (2, .int x2)] 4 []) (hk14 : ∀ (x1 : Int32) (x2 : Int32) (x3 : Int32), k14 x1 x2 x3 = some q → J G K 4 0 0 [oX8 a_t r_t v_people v_day v_texted v_at v_value v_digits v_open v_parishes v_holds v_coded v_seen v_inPlan v_inBook v_traced v_imaged v_most, aI G (r_t 7) 36 v_hate] [(0, .ref a_t), (1, .int x1), (2, .int x2), (3, .int x3)] 14 []) {x1 : Int32} {x2 : Int32} {x3 : Int32} (hf : f_X8_allHate_14_b v_people v_hate k4 k14 x1 x2 x3 = some q) : J G K 4 0 0 [oX8 a_t r_t v_people v_day v_texted v_at v_value v_digits v_open v_parishes v_holds v_coded v_seen v_inPlan v_inBook v_traced v_imaged v_most, aI G (r_t 7) 36 v_hate] [(0, .ref a_t), (1, .int x1), (2, .int x2), (3, .int x3)] 14 [] := by
  unfold f_X8_allHate_14_b at hf
  refine j_iload_n C (pc := 14) 3 rfl rfl dX8_allHate_14 ?_
  refine j_aload_n C (pc := 15) 0 rfl rfl dX8_allHate_15 ?_
  refine j_get C (pc := 16) kc_X8 fl_X8_114 0 rfl rfl dX8_allHate_16 ?_
  refine j_icmp_ge C (pc := 19) 47 dX8_allHate_19 (by decide) hf (fun hf => ?_) (fun hf => ?_)
  · refine j_iinc C (pc := 47) (L' := [(2, .int (x2 + (1 : Int32))), (0, .ref a_t), (1, .int x1), (3, .int x3)]) (v := x2 + (1 : Int32)) dX8_allHate_47 (t := 2) rfl rfl (by decide) rfl ?_
    refine j_goto C (pc := 50) 4 dX8_allHate_50 (by decide) ?_
    refine j_sub [1, 2, 0] rfl ?_
    exact hk4 _ _ hf
  · refine j_iload_n C (pc := 22) 2 rfl rfl dX8_allHate_22 ?_
    refine j_iload_n C (pc := 23) 3 rfl rfl dX8_allHate_23 ?_
    refine j_icmp_eq C (pc := 24) 41 dX8_allHate_24 (by decide) hf (fun hf => ?_) (fun hf => ?_)
    · refine j_iinc C (pc := 41) (L' := [(3, .int (x3 + (1 : Int32))), (0, .ref a_t), (1, .int x1), (2, .int x2)]) (v := x3 + (1 : Int32)) dX8_allHate_41 (t := 3) rfl rfl (by decide) rfl ?_
      refine j_goto C (pc := 44) 14 dX8_allHate_44 (by decide) ?_
      refine j_sub [1, 2, 3, 0] rfl ?_
      exact hk14 _ _ _ hf
    · refine j_iload_n C (pc := 27) 1 rfl rfl dX8_allHate_27 ?_
      refine j_aload_n C (pc := 28) 0 rfl rfl dX8_allHate_28 ?_
      refine j_get C (pc := 29) kc_X8 fl_X8_30 0 rfl rfl dX8_allHate_29 ?_
      refine j_bipush C (pc := 32) (v := 6) (by decide) dX8_allHate_32 ?_
      refine j_iload_n C (pc := 34) 2 rfl rfl dX8_allHate_34 ?_
      refine j_imul C (pc := 35) dX8_allHate_35 ?_
      refine j_iload_n C (pc := 36) 3 rfl rfl dX8_allHate_36 ?_
      refine j_iadd C (pc := 37) dX8_allHate_37 ?_
      refine j_iald C (pc := 38) 1 rfl hf dX8_allHate_38 (fun hf => ?_)
      refine j_iadd C (pc := 39) dX8_allHate_39 ?_
      refine j_nm hf (fun y1 hf => ?_)
      refine j_istore_n C (pc := 40) (L' := [(1, .int y1), (0, .ref a_t), (2, .int x2), (3, .int x3)]) dX8_allHate_40 rfl (by decide) rfl ?_
      refine j_iinc C (pc := 41) (L' := [(3, .int (x3 + (1 : Int32))), (1, .int y1), (0, .ref a_t), (2, .int x2)]) (v := x3 + (1 : Int32)) dX8_allHate_41 (t := 3) rfl rfl (by decide) rfl ?_
      refine j_goto C (pc := 44) 14 dX8_allHate_44 (by decide) ?_
      refine j_sub [2, 1, 3, 0] rfl ?_
      exact hk14 _ _ _ hf
theorem t_X8_allHate_14 {G : Gx} {K : Kx} (C : Cx G K cX8_allHate RX8 4 1) {a_t : Nat} {r_t : Nat → Nat} {v_people : Int32} {v_day : Int32} {v_texted : Int32} {v_at : Int32} {v_value : Int32} {v_digits : Int32} {v_open : Int32} {v_parishes : Int32} {v_holds : Int32} {v_coded : Int32} {v_seen : Int32} {v_inPlan : Int32} {v_inBook : Int32} {v_traced : Int32} {v_imaged : Int32} {v_most : Int32} {v_hate : Nat → Int32} {q : Int32} (hQ : k_retI G K cX8_allHate 4 .int [oX8 a_t r_t v_people v_day v_texted v_at v_value v_digits v_open v_parishes v_holds v_coded v_seen v_inPlan v_inBook v_traced v_imaged v_most, aI G (r_t 7) 36 v_hate] q) {k4 : Int32 → Int32 → Option (Int32)} (hk4 : ∀ (x1 : Int32) (x2 : Int32), k4 x1 x2 = some q → J G K 4 0 0 [oX8 a_t r_t v_people v_day v_texted v_at v_value v_digits v_open v_parishes v_holds v_coded v_seen v_inPlan v_inBook v_traced v_imaged v_most, aI G (r_t 7) 36 v_hate] [(0, .ref a_t), (1, .int x1), (2, .int x2)] 4 []) : ∀ (n : Nat) (x1 : Int32) (x2 : Int32) (x3 : Int32), f_X8_allHate_14 v_people v_hate k4 n x1 x2 x3 = some q → J G K 4 0 0 [oX8 a_t r_t v_people v_day v_texted v_at v_value v_digits v_open v_parishes v_holds v_coded v_seen v_inPlan v_inBook v_traced v_imaged v_most, aI G (r_t 7) 36 v_hate] [(0, .ref a_t), (1, .int x1), (2, .int x2), (3, .int x3)] 14 [] := by
  intro n
  induction n with
  | zero => intro x1 x2 x3 hf; cases hf
  | succ n ih => intro x1 x2 x3 hf; exact t_X8_allHate_14_b C hQ hk4 ih hf
def f_X8_allHate_4_b (v_people : Int32) (v_hate : Nat → Int32) (k4 : Int32 → Int32 → Option (Int32)) (x1 : Int32) (x2 : Int32) : Option (Int32) := (if v_people ≤ x2 then (some x1) else (f_X8_allHate_14 v_people v_hate k4 1000 x1 x2 (0 : Int32)))
def f_X8_allHate_4 (v_people : Int32) (v_hate : Nat → Int32) : Nat → Int32 → Int32 → Option (Int32)
  | 0 => fun _ _ => none
  | n + 1 => f_X8_allHate_4_b v_people v_hate (f_X8_allHate_4 v_people v_hate n)
set_option maxRecDepth 20000 in
set_option maxHeartbeats 1000000 in
theorem t_X8_allHate_4_b {G : Gx} {K : Kx} (C : Cx G K cX8_allHate RX8 4 1) {a_t : Nat} {r_t : Nat → Nat} {v_people : Int32} {v_day : Int32} {v_texted : Int32} {v_at : Int32} {v_value : Int32} {v_digits : Int32} {v_open : Int32} {v_parishes : Int32} {v_holds : Int32} {v_coded : Int32} {v_seen : Int32} {v_inPlan : Int32} {v_inBook : Int32} {v_traced : Int32} {v_imaged : Int32} {v_most : Int32} {v_hate : Nat → Int32} {q : Int32} (hQ : k_retI G K cX8_allHate 4 .int [oX8 a_t r_t v_people v_day v_texted v_at v_value v_digits v_open v_parishes v_holds v_coded v_seen v_inPlan v_inBook v_traced v_imaged v_most, aI G (r_t 7) 36 v_hate] q) {k4 : Int32 → Int32 → Option (Int32)} (hk4 : ∀ (x1 : Int32) (x2 : Int32), k4 x1 x2 = some q → J G K 4 0 0 [oX8 a_t r_t v_people v_day v_texted v_at v_value v_digits v_open v_parishes v_holds v_coded v_seen v_inPlan v_inBook v_traced v_imaged v_most, aI G (r_t 7) 36 v_hate] [(0, .ref a_t), (1, .int x1), (2, .int x2)] 4 []) {x1 : Int32} {x2 : Int32} (hf : f_X8_allHate_4_b v_people v_hate k4 x1 x2 = some q) : J G K 4 0 0 [oX8 a_t r_t v_people v_day v_texted v_at v_value v_digits v_open v_parishes v_holds v_coded v_seen v_inPlan v_inBook v_traced v_imaged v_most, aI G (r_t 7) 36 v_hate] [(0, .ref a_t), (1, .int x1), (2, .int x2)] 4 [] := by
  unfold f_X8_allHate_4_b at hf
  refine j_iload_n C (pc := 4) 2 rfl rfl dX8_allHate_4 ?_
  refine j_aload_n C (pc := 5) 0 rfl rfl dX8_allHate_5 ?_
  refine j_get C (pc := 6) kc_X8 fl_X8_114 0 rfl rfl dX8_allHate_6 ?_
  refine j_icmp_ge C (pc := 9) 53 dX8_allHate_9 (by decide) hf (fun hf => ?_) (fun hf => ?_)
  · refine j_iload_n C (pc := 53) 1 rfl rfl dX8_allHate_53 ?_
    obtain rfl := Option.some.inj hf
    exact hQ _ _ dX8_allHate_54 rfl
  · refine j_iconst C (pc := 12) (v := 0) (by decide) dX8_allHate_12 ?_
    refine j_istore_n C (pc := 13) (L' := [(3, .int (0 : Int32)), (0, .ref a_t), (1, .int x1), (2, .int x2)]) dX8_allHate_13 rfl (by decide) rfl ?_
    refine j_sub [1, 2, 3, 0] rfl ?_
    exact t_X8_allHate_14 C hQ hk4 1000 _ _ _ hf
theorem t_X8_allHate_4 {G : Gx} {K : Kx} (C : Cx G K cX8_allHate RX8 4 1) {a_t : Nat} {r_t : Nat → Nat} {v_people : Int32} {v_day : Int32} {v_texted : Int32} {v_at : Int32} {v_value : Int32} {v_digits : Int32} {v_open : Int32} {v_parishes : Int32} {v_holds : Int32} {v_coded : Int32} {v_seen : Int32} {v_inPlan : Int32} {v_inBook : Int32} {v_traced : Int32} {v_imaged : Int32} {v_most : Int32} {v_hate : Nat → Int32} {q : Int32} (hQ : k_retI G K cX8_allHate 4 .int [oX8 a_t r_t v_people v_day v_texted v_at v_value v_digits v_open v_parishes v_holds v_coded v_seen v_inPlan v_inBook v_traced v_imaged v_most, aI G (r_t 7) 36 v_hate] q) : ∀ (n : Nat) (x1 : Int32) (x2 : Int32), f_X8_allHate_4 v_people v_hate n x1 x2 = some q → J G K 4 0 0 [oX8 a_t r_t v_people v_day v_texted v_at v_value v_digits v_open v_parishes v_holds v_coded v_seen v_inPlan v_inBook v_traced v_imaged v_most, aI G (r_t 7) 36 v_hate] [(0, .ref a_t), (1, .int x1), (2, .int x2)] 4 [] := by
  intro n
  induction n with
  | zero => intro x1 x2 hf; cases hf
  | succ n ih => intro x1 x2 hf; exact t_X8_allHate_4_b C hQ ih hf
def f_X8_allHate (v_people : Int32) (v_hate : Nat → Int32) : Option (Int32) := (f_X8_allHate_4 v_people v_hate 1000 (0 : Int32) (0 : Int32))
set_option maxRecDepth 20000 in
set_option maxHeartbeats 1000000 in
theorem t_X8_allHate {G : Gx} {K : Kx} (C : Cx G K cX8_allHate RX8 4 1) {a_t : Nat} {r_t : Nat → Nat} {v_people : Int32} {v_day : Int32} {v_texted : Int32} {v_at : Int32} {v_value : Int32} {v_digits : Int32} {v_open : Int32} {v_parishes : Int32} {v_holds : Int32} {v_coded : Int32} {v_seen : Int32} {v_inPlan : Int32} {v_inBook : Int32} {v_traced : Int32} {v_imaged : Int32} {v_most : Int32} {v_hate : Nat → Int32} {q : Int32} (hQ : k_retI G K cX8_allHate 4 .int [oX8 a_t r_t v_people v_day v_texted v_at v_value v_digits v_open v_parishes v_holds v_coded v_seen v_inPlan v_inBook v_traced v_imaged v_most, aI G (r_t 7) 36 v_hate] q) (hf : f_X8_allHate v_people v_hate = some q) : J G K 4 0 0 [oX8 a_t r_t v_people v_day v_texted v_at v_value v_digits v_open v_parishes v_holds v_coded v_seen v_inPlan v_inBook v_traced v_imaged v_most, aI G (r_t 7) 36 v_hate] [(0, .ref a_t)] 0 [] := by
  unfold f_X8_allHate at hf
  refine j_iconst C (pc := 0) (v := 0) (by decide) dX8_allHate_0 ?_
  refine j_istore_n C (pc := 1) (L' := [(1, .int (0 : Int32)), (0, .ref a_t)]) dX8_allHate_1 rfl (by decide) rfl ?_
  refine j_iconst C (pc := 2) (v := 0) (by decide) dX8_allHate_2 ?_
  refine j_istore_n C (pc := 3) (L' := [(2, .int (0 : Int32)), (1, .int (0 : Int32)), (0, .ref a_t)]) dX8_allHate_3 rfl (by decide) rfl ?_
  refine j_sub [2, 1, 0] rfl ?_
  exact t_X8_allHate_4 C hQ 1000 _ _ hf
def ct_X8_allHate (G : Gx) (l : Launch) (F : Int32 → (Nat → Int32) → Option (Int32)) (lv : Nat) : Prop := ∀ (a_t : Nat) (r_t : Nat → Nat) (v_people : Int32) (v_day : Int32) (v_texted : Int32) (v_at : Int32) (v_value : Int32) (v_digits : Int32) (v_open : Int32) (v_parishes : Int32) (v_holds : Int32) (v_coded : Int32) (v_seen : Int32) (v_inPlan : Int32) (v_inBook : Int32) (v_traced : Int32) (v_imaged : Int32) (v_most : Int32) (v_hate : Nat → Int32), ∀ (q : Int32), F v_people v_hate = some q → MI G l yX8_allHate cX8_allHate 4 .int lv [.ref a_t] [oX8 a_t r_t v_people v_day v_texted v_at v_value v_digits v_open v_parishes v_holds v_coded v_seen v_inPlan v_inBook v_traced v_imaged v_most, aI G (r_t 7) 36 v_hate] [oX8 a_t r_t v_people v_day v_texted v_at v_value v_digits v_open v_parishes v_holds v_coded v_seen v_inPlan v_inBook v_traced v_imaged v_most, aI G (r_t 7) 36 v_hate] q
theorem c_X8_allHate (G : Gx) (l : Launch) : ct_X8_allHate G l f_X8_allHate 1 := by
  intro a_t r_t v_people v_day v_texted v_at v_value v_digits v_open v_parishes v_holds v_coded v_seen v_inPlan v_inBook v_traced v_imaged v_most v_hate q hf
  exact mI_of (by decide +kernel) rfl (fun K hl C hQ => t_X8_allHate C hQ hf)
-- X8_are
def f_X8_are (v_people : Int32) (p1 : Int32) (p2 : Int32) : Option (Int32) := ((f_X8_isOne v_people p1).bind fun q1 => (if q1 = 0 then (some (0 : Int32)) else ((f_X8_isOne v_people p2).bind fun q2 => (if q2 = 0 then (some (0 : Int32)) else (some (1 : Int32))))))
set_option maxRecDepth 20000 in
set_option maxHeartbeats 1000000 in
theorem t_X8_are {G : Gx} {K : Kx} (C : Cx G K cX8_are RX8 3 3) {a_t : Nat} {r_t : Nat → Nat} {v_people : Int32} {v_day : Int32} {v_texted : Int32} {v_at : Int32} {v_value : Int32} {v_digits : Int32} {v_open : Int32} {v_parishes : Int32} {v_holds : Int32} {v_coded : Int32} {v_seen : Int32} {v_inPlan : Int32} {v_inBook : Int32} {v_traced : Int32} {v_imaged : Int32} {v_most : Int32} {p1 : Int32} {p2 : Int32} {q : Int32} (hQ : k_retI G K cX8_are 3 .boolean [oX8 a_t r_t v_people v_day v_texted v_at v_value v_digits v_open v_parishes v_holds v_coded v_seen v_inPlan v_inBook v_traced v_imaged v_most] q) (hf : f_X8_are v_people p1 p2 = some q) : J G K 3 0 0 [oX8 a_t r_t v_people v_day v_texted v_at v_value v_digits v_open v_parishes v_holds v_coded v_seen v_inPlan v_inBook v_traced v_imaged v_most] [(0, .ref a_t), (1, .int p1), (2, .int p2)] 0 [] := by
  unfold f_X8_are at hf
  refine j_aload_n C (pc := 0) 0 rfl rfl dX8_are_0 ?_
  refine j_iload_n C (pc := 1) 1 rfl rfl dX8_are_1 ?_
  refine j_cVI C (pc := 2) (As := [.int p1]) (st := []) (ws' := fun q1 => [oX8 a_t r_t v_people v_day v_texted v_at v_value v_digits v_open v_parishes v_holds v_coded v_seen v_inPlan v_inBook v_traced v_imaged v_most]) ml_X8_121 ms_X8_isOne hf (fun q1 h => (c_X8_isOne G K.2.1) a_t r_t v_people v_day v_texted v_at v_value v_digits v_open v_parishes v_holds v_coded v_seen v_inPlan v_inBook v_traced v_imaged v_most p1 q1 h) [0] [some 0] 1 rfl (by decide +kernel) (by decide +kernel) (fun _ => rfl) (fun _ => rfl) rfl rfl rfl rfl ⟨Nat.zero_le _, Nat.zero_le _⟩ dX8_are_2 kc_X8 0 rfl (fun q1 hf => ?_)
  refine j_if_eq C (pc := 5) 20 dX8_are_5 (by decide) hf (fun hf => ?_) (fun hf => ?_)
  · refine j_iconst C (pc := 20) (v := 0) (by decide) dX8_are_20 ?_
    obtain rfl := Option.some.inj hf
    exact hQ _ _ dX8_are_21 (show narrow .boolean (.int (0 : Int32)) = .int (0 : Int32) from rfl)
  · refine j_aload_n C (pc := 8) 0 rfl rfl dX8_are_8 ?_
    refine j_iload_n C (pc := 9) 2 rfl rfl dX8_are_9 ?_
    refine j_cVI C (pc := 10) (As := [.int p2]) (st := []) (ws' := fun q2 => [oX8 a_t r_t v_people v_day v_texted v_at v_value v_digits v_open v_parishes v_holds v_coded v_seen v_inPlan v_inBook v_traced v_imaged v_most]) ml_X8_121 ms_X8_isOne hf (fun q2 h => (c_X8_isOne G K.2.1) a_t r_t v_people v_day v_texted v_at v_value v_digits v_open v_parishes v_holds v_coded v_seen v_inPlan v_inBook v_traced v_imaged v_most p2 q2 h) [0] [some 0] 1 rfl (by decide +kernel) (by decide +kernel) (fun _ => rfl) (fun _ => rfl) rfl rfl rfl rfl ⟨Nat.zero_le _, Nat.zero_le _⟩ dX8_are_10 kc_X8 0 rfl (fun q2 hf => ?_)
    refine j_if_eq C (pc := 13) 20 dX8_are_13 (by decide) hf (fun hf => ?_) (fun hf => ?_)
    · refine j_iconst C (pc := 20) (v := 0) (by decide) dX8_are_20 ?_
      obtain rfl := Option.some.inj hf
      exact hQ _ _ dX8_are_21 (show narrow .boolean (.int (0 : Int32)) = .int (0 : Int32) from rfl)
    · refine j_iconst C (pc := 16) (v := 1) (by decide) dX8_are_16 ?_
      refine j_goto C (pc := 17) 21 dX8_are_17 (by decide) ?_
      obtain rfl := Option.some.inj hf
      exact hQ _ _ dX8_are_21 (show narrow .boolean (.int (1 : Int32)) = .int (1 : Int32) from rfl)
def ct_X8_are (G : Gx) (l : Launch) (F : Int32 → Int32 → Int32 → Option (Int32)) (lv : Nat) : Prop := ∀ (a_t : Nat) (r_t : Nat → Nat) (v_people : Int32) (v_day : Int32) (v_texted : Int32) (v_at : Int32) (v_value : Int32) (v_digits : Int32) (v_open : Int32) (v_parishes : Int32) (v_holds : Int32) (v_coded : Int32) (v_seen : Int32) (v_inPlan : Int32) (v_inBook : Int32) (v_traced : Int32) (v_imaged : Int32) (v_most : Int32) (p1 : Int32) (p2 : Int32), ∀ (q : Int32), F v_people p1 p2 = some q → MI G l yX8_are cX8_are 3 .boolean lv [.ref a_t, .int p1, .int p2] [oX8 a_t r_t v_people v_day v_texted v_at v_value v_digits v_open v_parishes v_holds v_coded v_seen v_inPlan v_inBook v_traced v_imaged v_most] [oX8 a_t r_t v_people v_day v_texted v_at v_value v_digits v_open v_parishes v_holds v_coded v_seen v_inPlan v_inBook v_traced v_imaged v_most] q
theorem c_X8_are (G : Gx) (l : Launch) : ct_X8_are G l f_X8_are 3 := by
  intro a_t r_t v_people v_day v_texted v_at v_value v_digits v_open v_parishes v_holds v_coded v_seen v_inPlan v_inBook v_traced v_imaged v_most p1 p2 q hf
  exact mI_of (by decide +kernel) rfl (fun K hl C hQ => t_X8_are C hQ hf)
-- X8_letterOf
def f_X8_letterOf (v_kind : Nat → Int32) (v_v : Nat → Int32) (v_hate : Nat → Int32) (p1 : Int32) (p2 : Int32) (p3 : Int32) (p4 : Int32) : Option (Int32) := (if p4 = (0 : Int32) then (some p1) else (if p4 = (1 : Int32) then (some p2) else (if p4 = (2 : Int32) then (gd p1 6 (some (v_kind p1.toNatClampNeg))) else (if p4 = (3 : Int32) then (gd p1 6 (some (v_v p1.toNatClampNeg))) else (if p4 = (4 : Int32) then (gd (((6 : Int32) * p1) + p2) 36 (some ((v_hate (((6 : Int32) * p1) + p2).toNatClampNeg) / (10 : Int32)))) else (some (p3 - p3 / (10 : Int32) * (10 : Int32))))))))
set_option maxRecDepth 20000 in
set_option maxHeartbeats 1000000 in
theorem t_X8_letterOf {G : Gx} {K : Kx} (C : Cx G K cX8_letterOf RX8 5 1) {a_t : Nat} {r_t : Nat → Nat} {v_people : Int32} {v_day : Int32} {v_texted : Int32} {v_at : Int32} {v_value : Int32} {v_digits : Int32} {v_open : Int32} {v_parishes : Int32} {v_holds : Int32} {v_coded : Int32} {v_seen : Int32} {v_inPlan : Int32} {v_inBook : Int32} {v_traced : Int32} {v_imaged : Int32} {v_most : Int32} {v_kind : Nat → Int32} {v_v : Nat → Int32} {v_hate : Nat → Int32} {p1 : Int32} {p2 : Int32} {p3 : Int32} {p4 : Int32} {q : Int32} (hQ : k_retI G K cX8_letterOf 5 .int [oX8 a_t r_t v_people v_day v_texted v_at v_value v_digits v_open v_parishes v_holds v_coded v_seen v_inPlan v_inBook v_traced v_imaged v_most, aI G (r_t 1) 6 v_kind, aI G (r_t 2) 6 v_v, aI G (r_t 7) 36 v_hate] q) (hf : f_X8_letterOf v_kind v_v v_hate p1 p2 p3 p4 = some q) : J G K 5 0 0 [oX8 a_t r_t v_people v_day v_texted v_at v_value v_digits v_open v_parishes v_holds v_coded v_seen v_inPlan v_inBook v_traced v_imaged v_most, aI G (r_t 1) 6 v_kind, aI G (r_t 2) 6 v_v, aI G (r_t 7) 36 v_hate] [(0, .ref a_t), (1, .int p1), (2, .int p2), (3, .int p3), (4, .int p4)] 0 [] := by
  unfold f_X8_letterOf at hf
  refine j_iload C (pc := 0) 4 rfl dX8_letterOf_0 ?_
  obtain ⟨h0, hf⟩ | ⟨h0, hf⟩ := k_or hf
  · refine j_tabIn C (pc := 2) 36 dX8_letterOf_2 (by rw [h0]; decide) (by rw [h0]; decide) (by rw [h0] <;> rfl) (by decide) ?_
    refine j_iload_n C (pc := 36) 1 rfl rfl dX8_letterOf_36 ?_
    obtain rfl := Option.some.inj hf
    exact hQ _ _ dX8_letterOf_37 rfl
  · skip
    obtain ⟨h1, hf⟩ | ⟨h1, hf⟩ := k_or hf
    · refine j_tabIn C (pc := 2) 38 dX8_letterOf_2 (by rw [h1]; decide) (by rw [h1]; decide) (by rw [h1] <;> rfl) (by decide) ?_
      refine j_iload_n C (pc := 38) 2 rfl rfl dX8_letterOf_38 ?_
      obtain rfl := Option.some.inj hf
      exact hQ _ _ dX8_letterOf_39 rfl
    · skip
      obtain ⟨h2, hf⟩ | ⟨h2, hf⟩ := k_or hf
      · refine j_tabIn C (pc := 2) 40 dX8_letterOf_2 (by rw [h2]; decide) (by rw [h2]; decide) (by rw [h2] <;> rfl) (by decide) ?_
        refine j_aload_n C (pc := 40) 0 rfl rfl dX8_letterOf_40 ?_
        refine j_get C (pc := 41) kc_X8 fl_X8_9 0 rfl rfl dX8_letterOf_41 ?_
        refine j_iload_n C (pc := 44) 1 rfl rfl dX8_letterOf_44 ?_
        refine j_iald C (pc := 45) 1 rfl hf dX8_letterOf_45 (fun hf => ?_)
        obtain rfl := Option.some.inj hf
        exact hQ _ _ dX8_letterOf_46 rfl
      · skip
        obtain ⟨h3, hf⟩ | ⟨h3, hf⟩ := k_or hf
        · refine j_tabIn C (pc := 2) 47 dX8_letterOf_2 (by rw [h3]; decide) (by rw [h3]; decide) (by rw [h3] <;> rfl) (by decide) ?_
          refine j_aload_n C (pc := 47) 0 rfl rfl dX8_letterOf_47 ?_
          refine j_get C (pc := 48) kc_X8 fl_X8_15 0 rfl rfl dX8_letterOf_48 ?_
          refine j_iload_n C (pc := 51) 1 rfl rfl dX8_letterOf_51 ?_
          refine j_iald C (pc := 52) 2 rfl hf dX8_letterOf_52 (fun hf => ?_)
          obtain rfl := Option.some.inj hf
          exact hQ _ _ dX8_letterOf_53 rfl
        · skip
          obtain ⟨h4, hf⟩ | ⟨h4, hf⟩ := k_or hf
          · refine j_tabIn C (pc := 2) 54 dX8_letterOf_2 (by rw [h4]; decide) (by rw [h4]; decide) (by rw [h4] <;> rfl) (by decide) ?_
            refine j_aload_n C (pc := 54) 0 rfl rfl dX8_letterOf_54 ?_
            refine j_get C (pc := 55) kc_X8 fl_X8_30 0 rfl rfl dX8_letterOf_55 ?_
            refine j_bipush C (pc := 58) (v := 6) (by decide) dX8_letterOf_58 ?_
            refine j_iload_n C (pc := 60) 1 rfl rfl dX8_letterOf_60 ?_
            refine j_imul C (pc := 61) dX8_letterOf_61 ?_
            refine j_iload_n C (pc := 62) 2 rfl rfl dX8_letterOf_62 ?_
            refine j_iadd C (pc := 63) dX8_letterOf_63 ?_
            refine j_iald C (pc := 64) 3 rfl hf dX8_letterOf_64 (fun hf => ?_)
            refine j_bipush C (pc := 65) (v := 10) (by decide) dX8_letterOf_65 ?_
            refine j_idiv C (pc := 67) dX8_letterOf_67 (gz_mk (by decide) hf) (fun hf => ?_)
            obtain rfl := Option.some.inj hf
            exact hQ _ _ dX8_letterOf_68 rfl
          · skip
            have hout : (p4).toInt < 0 ∨ 4 < (p4).toInt := by
              have := lv_neT (a := 0) h0 rfl
              have := lv_neT (a := 1) h1 rfl
              have := lv_neT (a := 2) h2 rfl
              have := lv_neT (a := 3) h3 rfl
              have := lv_neT (a := 4) h4 rfl
              omega
            refine j_tabOut C (pc := 2) 69 dX8_letterOf_2 hout (by decide) ?_
            refine j_iload_n C (pc := 69) 3 rfl rfl dX8_letterOf_69 ?_
            refine j_bipush C (pc := 70) (v := 10) (by decide) dX8_letterOf_70 ?_
            refine j_irem C (pc := 72) dX8_letterOf_72 (gz_mk (by decide) hf) (fun hf => ?_)
            obtain rfl := Option.some.inj hf
            exact hQ _ _ dX8_letterOf_73 rfl
def ct_X8_letterOf (G : Gx) (l : Launch) (F : (Nat → Int32) → (Nat → Int32) → (Nat → Int32) → Int32 → Int32 → Int32 → Int32 → Option (Int32)) (lv : Nat) : Prop := ∀ (a_t : Nat) (r_t : Nat → Nat) (v_people : Int32) (v_day : Int32) (v_texted : Int32) (v_at : Int32) (v_value : Int32) (v_digits : Int32) (v_open : Int32) (v_parishes : Int32) (v_holds : Int32) (v_coded : Int32) (v_seen : Int32) (v_inPlan : Int32) (v_inBook : Int32) (v_traced : Int32) (v_imaged : Int32) (v_most : Int32) (v_kind : Nat → Int32) (v_v : Nat → Int32) (v_hate : Nat → Int32) (p1 : Int32) (p2 : Int32) (p3 : Int32) (p4 : Int32), ∀ (q : Int32), F v_kind v_v v_hate p1 p2 p3 p4 = some q → MI G l yX8_letterOf cX8_letterOf 5 .int lv [.ref a_t, .int p1, .int p2, .int p3, .int p4] [oX8 a_t r_t v_people v_day v_texted v_at v_value v_digits v_open v_parishes v_holds v_coded v_seen v_inPlan v_inBook v_traced v_imaged v_most, aI G (r_t 1) 6 v_kind, aI G (r_t 2) 6 v_v, aI G (r_t 7) 36 v_hate] [oX8 a_t r_t v_people v_day v_texted v_at v_value v_digits v_open v_parishes v_holds v_coded v_seen v_inPlan v_inBook v_traced v_imaged v_most, aI G (r_t 1) 6 v_kind, aI G (r_t 2) 6 v_v, aI G (r_t 7) 36 v_hate] q
theorem c_X8_letterOf (G : Gx) (l : Launch) : ct_X8_letterOf G l f_X8_letterOf 1 := by
  intro a_t r_t v_people v_day v_texted v_at v_value v_digits v_open v_parishes v_holds v_coded v_seen v_inPlan v_inBook v_traced v_imaged v_most v_kind v_v v_hate p1 p2 p3 p4 q hf
  exact mI_of (by decide +kernel) rfl (fun K hl C hQ => t_X8_letterOf C hQ hf)
-- X8_isTrue
def f_X8_isTrue_12_b (v_begins : Nat → Int32) (v_length : Nat → Int32) (v_code : Nat → Int32) (v_kind : Nat → Int32) (v_v : Nat → Int32) (v_hate : Nat → Int32) (p1 : Int32) (p2 : Int32) (p3 : Int32) (p4 : Int32) (k12 : Int32 → Int32 → (Nat → Int32) → Option (Int32 × (Nat → Int32))) (x5 : Int32) (x6 : Int32) (w_stack : Nat → Int32) : Option (Int32 × (Nat → Int32)) := (gd p4 61 (gd p4 61 (if ((v_begins p4.toNatClampNeg) + (v_length p4.toNatClampNeg)) ≤ x6 then (gn .boolean (w_stack (0 : Int32).toNatClampNeg) (some (w_stack (0 : Int32).toNatClampNeg, w_stack))) else (gd x6 800 (nm (v_code x6.toNatClampNeg) fun y1 => (if y1 < (3 : Int32) then (if y1 = 0 then (gd (x5 - (1 : Int32)) 110 (if (w_stack (x5 - (1 : Int32)).toNatClampNeg) = 0 then (gd (x5 - (1 : Int32)) 110 (k12 x5 (x6 + (1 : Int32)) (upd w_stack (x5 - (1 : Int32)).toNatClampNeg (vp_nar .boolean (1 : Int32))))) else (gd (x5 - (1 : Int32)) 110 (k12 x5 (x6 + (1 : Int32)) (upd w_stack (x5 - (1 : Int32)).toNatClampNeg (vp_nar .boolean (0 : Int32))))))) else (if y1 = (1 : Int32) then (gd ((x5 + (-1 : Int32)) - (1 : Int32)) 110 (if (w_stack ((x5 + (-1 : Int32)) - (1 : Int32)).toNatClampNeg) = 0 then (gd ((x5 + (-1 : Int32)) - (1 : Int32)) 110 (k12 (x5 + (-1 : Int32)) (x6 + (1 : Int32)) (upd w_stack ((x5 + (-1 : Int32)) - (1 : Int32)).toNatClampNeg (vp_nar .boolean (0 : Int32))))) else (gd (x5 + (-1 : Int32)) 110 (if (w_stack (x5 + (-1 : Int32)).toNatClampNeg) = 0 then (gd ((x5 + (-1 : Int32)) - (1 : Int32)) 110 (k12 (x5 + (-1 : Int32)) (x6 + (1 : Int32)) (upd w_stack ((x5 + (-1 : Int32)) - (1 : Int32)).toNatClampNeg (vp_nar .boolean (0 : Int32))))) else (gd ((x5 + (-1 : Int32)) - (1 : Int32)) 110 (k12 (x5 + (-1 : Int32)) (x6 + (1 : Int32)) (upd w_stack ((x5 + (-1 : Int32)) - (1 : Int32)).toNatClampNeg (vp_nar .boolean (1 : Int32))))))))) else (gd ((x5 + (-1 : Int32)) - (1 : Int32)) 110 (if (w_stack ((x5 + (-1 : Int32)) - (1 : Int32)).toNatClampNeg) = 0 then (gd (x5 + (-1 : Int32)) 110 (if (w_stack (x5 + (-1 : Int32)).toNatClampNeg) = 0 then (gd ((x5 + (-1 : Int32)) - (1 : Int32)) 110 (k12 (x5 + (-1 : Int32)) (x6 + (1 : Int32)) (upd w_stack ((x5 + (-1 : Int32)) - (1 : Int32)).toNatClampNeg (vp_nar .boolean (0 : Int32))))) else (gd ((x5 + (-1 : Int32)) - (1 : Int32)) 110 (k12 (x5 + (-1 : Int32)) (x6 + (1 : Int32)) (upd w_stack ((x5 + (-1 : Int32)) - (1 : Int32)).toNatClampNeg (vp_nar .boolean (1 : Int32))))))) else (gd ((x5 + (-1 : Int32)) - (1 : Int32)) 110 (k12 (x5 + (-1 : Int32)) (x6 + (1 : Int32)) (upd w_stack ((x5 + (-1 : Int32)) - (1 : Int32)).toNatClampNeg (vp_nar .boolean (1 : Int32))))))))) else ((f_X8_letterOf v_kind v_v v_hate p1 p2 p3 ((y1 - (3 : Int32)) / (300 : Int32))).bind fun q2 => (nm ((y1 - (3 : Int32)) - (y1 - (3 : Int32)) / (100 : Int32) * (100 : Int32)) fun y3 => (nm (((y1 - (3 : Int32)) / (100 : Int32)) - ((y1 - (3 : Int32)) / (100 : Int32)) / (3 : Int32) * (3 : Int32)) fun y4 => (if y4 = 0 then (if y3 ≤ q2 then (gd x5 110 (k12 (x5 + (1 : Int32)) (x6 + (1 : Int32)) (upd w_stack x5.toNatClampNeg (vp_nar .boolean (0 : Int32))))) else (gd x5 110 (k12 (x5 + (1 : Int32)) (x6 + (1 : Int32)) (upd w_stack x5.toNatClampNeg (vp_nar .boolean (1 : Int32)))))) else (if y4 = (1 : Int32) then (if q2 = y3 then (gd x5 110 (k12 (x5 + (1 : Int32)) (x6 + (1 : Int32)) (upd w_stack x5.toNatClampNeg (vp_nar .boolean (1 : Int32))))) else (gd x5 110 (k12 (x5 + (1 : Int32)) (x6 + (1 : Int32)) (upd w_stack x5.toNatClampNeg (vp_nar .boolean (0 : Int32)))))) else (if q2 ≤ y3 then (gd x5 110 (k12 (x5 + (1 : Int32)) (x6 + (1 : Int32)) (upd w_stack x5.toNatClampNeg (vp_nar .boolean (0 : Int32))))) else (gd x5 110 (k12 (x5 + (1 : Int32)) (x6 + (1 : Int32)) (upd w_stack x5.toNatClampNeg (vp_nar .boolean (1 : Int32)))))))))))))))))
def f_X8_isTrue_12 (v_begins : Nat → Int32) (v_length : Nat → Int32) (v_code : Nat → Int32) (v_kind : Nat → Int32) (v_v : Nat → Int32) (v_hate : Nat → Int32) (p1 : Int32) (p2 : Int32) (p3 : Int32) (p4 : Int32) : Nat → Int32 → Int32 → (Nat → Int32) → Option (Int32 × (Nat → Int32))
  | 0 => fun _ _ _ => none
  | n + 1 => f_X8_isTrue_12_b v_begins v_length v_code v_kind v_v v_hate p1 p2 p3 p4 (f_X8_isTrue_12 v_begins v_length v_code v_kind v_v v_hate p1 p2 p3 p4 n)
set_option maxRecDepth 20000 in
set_option maxHeartbeats 1000000 in
theorem t_X8_isTrue_12_b {G : Gx} {K : Kx} (C : Cx G K cX8_isTrue RX8 11 2) {a_t : Nat} {r_t : Nat → Nat} {v_people : Int32} {v_day : Int32} {v_texted : Int32} {v_at : Int32} {v_value : Int32} {v_digits : Int32} {v_open : Int32} {v_parishes : Int32} {v_holds : Int32} {v_coded : Int32} {v_seen : Int32} {v_inPlan : Int32} {v_inBook : Int32} {v_traced : Int32} {v_imaged : Int32} {v_most : Int32} {v_begins : Nat → Int32} {v_length : Nat → Int32} {v_code : Nat → Int32} {v_kind : Nat → Int32} {v_v : Nat → Int32} {v_hate : Nat → Int32} {p1 : Int32} {p2 : Int32} {p3 : Int32} {p4 : Int32} {q : Int32 × (Nat → Int32)} (hQ : k_retI G K cX8_isTrue 11 .boolean [oX8 a_t r_t v_people v_day v_texted v_at v_value v_digits v_open v_parishes v_holds v_coded v_seen v_inPlan v_inBook v_traced v_imaged v_most, aI G (r_t 20) 61 v_begins, aI G (r_t 21) 61 v_length, aZ G (r_t 24) 110 q.2, aI G (r_t 22) 800 v_code, aI G (r_t 1) 6 v_kind, aI G (r_t 2) 6 v_v, aI G (r_t 7) 36 v_hate] q.1) {k12 : Int32 → Int32 → (Nat → Int32) → Option (Int32 × (Nat → Int32))} (hk12 : ∀ (x5 : Int32) (x6 : Int32) (w_stack : Nat → Int32), k12 x5 x6 w_stack = some q → J G K 11 0 0 [oX8 a_t r_t v_people v_day v_texted v_at v_value v_digits v_open v_parishes v_holds v_coded v_seen v_inPlan v_inBook v_traced v_imaged v_most, aI G (r_t 20) 61 v_begins, aI G (r_t 21) 61 v_length, aZ G (r_t 24) 110 w_stack, aI G (r_t 22) 800 v_code, aI G (r_t 1) 6 v_kind, aI G (r_t 2) 6 v_v, aI G (r_t 7) 36 v_hate] [(0, .ref a_t), (1, .int p1), (2, .int p2), (3, .int p3), (4, .int p4), (5, .int x5), (6, .int x6)] 12 []) {x5 : Int32} {x6 : Int32} {w_stack : Nat → Int32} (hf : f_X8_isTrue_12_b v_begins v_length v_code v_kind v_v v_hate p1 p2 p3 p4 k12 x5 x6 w_stack = some q) : J G K 11 0 0 [oX8 a_t r_t v_people v_day v_texted v_at v_value v_digits v_open v_parishes v_holds v_coded v_seen v_inPlan v_inBook v_traced v_imaged v_most, aI G (r_t 20) 61 v_begins, aI G (r_t 21) 61 v_length, aZ G (r_t 24) 110 w_stack, aI G (r_t 22) 800 v_code, aI G (r_t 1) 6 v_kind, aI G (r_t 2) 6 v_v, aI G (r_t 7) 36 v_hate] [(0, .ref a_t), (1, .int p1), (2, .int p2), (3, .int p3), (4, .int p4), (5, .int x5), (6, .int x6)] 12 [] := by
  unfold f_X8_isTrue_12_b at hf
  refine j_iload C (pc := 12) 6 rfl dX8_isTrue_12 ?_
  refine j_aload_n C (pc := 14) 0 rfl rfl dX8_isTrue_14 ?_
  refine j_get C (pc := 15) kc_X8 fl_X8_45 0 rfl rfl dX8_isTrue_15 ?_
  refine j_iload C (pc := 18) 4 rfl dX8_isTrue_18 ?_
  refine j_iald C (pc := 20) 1 rfl hf dX8_isTrue_20 (fun hf => ?_)
  refine j_aload_n C (pc := 21) 0 rfl rfl dX8_isTrue_21 ?_
  refine j_get C (pc := 22) kc_X8 fl_X8_48 0 rfl rfl dX8_isTrue_22 ?_
  refine j_iload C (pc := 25) 4 rfl dX8_isTrue_25 ?_
  refine j_iald C (pc := 27) 2 rfl hf dX8_isTrue_27 (fun hf => ?_)
  refine j_iadd C (pc := 28) dX8_isTrue_28 ?_
  refine j_icmp_ge C (pc := 29) 265 dX8_isTrue_29 (by decide) hf (fun hf => ?_) (fun hf => ?_)
  · refine j_aload_n C (pc := 265) 0 rfl rfl dX8_isTrue_265 ?_
    refine j_get C (pc := 266) kc_X8 fl_X8_54 0 rfl rfl dX8_isTrue_266 ?_
    refine j_iconst C (pc := 269) (v := 0) (by decide) dX8_isTrue_269 ?_
    refine j_zald C (pc := 270) 3 rfl (gd_mk (by decide) hf) dX8_isTrue_270 (fun hf => ?_)
    obtain ⟨hn, hf⟩ := gn_boolean hf
    obtain rfl := Option.some.inj hf
    exact hQ _ _ dX8_isTrue_271 hn
  · refine j_aload_n C (pc := 32) 0 rfl rfl dX8_isTrue_32 ?_
    refine j_get C (pc := 33) kc_X8 fl_X8_51 0 rfl rfl dX8_isTrue_33 ?_
    refine j_iload C (pc := 36) 6 rfl dX8_isTrue_36 ?_
    refine j_iald C (pc := 38) 4 rfl hf dX8_isTrue_38 (fun hf => ?_)
    refine j_nm hf (fun y1 hf => ?_)
    refine j_istore C (pc := 39) (L' := [(7, .int y1), (0, .ref a_t), (1, .int p1), (2, .int p2), (3, .int p3), (4, .int p4), (5, .int x5), (6, .int x6)]) dX8_isTrue_39 (by decide) rfl ?_
    refine j_iload C (pc := 41) 0 rfl dX8_isTrue_41 ?_
    refine j_iconst C (pc := 43) (v := 3) (by decide) dX8_isTrue_43 ?_
    refine j_icmp_lt C (pc := 44) 150 dX8_isTrue_44 (by decide) hf (fun hf => ?_) (fun hf => ?_)
    · refine j_iload C (pc := 150) 0 rfl dX8_isTrue_150 ?_
      refine j_if_ne C (pc := 152) 184 dX8_isTrue_152 (by decide) hf (fun hf => ?_) (fun hf => ?_)
      · refine j_iinc C (pc := 184) (L' := [(5, .int (x5 + (-1 : Int32))), (7, .int y1), (0, .ref a_t), (1, .int p1), (2, .int p2), (3, .int p3), (4, .int p4), (6, .int x6)]) (v := x5 + (-1 : Int32)) dX8_isTrue_184 (t := 6) rfl rfl (by decide) rfl ?_
        refine j_aload_n C (pc := 187) 2 rfl rfl dX8_isTrue_187 ?_
        refine j_get C (pc := 188) kc_X8 fl_X8_54 0 rfl rfl dX8_isTrue_188 ?_
        refine j_iload C (pc := 191) 0 rfl dX8_isTrue_191 ?_
        refine j_iconst C (pc := 193) (v := 1) (by decide) dX8_isTrue_193 ?_
        refine j_isub C (pc := 194) dX8_isTrue_194 ?_
        refine j_iload C (pc := 195) 1 rfl dX8_isTrue_195 ?_
        refine j_iconst C (pc := 197) (v := 1) (by decide) dX8_isTrue_197 ?_
        refine j_icmp_ne C (pc := 198) 231 dX8_isTrue_198 (by decide) hf (fun hf => ?_) (fun hf => ?_)
        · refine j_aload_n C (pc := 231) 2 rfl rfl dX8_isTrue_231 ?_
          refine j_get C (pc := 232) kc_X8 fl_X8_54 0 rfl rfl dX8_isTrue_232 ?_
          refine j_iload C (pc := 235) 0 rfl dX8_isTrue_235 ?_
          refine j_iconst C (pc := 237) (v := 1) (by decide) dX8_isTrue_237 ?_
          refine j_isub C (pc := 238) dX8_isTrue_238 ?_
          refine j_zald C (pc := 239) 3 rfl hf dX8_isTrue_239 (fun hf => ?_)
          refine j_if_ne C (pc := 240) 253 dX8_isTrue_240 (by decide) hf (fun hf => ?_) (fun hf => ?_)
          · refine j_iconst C (pc := 253) (v := 1) (by decide) dX8_isTrue_253 ?_
            refine j_goto C (pc := 254) 258 dX8_isTrue_254 (by decide) ?_
            refine j_zast C (pc := 258) (ws' := [oX8 a_t r_t v_people v_day v_texted v_at v_value v_digits v_open v_parishes v_holds v_coded v_seen v_inPlan v_inBook v_traced v_imaged v_most, aI G (r_t 20) 61 v_begins, aI G (r_t 21) 61 v_length, aZ G (r_t 24) 110 (upd w_stack ((x5 + (-1 : Int32)) - (1 : Int32)).toNatClampNeg (vp_nar .boolean (1 : Int32))), aI G (r_t 22) 800 v_code, aI G (r_t 1) 6 v_kind, aI G (r_t 2) 6 v_v, aI G (r_t 7) 36 v_hate]) 3 rfl hf rfl dX8_isTrue_258 (fun hf => ?_)
            refine j_iinc C (pc := 259) (L' := [(6, .int (x6 + (1 : Int32))), (5, .int (x5 + (-1 : Int32))), (7, .int y1), (0, .ref a_t), (1, .int p1), (2, .int p2), (3, .int p3), (4, .int p4)]) (v := x6 + (1 : Int32)) dX8_isTrue_259 (t := 7) rfl rfl (by decide) rfl ?_
            refine j_goto C (pc := 262) 12 dX8_isTrue_262 (by decide) ?_
            refine j_sub [3, 4, 5, 6, 7, 1, 0] rfl ?_
            exact hk12 _ _ _ hf
          · refine j_aload_n C (pc := 243) 2 rfl rfl dX8_isTrue_243 ?_
            refine j_get C (pc := 244) kc_X8 fl_X8_54 0 rfl rfl dX8_isTrue_244 ?_
            refine j_iload C (pc := 247) 0 rfl dX8_isTrue_247 ?_
            refine j_zald C (pc := 249) 3 rfl hf dX8_isTrue_249 (fun hf => ?_)
            refine j_if_eq C (pc := 250) 257 dX8_isTrue_250 (by decide) hf (fun hf => ?_) (fun hf => ?_)
            · refine j_iconst C (pc := 257) (v := 0) (by decide) dX8_isTrue_257 ?_
              refine j_zast C (pc := 258) (ws' := [oX8 a_t r_t v_people v_day v_texted v_at v_value v_digits v_open v_parishes v_holds v_coded v_seen v_inPlan v_inBook v_traced v_imaged v_most, aI G (r_t 20) 61 v_begins, aI G (r_t 21) 61 v_length, aZ G (r_t 24) 110 (upd w_stack ((x5 + (-1 : Int32)) - (1 : Int32)).toNatClampNeg (vp_nar .boolean (0 : Int32))), aI G (r_t 22) 800 v_code, aI G (r_t 1) 6 v_kind, aI G (r_t 2) 6 v_v, aI G (r_t 7) 36 v_hate]) 3 rfl hf rfl dX8_isTrue_258 (fun hf => ?_)
              refine j_iinc C (pc := 259) (L' := [(6, .int (x6 + (1 : Int32))), (5, .int (x5 + (-1 : Int32))), (7, .int y1), (0, .ref a_t), (1, .int p1), (2, .int p2), (3, .int p3), (4, .int p4)]) (v := x6 + (1 : Int32)) dX8_isTrue_259 (t := 7) rfl rfl (by decide) rfl ?_
              refine j_goto C (pc := 262) 12 dX8_isTrue_262 (by decide) ?_
              refine j_sub [3, 4, 5, 6, 7, 1, 0] rfl ?_
              exact hk12 _ _ _ hf
            · refine j_iconst C (pc := 253) (v := 1) (by decide) dX8_isTrue_253 ?_
              refine j_goto C (pc := 254) 258 dX8_isTrue_254 (by decide) ?_
              refine j_zast C (pc := 258) (ws' := [oX8 a_t r_t v_people v_day v_texted v_at v_value v_digits v_open v_parishes v_holds v_coded v_seen v_inPlan v_inBook v_traced v_imaged v_most, aI G (r_t 20) 61 v_begins, aI G (r_t 21) 61 v_length, aZ G (r_t 24) 110 (upd w_stack ((x5 + (-1 : Int32)) - (1 : Int32)).toNatClampNeg (vp_nar .boolean (1 : Int32))), aI G (r_t 22) 800 v_code, aI G (r_t 1) 6 v_kind, aI G (r_t 2) 6 v_v, aI G (r_t 7) 36 v_hate]) 3 rfl hf rfl dX8_isTrue_258 (fun hf => ?_)
              refine j_iinc C (pc := 259) (L' := [(6, .int (x6 + (1 : Int32))), (5, .int (x5 + (-1 : Int32))), (7, .int y1), (0, .ref a_t), (1, .int p1), (2, .int p2), (3, .int p3), (4, .int p4)]) (v := x6 + (1 : Int32)) dX8_isTrue_259 (t := 7) rfl rfl (by decide) rfl ?_
              refine j_goto C (pc := 262) 12 dX8_isTrue_262 (by decide) ?_
              refine j_sub [3, 4, 5, 6, 7, 1, 0] rfl ?_
              exact hk12 _ _ _ hf
        · refine j_aload_n C (pc := 201) 2 rfl rfl dX8_isTrue_201 ?_
          refine j_get C (pc := 202) kc_X8 fl_X8_54 0 rfl rfl dX8_isTrue_202 ?_
          refine j_iload C (pc := 205) 0 rfl dX8_isTrue_205 ?_
          refine j_iconst C (pc := 207) (v := 1) (by decide) dX8_isTrue_207 ?_
          refine j_isub C (pc := 208) dX8_isTrue_208 ?_
          refine j_zald C (pc := 209) 3 rfl hf dX8_isTrue_209 (fun hf => ?_)
          refine j_if_eq C (pc := 210) 227 dX8_isTrue_210 (by decide) hf (fun hf => ?_) (fun hf => ?_)
          · refine j_iconst C (pc := 227) (v := 0) (by decide) dX8_isTrue_227 ?_
            refine j_goto C (pc := 228) 258 dX8_isTrue_228 (by decide) ?_
            refine j_zast C (pc := 258) (ws' := [oX8 a_t r_t v_people v_day v_texted v_at v_value v_digits v_open v_parishes v_holds v_coded v_seen v_inPlan v_inBook v_traced v_imaged v_most, aI G (r_t 20) 61 v_begins, aI G (r_t 21) 61 v_length, aZ G (r_t 24) 110 (upd w_stack ((x5 + (-1 : Int32)) - (1 : Int32)).toNatClampNeg (vp_nar .boolean (0 : Int32))), aI G (r_t 22) 800 v_code, aI G (r_t 1) 6 v_kind, aI G (r_t 2) 6 v_v, aI G (r_t 7) 36 v_hate]) 3 rfl hf rfl dX8_isTrue_258 (fun hf => ?_)
            refine j_iinc C (pc := 259) (L' := [(6, .int (x6 + (1 : Int32))), (5, .int (x5 + (-1 : Int32))), (7, .int y1), (0, .ref a_t), (1, .int p1), (2, .int p2), (3, .int p3), (4, .int p4)]) (v := x6 + (1 : Int32)) dX8_isTrue_259 (t := 7) rfl rfl (by decide) rfl ?_
            refine j_goto C (pc := 262) 12 dX8_isTrue_262 (by decide) ?_
            refine j_sub [3, 4, 5, 6, 7, 1, 0] rfl ?_
            exact hk12 _ _ _ hf
          · refine j_aload_n C (pc := 213) 2 rfl rfl dX8_isTrue_213 ?_
            refine j_get C (pc := 214) kc_X8 fl_X8_54 0 rfl rfl dX8_isTrue_214 ?_
            refine j_iload C (pc := 217) 0 rfl dX8_isTrue_217 ?_
            refine j_zald C (pc := 219) 3 rfl hf dX8_isTrue_219 (fun hf => ?_)
            refine j_if_eq C (pc := 220) 227 dX8_isTrue_220 (by decide) hf (fun hf => ?_) (fun hf => ?_)
            · refine j_iconst C (pc := 227) (v := 0) (by decide) dX8_isTrue_227 ?_
              refine j_goto C (pc := 228) 258 dX8_isTrue_228 (by decide) ?_
              refine j_zast C (pc := 258) (ws' := [oX8 a_t r_t v_people v_day v_texted v_at v_value v_digits v_open v_parishes v_holds v_coded v_seen v_inPlan v_inBook v_traced v_imaged v_most, aI G (r_t 20) 61 v_begins, aI G (r_t 21) 61 v_length, aZ G (r_t 24) 110 (upd w_stack ((x5 + (-1 : Int32)) - (1 : Int32)).toNatClampNeg (vp_nar .boolean (0 : Int32))), aI G (r_t 22) 800 v_code, aI G (r_t 1) 6 v_kind, aI G (r_t 2) 6 v_v, aI G (r_t 7) 36 v_hate]) 3 rfl hf rfl dX8_isTrue_258 (fun hf => ?_)
              refine j_iinc C (pc := 259) (L' := [(6, .int (x6 + (1 : Int32))), (5, .int (x5 + (-1 : Int32))), (7, .int y1), (0, .ref a_t), (1, .int p1), (2, .int p2), (3, .int p3), (4, .int p4)]) (v := x6 + (1 : Int32)) dX8_isTrue_259 (t := 7) rfl rfl (by decide) rfl ?_
              refine j_goto C (pc := 262) 12 dX8_isTrue_262 (by decide) ?_
              refine j_sub [3, 4, 5, 6, 7, 1, 0] rfl ?_
              exact hk12 _ _ _ hf
            · refine j_iconst C (pc := 223) (v := 1) (by decide) dX8_isTrue_223 ?_
              refine j_goto C (pc := 224) 258 dX8_isTrue_224 (by decide) ?_
              refine j_zast C (pc := 258) (ws' := [oX8 a_t r_t v_people v_day v_texted v_at v_value v_digits v_open v_parishes v_holds v_coded v_seen v_inPlan v_inBook v_traced v_imaged v_most, aI G (r_t 20) 61 v_begins, aI G (r_t 21) 61 v_length, aZ G (r_t 24) 110 (upd w_stack ((x5 + (-1 : Int32)) - (1 : Int32)).toNatClampNeg (vp_nar .boolean (1 : Int32))), aI G (r_t 22) 800 v_code, aI G (r_t 1) 6 v_kind, aI G (r_t 2) 6 v_v, aI G (r_t 7) 36 v_hate]) 3 rfl hf rfl dX8_isTrue_258 (fun hf => ?_)
              refine j_iinc C (pc := 259) (L' := [(6, .int (x6 + (1 : Int32))), (5, .int (x5 + (-1 : Int32))), (7, .int y1), (0, .ref a_t), (1, .int p1), (2, .int p2), (3, .int p3), (4, .int p4)]) (v := x6 + (1 : Int32)) dX8_isTrue_259 (t := 7) rfl rfl (by decide) rfl ?_
              refine j_goto C (pc := 262) 12 dX8_isTrue_262 (by decide) ?_
              refine j_sub [3, 4, 5, 6, 7, 1, 0] rfl ?_
              exact hk12 _ _ _ hf
      · refine j_aload_n C (pc := 155) 1 rfl rfl dX8_isTrue_155 ?_
        refine j_get C (pc := 156) kc_X8 fl_X8_54 0 rfl rfl dX8_isTrue_156 ?_
        refine j_iload C (pc := 159) 6 rfl dX8_isTrue_159 ?_
        refine j_iconst C (pc := 161) (v := 1) (by decide) dX8_isTrue_161 ?_
        refine j_isub C (pc := 162) dX8_isTrue_162 ?_
        refine j_aload_n C (pc := 163) 1 rfl rfl dX8_isTrue_163 ?_
        refine j_get C (pc := 164) kc_X8 fl_X8_54 0 rfl rfl dX8_isTrue_164 ?_
        refine j_iload C (pc := 167) 6 rfl dX8_isTrue_167 ?_
        refine j_iconst C (pc := 169) (v := 1) (by decide) dX8_isTrue_169 ?_
        refine j_isub C (pc := 170) dX8_isTrue_170 ?_
        refine j_zald C (pc := 171) 3 rfl hf dX8_isTrue_171 (fun hf => ?_)
        refine j_if_ne C (pc := 172) 179 dX8_isTrue_172 (by decide) hf (fun hf => ?_) (fun hf => ?_)
        · refine j_iconst C (pc := 179) (v := 0) (by decide) dX8_isTrue_179 ?_
          refine j_zast C (pc := 180) (ws' := [oX8 a_t r_t v_people v_day v_texted v_at v_value v_digits v_open v_parishes v_holds v_coded v_seen v_inPlan v_inBook v_traced v_imaged v_most, aI G (r_t 20) 61 v_begins, aI G (r_t 21) 61 v_length, aZ G (r_t 24) 110 (upd w_stack (x5 - (1 : Int32)).toNatClampNeg (vp_nar .boolean (0 : Int32))), aI G (r_t 22) 800 v_code, aI G (r_t 1) 6 v_kind, aI G (r_t 2) 6 v_v, aI G (r_t 7) 36 v_hate]) 3 rfl hf rfl dX8_isTrue_180 (fun hf => ?_)
          refine j_goto C (pc := 181) 259 dX8_isTrue_181 (by decide) ?_
          refine j_iinc C (pc := 259) (L' := [(6, .int (x6 + (1 : Int32))), (7, .int y1), (0, .ref a_t), (1, .int p1), (2, .int p2), (3, .int p3), (4, .int p4), (5, .int x5)]) (v := x6 + (1 : Int32)) dX8_isTrue_259 (t := 7) rfl rfl (by decide) rfl ?_
          refine j_goto C (pc := 262) 12 dX8_isTrue_262 (by decide) ?_
          refine j_sub [2, 3, 4, 5, 6, 7, 0] rfl ?_
          exact hk12 _ _ _ hf
        · refine j_iconst C (pc := 175) (v := 1) (by decide) dX8_isTrue_175 ?_
          refine j_goto C (pc := 176) 180 dX8_isTrue_176 (by decide) ?_
          refine j_zast C (pc := 180) (ws' := [oX8 a_t r_t v_people v_day v_texted v_at v_value v_digits v_open v_parishes v_holds v_coded v_seen v_inPlan v_inBook v_traced v_imaged v_most, aI G (r_t 20) 61 v_begins, aI G (r_t 21) 61 v_length, aZ G (r_t 24) 110 (upd w_stack (x5 - (1 : Int32)).toNatClampNeg (vp_nar .boolean (1 : Int32))), aI G (r_t 22) 800 v_code, aI G (r_t 1) 6 v_kind, aI G (r_t 2) 6 v_v, aI G (r_t 7) 36 v_hate]) 3 rfl hf rfl dX8_isTrue_180 (fun hf => ?_)
          refine j_goto C (pc := 181) 259 dX8_isTrue_181 (by decide) ?_
          refine j_iinc C (pc := 259) (L' := [(6, .int (x6 + (1 : Int32))), (7, .int y1), (0, .ref a_t), (1, .int p1), (2, .int p2), (3, .int p3), (4, .int p4), (5, .int x5)]) (v := x6 + (1 : Int32)) dX8_isTrue_259 (t := 7) rfl rfl (by decide) rfl ?_
          refine j_goto C (pc := 262) 12 dX8_isTrue_262 (by decide) ?_
          refine j_sub [2, 3, 4, 5, 6, 7, 0] rfl ?_
          exact hk12 _ _ _ hf
    · refine j_aload_n C (pc := 47) 1 rfl rfl dX8_isTrue_47 ?_
      refine j_iload_n C (pc := 48) 2 rfl rfl dX8_isTrue_48 ?_
      refine j_iload_n C (pc := 49) 3 rfl rfl dX8_isTrue_49 ?_
      refine j_iload_n C (pc := 50) 4 rfl rfl dX8_isTrue_50 ?_
      refine j_iload C (pc := 51) 0 rfl dX8_isTrue_51 ?_
      refine j_iconst C (pc := 53) (v := 3) (by decide) dX8_isTrue_53 ?_
      refine j_isub C (pc := 54) dX8_isTrue_54 ?_
      refine j_sipush C (pc := 55) (v := 300) (by decide) dX8_isTrue_55 ?_
      refine j_idiv C (pc := 58) dX8_isTrue_58 (gz_mk (by decide) hf) (fun hf => ?_)
      refine j_cVI C (pc := 59) (As := [.int p1, .int p2, .int p3, .int ((y1 - (3 : Int32)) / (300 : Int32))]) (st := []) (ws' := fun q2 => [oX8 a_t r_t v_people v_day v_texted v_at v_value v_digits v_open v_parishes v_holds v_coded v_seen v_inPlan v_inBook v_traced v_imaged v_most, aI G (r_t 20) 61 v_begins, aI G (r_t 21) 61 v_length, aZ G (r_t 24) 110 w_stack, aI G (r_t 22) 800 v_code, aI G (r_t 1) 6 v_kind, aI G (r_t 2) 6 v_v, aI G (r_t 7) 36 v_hate]) ml_X8_228 ms_X8_letterOf hf (fun q2 h => (c_X8_letterOf G K.2.1) a_t r_t v_people v_day v_texted v_at v_value v_digits v_open v_parishes v_holds v_coded v_seen v_inPlan v_inBook v_traced v_imaged v_most v_kind v_v v_hate p1 p2 p3 ((y1 - (3 : Int32)) / (300 : Int32)) q2 h) [0, 5, 6, 7] [some 0, none, none, none, none, some 1, some 2, some 3] 8 rfl (by decide +kernel) (by decide +kernel) (fun _ => rfl) (fun _ => rfl) rfl rfl rfl rfl ⟨Nat.zero_le _, Nat.zero_le _⟩ dX8_isTrue_59 kc_X8 0 rfl (fun q2 hf => ?_)
      refine j_istore C (pc := 62) (L' := [(8, .int q2), (7, .int y1), (0, .ref a_t), (1, .int p1), (2, .int p2), (3, .int p3), (4, .int p4), (5, .int x5), (6, .int x6)]) dX8_isTrue_62 (by decide) rfl ?_
      refine j_iload C (pc := 64) 1 rfl dX8_isTrue_64 ?_
      refine j_iconst C (pc := 66) (v := 3) (by decide) dX8_isTrue_66 ?_
      refine j_isub C (pc := 67) dX8_isTrue_67 ?_
      refine j_bipush C (pc := 68) (v := 100) (by decide) dX8_isTrue_68 ?_
      refine j_irem C (pc := 70) dX8_isTrue_70 (gz_mk (by decide) hf) (fun hf => ?_)
      refine j_nm hf (fun y3 hf => ?_)
      refine j_istore C (pc := 71) (L' := [(9, .int y3), (8, .int q2), (7, .int y1), (0, .ref a_t), (1, .int p1), (2, .int p2), (3, .int p3), (4, .int p4), (5, .int x5), (6, .int x6)]) dX8_isTrue_71 (by decide) rfl ?_
      refine j_iload C (pc := 73) 2 rfl dX8_isTrue_73 ?_
      refine j_iconst C (pc := 75) (v := 3) (by decide) dX8_isTrue_75 ?_
      refine j_isub C (pc := 76) dX8_isTrue_76 ?_
      refine j_bipush C (pc := 77) (v := 100) (by decide) dX8_isTrue_77 ?_
      refine j_idiv C (pc := 79) dX8_isTrue_79 (gz_mk (by decide) hf) (fun hf => ?_)
      refine j_iconst C (pc := 80) (v := 3) (by decide) dX8_isTrue_80 ?_
      refine j_irem C (pc := 81) dX8_isTrue_81 (gz_mk (by decide) hf) (fun hf => ?_)
      refine j_nm hf (fun y4 hf => ?_)
      refine j_istore C (pc := 82) (L' := [(10, .int y4), (9, .int y3), (8, .int q2), (7, .int y1), (0, .ref a_t), (1, .int p1), (2, .int p2), (3, .int p3), (4, .int p4), (5, .int x5), (6, .int x6)]) dX8_isTrue_82 (by decide) rfl ?_
      refine j_aload_n C (pc := 84) 4 rfl rfl dX8_isTrue_84 ?_
      refine j_get C (pc := 85) kc_X8 fl_X8_54 0 rfl rfl dX8_isTrue_85 ?_
      refine j_iload C (pc := 88) 9 rfl dX8_isTrue_88 ?_
      refine j_iinc C (pc := 90) (L' := [(5, .int (x5 + (1 : Int32))), (10, .int y4), (9, .int y3), (8, .int q2), (7, .int y1), (0, .ref a_t), (1, .int p1), (2, .int p2), (3, .int p3), (4, .int p4), (6, .int x6)]) (v := x5 + (1 : Int32)) dX8_isTrue_90 (t := 9) rfl rfl (by decide) rfl ?_
      refine j_iload C (pc := 93) 1 rfl dX8_isTrue_93 ?_
      refine j_if_ne C (pc := 95) 113 dX8_isTrue_95 (by decide) hf (fun hf => ?_) (fun hf => ?_)
      · refine j_iload C (pc := 113) 1 rfl dX8_isTrue_113 ?_
        refine j_iconst C (pc := 115) (v := 1) (by decide) dX8_isTrue_115 ?_
        refine j_icmp_ne C (pc := 116) 134 dX8_isTrue_116 (by decide) hf (fun hf => ?_) (fun hf => ?_)
        · refine j_iload C (pc := 134) 3 rfl dX8_isTrue_134 ?_
          refine j_iload C (pc := 136) 2 rfl dX8_isTrue_136 ?_
          refine j_icmp_le C (pc := 138) 145 dX8_isTrue_138 (by decide) hf (fun hf => ?_) (fun hf => ?_)
          · refine j_iconst C (pc := 145) (v := 0) (by decide) dX8_isTrue_145 ?_
            refine j_zast C (pc := 146) (ws' := [oX8 a_t r_t v_people v_day v_texted v_at v_value v_digits v_open v_parishes v_holds v_coded v_seen v_inPlan v_inBook v_traced v_imaged v_most, aI G (r_t 20) 61 v_begins, aI G (r_t 21) 61 v_length, aZ G (r_t 24) 110 (upd w_stack x5.toNatClampNeg (vp_nar .boolean (0 : Int32))), aI G (r_t 22) 800 v_code, aI G (r_t 1) 6 v_kind, aI G (r_t 2) 6 v_v, aI G (r_t 7) 36 v_hate]) 3 rfl hf rfl dX8_isTrue_146 (fun hf => ?_)
            refine j_goto C (pc := 147) 259 dX8_isTrue_147 (by decide) ?_
            refine j_iinc C (pc := 259) (L' := [(6, .int (x6 + (1 : Int32))), (5, .int (x5 + (1 : Int32))), (10, .int y4), (9, .int y3), (8, .int q2), (7, .int y1), (0, .ref a_t), (1, .int p1), (2, .int p2), (3, .int p3), (4, .int p4)]) (v := x6 + (1 : Int32)) dX8_isTrue_259 (t := 10) rfl rfl (by decide) rfl ?_
            refine j_goto C (pc := 262) 12 dX8_isTrue_262 (by decide) ?_
            refine j_sub [6, 7, 8, 9, 10, 1, 0] rfl ?_
            exact hk12 _ _ _ hf
          · refine j_iconst C (pc := 141) (v := 1) (by decide) dX8_isTrue_141 ?_
            refine j_goto C (pc := 142) 146 dX8_isTrue_142 (by decide) ?_
            refine j_zast C (pc := 146) (ws' := [oX8 a_t r_t v_people v_day v_texted v_at v_value v_digits v_open v_parishes v_holds v_coded v_seen v_inPlan v_inBook v_traced v_imaged v_most, aI G (r_t 20) 61 v_begins, aI G (r_t 21) 61 v_length, aZ G (r_t 24) 110 (upd w_stack x5.toNatClampNeg (vp_nar .boolean (1 : Int32))), aI G (r_t 22) 800 v_code, aI G (r_t 1) 6 v_kind, aI G (r_t 2) 6 v_v, aI G (r_t 7) 36 v_hate]) 3 rfl hf rfl dX8_isTrue_146 (fun hf => ?_)
            refine j_goto C (pc := 147) 259 dX8_isTrue_147 (by decide) ?_
            refine j_iinc C (pc := 259) (L' := [(6, .int (x6 + (1 : Int32))), (5, .int (x5 + (1 : Int32))), (10, .int y4), (9, .int y3), (8, .int q2), (7, .int y1), (0, .ref a_t), (1, .int p1), (2, .int p2), (3, .int p3), (4, .int p4)]) (v := x6 + (1 : Int32)) dX8_isTrue_259 (t := 10) rfl rfl (by decide) rfl ?_
            refine j_goto C (pc := 262) 12 dX8_isTrue_262 (by decide) ?_
            refine j_sub [6, 7, 8, 9, 10, 1, 0] rfl ?_
            exact hk12 _ _ _ hf
        · refine j_iload C (pc := 119) 3 rfl dX8_isTrue_119 ?_
          refine j_iload C (pc := 121) 2 rfl dX8_isTrue_121 ?_
          refine j_icmp_ne C (pc := 123) 130 dX8_isTrue_123 (by decide) hf (fun hf => ?_) (fun hf => ?_)
          · refine j_iconst C (pc := 130) (v := 0) (by decide) dX8_isTrue_130 ?_
            refine j_goto C (pc := 131) 146 dX8_isTrue_131 (by decide) ?_
            refine j_zast C (pc := 146) (ws' := [oX8 a_t r_t v_people v_day v_texted v_at v_value v_digits v_open v_parishes v_holds v_coded v_seen v_inPlan v_inBook v_traced v_imaged v_most, aI G (r_t 20) 61 v_begins, aI G (r_t 21) 61 v_length, aZ G (r_t 24) 110 (upd w_stack x5.toNatClampNeg (vp_nar .boolean (0 : Int32))), aI G (r_t 22) 800 v_code, aI G (r_t 1) 6 v_kind, aI G (r_t 2) 6 v_v, aI G (r_t 7) 36 v_hate]) 3 rfl hf rfl dX8_isTrue_146 (fun hf => ?_)
            refine j_goto C (pc := 147) 259 dX8_isTrue_147 (by decide) ?_
            refine j_iinc C (pc := 259) (L' := [(6, .int (x6 + (1 : Int32))), (5, .int (x5 + (1 : Int32))), (10, .int y4), (9, .int y3), (8, .int q2), (7, .int y1), (0, .ref a_t), (1, .int p1), (2, .int p2), (3, .int p3), (4, .int p4)]) (v := x6 + (1 : Int32)) dX8_isTrue_259 (t := 10) rfl rfl (by decide) rfl ?_
            refine j_goto C (pc := 262) 12 dX8_isTrue_262 (by decide) ?_
            refine j_sub [6, 7, 8, 9, 10, 1, 0] rfl ?_
            exact hk12 _ _ _ hf
          · refine j_iconst C (pc := 126) (v := 1) (by decide) dX8_isTrue_126 ?_
            refine j_goto C (pc := 127) 146 dX8_isTrue_127 (by decide) ?_
            refine j_zast C (pc := 146) (ws' := [oX8 a_t r_t v_people v_day v_texted v_at v_value v_digits v_open v_parishes v_holds v_coded v_seen v_inPlan v_inBook v_traced v_imaged v_most, aI G (r_t 20) 61 v_begins, aI G (r_t 21) 61 v_length, aZ G (r_t 24) 110 (upd w_stack x5.toNatClampNeg (vp_nar .boolean (1 : Int32))), aI G (r_t 22) 800 v_code, aI G (r_t 1) 6 v_kind, aI G (r_t 2) 6 v_v, aI G (r_t 7) 36 v_hate]) 3 rfl hf rfl dX8_isTrue_146 (fun hf => ?_)
            refine j_goto C (pc := 147) 259 dX8_isTrue_147 (by decide) ?_
            refine j_iinc C (pc := 259) (L' := [(6, .int (x6 + (1 : Int32))), (5, .int (x5 + (1 : Int32))), (10, .int y4), (9, .int y3), (8, .int q2), (7, .int y1), (0, .ref a_t), (1, .int p1), (2, .int p2), (3, .int p3), (4, .int p4)]) (v := x6 + (1 : Int32)) dX8_isTrue_259 (t := 10) rfl rfl (by decide) rfl ?_
            refine j_goto C (pc := 262) 12 dX8_isTrue_262 (by decide) ?_
            refine j_sub [6, 7, 8, 9, 10, 1, 0] rfl ?_
            exact hk12 _ _ _ hf
      · refine j_iload C (pc := 98) 3 rfl dX8_isTrue_98 ?_
        refine j_iload C (pc := 100) 2 rfl dX8_isTrue_100 ?_
        refine j_icmp_ge C (pc := 102) 109 dX8_isTrue_102 (by decide) hf (fun hf => ?_) (fun hf => ?_)
        · refine j_iconst C (pc := 109) (v := 0) (by decide) dX8_isTrue_109 ?_
          refine j_goto C (pc := 110) 146 dX8_isTrue_110 (by decide) ?_
          refine j_zast C (pc := 146) (ws' := [oX8 a_t r_t v_people v_day v_texted v_at v_value v_digits v_open v_parishes v_holds v_coded v_seen v_inPlan v_inBook v_traced v_imaged v_most, aI G (r_t 20) 61 v_begins, aI G (r_t 21) 61 v_length, aZ G (r_t 24) 110 (upd w_stack x5.toNatClampNeg (vp_nar .boolean (0 : Int32))), aI G (r_t 22) 800 v_code, aI G (r_t 1) 6 v_kind, aI G (r_t 2) 6 v_v, aI G (r_t 7) 36 v_hate]) 3 rfl hf rfl dX8_isTrue_146 (fun hf => ?_)
          refine j_goto C (pc := 147) 259 dX8_isTrue_147 (by decide) ?_
          refine j_iinc C (pc := 259) (L' := [(6, .int (x6 + (1 : Int32))), (5, .int (x5 + (1 : Int32))), (10, .int y4), (9, .int y3), (8, .int q2), (7, .int y1), (0, .ref a_t), (1, .int p1), (2, .int p2), (3, .int p3), (4, .int p4)]) (v := x6 + (1 : Int32)) dX8_isTrue_259 (t := 10) rfl rfl (by decide) rfl ?_
          refine j_goto C (pc := 262) 12 dX8_isTrue_262 (by decide) ?_
          refine j_sub [6, 7, 8, 9, 10, 1, 0] rfl ?_
          exact hk12 _ _ _ hf
        · refine j_iconst C (pc := 105) (v := 1) (by decide) dX8_isTrue_105 ?_
          refine j_goto C (pc := 106) 146 dX8_isTrue_106 (by decide) ?_
          refine j_zast C (pc := 146) (ws' := [oX8 a_t r_t v_people v_day v_texted v_at v_value v_digits v_open v_parishes v_holds v_coded v_seen v_inPlan v_inBook v_traced v_imaged v_most, aI G (r_t 20) 61 v_begins, aI G (r_t 21) 61 v_length, aZ G (r_t 24) 110 (upd w_stack x5.toNatClampNeg (vp_nar .boolean (1 : Int32))), aI G (r_t 22) 800 v_code, aI G (r_t 1) 6 v_kind, aI G (r_t 2) 6 v_v, aI G (r_t 7) 36 v_hate]) 3 rfl hf rfl dX8_isTrue_146 (fun hf => ?_)
          refine j_goto C (pc := 147) 259 dX8_isTrue_147 (by decide) ?_
          refine j_iinc C (pc := 259) (L' := [(6, .int (x6 + (1 : Int32))), (5, .int (x5 + (1 : Int32))), (10, .int y4), (9, .int y3), (8, .int q2), (7, .int y1), (0, .ref a_t), (1, .int p1), (2, .int p2), (3, .int p3), (4, .int p4)]) (v := x6 + (1 : Int32)) dX8_isTrue_259 (t := 10) rfl rfl (by decide) rfl ?_
          refine j_goto C (pc := 262) 12 dX8_isTrue_262 (by decide) ?_
          refine j_sub [6, 7, 8, 9, 10, 1, 0] rfl ?_
          exact hk12 _ _ _ hf
theorem t_X8_isTrue_12 {G : Gx} {K : Kx} (C : Cx G K cX8_isTrue RX8 11 2) {a_t : Nat} {r_t : Nat → Nat} {v_people : Int32} {v_day : Int32} {v_texted : Int32} {v_at : Int32} {v_value : Int32} {v_digits : Int32} {v_open : Int32} {v_parishes : Int32} {v_holds : Int32} {v_coded : Int32} {v_seen : Int32} {v_inPlan : Int32} {v_inBook : Int32} {v_traced : Int32} {v_imaged : Int32} {v_most : Int32} {v_begins : Nat → Int32} {v_length : Nat → Int32} {v_code : Nat → Int32} {v_kind : Nat → Int32} {v_v : Nat → Int32} {v_hate : Nat → Int32} {p1 : Int32} {p2 : Int32} {p3 : Int32} {p4 : Int32} {q : Int32 × (Nat → Int32)} (hQ : k_retI G K cX8_isTrue 11 .boolean [oX8 a_t r_t v_people v_day v_texted v_at v_value v_digits v_open v_parishes v_holds v_coded v_seen v_inPlan v_inBook v_traced v_imaged v_most, aI G (r_t 20) 61 v_begins, aI G (r_t 21) 61 v_length, aZ G (r_t 24) 110 q.2, aI G (r_t 22) 800 v_code, aI G (r_t 1) 6 v_kind, aI G (r_t 2) 6 v_v, aI G (r_t 7) 36 v_hate] q.1) : ∀ (n : Nat) (x5 : Int32) (x6 : Int32) (w_stack : Nat → Int32), f_X8_isTrue_12 v_begins v_length v_code v_kind v_v v_hate p1 p2 p3 p4 n x5 x6 w_stack = some q → J G K 11 0 0 [oX8 a_t r_t v_people v_day v_texted v_at v_value v_digits v_open v_parishes v_holds v_coded v_seen v_inPlan v_inBook v_traced v_imaged v_most, aI G (r_t 20) 61 v_begins, aI G (r_t 21) 61 v_length, aZ G (r_t 24) 110 w_stack, aI G (r_t 22) 800 v_code, aI G (r_t 1) 6 v_kind, aI G (r_t 2) 6 v_v, aI G (r_t 7) 36 v_hate] [(0, .ref a_t), (1, .int p1), (2, .int p2), (3, .int p3), (4, .int p4), (5, .int x5), (6, .int x6)] 12 [] := by
  intro n
  induction n with
  | zero => intro x5 x6 w_stack hf; cases hf
  | succ n ih => intro x5 x6 w_stack hf; exact t_X8_isTrue_12_b C hQ ih hf
def f_X8_isTrue (v_begins : Nat → Int32) (v_length : Nat → Int32) (v_stack : Nat → Int32) (v_code : Nat → Int32) (v_kind : Nat → Int32) (v_v : Nat → Int32) (v_hate : Nat → Int32) (p1 : Int32) (p2 : Int32) (p3 : Int32) (p4 : Int32) : Option (Int32 × (Nat → Int32)) := (gd p4 61 (nm (v_begins p4.toNatClampNeg) fun y1 => (f_X8_isTrue_12 v_begins v_length v_code v_kind v_v v_hate p1 p2 p3 p4 1000 (0 : Int32) y1 v_stack)))
set_option maxRecDepth 20000 in
set_option maxHeartbeats 1000000 in
theorem t_X8_isTrue {G : Gx} {K : Kx} (C : Cx G K cX8_isTrue RX8 11 2) {a_t : Nat} {r_t : Nat → Nat} {v_people : Int32} {v_day : Int32} {v_texted : Int32} {v_at : Int32} {v_value : Int32} {v_digits : Int32} {v_open : Int32} {v_parishes : Int32} {v_holds : Int32} {v_coded : Int32} {v_seen : Int32} {v_inPlan : Int32} {v_inBook : Int32} {v_traced : Int32} {v_imaged : Int32} {v_most : Int32} {v_begins : Nat → Int32} {v_length : Nat → Int32} {v_stack : Nat → Int32} {v_code : Nat → Int32} {v_kind : Nat → Int32} {v_v : Nat → Int32} {v_hate : Nat → Int32} {p1 : Int32} {p2 : Int32} {p3 : Int32} {p4 : Int32} {q : Int32 × (Nat → Int32)} (hQ : k_retI G K cX8_isTrue 11 .boolean [oX8 a_t r_t v_people v_day v_texted v_at v_value v_digits v_open v_parishes v_holds v_coded v_seen v_inPlan v_inBook v_traced v_imaged v_most, aI G (r_t 20) 61 v_begins, aI G (r_t 21) 61 v_length, aZ G (r_t 24) 110 q.2, aI G (r_t 22) 800 v_code, aI G (r_t 1) 6 v_kind, aI G (r_t 2) 6 v_v, aI G (r_t 7) 36 v_hate] q.1) (hf : f_X8_isTrue v_begins v_length v_stack v_code v_kind v_v v_hate p1 p2 p3 p4 = some q) : J G K 11 0 0 [oX8 a_t r_t v_people v_day v_texted v_at v_value v_digits v_open v_parishes v_holds v_coded v_seen v_inPlan v_inBook v_traced v_imaged v_most, aI G (r_t 20) 61 v_begins, aI G (r_t 21) 61 v_length, aZ G (r_t 24) 110 v_stack, aI G (r_t 22) 800 v_code, aI G (r_t 1) 6 v_kind, aI G (r_t 2) 6 v_v, aI G (r_t 7) 36 v_hate] [(0, .ref a_t), (1, .int p1), (2, .int p2), (3, .int p3), (4, .int p4)] 0 [] := by
  unfold f_X8_isTrue at hf
  refine j_iconst C (pc := 0) (v := 0) (by decide) dX8_isTrue_0 ?_
  refine j_istore C (pc := 1) (L' := [(5, .int (0 : Int32)), (0, .ref a_t), (1, .int p1), (2, .int p2), (3, .int p3), (4, .int p4)]) dX8_isTrue_1 (by decide) rfl ?_
  refine j_aload_n C (pc := 3) 1 rfl rfl dX8_isTrue_3 ?_
  refine j_get C (pc := 4) kc_X8 fl_X8_45 0 rfl rfl dX8_isTrue_4 ?_
  refine j_iload C (pc := 7) 5 rfl dX8_isTrue_7 ?_
  refine j_iald C (pc := 9) 1 rfl hf dX8_isTrue_9 (fun hf => ?_)
  refine j_nm hf (fun y1 hf => ?_)
  refine j_istore C (pc := 10) (L' := [(6, .int y1), (5, .int (0 : Int32)), (0, .ref a_t), (1, .int p1), (2, .int p2), (3, .int p3), (4, .int p4)]) dX8_isTrue_10 (by decide) rfl ?_
  refine j_sub [2, 3, 4, 5, 6, 1, 0] rfl ?_
  exact t_X8_isTrue_12 C hQ 1000 _ _ _ hf
def ct_X8_isTrue (G : Gx) (l : Launch) (F : (Nat → Int32) → (Nat → Int32) → (Nat → Int32) → (Nat → Int32) → (Nat → Int32) → (Nat → Int32) → (Nat → Int32) → Int32 → Int32 → Int32 → Int32 → Option (Int32 × (Nat → Int32))) (lv : Nat) : Prop := ∀ (a_t : Nat) (r_t : Nat → Nat) (v_people : Int32) (v_day : Int32) (v_texted : Int32) (v_at : Int32) (v_value : Int32) (v_digits : Int32) (v_open : Int32) (v_parishes : Int32) (v_holds : Int32) (v_coded : Int32) (v_seen : Int32) (v_inPlan : Int32) (v_inBook : Int32) (v_traced : Int32) (v_imaged : Int32) (v_most : Int32) (v_begins : Nat → Int32) (v_length : Nat → Int32) (v_stack : Nat → Int32) (v_code : Nat → Int32) (v_kind : Nat → Int32) (v_v : Nat → Int32) (v_hate : Nat → Int32) (p1 : Int32) (p2 : Int32) (p3 : Int32) (p4 : Int32), ∀ (q : Int32 × (Nat → Int32)), F v_begins v_length v_stack v_code v_kind v_v v_hate p1 p2 p3 p4 = some q → MI G l yX8_isTrue cX8_isTrue 11 .boolean lv [.ref a_t, .int p1, .int p2, .int p3, .int p4] [oX8 a_t r_t v_people v_day v_texted v_at v_value v_digits v_open v_parishes v_holds v_coded v_seen v_inPlan v_inBook v_traced v_imaged v_most, aI G (r_t 20) 61 v_begins, aI G (r_t 21) 61 v_length, aZ G (r_t 24) 110 v_stack, aI G (r_t 22) 800 v_code, aI G (r_t 1) 6 v_kind, aI G (r_t 2) 6 v_v, aI G (r_t 7) 36 v_hate] [oX8 a_t r_t v_people v_day v_texted v_at v_value v_digits v_open v_parishes v_holds v_coded v_seen v_inPlan v_inBook v_traced v_imaged v_most, aI G (r_t 20) 61 v_begins, aI G (r_t 21) 61 v_length, aZ G (r_t 24) 110 q.2, aI G (r_t 22) 800 v_code, aI G (r_t 1) 6 v_kind, aI G (r_t 2) 6 v_v, aI G (r_t 7) 36 v_hate] q.1
theorem c_X8_isTrue (G : Gx) (l : Launch) : ct_X8_isTrue G l f_X8_isTrue 2 := by
  intro a_t r_t v_people v_day v_texted v_at v_value v_digits v_open v_parishes v_holds v_coded v_seen v_inPlan v_inBook v_traced v_imaged v_most v_begins v_length v_stack v_code v_kind v_v v_hate p1 p2 p3 p4 q hf
  exact mI_of (by decide +kernel) rfl (fun K hl C hQ => t_X8_isTrue C hQ hf)
