-- J9_floorMod_7cf53
def f_J9_floorMod_7cf53 (p1 : Int32) (p2 : Int32) : Option (Int32) := (gz p2 (nm (p1 - p1 / p2 * p2) fun y1 => (if 0 ≤ (p1 ^^^ p2) then (some y1) else (if y1 = 0 then (some y1) else (some (y1 + p2))))))
set_option maxRecDepth 20000 in
set_option maxHeartbeats 1000000 in
theorem t_J9_floorMod_7cf53 {G : Gx} {K : Kx} (C : Cx G K cJ9_floorMod_7cf53 RJ9 3 1) {p1 : Int32} {p2 : Int32} {q : Int32} (hQ : k_retI G K cJ9_floorMod_7cf53 3 .int [] q) (hf : f_J9_floorMod_7cf53 p1 p2 = some q) : J G K 3 0 0 [] [(0, .int p1), (1, .int p2)] 0 [] := by
  unfold f_J9_floorMod_7cf53 at hf
  refine j_iload_n C (pc := 0) 0 rfl rfl dJ9_floorMod_7cf53_0 ?_
  refine j_iload_n C (pc := 1) 1 rfl rfl dJ9_floorMod_7cf53_1 ?_
  refine j_irem C (pc := 2) dJ9_floorMod_7cf53_2 hf (fun hf => ?_)
  refine j_nm hf (fun y1 hf => ?_)
  refine j_istore_n C (pc := 3) (L' := [(2, .int y1), (0, .int p1), (1, .int p2)]) dJ9_floorMod_7cf53_3 rfl (by decide) rfl ?_
  refine j_iload_n C (pc := 4) 1 rfl rfl dJ9_floorMod_7cf53_4 ?_
  refine j_iload_n C (pc := 5) 2 rfl rfl dJ9_floorMod_7cf53_5 ?_
  refine j_ixor C (pc := 6) dJ9_floorMod_7cf53_6 ?_
  refine j_if_ge C (pc := 7) 18 dJ9_floorMod_7cf53_7 (by decide) hf (fun hf => ?_) (fun hf => ?_)
  · refine j_iload_n C (pc := 18) 0 rfl rfl dJ9_floorMod_7cf53_18 ?_
    obtain rfl := Option.some.inj hf
    exact hQ _ _ dJ9_floorMod_7cf53_19 rfl
  · refine j_iload_n C (pc := 10) 0 rfl rfl dJ9_floorMod_7cf53_10 ?_
    refine j_if_eq C (pc := 11) 18 dJ9_floorMod_7cf53_11 (by decide) hf (fun hf => ?_) (fun hf => ?_)
    · refine j_iload_n C (pc := 18) 0 rfl rfl dJ9_floorMod_7cf53_18 ?_
      obtain rfl := Option.some.inj hf
      exact hQ _ _ dJ9_floorMod_7cf53_19 rfl
    · refine j_iload_n C (pc := 14) 0 rfl rfl dJ9_floorMod_7cf53_14 ?_
      refine j_iload_n C (pc := 15) 2 rfl rfl dJ9_floorMod_7cf53_15 ?_
      refine j_iadd C (pc := 16) dJ9_floorMod_7cf53_16 ?_
      obtain rfl := Option.some.inj hf
      exact hQ _ _ dJ9_floorMod_7cf53_17 rfl
def ct_J9_floorMod_7cf53 (G : Gx) (l : Launch) (F : Int32 → Int32 → Option (Int32)) (lv : Nat) : Prop := ∀ (p1 : Int32) (p2 : Int32), ∀ (q : Int32), F p1 p2 = some q → MI G l yJ9_floorMod_7cf53 cJ9_floorMod_7cf53 3 .int lv [.int p1, .int p2] [] [] q
theorem c_J9_floorMod_7cf53 (G : Gx) (l : Launch) : ct_J9_floorMod_7cf53 G l f_J9_floorMod_7cf53 1 := by
  intro p1 p2 q hf
  exact mI_of (by decide +kernel) rfl (fun K hl C hQ => t_J9_floorMod_7cf53 C hQ hf)
-- J9_max_7cf53
def f_J9_max_7cf53 (p1 : Int32) (p2 : Int32) : Option (Int32) := (if p1 < p2 then (some p2) else (some p1))
set_option maxRecDepth 20000 in
set_option maxHeartbeats 1000000 in
theorem t_J9_max_7cf53 {G : Gx} {K : Kx} (C : Cx G K cJ9_max_7cf53 RJ9 2 1) {p1 : Int32} {p2 : Int32} {q : Int32} (hQ : k_retI G K cJ9_max_7cf53 2 .int [] q) (hf : f_J9_max_7cf53 p1 p2 = some q) : J G K 2 0 0 [] [(0, .int p1), (1, .int p2)] 0 [] := by
  unfold f_J9_max_7cf53 at hf
  refine j_iload_n C (pc := 0) 0 rfl rfl dJ9_max_7cf53_0 ?_
  refine j_iload_n C (pc := 1) 1 rfl rfl dJ9_max_7cf53_1 ?_
  refine j_icmp_lt C (pc := 2) 9 dJ9_max_7cf53_2 (by decide) hf (fun hf => ?_) (fun hf => ?_)
  · refine j_iload_n C (pc := 9) 1 rfl rfl dJ9_max_7cf53_9 ?_
    obtain rfl := Option.some.inj hf
    exact hQ _ _ dJ9_max_7cf53_10 rfl
  · refine j_iload_n C (pc := 5) 0 rfl rfl dJ9_max_7cf53_5 ?_
    refine j_goto C (pc := 6) 10 dJ9_max_7cf53_6 (by decide) ?_
    obtain rfl := Option.some.inj hf
    exact hQ _ _ dJ9_max_7cf53_10 rfl
def ct_J9_max_7cf53 (G : Gx) (l : Launch) (F : Int32 → Int32 → Option (Int32)) (lv : Nat) : Prop := ∀ (p1 : Int32) (p2 : Int32), ∀ (q : Int32), F p1 p2 = some q → MI G l yJ9_max_7cf53 cJ9_max_7cf53 2 .int lv [.int p1, .int p2] [] [] q
theorem c_J9_max_7cf53 (G : Gx) (l : Launch) : ct_J9_max_7cf53 G l f_J9_max_7cf53 1 := by
  intro p1 p2 q hf
  exact mI_of (by decide +kernel) rfl (fun K hl C hQ => t_J9_max_7cf53 C hQ hf)
-- J6_bitCount_0f7a4
def f_J6_bitCount_0f7a4 (p1 : Int32) : Option (Int32) := (nm (p1 - (((p1.toUInt32 >>> ((1 : Int32).toUInt32 &&& Int32.toUInt32 31)).toInt32) &&& (1431655765 : Int32))) fun y1 => (nm ((y1 &&& (858993459 : Int32)) + (((y1.toUInt32 >>> ((2 : Int32).toUInt32 &&& Int32.toUInt32 31)).toInt32) &&& (858993459 : Int32))) fun y2 => (nm ((y2 + ((y2.toUInt32 >>> ((4 : Int32).toUInt32 &&& Int32.toUInt32 31)).toInt32)) &&& (252645135 : Int32)) fun y3 => (nm (y3 + ((y3.toUInt32 >>> ((8 : Int32).toUInt32 &&& Int32.toUInt32 31)).toInt32)) fun y4 => (nm (y4 + ((y4.toUInt32 >>> ((16 : Int32).toUInt32 &&& Int32.toUInt32 31)).toInt32)) fun y5 => (some (y5 &&& (63 : Int32))))))))
set_option maxRecDepth 20000 in
set_option maxHeartbeats 1000000 in
theorem t_J6_bitCount_0f7a4 {G : Gx} {K : Kx} (C : Cx G K cJ6_bitCount_0f7a4 RJ6 1 1) {p1 : Int32} {q : Int32} (hQ : k_retI G K cJ6_bitCount_0f7a4 1 .int [] q) (hf : f_J6_bitCount_0f7a4 p1 = some q) : J G K 1 0 0 [] [(0, .int p1)] 0 [] := by
  unfold f_J6_bitCount_0f7a4 at hf
  refine j_iload_n C (pc := 0) 0 rfl rfl dJ6_bitCount_0f7a4_0 ?_
  refine j_iload_n C (pc := 1) 0 rfl rfl dJ6_bitCount_0f7a4_1 ?_
  refine j_iconst C (pc := 2) (v := 1) (by decide) dJ6_bitCount_0f7a4_2 ?_
  refine j_iushr C (pc := 3) dJ6_bitCount_0f7a4_3 ?_
  refine j_ldcw C (pc := 4) kk_J6_265 dJ6_bitCount_0f7a4_4 ?_
  refine j_iand C (pc := 7) dJ6_bitCount_0f7a4_7 ?_
  refine j_isub C (pc := 8) dJ6_bitCount_0f7a4_8 ?_
  refine j_nm hf (fun y1 hf => ?_)
  refine j_istore_n C (pc := 9) (L' := [(0, .int y1)]) dJ6_bitCount_0f7a4_9 rfl (by decide) rfl ?_
  refine j_iload_n C (pc := 10) 0 rfl rfl dJ6_bitCount_0f7a4_10 ?_
  refine j_ldcw C (pc := 11) kk_J6_266 dJ6_bitCount_0f7a4_11 ?_
  refine j_iand C (pc := 14) dJ6_bitCount_0f7a4_14 ?_
  refine j_iload_n C (pc := 15) 0 rfl rfl dJ6_bitCount_0f7a4_15 ?_
  refine j_iconst C (pc := 16) (v := 2) (by decide) dJ6_bitCount_0f7a4_16 ?_
  refine j_iushr C (pc := 17) dJ6_bitCount_0f7a4_17 ?_
  refine j_ldcw C (pc := 18) kk_J6_266 dJ6_bitCount_0f7a4_18 ?_
  refine j_iand C (pc := 21) dJ6_bitCount_0f7a4_21 ?_
  refine j_iadd C (pc := 22) dJ6_bitCount_0f7a4_22 ?_
  refine j_nm hf (fun y2 hf => ?_)
  refine j_istore_n C (pc := 23) (L' := [(0, .int y2)]) dJ6_bitCount_0f7a4_23 rfl (by decide) rfl ?_
  refine j_iload_n C (pc := 24) 0 rfl rfl dJ6_bitCount_0f7a4_24 ?_
  refine j_iload_n C (pc := 25) 0 rfl rfl dJ6_bitCount_0f7a4_25 ?_
  refine j_iconst C (pc := 26) (v := 4) (by decide) dJ6_bitCount_0f7a4_26 ?_
  refine j_iushr C (pc := 27) dJ6_bitCount_0f7a4_27 ?_
  refine j_iadd C (pc := 28) dJ6_bitCount_0f7a4_28 ?_
  refine j_ldcw C (pc := 29) kk_J6_267 dJ6_bitCount_0f7a4_29 ?_
  refine j_iand C (pc := 32) dJ6_bitCount_0f7a4_32 ?_
  refine j_nm hf (fun y3 hf => ?_)
  refine j_istore_n C (pc := 33) (L' := [(0, .int y3)]) dJ6_bitCount_0f7a4_33 rfl (by decide) rfl ?_
  refine j_iload_n C (pc := 34) 0 rfl rfl dJ6_bitCount_0f7a4_34 ?_
  refine j_iload_n C (pc := 35) 0 rfl rfl dJ6_bitCount_0f7a4_35 ?_
  refine j_bipush C (pc := 36) (v := 8) (by decide) dJ6_bitCount_0f7a4_36 ?_
  refine j_iushr C (pc := 38) dJ6_bitCount_0f7a4_38 ?_
  refine j_iadd C (pc := 39) dJ6_bitCount_0f7a4_39 ?_
  refine j_nm hf (fun y4 hf => ?_)
  refine j_istore_n C (pc := 40) (L' := [(0, .int y4)]) dJ6_bitCount_0f7a4_40 rfl (by decide) rfl ?_
  refine j_iload_n C (pc := 41) 0 rfl rfl dJ6_bitCount_0f7a4_41 ?_
  refine j_iload_n C (pc := 42) 0 rfl rfl dJ6_bitCount_0f7a4_42 ?_
  refine j_bipush C (pc := 43) (v := 16) (by decide) dJ6_bitCount_0f7a4_43 ?_
  refine j_iushr C (pc := 45) dJ6_bitCount_0f7a4_45 ?_
  refine j_iadd C (pc := 46) dJ6_bitCount_0f7a4_46 ?_
  refine j_nm hf (fun y5 hf => ?_)
  refine j_istore_n C (pc := 47) (L' := [(0, .int y5)]) dJ6_bitCount_0f7a4_47 rfl (by decide) rfl ?_
  refine j_iload_n C (pc := 48) 0 rfl rfl dJ6_bitCount_0f7a4_48 ?_
  refine j_bipush C (pc := 49) (v := 63) (by decide) dJ6_bitCount_0f7a4_49 ?_
  refine j_iand C (pc := 51) dJ6_bitCount_0f7a4_51 ?_
  obtain rfl := Option.some.inj hf
  exact hQ _ _ dJ6_bitCount_0f7a4_52 rfl
def ct_J6_bitCount_0f7a4 (G : Gx) (l : Launch) (F : Int32 → Option (Int32)) (lv : Nat) : Prop := ∀ (p1 : Int32), ∀ (q : Int32), F p1 = some q → MI G l yJ6_bitCount_0f7a4 cJ6_bitCount_0f7a4 1 .int lv [.int p1] [] [] q
theorem c_J6_bitCount_0f7a4 (G : Gx) (l : Launch) : ct_J6_bitCount_0f7a4 G l f_J6_bitCount_0f7a4 1 := by
  intro p1 q hf
  exact mI_of (by decide +kernel) rfl (fun K hl C hQ => t_J6_bitCount_0f7a4 C hQ hf)
-- J9_min_7cf53
def f_J9_min_7cf53 (p1 : Int32) (p2 : Int32) : Option (Int32) := (if p2 < p1 then (some p2) else (some p1))
set_option maxRecDepth 20000 in
set_option maxHeartbeats 1000000 in
theorem t_J9_min_7cf53 {G : Gx} {K : Kx} (C : Cx G K cJ9_min_7cf53 RJ9 2 1) {p1 : Int32} {p2 : Int32} {q : Int32} (hQ : k_retI G K cJ9_min_7cf53 2 .int [] q) (hf : f_J9_min_7cf53 p1 p2 = some q) : J G K 2 0 0 [] [(0, .int p1), (1, .int p2)] 0 [] := by
  unfold f_J9_min_7cf53 at hf
  refine j_iload_n C (pc := 0) 0 rfl rfl dJ9_min_7cf53_0 ?_
  refine j_iload_n C (pc := 1) 1 rfl rfl dJ9_min_7cf53_1 ?_
  refine j_icmp_gt C (pc := 2) 9 dJ9_min_7cf53_2 (by decide) hf (fun hf => ?_) (fun hf => ?_)
  · refine j_iload_n C (pc := 9) 1 rfl rfl dJ9_min_7cf53_9 ?_
    obtain rfl := Option.some.inj hf
    exact hQ _ _ dJ9_min_7cf53_10 rfl
  · refine j_iload_n C (pc := 5) 0 rfl rfl dJ9_min_7cf53_5 ?_
    refine j_goto C (pc := 6) 10 dJ9_min_7cf53_6 (by decide) ?_
    obtain rfl := Option.some.inj hf
    exact hQ _ _ dJ9_min_7cf53_10 rfl
def ct_J9_min_7cf53 (G : Gx) (l : Launch) (F : Int32 → Int32 → Option (Int32)) (lv : Nat) : Prop := ∀ (p1 : Int32) (p2 : Int32), ∀ (q : Int32), F p1 p2 = some q → MI G l yJ9_min_7cf53 cJ9_min_7cf53 2 .int lv [.int p1, .int p2] [] [] q
theorem c_J9_min_7cf53 (G : Gx) (l : Launch) : ct_J9_min_7cf53 G l f_J9_min_7cf53 1 := by
  intro p1 p2 q hf
  exact mI_of (by decide +kernel) rfl (fun K hl C hQ => t_J9_min_7cf53 C hQ hf)
-- J0_isLatin1_aae02
def f_J0_isLatin1_aae02 (sx : Nat) : Option (Int32) := (gl sx (some (1 : Int32)))
set_option maxRecDepth 20000 in
set_option maxHeartbeats 1000000 in
theorem t_J0_isLatin1_aae02 {G : Gx} {K : Kx} (C : Cx G K cJ0_isLatin1_aae02 RJ0 1 1) {sx : Nat} {q : Int32} (hQ : k_retI G K cJ0_isLatin1_aae02 1 .boolean [] q) (hf : f_J0_isLatin1_aae02 sx = some q) : J G K 1 0 0 [] [(0, .ref (G.2.2 (10 + sx)))] 0 [] := by
  unfold f_J0_isLatin1_aae02 at hf
  refine j_gs_compact C (pc := 0) sl_J0_38 dJ0_isLatin1_aae02_0 ?_
  refine j_f_if_eq C (pc := 3) (tgt := 17) (by decide) dJ0_isLatin1_aae02_3 (by decide) ?_
  refine j_aload_n C (pc := 6) 0 rfl rfl dJ0_isLatin1_aae02_6 ?_
  obtain ⟨hi, hf⟩ := gl_some hf
  refine j_sget_coder C (pc := 7) hi sl_J0_15 dJ0_isLatin1_aae02_7 ?_
  refine j_f_if_ne C (pc := 10) (tgt := 17) (by decide) dJ0_isLatin1_aae02_10 (by decide) ?_
  refine j_iconst C (pc := 13) (v := 1) (by decide) dJ0_isLatin1_aae02_13 ?_
  refine j_goto C (pc := 14) 18 dJ0_isLatin1_aae02_14 (by decide) ?_
  obtain rfl := Option.some.inj hf
  exact hQ _ _ dJ0_isLatin1_aae02_18 (show narrow .boolean (.int (1 : Int32)) = .int (1 : Int32) from rfl)
def ct_J0_isLatin1_aae02 (G : Gx) (l : Launch) (F : Nat → Option (Int32)) (lv : Nat) : Prop := ∀ (sx : Nat), ∀ (q : Int32), F sx = some q → MI G l yJ0_isLatin1_aae02 cJ0_isLatin1_aae02 1 .boolean lv [.ref (G.2.2 (10 + sx))] [] [] q
theorem c_J0_isLatin1_aae02 (G : Gx) (l : Launch) : ct_J0_isLatin1_aae02 G l f_J0_isLatin1_aae02 1 := by
  intro sx q hf
  exact mI_of (by decide +kernel) rfl (fun K hl C hQ => t_J0_isLatin1_aae02 C hQ hf)
-- J0_coder_7d493
def f_J0_coder_7d493 (sx : Nat) : Option (Int32) := (gl sx (some (0 : Int32)))
set_option maxRecDepth 20000 in
set_option maxHeartbeats 1000000 in
theorem t_J0_coder_7d493 {G : Gx} {K : Kx} (C : Cx G K cJ0_coder_7d493 RJ0 1 1) {sx : Nat} {q : Int32} (hQ : k_retI G K cJ0_coder_7d493 1 .byte [] q) (hf : f_J0_coder_7d493 sx = some q) : J G K 1 0 0 [] [(0, .ref (G.2.2 (10 + sx)))] 0 [] := by
  unfold f_J0_coder_7d493 at hf
  refine j_gs_compact C (pc := 0) sl_J0_38 dJ0_coder_7d493_0 ?_
  refine j_f_if_eq C (pc := 3) (tgt := 13) (by decide) dJ0_coder_7d493_3 (by decide) ?_
  refine j_aload_n C (pc := 6) 0 rfl rfl dJ0_coder_7d493_6 ?_
  obtain ⟨hi, hf⟩ := gl_some hf
  refine j_sget_coder C (pc := 7) hi sl_J0_15 dJ0_coder_7d493_7 ?_
  refine j_goto C (pc := 10) 14 dJ0_coder_7d493_10 (by decide) ?_
  obtain rfl := Option.some.inj hf
  exact hQ _ _ dJ0_coder_7d493_14 rfl
def ct_J0_coder_7d493 (G : Gx) (l : Launch) (F : Nat → Option (Int32)) (lv : Nat) : Prop := ∀ (sx : Nat), ∀ (q : Int32), F sx = some q → MI G l yJ0_coder_7d493 cJ0_coder_7d493 1 .byte lv [.ref (G.2.2 (10 + sx))] [] [] q
theorem c_J0_coder_7d493 (G : Gx) (l : Launch) : ct_J0_coder_7d493 G l f_J0_coder_7d493 1 := by
  intro sx q hf
  exact mI_of (by decide +kernel) rfl (fun K hl C hQ => t_J0_coder_7d493 C hQ hf)
-- J0_length_8abf5
def f_J0_length_8abf5 (sx : Nat) : Option (Int32) := (gl sx (gl sx (gl sx ((f_J0_coder_7d493 sx).bind fun q1 => (some ((Int32.ofNat (k_tn sx)) >>> (q1 &&& 31)))))))
set_option maxRecDepth 20000 in
set_option maxHeartbeats 1000000 in
theorem t_J0_length_8abf5 {G : Gx} {K : Kx} (C : Cx G K cJ0_length_8abf5 RJ0 1 2) {sx : Nat} {q : Int32} (hQ : k_retI G K cJ0_length_8abf5 1 .int [] q) (hf : f_J0_length_8abf5 sx = some q) : J G K 1 0 0 [] [(0, .ref (G.2.2 (10 + sx)))] 0 [] := by
  unfold f_J0_length_8abf5 at hf
  refine j_aload_n C (pc := 0) 0 rfl rfl dJ0_length_8abf5_0 ?_
  obtain ⟨hi, hf⟩ := gl_some hf
  refine j_sget_value C (pc := 1) hi sl_J0_9 dJ0_length_8abf5_1 ?_
  obtain ⟨hi, hf⟩ := gl_some hf
  refine j_bs_len C (pc := 4) hi dJ0_length_8abf5_4 ?_
  refine j_aload_n C (pc := 5) 0 rfl rfl dJ0_length_8abf5_5 ?_
  obtain ⟨hi, hf⟩ := gl_some hf
  refine j_cTI C (pc := 6) (As := []) (st := [.int (Int32.ofNat (k_tn sx))]) (ws' := fun q1 => []) ml_J0_335 ms_J0_coder_7d493 hf (fun q1 h => (c_J0_coder_7d493 G K.2.1) sx q1 h) [] [] 0 rfl (by decide +kernel) (by decide +kernel) (fun _ => rfl) (fun _ => rfl) rfl rfl rfl rfl ⟨Nat.zero_le _, Nat.zero_le _⟩ dJ0_length_8abf5_6 sx hi rfl rfl (fun q1 hf => ?_)
  refine j_ishr C (pc := 9) dJ0_length_8abf5_9 ?_
  obtain rfl := Option.some.inj hf
  exact hQ _ _ dJ0_length_8abf5_10 rfl
def ct_J0_length_8abf5 (G : Gx) (l : Launch) (F : Nat → Option (Int32)) (lv : Nat) : Prop := ∀ (sx : Nat), ∀ (q : Int32), F sx = some q → MI G l yJ0_length_8abf5 cJ0_length_8abf5 1 .int lv [.ref (G.2.2 (10 + sx))] [] [] q
theorem c_J0_length_8abf5 (G : Gx) (l : Launch) : ct_J0_length_8abf5 G l f_J0_length_8abf5 2 := by
  intro sx q hf
  exact mI_of (by decide +kernel) rfl (fun K hl C hQ => t_J0_length_8abf5 C hQ hf)
-- J1_canEncode_9a6ad
def f_J1_canEncode_9a6ad (p1 : Int32) : Option (Int32) := (if p1 < 0 then (some (0 : Int32)) else (if (255 : Int32) < p1 then (some (0 : Int32)) else (some (1 : Int32))))
set_option maxRecDepth 20000 in
set_option maxHeartbeats 1000000 in
theorem t_J1_canEncode_9a6ad {G : Gx} {K : Kx} (C : Cx G K cJ1_canEncode_9a6ad RJ1 1 1) {p1 : Int32} {q : Int32} (hQ : k_retI G K cJ1_canEncode_9a6ad 1 .boolean [] q) (hf : f_J1_canEncode_9a6ad p1 = some q) : J G K 1 0 0 [] [(0, .int p1)] 0 [] := by
  unfold f_J1_canEncode_9a6ad at hf
  refine j_iload_n C (pc := 0) 0 rfl rfl dJ1_canEncode_9a6ad_0 ?_
  refine j_if_lt C (pc := 1) 15 dJ1_canEncode_9a6ad_1 (by decide) hf (fun hf => ?_) (fun hf => ?_)
  · refine j_iconst C (pc := 15) (v := 0) (by decide) dJ1_canEncode_9a6ad_15 ?_
    obtain rfl := Option.some.inj hf
    exact hQ _ _ dJ1_canEncode_9a6ad_16 (show narrow .boolean (.int (0 : Int32)) = .int (0 : Int32) from rfl)
  · refine j_iload_n C (pc := 4) 0 rfl rfl dJ1_canEncode_9a6ad_4 ?_
    refine j_sipush C (pc := 5) (v := 255) (by decide) dJ1_canEncode_9a6ad_5 ?_
    refine j_icmp_gt C (pc := 8) 15 dJ1_canEncode_9a6ad_8 (by decide) hf (fun hf => ?_) (fun hf => ?_)
    · refine j_iconst C (pc := 15) (v := 0) (by decide) dJ1_canEncode_9a6ad_15 ?_
      obtain rfl := Option.some.inj hf
      exact hQ _ _ dJ1_canEncode_9a6ad_16 (show narrow .boolean (.int (0 : Int32)) = .int (0 : Int32) from rfl)
    · refine j_iconst C (pc := 11) (v := 1) (by decide) dJ1_canEncode_9a6ad_11 ?_
      refine j_goto C (pc := 12) 16 dJ1_canEncode_9a6ad_12 (by decide) ?_
      obtain rfl := Option.some.inj hf
      exact hQ _ _ dJ1_canEncode_9a6ad_16 (show narrow .boolean (.int (1 : Int32)) = .int (1 : Int32) from rfl)
def ct_J1_canEncode_9a6ad (G : Gx) (l : Launch) (F : Int32 → Option (Int32)) (lv : Nat) : Prop := ∀ (p1 : Int32), ∀ (q : Int32), F p1 = some q → MI G l yJ1_canEncode_9a6ad cJ1_canEncode_9a6ad 1 .boolean lv [.int p1] [] [] q
theorem c_J1_canEncode_9a6ad (G : Gx) (l : Launch) : ct_J1_canEncode_9a6ad G l f_J1_canEncode_9a6ad 1 := by
  intro p1 q hf
  exact mI_of (by decide +kernel) rfl (fun K hl C hQ => t_J1_canEncode_9a6ad C hQ hf)
-- J1_indexOfChar_4cfef
def f_J1_indexOfChar_4cfef_7_b (p1 : Nat) (p4 : Int32) (k7 : Int32 → Int32 → Option (Int32)) (x4 : Int32) (x5 : Int32) : Option (Int32) := (if p4 ≤ x5 then (some (-1 : Int32)) else (gl p1 (gd x5 (k_tn p1) (if (k_tb p1 x5.toNatClampNeg) = x4 then (some x5) else (k7 x4 (x5 + (1 : Int32)))))))
def f_J1_indexOfChar_4cfef_7 (p1 : Nat) (p4 : Int32) : Nat → Int32 → Int32 → Option (Int32)
  | 0 => fun _ _ => none
  | n + 1 => f_J1_indexOfChar_4cfef_7_b p1 p4 (f_J1_indexOfChar_4cfef_7 p1 p4 n)
set_option maxRecDepth 20000 in
set_option maxHeartbeats 1000000 in
theorem t_J1_indexOfChar_4cfef_7_b {G : Gx} {K : Kx} (C : Cx G K cJ1_indexOfChar_4cfef RJ1 6 1) {p1 : Nat} {p4 : Int32} {q : Int32} (hQ : k_retI G K cJ1_indexOfChar_4cfef 6 .int [] q) {k7 : Int32 → Int32 → Option (Int32)} (hk7 : ∀ (x4 : Int32) (x5 : Int32), k7 x4 x5 = some q → J G K 6 0 0 [] [(0, .ref (G.2.2 (20 + p1))), (3, .int p4), (4, .int x4), (5, .int x5)] 7 []) {x4 : Int32} {x5 : Int32} (hf : f_J1_indexOfChar_4cfef_7_b p1 p4 k7 x4 x5 = some q) : J G K 6 0 0 [] [(0, .ref (G.2.2 (20 + p1))), (3, .int p4), (4, .int x4), (5, .int x5)] 7 [] := by
  unfold f_J1_indexOfChar_4cfef_7_b at hf
  refine j_iload C (pc := 7) 3 rfl dJ1_indexOfChar_4cfef_7 ?_
  refine j_iload_n C (pc := 9) 1 rfl rfl dJ1_indexOfChar_4cfef_9 ?_
  refine j_icmp_ge C (pc := 10) 31 dJ1_indexOfChar_4cfef_10 (by decide) hf (fun hf => ?_) (fun hf => ?_)
  · refine j_iconst C (pc := 31) (v := -1) (by decide) dJ1_indexOfChar_4cfef_31 ?_
    obtain rfl := Option.some.inj hf
    exact hQ _ _ dJ1_indexOfChar_4cfef_32 rfl
  · refine j_aload_n C (pc := 13) 0 rfl rfl dJ1_indexOfChar_4cfef_13 ?_
    refine j_iload C (pc := 14) 3 rfl dJ1_indexOfChar_4cfef_14 ?_
    obtain ⟨hi, hf⟩ := gl_some hf
    refine j_bs_ld C (pc := 16) hi hf dJ1_indexOfChar_4cfef_16 (fun hf => ?_)
    refine j_iload C (pc := 17) 2 rfl dJ1_indexOfChar_4cfef_17 ?_
    refine j_icmp_ne C (pc := 19) 25 dJ1_indexOfChar_4cfef_19 (by decide) hf (fun hf => ?_) (fun hf => ?_)
    · refine j_iinc C (pc := 25) (L' := [(5, .int (x5 + (1 : Int32))), (0, .ref (G.2.2 (20 + p1))), (3, .int p4), (4, .int x4)]) (v := x5 + (1 : Int32)) dJ1_indexOfChar_4cfef_25 (t := 3) rfl rfl (by decide) rfl ?_
      refine j_goto C (pc := 28) 7 dJ1_indexOfChar_4cfef_28 (by decide) ?_
      refine j_sub [1, 2, 3, 0] rfl ?_
      exact hk7 _ _ hf
    · refine j_iload C (pc := 22) 3 rfl dJ1_indexOfChar_4cfef_22 ?_
      obtain rfl := Option.some.inj hf
      exact hQ _ _ dJ1_indexOfChar_4cfef_24 rfl
theorem t_J1_indexOfChar_4cfef_7 {G : Gx} {K : Kx} (C : Cx G K cJ1_indexOfChar_4cfef RJ1 6 1) {p1 : Nat} {p4 : Int32} {q : Int32} (hQ : k_retI G K cJ1_indexOfChar_4cfef 6 .int [] q) : ∀ (n : Nat) (x4 : Int32) (x5 : Int32), f_J1_indexOfChar_4cfef_7 p1 p4 n x4 x5 = some q → J G K 6 0 0 [] [(0, .ref (G.2.2 (20 + p1))), (3, .int p4), (4, .int x4), (5, .int x5)] 7 [] := by
  intro n
  induction n with
  | zero => intro x4 x5 hf; cases hf
  | succ n ih => intro x4 x5 hf; exact t_J1_indexOfChar_4cfef_7_b C hQ ih hf
def f_J1_indexOfChar_4cfef (p1 : Nat) (p2 : Int32) (p3 : Int32) (p4 : Int32) : Option (Int32) := (nm (p2.toInt8.toInt32) fun y1 => (f_J1_indexOfChar_4cfef_7 p1 p4 1000 y1 p3))
set_option maxRecDepth 20000 in
set_option maxHeartbeats 1000000 in
theorem t_J1_indexOfChar_4cfef {G : Gx} {K : Kx} (C : Cx G K cJ1_indexOfChar_4cfef RJ1 6 1) {p1 : Nat} {p2 : Int32} {p3 : Int32} {p4 : Int32} {q : Int32} (hQ : k_retI G K cJ1_indexOfChar_4cfef 6 .int [] q) (hf : f_J1_indexOfChar_4cfef p1 p2 p3 p4 = some q) : J G K 6 0 0 [] [(0, .ref (G.2.2 (20 + p1))), (1, .int p2), (2, .int p3), (3, .int p4)] 0 [] := by
  unfold f_J1_indexOfChar_4cfef at hf
  refine j_iload_n C (pc := 0) 1 rfl rfl dJ1_indexOfChar_4cfef_0 ?_
  refine j_i2b C (pc := 1) dJ1_indexOfChar_4cfef_1 ?_
  refine j_nm hf (fun y1 hf => ?_)
  refine j_istore C (pc := 2) (L' := [(4, .int y1), (0, .ref (G.2.2 (20 + p1))), (1, .int p2), (2, .int p3), (3, .int p4)]) dJ1_indexOfChar_4cfef_2 (by decide) rfl ?_
  refine j_iload_n C (pc := 4) 3 rfl rfl dJ1_indexOfChar_4cfef_4 ?_
  refine j_istore C (pc := 5) (L' := [(5, .int p3), (4, .int y1), (0, .ref (G.2.2 (20 + p1))), (1, .int p2), (2, .int p3), (3, .int p4)]) dJ1_indexOfChar_4cfef_5 (by decide) rfl ?_
  refine j_sub [2, 5, 1, 0] rfl ?_
  exact t_J1_indexOfChar_4cfef_7 C hQ 1000 _ _ hf
def ct_J1_indexOfChar_4cfef (G : Gx) (l : Launch) (F : Nat → Int32 → Int32 → Int32 → Option (Int32)) (lv : Nat) : Prop := ∀ (p1 : Nat) (p2 : Int32) (p3 : Int32) (p4 : Int32), ∀ (q : Int32), F p1 p2 p3 p4 = some q → MI G l yJ1_indexOfChar_4cfef cJ1_indexOfChar_4cfef 6 .int lv [.ref (G.2.2 (20 + p1)), .int p2, .int p3, .int p4] [] [] q
theorem c_J1_indexOfChar_4cfef (G : Gx) (l : Launch) : ct_J1_indexOfChar_4cfef G l f_J1_indexOfChar_4cfef 1 := by
  intro p1 p2 p3 p4 q hf
  exact mI_of (by decide +kernel) rfl (fun K hl C hQ => t_J1_indexOfChar_4cfef C hQ hf)
-- J1_indexOf_4cfef
def f_J1_indexOf_4cfef (p1 : Nat) (p2 : Int32) (p3 : Int32) (p4 : Int32) : Option (Int32) := ((f_J1_canEncode_9a6ad p2).bind fun q1 => (if q1 = 0 then (some (-1 : Int32)) else ((f_J9_max_7cf53 p3 (0 : Int32)).bind fun q2 => (gl p1 ((f_J9_min_7cf53 p4 (Int32.ofNat (k_tn p1))).bind fun q3 => (if q2 < q3 then ((f_J1_indexOfChar_4cfef p1 p2 q2 q3).bind fun q4 => (some q4)) else (some (-1 : Int32))))))))
set_option maxRecDepth 20000 in
set_option maxHeartbeats 1000000 in
theorem t_J1_indexOf_4cfef {G : Gx} {K : Kx} (C : Cx G K cJ1_indexOf_4cfef RJ1 4 2) {p1 : Nat} {p2 : Int32} {p3 : Int32} {p4 : Int32} {q : Int32} (hQ : k_retI G K cJ1_indexOf_4cfef 4 .int [] q) (hf : f_J1_indexOf_4cfef p1 p2 p3 p4 = some q) : J G K 4 0 0 [] [(0, .ref (G.2.2 (20 + p1))), (1, .int p2), (2, .int p3), (3, .int p4)] 0 [] := by
  unfold f_J1_indexOf_4cfef at hf
  refine j_iload_n C (pc := 0) 1 rfl rfl dJ1_indexOf_4cfef_0 ?_
  refine j_cSI C (pc := 1) (As := [.int p2]) (st := []) (ws' := fun q1 => []) ml_J1_88 ms_J1_canEncode_9a6ad hf (fun q1 h => (c_J1_canEncode_9a6ad G K.2.1) p2 q1 h) [] [] 0 rfl (by decide +kernel) (by decide +kernel) (fun _ => rfl) (fun _ => rfl) rfl rfl rfl rfl ⟨Nat.zero_le _, Nat.zero_le _⟩ dJ1_indexOf_4cfef_1 (fun q1 hf => ?_)
  refine j_if_ne C (pc := 4) 9 dJ1_indexOf_4cfef_4 (by decide) hf (fun hf => ?_) (fun hf => ?_)
  · refine j_iload_n C (pc := 9) 2 rfl rfl dJ1_indexOf_4cfef_9 ?_
    refine j_iconst C (pc := 10) (v := 0) (by decide) dJ1_indexOf_4cfef_10 ?_
    refine j_cSI C (pc := 11) (As := [.int p3, .int (0 : Int32)]) (st := []) (ws' := fun q2 => []) ml_J1_92 ms_J9_max_7cf53 hf (fun q2 h => (c_J9_max_7cf53 G K.2.1) p3 (0 : Int32) q2 h) [] [] 0 rfl (by decide +kernel) (by decide +kernel) (fun _ => rfl) (fun _ => rfl) rfl rfl rfl rfl ⟨Nat.zero_le _, Nat.zero_le _⟩ dJ1_indexOf_4cfef_11 (fun q2 hf => ?_)
    refine j_istore_n C (pc := 14) (L' := [(2, .int q2), (0, .ref (G.2.2 (20 + p1))), (1, .int p2), (3, .int p4)]) dJ1_indexOf_4cfef_14 rfl (by decide) rfl ?_
    refine j_iload_n C (pc := 15) 3 rfl rfl dJ1_indexOf_4cfef_15 ?_
    refine j_aload_n C (pc := 16) 1 rfl rfl dJ1_indexOf_4cfef_16 ?_
    obtain ⟨hi, hf⟩ := gl_some hf
    refine j_bs_len C (pc := 17) hi dJ1_indexOf_4cfef_17 ?_
    refine j_cSI C (pc := 18) (As := [.int p4, .int (Int32.ofNat (k_tn p1))]) (st := []) (ws' := fun q3 => []) ml_J1_38 ms_J9_min_7cf53 hf (fun q3 h => (c_J9_min_7cf53 G K.2.1) p4 (Int32.ofNat (k_tn p1)) q3 h) [] [] 0 rfl (by decide +kernel) (by decide +kernel) (fun _ => rfl) (fun _ => rfl) rfl rfl rfl rfl ⟨Nat.zero_le _, Nat.zero_le _⟩ dJ1_indexOf_4cfef_18 (fun q3 hf => ?_)
    refine j_istore_n C (pc := 21) (L' := [(3, .int q3), (2, .int q2), (0, .ref (G.2.2 (20 + p1))), (1, .int p2)]) dJ1_indexOf_4cfef_21 rfl (by decide) rfl ?_
    refine j_iload_n C (pc := 22) 1 rfl rfl dJ1_indexOf_4cfef_22 ?_
    refine j_iload_n C (pc := 23) 0 rfl rfl dJ1_indexOf_4cfef_23 ?_
    refine j_icmp_lt C (pc := 24) 29 dJ1_indexOf_4cfef_24 (by decide) hf (fun hf => ?_) (fun hf => ?_)
    · refine j_aload_n C (pc := 29) 2 rfl rfl dJ1_indexOf_4cfef_29 ?_
      refine j_iload_n C (pc := 30) 3 rfl rfl dJ1_indexOf_4cfef_30 ?_
      refine j_iload_n C (pc := 31) 1 rfl rfl dJ1_indexOf_4cfef_31 ?_
      refine j_iload_n C (pc := 32) 0 rfl rfl dJ1_indexOf_4cfef_32 ?_
      refine j_cSI C (pc := 33) (As := [.ref (G.2.2 (20 + p1)), .int p2, .int q2, .int q3]) (st := []) (ws' := fun q4 => []) ml_J1_95 ms_J1_indexOfChar_4cfef hf (fun q4 h => (c_J1_indexOfChar_4cfef G K.2.1) p1 p2 q2 q3 q4 h) [] [] 0 rfl (by decide +kernel) (by decide +kernel) (fun _ => rfl) (fun _ => rfl) rfl rfl rfl rfl ⟨Nat.zero_le _, Nat.zero_le _⟩ dJ1_indexOf_4cfef_33 (fun q4 hf => ?_)
      obtain rfl := Option.some.inj hf
      exact hQ _ _ dJ1_indexOf_4cfef_36 rfl
    · refine j_iconst C (pc := 27) (v := -1) (by decide) dJ1_indexOf_4cfef_27 ?_
      obtain rfl := Option.some.inj hf
      exact hQ _ _ dJ1_indexOf_4cfef_28 rfl
  · refine j_iconst C (pc := 7) (v := -1) (by decide) dJ1_indexOf_4cfef_7 ?_
    obtain rfl := Option.some.inj hf
    exact hQ _ _ dJ1_indexOf_4cfef_8 rfl
def ct_J1_indexOf_4cfef (G : Gx) (l : Launch) (F : Nat → Int32 → Int32 → Int32 → Option (Int32)) (lv : Nat) : Prop := ∀ (p1 : Nat) (p2 : Int32) (p3 : Int32) (p4 : Int32), ∀ (q : Int32), F p1 p2 p3 p4 = some q → MI G l yJ1_indexOf_4cfef cJ1_indexOf_4cfef 4 .int lv [.ref (G.2.2 (20 + p1)), .int p2, .int p3, .int p4] [] [] q
theorem c_J1_indexOf_4cfef (G : Gx) (l : Launch) : ct_J1_indexOf_4cfef G l f_J1_indexOf_4cfef 2 := by
  intro p1 p2 p3 p4 q hf
  exact mI_of (by decide +kernel) rfl (fun K hl C hQ => t_J1_indexOf_4cfef C hQ hf)
-- J0_indexOf_7cf53
def f_J0_indexOf_7cf53 (sx : Nat) (p1 : Int32) (p2 : Int32) : Option (Int32) := (gl sx ((f_J0_isLatin1_aae02 sx).bind fun q1 => (if q1 = 0 then (none) else (gl sx (gl sx ((f_J0_length_8abf5 sx).bind fun q2 => ((f_J1_indexOf_4cfef sx p1 p2 q2).bind fun q3 => (some q3))))))))
set_option maxRecDepth 20000 in
set_option maxHeartbeats 1000000 in
theorem t_J0_indexOf_7cf53 {G : Gx} {K : Kx} (C : Cx G K cJ0_indexOf_7cf53 RJ0 3 3) {sx : Nat} {p1 : Int32} {p2 : Int32} {q : Int32} (hQ : k_retI G K cJ0_indexOf_7cf53 3 .int [] q) (hf : f_J0_indexOf_7cf53 sx p1 p2 = some q) : J G K 3 0 0 [] [(0, .ref (G.2.2 (10 + sx))), (1, .int p1), (2, .int p2)] 0 [] := by
  unfold f_J0_indexOf_7cf53 at hf
  refine j_aload_n C (pc := 0) 0 rfl rfl dJ0_indexOf_7cf53_0 ?_
  obtain ⟨hi, hf⟩ := gl_some hf
  refine j_cTI C (pc := 1) (As := []) (st := []) (ws' := fun q1 => []) ml_J0_492 ms_J0_isLatin1_aae02 hf (fun q1 h => (c_J0_isLatin1_aae02 G K.2.1) sx q1 h) [] [] 0 rfl (by decide +kernel) (by decide +kernel) (fun _ => rfl) (fun _ => rfl) rfl rfl rfl rfl ⟨Nat.zero_le _, Nat.zero_le _⟩ dJ0_indexOf_7cf53_1 sx hi rfl rfl (fun q1 hf => ?_)
  refine j_if_eq C (pc := 4) 23 dJ0_indexOf_7cf53_4 (by decide) hf (fun hf => ?_) (fun hf => ?_)
  · cases hf
  · refine j_aload_n C (pc := 7) 0 rfl rfl dJ0_indexOf_7cf53_7 ?_
    obtain ⟨hi, hf⟩ := gl_some hf
    refine j_sget_value C (pc := 8) hi sl_J0_9 dJ0_indexOf_7cf53_8 ?_
    refine j_iload_n C (pc := 11) 1 rfl rfl dJ0_indexOf_7cf53_11 ?_
    refine j_iload_n C (pc := 12) 2 rfl rfl dJ0_indexOf_7cf53_12 ?_
    refine j_aload_n C (pc := 13) 0 rfl rfl dJ0_indexOf_7cf53_13 ?_
    obtain ⟨hi, hf⟩ := gl_some hf
    refine j_cTI C (pc := 14) (As := []) (st := [.int p2, .int p1, .ref (G.2.2 (20 + sx))]) (ws' := fun q2 => []) ml_J0_505 ms_J0_length_8abf5 hf (fun q2 h => (c_J0_length_8abf5 G K.2.1) sx q2 h) [] [] 0 rfl (by decide +kernel) (by decide +kernel) (fun _ => rfl) (fun _ => rfl) rfl rfl rfl rfl ⟨Nat.zero_le _, Nat.zero_le _⟩ dJ0_indexOf_7cf53_14 sx hi rfl rfl (fun q2 hf => ?_)
    refine j_cSI C (pc := 17) (As := [.ref (G.2.2 (20 + sx)), .int p1, .int p2, .int q2]) (st := []) (ws' := fun q3 => []) ml_J0_637 ms_J1_indexOf_4cfef hf (fun q3 h => (c_J1_indexOf_4cfef G K.2.1) sx p1 p2 q2 q3 h) [] [] 0 rfl (by decide +kernel) (by decide +kernel) (fun _ => rfl) (fun _ => rfl) rfl rfl rfl rfl ⟨Nat.zero_le _, Nat.zero_le _⟩ dJ0_indexOf_7cf53_17 (fun q3 hf => ?_)
    refine j_goto C (pc := 20) 36 dJ0_indexOf_7cf53_20 (by decide) ?_
    obtain rfl := Option.some.inj hf
    exact hQ _ _ dJ0_indexOf_7cf53_36 rfl
def ct_J0_indexOf_7cf53 (G : Gx) (l : Launch) (F : Nat → Int32 → Int32 → Option (Int32)) (lv : Nat) : Prop := ∀ (sx : Nat) (p1 : Int32) (p2 : Int32), ∀ (q : Int32), F sx p1 p2 = some q → MI G l yJ0_indexOf_7cf53 cJ0_indexOf_7cf53 3 .int lv [.ref (G.2.2 (10 + sx)), .int p1, .int p2] [] [] q
theorem c_J0_indexOf_7cf53 (G : Gx) (l : Launch) : ct_J0_indexOf_7cf53 G l f_J0_indexOf_7cf53 3 := by
  intro sx p1 p2 q hf
  exact mI_of (by decide +kernel) rfl (fun K hl C hQ => t_J0_indexOf_7cf53 C hQ hf)
-- J0_indexOf_0f7a4
def f_J0_indexOf_0f7a4 (sx : Nat) (p1 : Int32) : Option (Int32) := (gl sx ((f_J0_indexOf_7cf53 sx p1 (0 : Int32)).bind fun q1 => (some q1)))
set_option maxRecDepth 20000 in
set_option maxHeartbeats 1000000 in
theorem t_J0_indexOf_0f7a4 {G : Gx} {K : Kx} (C : Cx G K cJ0_indexOf_0f7a4 RJ0 2 4) {sx : Nat} {p1 : Int32} {q : Int32} (hQ : k_retI G K cJ0_indexOf_0f7a4 2 .int [] q) (hf : f_J0_indexOf_0f7a4 sx p1 = some q) : J G K 2 0 0 [] [(0, .ref (G.2.2 (10 + sx))), (1, .int p1)] 0 [] := by
  unfold f_J0_indexOf_0f7a4 at hf
  refine j_aload_n C (pc := 0) 0 rfl rfl dJ0_indexOf_0f7a4_0 ?_
  refine j_iload_n C (pc := 1) 1 rfl rfl dJ0_indexOf_0f7a4_1 ?_
  refine j_iconst C (pc := 2) (v := 0) (by decide) dJ0_indexOf_0f7a4_2 ?_
  obtain ⟨hi, hf⟩ := gl_some hf
  refine j_cTI C (pc := 3) (As := [.int p1, .int (0 : Int32)]) (st := []) (ws' := fun q1 => []) ml_J0_633 ms_J0_indexOf_7cf53 hf (fun q1 h => (c_J0_indexOf_7cf53 G K.2.1) sx p1 (0 : Int32) q1 h) [] [] 0 rfl (by decide +kernel) (by decide +kernel) (fun _ => rfl) (fun _ => rfl) rfl rfl rfl rfl ⟨Nat.zero_le _, Nat.zero_le _⟩ dJ0_indexOf_0f7a4_3 sx hi rfl rfl (fun q1 hf => ?_)
  obtain rfl := Option.some.inj hf
  exact hQ _ _ dJ0_indexOf_0f7a4_6 rfl
def ct_J0_indexOf_0f7a4 (G : Gx) (l : Launch) (F : Nat → Int32 → Option (Int32)) (lv : Nat) : Prop := ∀ (sx : Nat) (p1 : Int32), ∀ (q : Int32), F sx p1 = some q → MI G l yJ0_indexOf_0f7a4 cJ0_indexOf_0f7a4 2 .int lv [.ref (G.2.2 (10 + sx)), .int p1] [] [] q
theorem c_J0_indexOf_0f7a4 (G : Gx) (l : Launch) : ct_J0_indexOf_0f7a4 G l f_J0_indexOf_0f7a4 4 := by
  intro sx p1 q hf
  exact mI_of (by decide +kernel) rfl (fun K hl C hQ => t_J0_indexOf_0f7a4 C hQ hf)
-- J3_checkIndex_8e157
def f_J3_checkIndex_8e157 (p1 : Int32) (p2 : Int32) : Option (Int32) := (if p1 < 0 then (none) else (if p1 < p2 then (some p1) else (none)))
set_option maxRecDepth 20000 in
set_option maxHeartbeats 1000000 in
theorem t_J3_checkIndex_8e157 {G : Gx} {K : Kx} (C : Cx G K cJ3_checkIndex_8e157 RJ3 3 1) {p1 : Int32} {p2 : Int32} {p3 : Option Nat} {q : Int32} (hQ : k_retI G K cJ3_checkIndex_8e157 3 .int [] q) (hf : f_J3_checkIndex_8e157 p1 p2 = some q) : J G K 3 0 0 [] [(0, .int p1), (1, .int p2), (2, va_rf p3)] 0 [] := by
  unfold f_J3_checkIndex_8e157 at hf
  refine j_iload_n C (pc := 0) 0 rfl rfl dJ3_checkIndex_8e157_0 ?_
  refine j_if_lt C (pc := 1) 9 dJ3_checkIndex_8e157_1 (by decide) hf (fun hf => ?_) (fun hf => ?_)
  · cases hf
  · refine j_iload_n C (pc := 4) 0 rfl rfl dJ3_checkIndex_8e157_4 ?_
    refine j_iload_n C (pc := 5) 1 rfl rfl dJ3_checkIndex_8e157_5 ?_
    refine j_icmp_lt C (pc := 6) 16 dJ3_checkIndex_8e157_6 (by decide) hf (fun hf => ?_) (fun hf => ?_)
    · refine j_iload_n C (pc := 16) 0 rfl rfl dJ3_checkIndex_8e157_16 ?_
      obtain rfl := Option.some.inj hf
      exact hQ _ _ dJ3_checkIndex_8e157_17 rfl
    · cases hf
def ct_J3_checkIndex_8e157 (G : Gx) (l : Launch) (F : Int32 → Int32 → Option (Int32)) (lv : Nat) : Prop := ∀ (p1 : Int32) (p2 : Int32) (p3 : Option Nat), ∀ (q : Int32), F p1 p2 = some q → MI G l yJ3_checkIndex_8e157 cJ3_checkIndex_8e157 3 .int lv [.int p1, .int p2, va_rf p3] [] [] q
theorem c_J3_checkIndex_8e157 (G : Gx) (l : Launch) : ct_J3_checkIndex_8e157 G l f_J3_checkIndex_8e157 1 := by
  intro p1 p2 p3 q hf
  cases p3 <;> exact mI_of (by decide +kernel) rfl (fun K hl C hQ => t_J3_checkIndex_8e157 C hQ hf)
-- J0_checkIndex_df160
def f_J0_checkIndex_df160 (p1 : Int32) (p2 : Int32) : Option (Unit) := ((f_J3_checkIndex_8e157 p1 p2).bind fun q1 => (some ()))
set_option maxRecDepth 20000 in
set_option maxHeartbeats 1000000 in
theorem t_J0_checkIndex_df160 {G : Gx} {K : Kx} (C : Cx G K cJ0_checkIndex_df160 RJ0 2 2) {p1 : Int32} {p2 : Int32} {q : Unit} (hQ : k_retV G K cJ0_checkIndex_df160 2 []) (hf : f_J0_checkIndex_df160 p1 p2 = some q) : J G K 2 0 0 [] [(0, .int p1), (1, .int p2)] 0 [] := by
  unfold f_J0_checkIndex_df160 at hf
  refine j_iload_n C (pc := 0) 0 rfl rfl dJ0_checkIndex_df160_0 ?_
  refine j_iload_n C (pc := 1) 1 rfl rfl dJ0_checkIndex_df160_1 ?_
  refine j_gs_sio C (pc := 2) sl_J0_1053 dJ0_checkIndex_df160_2 (fun vq => ?_)
  refine j_cSI C (pc := 5) (As := [.int p1, .int p2, va_rf vq]) (st := []) (ws' := fun q1 => []) ml_J0_1059 ms_J3_checkIndex_8e157 hf (fun q1 h => (c_J3_checkIndex_8e157 G K.2.1) p1 p2 vq q1 h) [] [] 0 rfl (by decide +kernel) (by decide +kernel) (fun _ => rfl) (fun _ => rfl) rfl rfl rfl rfl ⟨Nat.zero_le _, Nat.zero_le _⟩ dJ0_checkIndex_df160_5 (fun q1 hf => ?_)
  refine j_pop C (pc := 8) rfl dJ0_checkIndex_df160_8 ?_
  obtain rfl := Option.some.inj hf
  exact hQ _ _ dJ0_checkIndex_df160_9
def ct_J0_checkIndex_df160 (G : Gx) (l : Launch) (F : Int32 → Int32 → Option (Unit)) (lv : Nat) : Prop := ∀ (p1 : Int32) (p2 : Int32), ∀ (q : Unit), F p1 p2 = some q → MV G l yJ0_checkIndex_df160 cJ0_checkIndex_df160 2 lv [.int p1, .int p2] [] []
theorem c_J0_checkIndex_df160 (G : Gx) (l : Launch) : ct_J0_checkIndex_df160 G l f_J0_checkIndex_df160 2 := by
  intro p1 p2 q hf
  exact mV_of (by decide +kernel) rfl (fun K hl C hQ => t_J0_checkIndex_df160 C hQ hf)
-- J1_charAt_3b067
def f_J1_charAt_3b067 (p1 : Nat) (p2 : Int32) : Option (Int32) := (gl p1 ((f_J0_checkIndex_df160 p2 (Int32.ofNat (k_tn p1))).bind fun q1 => (gl p1 (gd p2 (k_tn p1) (gn .char ((((k_tb p1 p2.toNatClampNeg) &&& (255 : Int32)).toUInt32 % 65536).toInt32) (some ((((k_tb p1 p2.toNatClampNeg) &&& (255 : Int32)).toUInt32 % 65536).toInt32)))))))
set_option maxRecDepth 20000 in
set_option maxHeartbeats 1000000 in
theorem t_J1_charAt_3b067 {G : Gx} {K : Kx} (C : Cx G K cJ1_charAt_3b067 RJ1 2 3) {p1 : Nat} {p2 : Int32} {q : Int32} (hQ : k_retI G K cJ1_charAt_3b067 2 .char [] q) (hf : f_J1_charAt_3b067 p1 p2 = some q) : J G K 2 0 0 [] [(0, .ref (G.2.2 (20 + p1))), (1, .int p2)] 0 [] := by
  unfold f_J1_charAt_3b067 at hf
  refine j_iload_n C (pc := 0) 1 rfl rfl dJ1_charAt_3b067_0 ?_
  refine j_aload_n C (pc := 1) 0 rfl rfl dJ1_charAt_3b067_1 ?_
  obtain ⟨hi, hf⟩ := gl_some hf
  refine j_bs_len C (pc := 2) hi dJ1_charAt_3b067_2 ?_
  refine j_cSZ C (pc := 3) (As := [.int p2, .int (Int32.ofNat (k_tn p1))]) (st := []) (ws' := fun q1 => []) ml_J1_9 ms_J0_checkIndex_df160 hf (fun q1 h => (c_J0_checkIndex_df160 G K.2.1) p2 (Int32.ofNat (k_tn p1)) q1 h) [] [] 0 rfl (by decide +kernel) (by decide +kernel) (fun _ => rfl) (fun _ => rfl) rfl rfl rfl rfl ⟨Nat.zero_le _, Nat.zero_le _⟩ dJ1_charAt_3b067_3 (fun q1 hf => ?_)
  refine j_aload_n C (pc := 6) 0 rfl rfl dJ1_charAt_3b067_6 ?_
  refine j_iload_n C (pc := 7) 1 rfl rfl dJ1_charAt_3b067_7 ?_
  obtain ⟨hi, hf⟩ := gl_some hf
  refine j_bs_ld C (pc := 8) hi hf dJ1_charAt_3b067_8 (fun hf => ?_)
  refine j_sipush C (pc := 9) (v := 255) (by decide) dJ1_charAt_3b067_9 ?_
  refine j_iand C (pc := 12) dJ1_charAt_3b067_12 ?_
  refine j_i2c C (pc := 13) dJ1_charAt_3b067_13 ?_
  obtain ⟨hn, hf⟩ := gn_char hf
  obtain rfl := Option.some.inj hf
  exact hQ _ _ dJ1_charAt_3b067_14 hn
def ct_J1_charAt_3b067 (G : Gx) (l : Launch) (F : Nat → Int32 → Option (Int32)) (lv : Nat) : Prop := ∀ (p1 : Nat) (p2 : Int32), ∀ (q : Int32), F p1 p2 = some q → MI G l yJ1_charAt_3b067 cJ1_charAt_3b067 2 .char lv [.ref (G.2.2 (20 + p1)), .int p2] [] [] q
theorem c_J1_charAt_3b067 (G : Gx) (l : Launch) : ct_J1_charAt_3b067 G l f_J1_charAt_3b067 3 := by
  intro p1 p2 q hf
  exact mI_of (by decide +kernel) rfl (fun K hl C hQ => t_J1_charAt_3b067 C hQ hf)
-- J0_charAt_5068e
def f_J0_charAt_5068e (sx : Nat) (p1 : Int32) : Option (Int32) := (gl sx ((f_J0_isLatin1_aae02 sx).bind fun q1 => (if q1 = 0 then (none) else (gl sx ((f_J1_charAt_3b067 sx p1).bind fun q2 => (gn .char q2 (some q2)))))))
set_option maxRecDepth 20000 in
set_option maxHeartbeats 1000000 in
theorem t_J0_charAt_5068e {G : Gx} {K : Kx} (C : Cx G K cJ0_charAt_5068e RJ0 2 4) {sx : Nat} {p1 : Int32} {q : Int32} (hQ : k_retI G K cJ0_charAt_5068e 2 .char [] q) (hf : f_J0_charAt_5068e sx p1 = some q) : J G K 2 0 0 [] [(0, .ref (G.2.2 (10 + sx))), (1, .int p1)] 0 [] := by
  unfold f_J0_charAt_5068e at hf
  refine j_aload_n C (pc := 0) 0 rfl rfl dJ0_charAt_5068e_0 ?_
  obtain ⟨hi, hf⟩ := gl_some hf
  refine j_cTI C (pc := 1) (As := []) (st := []) (ws' := fun q1 => []) ml_J0_492 ms_J0_isLatin1_aae02 hf (fun q1 h => (c_J0_isLatin1_aae02 G K.2.1) sx q1 h) [] [] 0 rfl (by decide +kernel) (by decide +kernel) (fun _ => rfl) (fun _ => rfl) rfl rfl rfl rfl ⟨Nat.zero_le _, Nat.zero_le _⟩ dJ0_charAt_5068e_1 sx hi rfl rfl (fun q1 hf => ?_)
  refine j_if_eq C (pc := 4) 16 dJ0_charAt_5068e_4 (by decide) hf (fun hf => ?_) (fun hf => ?_)
  · cases hf
  · refine j_aload_n C (pc := 7) 0 rfl rfl dJ0_charAt_5068e_7 ?_
    obtain ⟨hi, hf⟩ := gl_some hf
    refine j_sget_value C (pc := 8) hi sl_J0_9 dJ0_charAt_5068e_8 ?_
    refine j_iload_n C (pc := 11) 1 rfl rfl dJ0_charAt_5068e_11 ?_
    refine j_cSI C (pc := 12) (As := [.ref (G.2.2 (20 + sx)), .int p1]) (st := []) (ws' := fun q2 => []) ml_J0_495 ms_J1_charAt_3b067 hf (fun q2 h => (c_J1_charAt_3b067 G K.2.1) sx p1 q2 h) [] [] 0 rfl (by decide +kernel) (by decide +kernel) (fun _ => rfl) (fun _ => rfl) rfl rfl rfl rfl ⟨Nat.zero_le _, Nat.zero_le _⟩ dJ0_charAt_5068e_12 (fun q2 hf => ?_)
    obtain ⟨hn, hf⟩ := gn_char hf
    obtain rfl := Option.some.inj hf
    exact hQ _ _ dJ0_charAt_5068e_15 hn
def ct_J0_charAt_5068e (G : Gx) (l : Launch) (F : Nat → Int32 → Option (Int32)) (lv : Nat) : Prop := ∀ (sx : Nat) (p1 : Int32), ∀ (q : Int32), F sx p1 = some q → MI G l yJ0_charAt_5068e cJ0_charAt_5068e 2 .char lv [.ref (G.2.2 (10 + sx)), .int p1] [] [] q
theorem c_J0_charAt_5068e (G : Gx) (l : Launch) : ct_J0_charAt_5068e G l f_J0_charAt_5068e 4 := by
  intro sx p1 q hf
  exact mI_of (by decide +kernel) rfl (fun K hl C hQ => t_J0_charAt_5068e C hQ hf)
-- J6_numberOfTrailingZeros_0f7a4
def f_J6_numberOfTrailingZeros_0f7a4_62 (x0 : Int32) (x1 : Int32) : Option (Int32) := (if x0 ≤ (4 : Int32) then (some (x1 + ((x0.toUInt32 >>> ((1 : Int32).toUInt32 &&& Int32.toUInt32 31)).toInt32))) else (nm ((x0.toUInt32 >>> ((2 : Int32).toUInt32 &&& Int32.toUInt32 31)).toInt32) fun y1 => (some ((x1 + (2 : Int32)) + ((y1.toUInt32 >>> ((1 : Int32).toUInt32 &&& Int32.toUInt32 31)).toInt32)))))
set_option maxRecDepth 20000 in
set_option maxHeartbeats 1000000 in
theorem t_J6_numberOfTrailingZeros_0f7a4_62 {G : Gx} {K : Kx} (C : Cx G K cJ6_numberOfTrailingZeros_0f7a4 RJ6 2 1) {q : Int32} (hQ : k_retI G K cJ6_numberOfTrailingZeros_0f7a4 2 .int [] q) {x0 : Int32} {x1 : Int32} (hf : f_J6_numberOfTrailingZeros_0f7a4_62 x0 x1 = some q) : J G K 2 0 0 [] [(0, .int x0), (1, .int x1)] 62 [] := by
  unfold f_J6_numberOfTrailingZeros_0f7a4_62 at hf
  refine j_iload_n C (pc := 62) 0 rfl rfl dJ6_numberOfTrailingZeros_0f7a4_62 ?_
  refine j_iconst C (pc := 63) (v := 4) (by decide) dJ6_numberOfTrailingZeros_0f7a4_63 ?_
  refine j_icmp_le C (pc := 64) 74 dJ6_numberOfTrailingZeros_0f7a4_64 (by decide) hf (fun hf => ?_) (fun hf => ?_)
  · refine j_iload_n C (pc := 74) 1 rfl rfl dJ6_numberOfTrailingZeros_0f7a4_74 ?_
    refine j_iload_n C (pc := 75) 0 rfl rfl dJ6_numberOfTrailingZeros_0f7a4_75 ?_
    refine j_iconst C (pc := 76) (v := 1) (by decide) dJ6_numberOfTrailingZeros_0f7a4_76 ?_
    refine j_iushr C (pc := 77) dJ6_numberOfTrailingZeros_0f7a4_77 ?_
    refine j_iadd C (pc := 78) dJ6_numberOfTrailingZeros_0f7a4_78 ?_
    obtain rfl := Option.some.inj hf
    exact hQ _ _ dJ6_numberOfTrailingZeros_0f7a4_79 rfl
  · refine j_iinc C (pc := 67) (L' := [(1, .int (x1 + (2 : Int32))), (0, .int x0)]) (v := x1 + (2 : Int32)) dJ6_numberOfTrailingZeros_0f7a4_67 (t := 1) rfl rfl (by decide) rfl ?_
    refine j_iload_n C (pc := 70) 1 rfl rfl dJ6_numberOfTrailingZeros_0f7a4_70 ?_
    refine j_iconst C (pc := 71) (v := 2) (by decide) dJ6_numberOfTrailingZeros_0f7a4_71 ?_
    refine j_iushr C (pc := 72) dJ6_numberOfTrailingZeros_0f7a4_72 ?_
    refine j_nm hf (fun y1 hf => ?_)
    refine j_istore_n C (pc := 73) (L' := [(0, .int y1), (1, .int (x1 + (2 : Int32)))]) dJ6_numberOfTrailingZeros_0f7a4_73 rfl (by decide) rfl ?_
    refine j_iload_n C (pc := 74) 1 rfl rfl dJ6_numberOfTrailingZeros_0f7a4_74 ?_
    refine j_iload_n C (pc := 75) 0 rfl rfl dJ6_numberOfTrailingZeros_0f7a4_75 ?_
    refine j_iconst C (pc := 76) (v := 1) (by decide) dJ6_numberOfTrailingZeros_0f7a4_76 ?_
    refine j_iushr C (pc := 77) dJ6_numberOfTrailingZeros_0f7a4_77 ?_
    refine j_iadd C (pc := 78) dJ6_numberOfTrailingZeros_0f7a4_78 ?_
    obtain rfl := Option.some.inj hf
    exact hQ _ _ dJ6_numberOfTrailingZeros_0f7a4_79 rfl
def f_J6_numberOfTrailingZeros_0f7a4_34 (x0 : Int32) (x1 : Int32) : Option (Int32) := (if x0 ≤ (256 : Int32) then (if x0 ≤ (16 : Int32) then (f_J6_numberOfTrailingZeros_0f7a4_62 x0 x1) else (nm ((x0.toUInt32 >>> ((4 : Int32).toUInt32 &&& Int32.toUInt32 31)).toInt32) fun y1 => (f_J6_numberOfTrailingZeros_0f7a4_62 y1 (x1 + (4 : Int32))))) else (nm ((x0.toUInt32 >>> ((8 : Int32).toUInt32 &&& Int32.toUInt32 31)).toInt32) fun y2 => (if y2 ≤ (16 : Int32) then (f_J6_numberOfTrailingZeros_0f7a4_62 y2 (x1 + (8 : Int32))) else (nm ((y2.toUInt32 >>> ((4 : Int32).toUInt32 &&& Int32.toUInt32 31)).toInt32) fun y3 => (f_J6_numberOfTrailingZeros_0f7a4_62 y3 ((x1 + (8 : Int32)) + (4 : Int32)))))))
set_option maxRecDepth 20000 in
set_option maxHeartbeats 1000000 in
theorem t_J6_numberOfTrailingZeros_0f7a4_34 {G : Gx} {K : Kx} (C : Cx G K cJ6_numberOfTrailingZeros_0f7a4 RJ6 2 1) {q : Int32} (hQ : k_retI G K cJ6_numberOfTrailingZeros_0f7a4 2 .int [] q) {x0 : Int32} {x1 : Int32} (hf : f_J6_numberOfTrailingZeros_0f7a4_34 x0 x1 = some q) : J G K 2 0 0 [] [(0, .int x0), (1, .int x1)] 34 [] := by
  unfold f_J6_numberOfTrailingZeros_0f7a4_34 at hf
  refine j_iload_n C (pc := 34) 0 rfl rfl dJ6_numberOfTrailingZeros_0f7a4_34 ?_
  refine j_sipush C (pc := 35) (v := 256) (by decide) dJ6_numberOfTrailingZeros_0f7a4_35 ?_
  refine j_icmp_le C (pc := 38) 49 dJ6_numberOfTrailingZeros_0f7a4_38 (by decide) hf (fun hf => ?_) (fun hf => ?_)
  · refine j_iload_n C (pc := 49) 0 rfl rfl dJ6_numberOfTrailingZeros_0f7a4_49 ?_
    refine j_bipush C (pc := 50) (v := 16) (by decide) dJ6_numberOfTrailingZeros_0f7a4_50 ?_
    refine j_icmp_le C (pc := 52) 62 dJ6_numberOfTrailingZeros_0f7a4_52 (by decide) hf (fun hf => ?_) (fun hf => ?_)
    · exact t_J6_numberOfTrailingZeros_0f7a4_62 C hQ hf
    · refine j_iinc C (pc := 55) (L' := [(1, .int (x1 + (4 : Int32))), (0, .int x0)]) (v := x1 + (4 : Int32)) dJ6_numberOfTrailingZeros_0f7a4_55 (t := 1) rfl rfl (by decide) rfl ?_
      refine j_iload_n C (pc := 58) 1 rfl rfl dJ6_numberOfTrailingZeros_0f7a4_58 ?_
      refine j_iconst C (pc := 59) (v := 4) (by decide) dJ6_numberOfTrailingZeros_0f7a4_59 ?_
      refine j_iushr C (pc := 60) dJ6_numberOfTrailingZeros_0f7a4_60 ?_
      refine j_nm hf (fun y1 hf => ?_)
      refine j_istore_n C (pc := 61) (L' := [(0, .int y1), (1, .int (x1 + (4 : Int32)))]) dJ6_numberOfTrailingZeros_0f7a4_61 rfl (by decide) rfl ?_
      exact t_J6_numberOfTrailingZeros_0f7a4_62 C hQ hf
  · refine j_iinc C (pc := 41) (L' := [(1, .int (x1 + (8 : Int32))), (0, .int x0)]) (v := x1 + (8 : Int32)) dJ6_numberOfTrailingZeros_0f7a4_41 (t := 1) rfl rfl (by decide) rfl ?_
    refine j_iload_n C (pc := 44) 1 rfl rfl dJ6_numberOfTrailingZeros_0f7a4_44 ?_
    refine j_bipush C (pc := 45) (v := 8) (by decide) dJ6_numberOfTrailingZeros_0f7a4_45 ?_
    refine j_iushr C (pc := 47) dJ6_numberOfTrailingZeros_0f7a4_47 ?_
    refine j_nm hf (fun y2 hf => ?_)
    refine j_istore_n C (pc := 48) (L' := [(0, .int y2), (1, .int (x1 + (8 : Int32)))]) dJ6_numberOfTrailingZeros_0f7a4_48 rfl (by decide) rfl ?_
    refine j_iload_n C (pc := 49) 0 rfl rfl dJ6_numberOfTrailingZeros_0f7a4_49 ?_
    refine j_bipush C (pc := 50) (v := 16) (by decide) dJ6_numberOfTrailingZeros_0f7a4_50 ?_
    refine j_icmp_le C (pc := 52) 62 dJ6_numberOfTrailingZeros_0f7a4_52 (by decide) hf (fun hf => ?_) (fun hf => ?_)
    · exact t_J6_numberOfTrailingZeros_0f7a4_62 C hQ hf
    · refine j_iinc C (pc := 55) (L' := [(1, .int ((x1 + (8 : Int32)) + (4 : Int32))), (0, .int y2)]) (v := (x1 + (8 : Int32)) + (4 : Int32)) dJ6_numberOfTrailingZeros_0f7a4_55 (t := 1) rfl rfl (by decide) rfl ?_
      refine j_iload_n C (pc := 58) 1 rfl rfl dJ6_numberOfTrailingZeros_0f7a4_58 ?_
      refine j_iconst C (pc := 59) (v := 4) (by decide) dJ6_numberOfTrailingZeros_0f7a4_59 ?_
      refine j_iushr C (pc := 60) dJ6_numberOfTrailingZeros_0f7a4_60 ?_
      refine j_nm hf (fun y3 hf => ?_)
      refine j_istore_n C (pc := 61) (L' := [(0, .int y3), (1, .int ((x1 + (8 : Int32)) + (4 : Int32)))]) dJ6_numberOfTrailingZeros_0f7a4_61 rfl (by decide) rfl ?_
      exact t_J6_numberOfTrailingZeros_0f7a4_62 C hQ hf
def f_J6_numberOfTrailingZeros_0f7a4 (p1 : Int32) : Option (Int32) := (nm ((p1 ^^^ (-1 : Int32)) &&& (p1 - (1 : Int32))) fun y1 => (if 0 < y1 then (if y1 ≤ (65536 : Int32) then (f_J6_numberOfTrailingZeros_0f7a4_34 y1 (1 : Int32)) else (nm ((y1.toUInt32 >>> ((16 : Int32).toUInt32 &&& Int32.toUInt32 31)).toInt32) fun y2 => (f_J6_numberOfTrailingZeros_0f7a4_34 y2 ((1 : Int32) + (16 : Int32))))) else (some (y1 &&& (32 : Int32)))))
set_option maxRecDepth 20000 in
set_option maxHeartbeats 1000000 in
theorem t_J6_numberOfTrailingZeros_0f7a4 {G : Gx} {K : Kx} (C : Cx G K cJ6_numberOfTrailingZeros_0f7a4 RJ6 2 1) {p1 : Int32} {q : Int32} (hQ : k_retI G K cJ6_numberOfTrailingZeros_0f7a4 2 .int [] q) (hf : f_J6_numberOfTrailingZeros_0f7a4 p1 = some q) : J G K 2 0 0 [] [(0, .int p1)] 0 [] := by
  unfold f_J6_numberOfTrailingZeros_0f7a4 at hf
  refine j_iload_n C (pc := 0) 0 rfl rfl dJ6_numberOfTrailingZeros_0f7a4_0 ?_
  refine j_iconst C (pc := 1) (v := -1) (by decide) dJ6_numberOfTrailingZeros_0f7a4_1 ?_
  refine j_ixor C (pc := 2) dJ6_numberOfTrailingZeros_0f7a4_2 ?_
  refine j_iload_n C (pc := 3) 0 rfl rfl dJ6_numberOfTrailingZeros_0f7a4_3 ?_
  refine j_iconst C (pc := 4) (v := 1) (by decide) dJ6_numberOfTrailingZeros_0f7a4_4 ?_
  refine j_isub C (pc := 5) dJ6_numberOfTrailingZeros_0f7a4_5 ?_
  refine j_iand C (pc := 6) dJ6_numberOfTrailingZeros_0f7a4_6 ?_
  refine j_nm hf (fun y1 hf => ?_)
  refine j_istore_n C (pc := 7) (L' := [(0, .int y1)]) dJ6_numberOfTrailingZeros_0f7a4_7 rfl (by decide) rfl ?_
  refine j_iload_n C (pc := 8) 0 rfl rfl dJ6_numberOfTrailingZeros_0f7a4_8 ?_
  refine j_if_gt C (pc := 9) 17 dJ6_numberOfTrailingZeros_0f7a4_9 (by decide) hf (fun hf => ?_) (fun hf => ?_)
  · refine j_iconst C (pc := 17) (v := 1) (by decide) dJ6_numberOfTrailingZeros_0f7a4_17 ?_
    refine j_istore_n C (pc := 18) (L' := [(1, .int (1 : Int32)), (0, .int y1)]) dJ6_numberOfTrailingZeros_0f7a4_18 rfl (by decide) rfl ?_
    refine j_iload_n C (pc := 19) 1 rfl rfl dJ6_numberOfTrailingZeros_0f7a4_19 ?_
    refine j_ldcw C (pc := 20) kk_J6_264 dJ6_numberOfTrailingZeros_0f7a4_20 ?_
    refine j_icmp_le C (pc := 23) 34 dJ6_numberOfTrailingZeros_0f7a4_23 (by decide) hf (fun hf => ?_) (fun hf => ?_)
    · refine j_sub [1, 0] rfl ?_
      exact t_J6_numberOfTrailingZeros_0f7a4_34 C hQ hf
    · refine j_iinc C (pc := 26) (L' := [(1, .int ((1 : Int32) + (16 : Int32))), (0, .int y1)]) (v := (1 : Int32) + (16 : Int32)) dJ6_numberOfTrailingZeros_0f7a4_26 (t := 0) rfl rfl (by decide) rfl ?_
      refine j_iload_n C (pc := 29) 1 rfl rfl dJ6_numberOfTrailingZeros_0f7a4_29 ?_
      refine j_bipush C (pc := 30) (v := 16) (by decide) dJ6_numberOfTrailingZeros_0f7a4_30 ?_
      refine j_iushr C (pc := 32) dJ6_numberOfTrailingZeros_0f7a4_32 ?_
      refine j_nm hf (fun y2 hf => ?_)
      refine j_istore_n C (pc := 33) (L' := [(0, .int y2), (1, .int ((1 : Int32) + (16 : Int32)))]) dJ6_numberOfTrailingZeros_0f7a4_33 rfl (by decide) rfl ?_
      exact t_J6_numberOfTrailingZeros_0f7a4_34 C hQ hf
  · refine j_iload_n C (pc := 12) 0 rfl rfl dJ6_numberOfTrailingZeros_0f7a4_12 ?_
    refine j_bipush C (pc := 13) (v := 32) (by decide) dJ6_numberOfTrailingZeros_0f7a4_13 ?_
    refine j_iand C (pc := 15) dJ6_numberOfTrailingZeros_0f7a4_15 ?_
    obtain rfl := Option.some.inj hf
    exact hQ _ _ dJ6_numberOfTrailingZeros_0f7a4_16 rfl
def ct_J6_numberOfTrailingZeros_0f7a4 (G : Gx) (l : Launch) (F : Int32 → Option (Int32)) (lv : Nat) : Prop := ∀ (p1 : Int32), ∀ (q : Int32), F p1 = some q → MI G l yJ6_numberOfTrailingZeros_0f7a4 cJ6_numberOfTrailingZeros_0f7a4 2 .int lv [.int p1] [] [] q
theorem c_J6_numberOfTrailingZeros_0f7a4 (G : Gx) (l : Launch) : ct_J6_numberOfTrailingZeros_0f7a4 G l f_J6_numberOfTrailingZeros_0f7a4 1 := by
  intro p1 q hf
  exact mI_of (by decide +kernel) rfl (fun K hl C hQ => t_J6_numberOfTrailingZeros_0f7a4 C hQ hf)
