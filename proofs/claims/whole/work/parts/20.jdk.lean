-- J9_floorMod_7cf53
def f_J9_floorMod_7cf53 (p1 : Int32) (p2 : Int32) : Option (Int32) := (gz p2 (nm (p1 - p1 / p2 * p2) fun y1 => (if 0 ≤ (p1 ^^^ p2) then (some y1) else (if y1 = 0 then (some y1) else (some (y1 + p2))))))
set_option maxRecDepth 20000 in
set_option maxHeartbeats 1000000 in
theorem t_J9_floorMod_7cf53 {G : Gx} {K : Kx} (C : Cx G K cJ9_floorMod_7cf53 RJ9 3 1) {p1 : Int32} {p2 : Int32} {q : Int32} (hQ : k_retI G K cJ9_floorMod_7cf53 3 .int [] q) (hf : f_J9_floorMod_7cf53 p1 p2 = some q) : J G K 3 0 0 [] [(0, .int p1), (1, .int p2)] 0 [] := by
  unfold f_J9_floorMod_7cf53 at hf
  refine j_iload_n C (pc := 0) 0 rfl rfl dJ9_floorMod_7cf53_0 ?_
  refine j_iload_n C (pc := 1) 1 rfl rfl dJ9_floorMod_7cf53_1 ?_
  refine j_irem C (pc := 2) dJ9_floorMod_7cf53_2 hf (fun hf => ?_)
  refine j_nm hf (fun y1 hf => ?_)
  refine j_istore_n C (pc := 3) (L' := [(2, .int y1), (0, .int p1), (1, .int p2)]) dJ9_floorMod_7cf53_3 rfl (by decide) rfl ?_
  refine j_iload_n C (pc := 4) 1 rfl rfl dJ9_floorMod_7cf53_4 ?_
  refine j_iload_n C (pc := 5) 2 rfl rfl dJ9_floorMod_7cf53_5 ?_
  refine j_ixor C (pc := 6) dJ9_floorMod_7cf53_6 ?_
  refine j_if_ge C (pc := 7) 18 dJ9_floorMod_7cf53_7 (by decide) hf (fun hf => ?_) (fun hf => ?_)
  · refine j_iload_n C (pc := 18) 0 rfl rfl dJ9_floorMod_7cf53_18 ?_
    obtain rfl := Option.some.inj hf
    exact hQ _ _ dJ9_floorMod_7cf53_19 rfl
  · refine j_iload_n C (pc := 10) 0 rfl rfl dJ9_floorMod_7cf53_10 ?_
    refine j_if_eq C (pc := 11) 18 dJ9_floorMod_7cf53_11 (by decide) hf (fun hf => ?_) (fun hf => ?_)
    · refine j_iload_n C (pc := 18) 0 rfl rfl dJ9_floorMod_7cf53_18 ?_
      obtain rfl := Option.some.inj hf
      exact hQ _ _ dJ9_floorMod_7cf53_19 rfl
    · refine j_iload_n C (pc := 14) 0 rfl rfl dJ9_floorMod_7cf53_14 ?_
      refine j_iload_n C (pc := 15) 2 rfl rfl dJ9_floorMod_7cf53_15 ?_
      refine j_iadd C (pc := 16) dJ9_floorMod_7cf53_16 ?_
      obtain rfl := Option.some.inj hf
      exact hQ _ _ dJ9_floorMod_7cf53_17 rfl
def ct_J9_floorMod_7cf53 (G : Gx) (l : Launch) (F : Int32 → Int32 → Option (Int32)) (lv : Nat) : Prop := ∀ (p1 : Int32) (p2 : Int32), ∀ (q : Int32), F p1 p2 = some q → MI G l yJ9_floorMod_7cf53 cJ9_floorMod_7cf53 3 .int lv [.int p1, .int p2] [] [] q
theorem c_J9_floorMod_7cf53 (G : Gx) (l : Launch) : ct_J9_floorMod_7cf53 G l f_J9_floorMod_7cf53 1 := by
  intro p1 p2 q hf
  exact mI_of (by decide +kernel) rfl (fun K hl C hQ => t_J9_floorMod_7cf53 C hQ hf)
-- J9_max_7cf53
def f_J9_max_7cf53 (p1 : Int32) (p2 : Int32) : Option (Int32) := (if p1 < p2 then (some p2) else (some p1))
set_option maxRecDepth 20000 in
set_option maxHeartbeats 1000000 in
theorem t_J9_max_7cf53 {G : Gx} {K : Kx} (C : Cx G K cJ9_max_7cf53 RJ9 2 1) {p1 : Int32} {p2 : Int32} {q : Int32} (hQ : k_retI G K cJ9_max_7cf53 2 .int [] q) (hf : f_J9_max_7cf53 p1 p2 = some q) : J G K 2 0 0 [] [(0, .int p1), (1, .int p2)] 0 [] := by
  unfold f_J9_max_7cf53 at hf
  refine j_iload_n C (pc := 0) 0 rfl rfl dJ9_max_7cf53_0 ?_
  refine j_iload_n C (pc := 1) 1 rfl rfl dJ9_max_7cf53_1 ?_
  refine j_icmp_lt C (pc := 2) 9 dJ9_max_7cf53_2 (by decide) hf (fun hf => ?_) (fun hf => ?_)
  · refine j_iload_n C (pc := 9) 1 rfl rfl dJ9_max_7cf53_9 ?_
    obtain rfl := Option.some.inj hf
    exact hQ _ _ dJ9_max_7cf53_10 rfl
  · refine j_iload_n C (pc := 5) 0 rfl rfl dJ9_max_7cf53_5 ?_
    refine j_goto C (pc := 6) 10 dJ9_max_7cf53_6 (by decide) ?_
    obtain rfl := Option.some.inj hf
    exact hQ _ _ dJ9_max_7cf53_10 rfl
def ct_J9_max_7cf53 (G : Gx) (l : Launch) (F : Int32 → Int32 → Option (Int32)) (lv : Nat) : Prop := ∀ (p1 : Int32) (p2 : Int32), ∀ (q : Int32), F p1 p2 = some q → MI G l yJ9_max_7cf53 cJ9_max_7cf53 2 .int lv [.int p1, .int p2] [] [] q
theorem c_J9_max_7cf53 (G : Gx) (l : Launch) : ct_J9_max_7cf53 G l f_J9_max_7cf53 1 := by
  intro p1 p2 q hf
  exact mI_of (by decide +kernel) rfl (fun K hl C hQ => t_J9_max_7cf53 C hQ hf)
-- J6_bitCount_0f7a4
def f_J6_bitCount_0f7a4 (p1 : Int32) : Option (Int32) := (nm (p1 - (((p1.toUInt32 >>> ((1 : Int32).toUInt32 &&& Int32.toUInt32 31)).toInt32) &&& (1431655765 : Int32))) fun y1 => (nm ((y1 &&& (858993459 : Int32)) + (((y1.toUInt32 >>> ((2 : Int32).toUInt32 &&& Int32.toUInt32 31)).toInt32) &&& (858993459 : Int32))) fun y2 => (nm ((y2 + ((y2.toUInt32 >>> ((4 : Int32).toUInt32 &&& Int32.toUInt32 31)).toInt32)) &&& (252645135 : Int32)) fun y3 => (nm (y3 + ((y3.toUInt32 >>> ((8 : Int32).toUInt32 &&& Int32.toUInt32 31)).toInt32)) fun y4 => (nm (y4 + ((y4.toUInt32 >>> ((16 : Int32).toUInt32 &&& Int32.toUInt32 31)).toInt32)) fun y5 => (some (y5 &&& (63 : Int32))))))))
set_option maxRecDepth 20000 in
set_option maxHeartbeats 1000000 in
theorem t_J6_bitCount_0f7a4 {G : Gx} {K : Kx} (C : Cx G K cJ6_bitCount_0f7a4 RJ6 1 1) {p1 : Int32} {q : Int32} (hQ : k_retI G K cJ6_bitCount_0f7a4 1 .int [] q) (hf : f_J6_bitCount_0f7a4 p1 = some q) : J G K 1 0 0 [] [(0, .int p1)] 0 [] := by
  unfold f_J6_bitCount_0f7a4 at hf
  refine j_iload_n C (pc := 0) 0 rfl rfl dJ6_bitCount_0f7a4_0 ?_
  refine j_iload_n C (pc := 1) 0 rfl rfl dJ6_bitCount_0f7a4_1 ?_
  refine j_iconst C (pc := 2) (v := 1) (by decide) dJ6_bitCount_0f7a4_2 ?_
  refine j_iushr C (pc := 3) dJ6_bitCount_0f7a4_3 ?_
  refine j_ldcw C (pc := 4) kk_J6_265 dJ6_bitCount_0f7a4_4 ?_
  refine j_iand C (pc := 7) dJ6_bitCount_0f7a4_7 ?_
  refine j_isub C (pc := 8) dJ6_bitCount_0f7a4_8 ?_
  refine j_nm hf (fun y1 hf => ?_)
  refine j_istore_n C (pc := 9) (L' := [(0, .int y1)]) dJ6_bitCount_0f7a4_9 rfl (by decide) rfl ?_
  refine j_iload_n C (pc := 10) 0 rfl rfl dJ6_bitCount_0f7a4_10 ?_
  refine j_ldcw C (pc := 11) kk_J6_266 dJ6_bitCount_0f7a4_11 ?_
  refine j_iand C (pc := 14) dJ6_bitCount_0f7a4_14 ?_
  refine j_iload_n C (pc := 15) 0 rfl rfl dJ6_bitCount_0f7a4_15 ?_
  refine j_iconst C (pc := 16) (v := 2) (by decide) dJ6_bitCount_0f7a4_16 ?_
  refine j_iushr C (pc := 17) dJ6_bitCount_0f7a4_17 ?_
  refine j_ldcw C (pc := 18) kk_J6_266 dJ6_bitCount_0f7a4_18 ?_
  refine j_iand C (pc := 21) dJ6_bitCount_0f7a4_21 ?_
  refine j_iadd C (pc := 22) dJ6_bitCount_0f7a4_22 ?_
  refine j_nm hf (fun y2 hf => ?_)
  refine j_istore_n C (pc := 23) (L' := [(0, .int y2)]) dJ6_bitCount_0f7a4_23 rfl (by decide) rfl ?_
  refine j_iload_n C (pc := 24) 0 rfl rfl dJ6_bitCount_0f7a4_24 ?_
  refine j_iload_n C (pc := 25) 0 rfl rfl dJ6_bitCount_0f7a4_25 ?_
  refine j_iconst C (pc := 26) (v := 4) (by decide) dJ6_bitCount_0f7a4_26 ?_
  refine j_iushr C (pc := 27) dJ6_bitCount_0f7a4_27 ?_
  refine j_iadd C (pc := 28) dJ6_bitCount_0f7a4_28 ?_
  refine j_ldcw C (pc := 29) kk_J6_267 dJ6_bitCount_0f7a4_29 ?_
  refine j_iand C (pc := 32) dJ6_bitCount_0f7a4_32 ?_
  refine j_nm hf (fun y3 hf => ?_)
  refine j_istore_n C (pc := 33) (L' := [(0, .int y3)]) dJ6_bitCount_0f7a4_33 rfl (by decide) rfl ?_
  refine j_iload_n C (pc := 34) 0 rfl rfl dJ6_bitCount_0f7a4_34 ?_
  refine j_iload_n C (pc := 35) 0 rfl rfl dJ6_bitCount_0f7a4_35 ?_
  refine j_bipush C (pc := 36) (v := 8) (by decide) dJ6_bitCount_0f7a4_36 ?_
  refine j_iushr C (pc := 38) dJ6_bitCount_0f7a4_38 ?_
  refine j_iadd C (pc := 39) dJ6_bitCount_0f7a4_39 ?_
  refine j_nm hf (fun y4 hf => ?_)
  refine j_istore_n C (pc := 40) (L' := [(0, .int y4)]) dJ6_bitCount_0f7a4_40 rfl (by decide) rfl ?_
  refine j_iload_n C (pc := 41) 0 rfl rfl dJ6_bitCount_0f7a4_41 ?_
  refine j_iload_n C (pc := 42) 0 rfl rfl dJ6_bitCount_0f7a4_42 ?_
  refine j_bipush C (pc := 43) (v := 16) (by decide) dJ6_bitCount_0f7a4_43 ?_
  refine j_iushr C (pc := 45) dJ6_bitCount_0f7a4_45 ?_
  refine j_iadd C (pc := 46) dJ6_bitCount_0f7a4_46 ?_
  refine j_nm hf (fun y5 hf => ?_)
  refine j_istore_n C (pc := 47) (L' := [(0, .int y5)]) dJ6_bitCount_0f7a4_47 rfl (by decide) rfl ?_
  refine j_iload_n C (pc := 48) 0 rfl rfl dJ6_bitCount_0f7a4_48 ?_
  refine j_bipush C (pc := 49) (v := 63) (by decide) dJ6_bitCount_0f7a4_49 ?_
  refine j_iand C (pc := 51) dJ6_bitCount_0f7a4_51 ?_
  obtain rfl := Option.some.inj hf
  exact hQ _ _ dJ6_bitCount_0f7a4_52 rfl
def ct_J6_bitCount_0f7a4 (G : Gx) (l : Launch) (F : Int32 → Option (Int32)) (lv : Nat) : Prop := ∀ (p1 : Int32), ∀ (q : Int32), F p1 = some q → MI G l yJ6_bitCount_0f7a4 cJ6_bitCount_0f7a4 1 .int lv [.int p1] [] [] q
theorem c_J6_bitCount_0f7a4 (G : Gx) (l : Launch) : ct_J6_bitCount_0f7a4 G l f_J6_bitCount_0f7a4 1 := by
  intro p1 q hf
  exact mI_of (by decide +kernel) rfl (fun K hl C hQ => t_J6_bitCount_0f7a4 C hQ hf)
-- J9_min_7cf53
def f_J9_min_7cf53 (p1 : Int32) (p2 : Int32) : Option (Int32) := (if p2 < p1 then (some p2) else (some p1))
set_option maxRecDepth 20000 in
set_option maxHeartbeats 1000000 in
theorem t_J9_min_7cf53 {G : Gx} {K : Kx} (C : Cx G K cJ9_min_7cf53 RJ9 2 1) {p1 : Int32} {p2 : Int32} {q : Int32} (hQ : k_retI G K cJ9_min_7cf53 2 .int [] q) (hf : f_J9_min_7cf53 p1 p2 = some q) : J G K 2 0 0 [] [(0, .int p1), (1, .int p2)] 0 [] := by
  unfold f_J9_min_7cf53 at hf
  refine j_iload_n C (pc := 0) 0 rfl rfl dJ9_min_7cf53_0 ?_
  refine j_iload_n C (pc := 1) 1 rfl rfl dJ9_min_7cf53_1 ?_
  refine j_icmp_gt C (pc := 2) 9 dJ9_min_7cf53_2 (by decide) hf (fun hf => ?_) (fun hf => ?_)
  · refine j_iload_n C (pc := 9) 1 rfl rfl dJ9_min_7cf53_9 ?_
    obtain rfl := Option.some.inj hf
    exact hQ _ _ dJ9_min_7cf53_10 rfl
  · refine j_iload_n C (pc := 5) 0 rfl rfl dJ9_min_7cf53_5 ?_
    refine j_goto C (pc := 6) 10 dJ9_min_7cf53_6 (by decide) ?_
    obtain rfl := Option.some.inj hf
    exact hQ _ _ dJ9_min_7cf53_10 rfl
def ct_J9_min_7cf53 (G : Gx) (l : Launch) (F : Int32 → Int32 → Option (Int32)) (lv : Nat) : Prop := ∀ (p1 : Int32) (p2 : Int32), ∀ (q : Int32), F p1 p2 = some q → MI G l yJ9_min_7cf53 cJ9_min_7cf53 2 .int lv [.int p1, .int p2] [] [] q
theorem c_J9_min_7cf53 (G : Gx) (l : Launch) : ct_J9_min_7cf53 G l f_J9_min_7cf53 1 := by
  intro p1 p2 q hf
  exact mI_of (by decide +kernel) rfl (fun K hl C hQ => t_J9_min_7cf53 C hQ hf)
-- J6_numberOfTrailingZeros_0f7a4
def f_J6_numberOfTrailingZeros_0f7a4_62 (x0 : Int32) (x1 : Int32) : Option (Int32) := (if x0 ≤ (4 : Int32) then (some (x1 + ((x0.toUInt32 >>> ((1 : Int32).toUInt32 &&& Int32.toUInt32 31)).toInt32))) else (nm ((x0.toUInt32 >>> ((2 : Int32).toUInt32 &&& Int32.toUInt32 31)).toInt32) fun y1 => (some ((x1 + (2 : Int32)) + ((y1.toUInt32 >>> ((1 : Int32).toUInt32 &&& Int32.toUInt32 31)).toInt32)))))
set_option maxRecDepth 20000 in
set_option maxHeartbeats 1000000 in
theorem t_J6_numberOfTrailingZeros_0f7a4_62 {G : Gx} {K : Kx} (C : Cx G K cJ6_numberOfTrailingZeros_0f7a4 RJ6 2 1) {q : Int32} (hQ : k_retI G K cJ6_numberOfTrailingZeros_0f7a4 2 .int [] q) {x0 : Int32} {x1 : Int32} (hf : f_J6_numberOfTrailingZeros_0f7a4_62 x0 x1 = some q) : J G K 2 0 0 [] [(0, .int x0), (1, .int x1)] 62 [] := by
  unfold f_J6_numberOfTrailingZeros_0f7a4_62 at hf
  refine j_iload_n C (pc := 62) 0 rfl rfl dJ6_numberOfTrailingZeros_0f7a4_62 ?_
  refine j_iconst C (pc := 63) (v := 4) (by decide) dJ6_numberOfTrailingZeros_0f7a4_63 ?_
  refine j_icmp_le C (pc := 64) 74 dJ6_numberOfTrailingZeros_0f7a4_64 (by decide) hf (fun hf => ?_) (fun hf => ?_)
  · refine j_iload_n C (pc := 74) 1 rfl rfl dJ6_numberOfTrailingZeros_0f7a4_74 ?_
    refine j_iload_n C (pc := 75) 0 rfl rfl dJ6_numberOfTrailingZeros_0f7a4_75 ?_
    refine j_iconst C (pc := 76) (v := 1) (by decide) dJ6_numberOfTrailingZeros_0f7a4_76 ?_
    refine j_iushr C (pc := 77) dJ6_numberOfTrailingZeros_0f7a4_77 ?_
    refine j_iadd C (pc := 78) dJ6_numberOfTrailingZeros_0f7a4_78 ?_
    obtain rfl := Option.some.inj hf
    exact hQ _ _ dJ6_numberOfTrailingZeros_0f7a4_79 rfl
  · refine j_iinc C (pc := 67) (L' := [(1, .int (x1 + (2 : Int32))), (0, .int x0)]) (v := x1 + (2 : Int32)) dJ6_numberOfTrailingZeros_0f7a4_67 (t := 1) rfl rfl (by decide) rfl ?_
    refine j_iload_n C (pc := 70) 1 rfl rfl dJ6_numberOfTrailingZeros_0f7a4_70 ?_
    refine j_iconst C (pc := 71) (v := 2) (by decide) dJ6_numberOfTrailingZeros_0f7a4_71 ?_
    refine j_iushr C (pc := 72) dJ6_numberOfTrailingZeros_0f7a4_72 ?_
    refine j_nm hf (fun y1 hf => ?_)
    refine j_istore_n C (pc := 73) (L' := [(0, .int y1), (1, .int (x1 + (2 : Int32)))]) dJ6_numberOfTrailingZeros_0f7a4_73 rfl (by decide) rfl ?_
    refine j_iload_n C (pc := 74) 1 rfl rfl dJ6_numberOfTrailingZeros_0f7a4_74 ?_
    refine j_iload_n C (pc := 75) 0 rfl rfl dJ6_numberOfTrailingZeros_0f7a4_75 ?_
    refine j_iconst C (pc := 76) (v := 1) (by decide) dJ6_numberOfTrailingZeros_0f7a4_76 ?_
    refine j_iushr C (pc := 77) dJ6_numberOfTrailingZeros_0f7a4_77 ?_
    refine j_iadd C (pc := 78) dJ6_numberOfTrailingZeros_0f7a4_78 ?_
    obtain rfl := Option.some.inj hf
    exact hQ _ _ dJ6_numberOfTrailingZeros_0f7a4_79 rfl
def f_J6_numberOfTrailingZeros_0f7a4_34 (x0 : Int32) (x1 : Int32) : Option (Int32) := (if x0 ≤ (256 : Int32) then (if x0 ≤ (16 : Int32) then (f_J6_numberOfTrailingZeros_0f7a4_62 x0 x1) else (nm ((x0.toUInt32 >>> ((4 : Int32).toUInt32 &&& Int32.toUInt32 31)).toInt32) fun y1 => (f_J6_numberOfTrailingZeros_0f7a4_62 y1 (x1 + (4 : Int32))))) else (nm ((x0.toUInt32 >>> ((8 : Int32).toUInt32 &&& Int32.toUInt32 31)).toInt32) fun y2 => (if y2 ≤ (16 : Int32) then (f_J6_numberOfTrailingZeros_0f7a4_62 y2 (x1 + (8 : Int32))) else (nm ((y2.toUInt32 >>> ((4 : Int32).toUInt32 &&& Int32.toUInt32 31)).toInt32) fun y3 => (f_J6_numberOfTrailingZeros_0f7a4_62 y3 ((x1 + (8 : Int32)) + (4 : Int32)))))))
set_option maxRecDepth 20000 in
set_option maxHeartbeats 1000000 in
theorem t_J6_numberOfTrailingZeros_0f7a4_34 {G : Gx} {K : Kx} (C : Cx G K cJ6_numberOfTrailingZeros_0f7a4 RJ6 2 1) {q : Int32} (hQ : k_retI G K cJ6_numberOfTrailingZeros_0f7a4 2 .int [] q) {x0 : Int32} {x1 : Int32} (hf : f_J6_numberOfTrailingZeros_0f7a4_34 x0 x1 = some q) : J G K 2 0 0 [] [(0, .int x0), (1, .int x1)] 34 [] := by
  unfold f_J6_numberOfTrailingZeros_0f7a4_34 at hf
  refine j_iload_n C (pc := 34) 0 rfl rfl dJ6_numberOfTrailingZeros_0f7a4_34 ?_
  refine j_sipush C (pc := 35) (v := 256) (by decide) dJ6_numberOfTrailingZeros_0f7a4_35 ?_
  refine j_icmp_le C (pc := 38) 49 dJ6_numberOfTrailingZeros_0f7a4_38 (by decide) hf (fun hf => ?_) (fun hf => ?_)
  · refine j_iload_n C (pc := 49) 0 rfl rfl dJ6_numberOfTrailingZeros_0f7a4_49 ?_
    refine j_bipush C (pc := 50) (v := 16) (by decide) dJ6_numberOfTrailingZeros_0f7a4_50 ?_
    refine j_icmp_le C (pc := 52) 62 dJ6_numberOfTrailingZeros_0f7a4_52 (by decide) hf (fun hf => ?_) (fun hf => ?_)
    · exact t_J6_numberOfTrailingZeros_0f7a4_62 C hQ hf
    · refine j_iinc C (pc := 55) (L' := [(1, .int (x1 + (4 : Int32))), (0, .int x0)]) (v := x1 + (4 : Int32)) dJ6_numberOfTrailingZeros_0f7a4_55 (t := 1) rfl rfl (by decide) rfl ?_
      refine j_iload_n C (pc := 58) 1 rfl rfl dJ6_numberOfTrailingZeros_0f7a4_58 ?_
      refine j_iconst C (pc := 59) (v := 4) (by decide) dJ6_numberOfTrailingZeros_0f7a4_59 ?_
      refine j_iushr C (pc := 60) dJ6_numberOfTrailingZeros_0f7a4_60 ?_
      refine j_nm hf (fun y1 hf => ?_)
      refine j_istore_n C (pc := 61) (L' := [(0, .int y1), (1, .int (x1 + (4 : Int32)))]) dJ6_numberOfTrailingZeros_0f7a4_61 rfl (by decide) rfl ?_
      exact t_J6_numberOfTrailingZeros_0f7a4_62 C hQ hf
  · refine j_iinc C (pc := 41) (L' := [(1, .int (x1 + (8 : Int32))), (0, .int x0)]) (v := x1 + (8 : Int32)) dJ6_numberOfTrailingZeros_0f7a4_41 (t := 1) rfl rfl (by decide) rfl ?_
    refine j_iload_n C (pc := 44) 1 rfl rfl dJ6_numberOfTrailingZeros_0f7a4_44 ?_
    refine j_bipush C (pc := 45) (v := 8) (by decide) dJ6_numberOfTrailingZeros_0f7a4_45 ?_
    refine j_iushr C (pc := 47) dJ6_numberOfTrailingZeros_0f7a4_47 ?_
    refine j_nm hf (fun y2 hf => ?_)
    refine j_istore_n C (pc := 48) (L' := [(0, .int y2), (1, .int (x1 + (8 : Int32)))]) dJ6_numberOfTrailingZeros_0f7a4_48 rfl (by decide) rfl ?_
    refine j_iload_n C (pc := 49) 0 rfl rfl dJ6_numberOfTrailingZeros_0f7a4_49 ?_
    refine j_bipush C (pc := 50) (v := 16) (by decide) dJ6_numberOfTrailingZeros_0f7a4_50 ?_
    refine j_icmp_le C (pc := 52) 62 dJ6_numberOfTrailingZeros_0f7a4_52 (by decide) hf (fun hf => ?_) (fun hf => ?_)
    · exact t_J6_numberOfTrailingZeros_0f7a4_62 C hQ hf
    · refine j_iinc C (pc := 55) (L' := [(1, .int ((x1 + (8 : Int32)) + (4 : Int32))), (0, .int y2)]) (v := (x1 + (8 : Int32)) + (4 : Int32)) dJ6_numberOfTrailingZeros_0f7a4_55 (t := 1) rfl rfl (by decide) rfl ?_
      refine j_iload_n C (pc := 58) 1 rfl rfl dJ6_numberOfTrailingZeros_0f7a4_58 ?_
      refine j_iconst C (pc := 59) (v := 4) (by decide) dJ6_numberOfTrailingZeros_0f7a4_59 ?_
      refine j_iushr C (pc := 60) dJ6_numberOfTrailingZeros_0f7a4_60 ?_
      refine j_nm hf (fun y3 hf => ?_)
      refine j_istore_n C (pc := 61) (L' := [(0, .int y3), (1, .int ((x1 + (8 : Int32)) + (4 : Int32)))]) dJ6_numberOfTrailingZeros_0f7a4_61 rfl (by decide) rfl ?_
      exact t_J6_numberOfTrailingZeros_0f7a4_62 C hQ hf
def f_J6_numberOfTrailingZeros_0f7a4 (p1 : Int32) : Option (Int32) := (nm ((p1 ^^^ (-1 : Int32)) &&& (p1 - (1 : Int32))) fun y1 => (if 0 < y1 then (if y1 ≤ (65536 : Int32) then (f_J6_numberOfTrailingZeros_0f7a4_34 y1 (1 : Int32)) else (nm ((y1.toUInt32 >>> ((16 : Int32).toUInt32 &&& Int32.toUInt32 31)).toInt32) fun y2 => (f_J6_numberOfTrailingZeros_0f7a4_34 y2 ((1 : Int32) + (16 : Int32))))) else (some (y1 &&& (32 : Int32)))))
set_option maxRecDepth 20000 in
set_option maxHeartbeats 1000000 in
theorem t_J6_numberOfTrailingZeros_0f7a4 {G : Gx} {K : Kx} (C : Cx G K cJ6_numberOfTrailingZeros_0f7a4 RJ6 2 1) {p1 : Int32} {q : Int32} (hQ : k_retI G K cJ6_numberOfTrailingZeros_0f7a4 2 .int [] q) (hf : f_J6_numberOfTrailingZeros_0f7a4 p1 = some q) : J G K 2 0 0 [] [(0, .int p1)] 0 [] := by
  unfold f_J6_numberOfTrailingZeros_0f7a4 at hf
  refine j_iload_n C (pc := 0) 0 rfl rfl dJ6_numberOfTrailingZeros_0f7a4_0 ?_
  refine j_iconst C (pc := 1) (v := -1) (by decide) dJ6_numberOfTrailingZeros_0f7a4_1 ?_
  refine j_ixor C (pc := 2) dJ6_numberOfTrailingZeros_0f7a4_2 ?_
  refine j_iload_n C (pc := 3) 0 rfl rfl dJ6_numberOfTrailingZeros_0f7a4_3 ?_
  refine j_iconst C (pc := 4) (v := 1) (by decide) dJ6_numberOfTrailingZeros_0f7a4_4 ?_
  refine j_isub C (pc := 5) dJ6_numberOfTrailingZeros_0f7a4_5 ?_
  refine j_iand C (pc := 6) dJ6_numberOfTrailingZeros_0f7a4_6 ?_
  refine j_nm hf (fun y1 hf => ?_)
  refine j_istore_n C (pc := 7) (L' := [(0, .int y1)]) dJ6_numberOfTrailingZeros_0f7a4_7 rfl (by decide) rfl ?_
  refine j_iload_n C (pc := 8) 0 rfl rfl dJ6_numberOfTrailingZeros_0f7a4_8 ?_
  refine j_if_gt C (pc := 9) 17 dJ6_numberOfTrailingZeros_0f7a4_9 (by decide) hf (fun hf => ?_) (fun hf => ?_)
  · refine j_iconst C (pc := 17) (v := 1) (by decide) dJ6_numberOfTrailingZeros_0f7a4_17 ?_
    refine j_istore_n C (pc := 18) (L' := [(1, .int (1 : Int32)), (0, .int y1)]) dJ6_numberOfTrailingZeros_0f7a4_18 rfl (by decide) rfl ?_
    refine j_iload_n C (pc := 19) 1 rfl rfl dJ6_numberOfTrailingZeros_0f7a4_19 ?_
    refine j_ldcw C (pc := 20) kk_J6_264 dJ6_numberOfTrailingZeros_0f7a4_20 ?_
    refine j_icmp_le C (pc := 23) 34 dJ6_numberOfTrailingZeros_0f7a4_23 (by decide) hf (fun hf => ?_) (fun hf => ?_)
    · refine j_sub [1, 0] rfl ?_
      exact t_J6_numberOfTrailingZeros_0f7a4_34 C hQ hf
    · refine j_iinc C (pc := 26) (L' := [(1, .int ((1 : Int32) + (16 : Int32))), (0, .int y1)]) (v := (1 : Int32) + (16 : Int32)) dJ6_numberOfTrailingZeros_0f7a4_26 (t := 0) rfl rfl (by decide) rfl ?_
      refine j_iload_n C (pc := 29) 1 rfl rfl dJ6_numberOfTrailingZeros_0f7a4_29 ?_
      refine j_bipush C (pc := 30) (v := 16) (by decide) dJ6_numberOfTrailingZeros_0f7a4_30 ?_
      refine j_iushr C (pc := 32) dJ6_numberOfTrailingZeros_0f7a4_32 ?_
      refine j_nm hf (fun y2 hf => ?_)
      refine j_istore_n C (pc := 33) (L' := [(0, .int y2), (1, .int ((1 : Int32) + (16 : Int32)))]) dJ6_numberOfTrailingZeros_0f7a4_33 rfl (by decide) rfl ?_
      exact t_J6_numberOfTrailingZeros_0f7a4_34 C hQ hf
  · refine j_iload_n C (pc := 12) 0 rfl rfl dJ6_numberOfTrailingZeros_0f7a4_12 ?_
    refine j_bipush C (pc := 13) (v := 32) (by decide) dJ6_numberOfTrailingZeros_0f7a4_13 ?_
    refine j_iand C (pc := 15) dJ6_numberOfTrailingZeros_0f7a4_15 ?_
    obtain rfl := Option.some.inj hf
    exact hQ _ _ dJ6_numberOfTrailingZeros_0f7a4_16 rfl
def ct_J6_numberOfTrailingZeros_0f7a4 (G : Gx) (l : Launch) (F : Int32 → Option (Int32)) (lv : Nat) : Prop := ∀ (p1 : Int32), ∀ (q : Int32), F p1 = some q → MI G l yJ6_numberOfTrailingZeros_0f7a4 cJ6_numberOfTrailingZeros_0f7a4 2 .int lv [.int p1] [] [] q
theorem c_J6_numberOfTrailingZeros_0f7a4 (G : Gx) (l : Launch) : ct_J6_numberOfTrailingZeros_0f7a4 G l f_J6_numberOfTrailingZeros_0f7a4 1 := by
  intro p1 q hf
  exact mI_of (by decide +kernel) rfl (fun K hl C hQ => t_J6_numberOfTrailingZeros_0f7a4 C hQ hf)
