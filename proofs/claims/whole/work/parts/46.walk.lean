-- X8_parish
def f_X8_parish_123 (v_parishes : Int32) (v_holds : Int32) (v_clauses : Nat → Int32) (x1 : Int32) (x2 : Int32) (x4 : Int32) (w_at : Int32) (w_value : Int32) (w_digits : Int32) (w_word : Nat → Int32) (w_number : Nat → Int32) (w_begins : Nat → Int32) (w_open : Int32) (w_length : Nat → Int32) (w_coded : Int32) (w_code : Nat → Int32) : Option (Int32 × Int32 × Int32 × Int32 × (Nat → Int32) × (Nat → Int32) × (Nat → Int32) × Int32 × (Nat → Int32) × Int32 × (Nat → Int32) × Int32 × (Nat → Int32) × Int32 × Int32) := (if x4 = 0 then (some ((-10 : Int32) - w_at, w_at, w_value, w_digits, w_word, w_number, w_begins, w_open, w_length, x1, w_code, (0 : Int32), v_clauses, v_holds, v_parishes)) else (gd v_parishes 6 (some (v_parishes, w_at, w_value, w_digits, w_word, w_number, w_begins, w_open, w_length, w_coded, w_code, (0 : Int32), upd v_clauses v_parishes.toNatClampNeg x2, v_parishes, v_parishes + (1 : Int32)))))
set_option maxRecDepth 20000 in
set_option maxHeartbeats 1000000 in
theorem t_X8_parish_123 {G : Gx} {K : Kx} (C : Cx G K cX8_parish RX8 5 408) {a_t : Nat} {r_t : Nat → Nat} {v_people : Int32} {v_day : Int32} {v_texted : Int32} {v_parishes : Int32} {v_holds : Int32} {v_seen : Int32} {v_inPlan : Int32} {v_inBook : Int32} {v_traced : Int32} {v_imaged : Int32} {v_most : Int32} {v_text : Nat → Int32} {v_clauses : Nat → Int32} {q : Int32 × Int32 × Int32 × Int32 × (Nat → Int32) × (Nat → Int32) × (Nat → Int32) × Int32 × (Nat → Int32) × Int32 × (Nat → Int32) × Int32 × (Nat → Int32) × Int32 × Int32} (hQ : k_retI G K cX8_parish 5 .int [oX8 a_t r_t v_people v_day q.2.2.2.2.2.2.2.2.2.2.2.1 q.2.1 q.2.2.1 q.2.2.2.1 q.2.2.2.2.2.2.2.1 q.2.2.2.2.2.2.2.2.2.2.2.2.2.2 q.2.2.2.2.2.2.2.2.2.2.2.2.2.1 q.2.2.2.2.2.2.2.2.2.1 v_seen v_inPlan v_inBook v_traced v_imaged v_most, aI G (r_t 10) 100 v_text, aI G (r_t 18) 61 q.2.2.2.2.1, aI G (r_t 19) 61 q.2.2.2.2.2.1, aI G (r_t 20) 61 q.2.2.2.2.2.2.1, aI G (r_t 21) 61 q.2.2.2.2.2.2.2.2.1, aI G (r_t 22) 800 q.2.2.2.2.2.2.2.2.2.2.1, aI G (r_t 17) 6 q.2.2.2.2.2.2.2.2.2.2.2.2.1] q.1) {x1 : Int32} {x2 : Int32} {x4 : Int32} {w_at : Int32} {w_value : Int32} {w_digits : Int32} {w_word : Nat → Int32} {w_number : Nat → Int32} {w_begins : Nat → Int32} {w_open : Int32} {w_length : Nat → Int32} {w_coded : Int32} {w_code : Nat → Int32} (hf : f_X8_parish_123 v_parishes v_holds v_clauses x1 x2 x4 w_at w_value w_digits w_word w_number w_begins w_open w_length w_coded w_code = some q) : J G K 5 0 0 [oX8 a_t r_t v_people v_day v_texted w_at w_value w_digits w_open v_parishes v_holds w_coded v_seen v_inPlan v_inBook v_traced v_imaged v_most, aI G (r_t 10) 100 v_text, aI G (r_t 18) 61 w_word, aI G (r_t 19) 61 w_number, aI G (r_t 20) 61 w_begins, aI G (r_t 21) 61 w_length, aI G (r_t 22) 800 w_code, aI G (r_t 17) 6 v_clauses] [(0, .ref a_t), (1, .int x1), (2, .int x2), (4, .int x4)] 123 [] := by
  unfold f_X8_parish_123 at hf
  refine j_aload_n C (pc := 123) 0 rfl rfl dX8_parish_123 ?_
  refine j_iconst C (pc := 124) (v := 0) (by decide) dX8_parish_124 ?_
  refine j_put C (pc := 125) (ws' := [oX8 a_t r_t v_people v_day (0 : Int32) w_at w_value w_digits w_open v_parishes v_holds w_coded v_seen v_inPlan v_inBook v_traced v_imaged v_most, aI G (r_t 10) 100 v_text, aI G (r_t 18) 61 w_word, aI G (r_t 19) 61 w_number, aI G (r_t 20) 61 w_begins, aI G (r_t 21) 61 w_length, aI G (r_t 22) 800 w_code, aI G (r_t 17) 6 v_clauses]) kc_X8 fl_X8_150 0 rfl rfl rfl rfl rfl rfl dX8_parish_125 ?_
  refine j_iload C (pc := 128) 3 rfl dX8_parish_128 ?_
  refine j_if_ne C (pc := 130) 146 dX8_parish_130 (by decide) hf (fun hf => ?_) (fun hf => ?_)
  · refine j_aload_n C (pc := 146) 0 rfl rfl dX8_parish_146 ?_
    refine j_get C (pc := 147) kc_X8 fl_X8_36 0 rfl rfl dX8_parish_147 ?_
    refine j_aload_n C (pc := 150) 0 rfl rfl dX8_parish_150 ?_
    refine j_get C (pc := 151) kc_X8 fl_X8_222 0 rfl rfl dX8_parish_151 ?_
    refine j_iload_n C (pc := 154) 2 rfl rfl dX8_parish_154 ?_
    refine j_iast C (pc := 155) (ws' := [oX8 a_t r_t v_people v_day (0 : Int32) w_at w_value w_digits w_open v_parishes v_holds w_coded v_seen v_inPlan v_inBook v_traced v_imaged v_most, aI G (r_t 10) 100 v_text, aI G (r_t 18) 61 w_word, aI G (r_t 19) 61 w_number, aI G (r_t 20) 61 w_begins, aI G (r_t 21) 61 w_length, aI G (r_t 22) 800 w_code, aI G (r_t 17) 6 (upd v_clauses v_parishes.toNatClampNeg x2)]) 7 rfl hf rfl dX8_parish_155 (fun hf => ?_)
    refine j_aload_n C (pc := 156) 0 rfl rfl dX8_parish_156 ?_
    refine j_aload_n C (pc := 157) 0 rfl rfl dX8_parish_157 ?_
    refine j_get C (pc := 158) kc_X8 fl_X8_222 0 rfl rfl dX8_parish_158 ?_
    refine j_put C (pc := 161) (ws' := [oX8 a_t r_t v_people v_day (0 : Int32) w_at w_value w_digits w_open v_parishes v_parishes w_coded v_seen v_inPlan v_inBook v_traced v_imaged v_most, aI G (r_t 10) 100 v_text, aI G (r_t 18) 61 w_word, aI G (r_t 19) 61 w_number, aI G (r_t 20) 61 w_begins, aI G (r_t 21) 61 w_length, aI G (r_t 22) 800 w_code, aI G (r_t 17) 6 (upd v_clauses v_parishes.toNatClampNeg x2)]) kc_X8 fl_X8_110 0 rfl rfl rfl rfl rfl rfl dX8_parish_161 ?_
    refine j_aload_n C (pc := 164) 0 rfl rfl dX8_parish_164 ?_
    refine j_dup C (pc := 165) rfl dX8_parish_165 ?_
    refine j_get C (pc := 166) kc_X8 fl_X8_222 0 rfl rfl dX8_parish_166 ?_
    refine j_dup_x1 C (pc := 169) rfl rfl dX8_parish_169 ?_
    refine j_iconst C (pc := 170) (v := 1) (by decide) dX8_parish_170 ?_
    refine j_iadd C (pc := 171) dX8_parish_171 ?_
    refine j_put C (pc := 172) (ws' := [oX8 a_t r_t v_people v_day (0 : Int32) w_at w_value w_digits w_open (v_parishes + (1 : Int32)) v_parishes w_coded v_seen v_inPlan v_inBook v_traced v_imaged v_most, aI G (r_t 10) 100 v_text, aI G (r_t 18) 61 w_word, aI G (r_t 19) 61 w_number, aI G (r_t 20) 61 w_begins, aI G (r_t 21) 61 w_length, aI G (r_t 22) 800 w_code, aI G (r_t 17) 6 (upd v_clauses v_parishes.toNatClampNeg x2)]) kc_X8 fl_X8_222 0 rfl rfl rfl rfl rfl rfl dX8_parish_172 ?_
    obtain rfl := Option.some.inj hf
    exact hQ _ _ dX8_parish_175 rfl
  · refine j_aload_n C (pc := 133) 0 rfl rfl dX8_parish_133 ?_
    refine j_iload_n C (pc := 134) 1 rfl rfl dX8_parish_134 ?_
    refine j_put C (pc := 135) (ws' := [oX8 a_t r_t v_people v_day (0 : Int32) w_at w_value w_digits w_open v_parishes v_holds x1 v_seen v_inPlan v_inBook v_traced v_imaged v_most, aI G (r_t 10) 100 v_text, aI G (r_t 18) 61 w_word, aI G (r_t 19) 61 w_number, aI G (r_t 20) 61 w_begins, aI G (r_t 21) 61 w_length, aI G (r_t 22) 800 w_code, aI G (r_t 17) 6 v_clauses]) kc_X8 fl_X8_178 0 rfl rfl rfl rfl rfl rfl dX8_parish_135 ?_
    refine j_bipush C (pc := 138) (v := -10) (by decide) dX8_parish_138 ?_
    refine j_aload_n C (pc := 140) 0 rfl rfl dX8_parish_140 ?_
    refine j_get C (pc := 141) kc_X8 fl_X8_153 0 rfl rfl dX8_parish_141 ?_
    refine j_isub C (pc := 144) dX8_parish_144 ?_
    obtain rfl := Option.some.inj hf
    exact hQ _ _ dX8_parish_145 rfl
def f_X8_parish_92 (v_texted : Int32) (v_text : Nat → Int32) (k29 : Int32 → Int32 → Int32 → Int32 → Int32 → Int32 → Int32 → (Nat → Int32) → (Nat → Int32) → (Nat → Int32) → Int32 → (Nat → Int32) → Int32 → (Nat → Int32) → Option (Int32 × Int32 × Int32 × Int32 × (Nat → Int32) × (Nat → Int32) × (Nat → Int32) × Int32 × (Nat → Int32) × Int32 × (Nat → Int32) × Int32 × (Nat → Int32) × Int32 × Int32)) (k0 : Int32) (x1 : Int32) (x2 : Int32) (w_at : Int32) (w_value : Int32) (w_digits : Int32) (w_word : Nat → Int32) (w_number : Nat → Int32) (w_begins : Nat → Int32) (w_open : Int32) (w_length : Nat → Int32) (w_coded : Int32) (w_code : Nat → Int32) : Option (Int32 × Int32 × Int32 × Int32 × (Nat → Int32) × (Nat → Int32) × (Nat → Int32) × Int32 × (Nat → Int32) × Int32 × (Nat → Int32) × Int32 × (Nat → Int32) × Int32 × Int32) := (if k0 = 0 then (if (10 : Int32) ≤ x2 then (k29 x1 x2 (0 : Int32) k0 w_at w_value w_digits w_word w_number w_begins w_open w_length w_coded w_code) else ((f_X8_is v_texted w_at v_text (59 : Int32)).bind fun q1 => (if q1.1 = 0 then (k29 x1 x2 (0 : Int32) k0 q1.2 w_value w_digits w_word w_number w_begins w_open w_length w_coded w_code) else (k29 x1 x2 (1 : Int32) k0 q1.2 w_value w_digits w_word w_number w_begins w_open w_length w_coded w_code)))) else (k29 x1 x2 (1 : Int32) k0 w_at w_value w_digits w_word w_number w_begins w_open w_length w_coded w_code))
set_option maxRecDepth 20000 in
set_option maxHeartbeats 1000000 in
theorem t_X8_parish_92 {G : Gx} {K : Kx} (C : Cx G K cX8_parish RX8 5 408) {a_t : Nat} {r_t : Nat → Nat} {v_people : Int32} {v_day : Int32} {v_texted : Int32} {v_parishes : Int32} {v_holds : Int32} {v_seen : Int32} {v_inPlan : Int32} {v_inBook : Int32} {v_traced : Int32} {v_imaged : Int32} {v_most : Int32} {v_text : Nat → Int32} {v_clauses : Nat → Int32} {q : Int32 × Int32 × Int32 × Int32 × (Nat → Int32) × (Nat → Int32) × (Nat → Int32) × Int32 × (Nat → Int32) × Int32 × (Nat → Int32) × Int32 × (Nat → Int32) × Int32 × Int32} (hQ : k_retI G K cX8_parish 5 .int [oX8 a_t r_t v_people v_day q.2.2.2.2.2.2.2.2.2.2.2.1 q.2.1 q.2.2.1 q.2.2.2.1 q.2.2.2.2.2.2.2.1 q.2.2.2.2.2.2.2.2.2.2.2.2.2.2 q.2.2.2.2.2.2.2.2.2.2.2.2.2.1 q.2.2.2.2.2.2.2.2.2.1 v_seen v_inPlan v_inBook v_traced v_imaged v_most, aI G (r_t 10) 100 v_text, aI G (r_t 18) 61 q.2.2.2.2.1, aI G (r_t 19) 61 q.2.2.2.2.2.1, aI G (r_t 20) 61 q.2.2.2.2.2.2.1, aI G (r_t 21) 61 q.2.2.2.2.2.2.2.2.1, aI G (r_t 22) 800 q.2.2.2.2.2.2.2.2.2.2.1, aI G (r_t 17) 6 q.2.2.2.2.2.2.2.2.2.2.2.2.1] q.1) {k29 : Int32 → Int32 → Int32 → Int32 → Int32 → Int32 → Int32 → (Nat → Int32) → (Nat → Int32) → (Nat → Int32) → Int32 → (Nat → Int32) → Int32 → (Nat → Int32) → Option (Int32 × Int32 × Int32 × Int32 × (Nat → Int32) × (Nat → Int32) × (Nat → Int32) × Int32 × (Nat → Int32) × Int32 × (Nat → Int32) × Int32 × (Nat → Int32) × Int32 × Int32)} (hk29 : ∀ (x1 : Int32) (x2 : Int32) (x3 : Int32) (x4 : Int32) (w_at : Int32) (w_value : Int32) (w_digits : Int32) (w_word : Nat → Int32) (w_number : Nat → Int32) (w_begins : Nat → Int32) (w_open : Int32) (w_length : Nat → Int32) (w_coded : Int32) (w_code : Nat → Int32), k29 x1 x2 x3 x4 w_at w_value w_digits w_word w_number w_begins w_open w_length w_coded w_code = some q → J G K 5 0 0 [oX8 a_t r_t v_people v_day v_texted w_at w_value w_digits w_open v_parishes v_holds w_coded v_seen v_inPlan v_inBook v_traced v_imaged v_most, aI G (r_t 10) 100 v_text, aI G (r_t 18) 61 w_word, aI G (r_t 19) 61 w_number, aI G (r_t 20) 61 w_begins, aI G (r_t 21) 61 w_length, aI G (r_t 22) 800 w_code, aI G (r_t 17) 6 v_clauses] [(0, .ref a_t), (1, .int x1), (2, .int x2), (3, .int x3), (4, .int x4)] 29 []) {k0 : Int32} {x1 : Int32} {x2 : Int32} {w_at : Int32} {w_value : Int32} {w_digits : Int32} {w_word : Nat → Int32} {w_number : Nat → Int32} {w_begins : Nat → Int32} {w_open : Int32} {w_length : Nat → Int32} {w_coded : Int32} {w_code : Nat → Int32} (hf : f_X8_parish_92 v_texted v_text k29 k0 x1 x2 w_at w_value w_digits w_word w_number w_begins w_open w_length w_coded w_code = some q) : J G K 5 0 0 [oX8 a_t r_t v_people v_day v_texted w_at w_value w_digits w_open v_parishes v_holds w_coded v_seen v_inPlan v_inBook v_traced v_imaged v_most, aI G (r_t 10) 100 v_text, aI G (r_t 18) 61 w_word, aI G (r_t 19) 61 w_number, aI G (r_t 20) 61 w_begins, aI G (r_t 21) 61 w_length, aI G (r_t 22) 800 w_code, aI G (r_t 17) 6 v_clauses] [(0, .ref a_t), (1, .int x1), (2, .int x2)] 92 [.int k0] := by
  unfold f_X8_parish_92 at hf
  refine j_istore C (pc := 92) (L' := [(4, .int k0), (0, .ref a_t), (1, .int x1), (2, .int x2)]) dX8_parish_92 (by decide) rfl ?_
  refine j_iload C (pc := 94) 0 rfl dX8_parish_94 ?_
  refine j_if_ne C (pc := 96) 114 dX8_parish_96 (by decide) hf (fun hf => ?_) (fun hf => ?_)
  · refine j_iconst C (pc := 114) (v := 1) (by decide) dX8_parish_114 ?_
    refine j_goto C (pc := 115) 119 dX8_parish_115 (by decide) ?_
    refine j_istore_n C (pc := 119) (L' := [(3, .int (1 : Int32)), (4, .int k0), (0, .ref a_t), (1, .int x1), (2, .int x2)]) dX8_parish_119 rfl (by decide) rfl ?_
    refine j_goto C (pc := 120) 29 dX8_parish_120 (by decide) ?_
    refine j_sub [2, 3, 4, 0, 1] rfl ?_
    exact hk29 _ _ _ _ _ _ _ _ _ _ _ _ _ _ hf
  · refine j_iload_n C (pc := 99) 3 rfl rfl dX8_parish_99 ?_
    refine j_bipush C (pc := 100) (v := 10) (by decide) dX8_parish_100 ?_
    refine j_icmp_ge C (pc := 102) 118 dX8_parish_102 (by decide) hf (fun hf => ?_) (fun hf => ?_)
    · refine j_iconst C (pc := 118) (v := 0) (by decide) dX8_parish_118 ?_
      refine j_istore_n C (pc := 119) (L' := [(3, .int (0 : Int32)), (4, .int k0), (0, .ref a_t), (1, .int x1), (2, .int x2)]) dX8_parish_119 rfl (by decide) rfl ?_
      refine j_goto C (pc := 120) 29 dX8_parish_120 (by decide) ?_
      refine j_sub [2, 3, 4, 0, 1] rfl ?_
      exact hk29 _ _ _ _ _ _ _ _ _ _ _ _ _ _ hf
    · refine j_aload_n C (pc := 105) 1 rfl rfl dX8_parish_105 ?_
      refine j_bipush C (pc := 106) (v := 59) (by decide) dX8_parish_106 ?_
      refine j_cVI C (pc := 108) (As := [.int (59 : Int32)]) (st := []) (ws' := fun q1 => [oX8 a_t r_t v_people v_day v_texted q1.2 w_value w_digits w_open v_parishes v_holds w_coded v_seen v_inPlan v_inBook v_traced v_imaged v_most, aI G (r_t 10) 100 v_text, aI G (r_t 18) 61 w_word, aI G (r_t 19) 61 w_number, aI G (r_t 20) 61 w_begins, aI G (r_t 21) 61 w_length, aI G (r_t 22) 800 w_code, aI G (r_t 17) 6 v_clauses]) ml_X8_175 ms_X8_is hf (fun q1 h => (c_X8_is G K.2.1) a_t r_t v_people v_day v_texted w_at w_value w_digits w_open v_parishes v_holds w_coded v_seen v_inPlan v_inBook v_traced v_imaged v_most v_text (59 : Int32) q1 h) [0, 1] [some 0, some 1, none, none, none, none, none, none] 8 rfl (by decide +kernel) (by decide +kernel) (fun _ => rfl) (fun _ => rfl) rfl rfl rfl rfl ⟨Nat.zero_le _, Nat.zero_le _⟩ dX8_parish_108 kc_X8 0 rfl (fun q1 hf => ?_)
      refine j_if_eq C (pc := 111) 118 dX8_parish_111 (by decide) hf (fun hf => ?_) (fun hf => ?_)
      · refine j_iconst C (pc := 118) (v := 0) (by decide) dX8_parish_118 ?_
        refine j_istore_n C (pc := 119) (L' := [(3, .int (0 : Int32)), (4, .int k0), (0, .ref a_t), (1, .int x1), (2, .int x2)]) dX8_parish_119 rfl (by decide) rfl ?_
        refine j_goto C (pc := 120) 29 dX8_parish_120 (by decide) ?_
        refine j_sub [2, 3, 4, 0, 1] rfl ?_
        exact hk29 _ _ _ _ _ _ _ _ _ _ _ _ _ _ hf
      · refine j_iconst C (pc := 114) (v := 1) (by decide) dX8_parish_114 ?_
        refine j_goto C (pc := 115) 119 dX8_parish_115 (by decide) ?_
        refine j_istore_n C (pc := 119) (L' := [(3, .int (1 : Int32)), (4, .int k0), (0, .ref a_t), (1, .int x1), (2, .int x2)]) dX8_parish_119 rfl (by decide) rfl ?_
        refine j_goto C (pc := 120) 29 dX8_parish_120 (by decide) ?_
        refine j_sub [2, 3, 4, 0, 1] rfl ?_
        exact hk29 _ _ _ _ _ _ _ _ _ _ _ _ _ _ hf
def f_X8_parish_65 (v_texted : Int32) (v_text : Nat → Int32) (k29 : Int32 → Int32 → Int32 → Int32 → Int32 → Int32 → Int32 → (Nat → Int32) → (Nat → Int32) → (Nat → Int32) → Int32 → (Nat → Int32) → Int32 → (Nat → Int32) → Option (Int32 × Int32 × Int32 × Int32 × (Nat → Int32) × (Nat → Int32) × (Nat → Int32) × Int32 × (Nat → Int32) × Int32 × (Nat → Int32) × Int32 × (Nat → Int32) × Int32 × Int32)) (k0 : Int32) (x1 : Int32) (x2 : Int32) (x4 : Int32) (w_at : Int32) (w_value : Int32) (w_digits : Int32) (w_word : Nat → Int32) (w_number : Nat → Int32) (w_begins : Nat → Int32) (w_open : Int32) (w_length : Nat → Int32) (w_coded : Int32) (w_code : Nat → Int32) : Option (Int32 × Int32 × Int32 × Int32 × (Nat → Int32) × (Nat → Int32) × (Nat → Int32) × Int32 × (Nat → Int32) × Int32 × (Nat → Int32) × Int32 × (Nat → Int32) × Int32 × Int32) := (if k0 = 0 then (k29 x1 x2 k0 x4 w_at w_value w_digits w_word w_number w_begins w_open w_length w_coded w_code) else (if w_at = v_texted then (f_X8_parish_92 v_texted v_text k29 (1 : Int32) x1 (x2 + (1 : Int32)) w_at w_value w_digits w_word w_number w_begins w_open w_length w_coded w_code) else (f_X8_parish_92 v_texted v_text k29 (0 : Int32) x1 (x2 + (1 : Int32)) w_at w_value w_digits w_word w_number w_begins w_open w_length w_coded w_code)))
set_option maxRecDepth 20000 in
set_option maxHeartbeats 1000000 in
theorem t_X8_parish_65 {G : Gx} {K : Kx} (C : Cx G K cX8_parish RX8 5 408) {a_t : Nat} {r_t : Nat → Nat} {v_people : Int32} {v_day : Int32} {v_texted : Int32} {v_parishes : Int32} {v_holds : Int32} {v_seen : Int32} {v_inPlan : Int32} {v_inBook : Int32} {v_traced : Int32} {v_imaged : Int32} {v_most : Int32} {v_text : Nat → Int32} {v_clauses : Nat → Int32} {q : Int32 × Int32 × Int32 × Int32 × (Nat → Int32) × (Nat → Int32) × (Nat → Int32) × Int32 × (Nat → Int32) × Int32 × (Nat → Int32) × Int32 × (Nat → Int32) × Int32 × Int32} (hQ : k_retI G K cX8_parish 5 .int [oX8 a_t r_t v_people v_day q.2.2.2.2.2.2.2.2.2.2.2.1 q.2.1 q.2.2.1 q.2.2.2.1 q.2.2.2.2.2.2.2.1 q.2.2.2.2.2.2.2.2.2.2.2.2.2.2 q.2.2.2.2.2.2.2.2.2.2.2.2.2.1 q.2.2.2.2.2.2.2.2.2.1 v_seen v_inPlan v_inBook v_traced v_imaged v_most, aI G (r_t 10) 100 v_text, aI G (r_t 18) 61 q.2.2.2.2.1, aI G (r_t 19) 61 q.2.2.2.2.2.1, aI G (r_t 20) 61 q.2.2.2.2.2.2.1, aI G (r_t 21) 61 q.2.2.2.2.2.2.2.2.1, aI G (r_t 22) 800 q.2.2.2.2.2.2.2.2.2.2.1, aI G (r_t 17) 6 q.2.2.2.2.2.2.2.2.2.2.2.2.1] q.1) {k29 : Int32 → Int32 → Int32 → Int32 → Int32 → Int32 → Int32 → (Nat → Int32) → (Nat → Int32) → (Nat → Int32) → Int32 → (Nat → Int32) → Int32 → (Nat → Int32) → Option (Int32 × Int32 × Int32 × Int32 × (Nat → Int32) × (Nat → Int32) × (Nat → Int32) × Int32 × (Nat → Int32) × Int32 × (Nat → Int32) × Int32 × (Nat → Int32) × Int32 × Int32)} (hk29 : ∀ (x1 : Int32) (x2 : Int32) (x3 : Int32) (x4 : Int32) (w_at : Int32) (w_value : Int32) (w_digits : Int32) (w_word : Nat → Int32) (w_number : Nat → Int32) (w_begins : Nat → Int32) (w_open : Int32) (w_length : Nat → Int32) (w_coded : Int32) (w_code : Nat → Int32), k29 x1 x2 x3 x4 w_at w_value w_digits w_word w_number w_begins w_open w_length w_coded w_code = some q → J G K 5 0 0 [oX8 a_t r_t v_people v_day v_texted w_at w_value w_digits w_open v_parishes v_holds w_coded v_seen v_inPlan v_inBook v_traced v_imaged v_most, aI G (r_t 10) 100 v_text, aI G (r_t 18) 61 w_word, aI G (r_t 19) 61 w_number, aI G (r_t 20) 61 w_begins, aI G (r_t 21) 61 w_length, aI G (r_t 22) 800 w_code, aI G (r_t 17) 6 v_clauses] [(0, .ref a_t), (1, .int x1), (2, .int x2), (3, .int x3), (4, .int x4)] 29 []) {k0 : Int32} {x1 : Int32} {x2 : Int32} {x4 : Int32} {w_at : Int32} {w_value : Int32} {w_digits : Int32} {w_word : Nat → Int32} {w_number : Nat → Int32} {w_begins : Nat → Int32} {w_open : Int32} {w_length : Nat → Int32} {w_coded : Int32} {w_code : Nat → Int32} (hf : f_X8_parish_65 v_texted v_text k29 k0 x1 x2 x4 w_at w_value w_digits w_word w_number w_begins w_open w_length w_coded w_code = some q) : J G K 5 0 0 [oX8 a_t r_t v_people v_day v_texted w_at w_value w_digits w_open v_parishes v_holds w_coded v_seen v_inPlan v_inBook v_traced v_imaged v_most, aI G (r_t 10) 100 v_text, aI G (r_t 18) 61 w_word, aI G (r_t 19) 61 w_number, aI G (r_t 20) 61 w_begins, aI G (r_t 21) 61 w_length, aI G (r_t 22) 800 w_code, aI G (r_t 17) 6 v_clauses] [(0, .ref a_t), (1, .int x1), (2, .int x2), (4, .int x4)] 65 [.int k0] := by
  unfold f_X8_parish_65 at hf
  refine j_istore_n C (pc := 65) (L' := [(3, .int k0), (0, .ref a_t), (1, .int x1), (2, .int x2), (4, .int x4)]) dX8_parish_65 rfl (by decide) rfl ?_
  refine j_iload_n C (pc := 66) 0 rfl rfl dX8_parish_66 ?_
  refine j_if_ne C (pc := 67) 73 dX8_parish_67 (by decide) hf (fun hf => ?_) (fun hf => ?_)
  · refine j_iinc C (pc := 73) (L' := [(2, .int (x2 + (1 : Int32))), (3, .int k0), (0, .ref a_t), (1, .int x1), (4, .int x4)]) (v := x2 + (1 : Int32)) dX8_parish_73 (t := 3) rfl rfl (by decide) rfl ?_
    refine j_aload_n C (pc := 76) 2 rfl rfl dX8_parish_76 ?_
    refine j_get C (pc := 77) kc_X8 fl_X8_153 0 rfl rfl dX8_parish_77 ?_
    refine j_aload_n C (pc := 80) 2 rfl rfl dX8_parish_80 ?_
    refine j_get C (pc := 81) kc_X8 fl_X8_150 0 rfl rfl dX8_parish_81 ?_
    refine j_icmp_ne C (pc := 84) 91 dX8_parish_84 (by decide) hf (fun hf => ?_) (fun hf => ?_)
    · refine j_iconst C (pc := 91) (v := 0) (by decide) dX8_parish_91 ?_
      refine j_sub [2, 3, 0] rfl ?_
      exact t_X8_parish_92 C hQ hk29 hf
    · refine j_iconst C (pc := 87) (v := 1) (by decide) dX8_parish_87 ?_
      refine j_goto C (pc := 88) 92 dX8_parish_88 (by decide) ?_
      refine j_sub [2, 3, 0] rfl ?_
      exact t_X8_parish_92 C hQ hk29 hf
  · refine j_goto C (pc := 70) 29 dX8_parish_70 (by decide) ?_
    refine j_sub [1, 2, 3, 0, 4] rfl ?_
    exact hk29 _ _ _ _ _ _ _ _ _ _ _ _ _ _ hf
def f_X8_parish_29_b (v_texted : Int32) (v_parishes : Int32) (v_holds : Int32) (v_text : Nat → Int32) (v_clauses : Nat → Int32) (k29 : Int32 → Int32 → Int32 → Int32 → Int32 → Int32 → Int32 → (Nat → Int32) → (Nat → Int32) → (Nat → Int32) → Int32 → (Nat → Int32) → Int32 → (Nat → Int32) → Option (Int32 × Int32 × Int32 × Int32 × (Nat → Int32) × (Nat → Int32) × (Nat → Int32) × Int32 × (Nat → Int32) × Int32 × (Nat → Int32) × Int32 × (Nat → Int32) × Int32 × Int32)) (x1 : Int32) (x2 : Int32) (x3 : Int32) (x4 : Int32) (w_at : Int32) (w_value : Int32) (w_digits : Int32) (w_word : Nat → Int32) (w_number : Nat → Int32) (w_begins : Nat → Int32) (w_open : Int32) (w_length : Nat → Int32) (w_coded : Int32) (w_code : Nat → Int32) : Option (Int32 × Int32 × Int32 × Int32 × (Nat → Int32) × (Nat → Int32) × (Nat → Int32) × Int32 × (Nat → Int32) × Int32 × (Nat → Int32) × Int32 × (Nat → Int32) × Int32 × Int32) := (if x3 = 0 then (f_X8_parish_123 v_parishes v_holds v_clauses x1 x2 x4 w_at w_value w_digits w_word w_number w_begins w_open w_length w_coded w_code) else (if x4 = 0 then (if (10 : Int32) ≤ x2 then (f_X8_parish_65 v_texted v_text k29 (0 : Int32) x1 x2 x4 w_at w_value w_digits w_word w_number w_begins w_open w_length w_coded w_code) else ((f_X8_isClause v_texted w_at w_value w_digits w_open w_coded v_text w_word w_number w_begins w_length w_code (((10 : Int32) * v_parishes) + x2)).bind fun q1 => (if q1.1 = 0 then (f_X8_parish_65 v_texted v_text k29 (0 : Int32) x1 x2 x4 q1.2.1 q1.2.2.1 q1.2.2.2.1 q1.2.2.2.2.1 q1.2.2.2.2.2.1 q1.2.2.2.2.2.2.1 q1.2.2.2.2.2.2.2.1 q1.2.2.2.2.2.2.2.2.1 q1.2.2.2.2.2.2.2.2.2.1 q1.2.2.2.2.2.2.2.2.2.2) else (f_X8_parish_65 v_texted v_text k29 (1 : Int32) x1 x2 x4 q1.2.1 q1.2.2.1 q1.2.2.2.1 q1.2.2.2.2.1 q1.2.2.2.2.2.1 q1.2.2.2.2.2.2.1 q1.2.2.2.2.2.2.2.1 q1.2.2.2.2.2.2.2.2.1 q1.2.2.2.2.2.2.2.2.2.1 q1.2.2.2.2.2.2.2.2.2.2)))) else (f_X8_parish_123 v_parishes v_holds v_clauses x1 x2 x4 w_at w_value w_digits w_word w_number w_begins w_open w_length w_coded w_code)))
def f_X8_parish_29 (v_texted : Int32) (v_parishes : Int32) (v_holds : Int32) (v_text : Nat → Int32) (v_clauses : Nat → Int32) : Nat → Int32 → Int32 → Int32 → Int32 → Int32 → Int32 → Int32 → (Nat → Int32) → (Nat → Int32) → (Nat → Int32) → Int32 → (Nat → Int32) → Int32 → (Nat → Int32) → Option (Int32 × Int32 × Int32 × Int32 × (Nat → Int32) × (Nat → Int32) × (Nat → Int32) × Int32 × (Nat → Int32) × Int32 × (Nat → Int32) × Int32 × (Nat → Int32) × Int32 × Int32)
  | 0 => fun _ _ _ _ _ _ _ _ _ _ _ _ _ _ => none
  | n + 1 => f_X8_parish_29_b v_texted v_parishes v_holds v_text v_clauses (f_X8_parish_29 v_texted v_parishes v_holds v_text v_clauses n)
set_option maxRecDepth 20000 in
set_option maxHeartbeats 1000000 in
theorem t_X8_parish_29_b {G : Gx} {K : Kx} (C : Cx G K cX8_parish RX8 5 408) {a_t : Nat} {r_t : Nat → Nat} {v_people : Int32} {v_day : Int32} {v_texted : Int32} {v_parishes : Int32} {v_holds : Int32} {v_seen : Int32} {v_inPlan : Int32} {v_inBook : Int32} {v_traced : Int32} {v_imaged : Int32} {v_most : Int32} {v_text : Nat → Int32} {v_clauses : Nat → Int32} {q : Int32 × Int32 × Int32 × Int32 × (Nat → Int32) × (Nat → Int32) × (Nat → Int32) × Int32 × (Nat → Int32) × Int32 × (Nat → Int32) × Int32 × (Nat → Int32) × Int32 × Int32} (hQ : k_retI G K cX8_parish 5 .int [oX8 a_t r_t v_people v_day q.2.2.2.2.2.2.2.2.2.2.2.1 q.2.1 q.2.2.1 q.2.2.2.1 q.2.2.2.2.2.2.2.1 q.2.2.2.2.2.2.2.2.2.2.2.2.2.2 q.2.2.2.2.2.2.2.2.2.2.2.2.2.1 q.2.2.2.2.2.2.2.2.2.1 v_seen v_inPlan v_inBook v_traced v_imaged v_most, aI G (r_t 10) 100 v_text, aI G (r_t 18) 61 q.2.2.2.2.1, aI G (r_t 19) 61 q.2.2.2.2.2.1, aI G (r_t 20) 61 q.2.2.2.2.2.2.1, aI G (r_t 21) 61 q.2.2.2.2.2.2.2.2.1, aI G (r_t 22) 800 q.2.2.2.2.2.2.2.2.2.2.1, aI G (r_t 17) 6 q.2.2.2.2.2.2.2.2.2.2.2.2.1] q.1) {k29 : Int32 → Int32 → Int32 → Int32 → Int32 → Int32 → Int32 → (Nat → Int32) → (Nat → Int32) → (Nat → Int32) → Int32 → (Nat → Int32) → Int32 → (Nat → Int32) → Option (Int32 × Int32 × Int32 × Int32 × (Nat → Int32) × (Nat → Int32) × (Nat → Int32) × Int32 × (Nat → Int32) × Int32 × (Nat → Int32) × Int32 × (Nat → Int32) × Int32 × Int32)} (hk29 : ∀ (x1 : Int32) (x2 : Int32) (x3 : Int32) (x4 : Int32) (w_at : Int32) (w_value : Int32) (w_digits : Int32) (w_word : Nat → Int32) (w_number : Nat → Int32) (w_begins : Nat → Int32) (w_open : Int32) (w_length : Nat → Int32) (w_coded : Int32) (w_code : Nat → Int32), k29 x1 x2 x3 x4 w_at w_value w_digits w_word w_number w_begins w_open w_length w_coded w_code = some q → J G K 5 0 0 [oX8 a_t r_t v_people v_day v_texted w_at w_value w_digits w_open v_parishes v_holds w_coded v_seen v_inPlan v_inBook v_traced v_imaged v_most, aI G (r_t 10) 100 v_text, aI G (r_t 18) 61 w_word, aI G (r_t 19) 61 w_number, aI G (r_t 20) 61 w_begins, aI G (r_t 21) 61 w_length, aI G (r_t 22) 800 w_code, aI G (r_t 17) 6 v_clauses] [(0, .ref a_t), (1, .int x1), (2, .int x2), (3, .int x3), (4, .int x4)] 29 []) {x1 : Int32} {x2 : Int32} {x3 : Int32} {x4 : Int32} {w_at : Int32} {w_value : Int32} {w_digits : Int32} {w_word : Nat → Int32} {w_number : Nat → Int32} {w_begins : Nat → Int32} {w_open : Int32} {w_length : Nat → Int32} {w_coded : Int32} {w_code : Nat → Int32} (hf : f_X8_parish_29_b v_texted v_parishes v_holds v_text v_clauses k29 x1 x2 x3 x4 w_at w_value w_digits w_word w_number w_begins w_open w_length w_coded w_code = some q) : J G K 5 0 0 [oX8 a_t r_t v_people v_day v_texted w_at w_value w_digits w_open v_parishes v_holds w_coded v_seen v_inPlan v_inBook v_traced v_imaged v_most, aI G (r_t 10) 100 v_text, aI G (r_t 18) 61 w_word, aI G (r_t 19) 61 w_number, aI G (r_t 20) 61 w_begins, aI G (r_t 21) 61 w_length, aI G (r_t 22) 800 w_code, aI G (r_t 17) 6 v_clauses] [(0, .ref a_t), (1, .int x1), (2, .int x2), (3, .int x3), (4, .int x4)] 29 [] := by
  unfold f_X8_parish_29_b at hf
  refine j_iload_n C (pc := 29) 3 rfl rfl dX8_parish_29 ?_
  refine j_if_eq C (pc := 30) 123 dX8_parish_30 (by decide) hf (fun hf => ?_) (fun hf => ?_)
  · refine j_sub [0, 1, 2, 4] rfl ?_
    exact t_X8_parish_123 C hQ hf
  · refine j_iload C (pc := 33) 4 rfl dX8_parish_33 ?_
    refine j_if_ne C (pc := 35) 123 dX8_parish_35 (by decide) hf (fun hf => ?_) (fun hf => ?_)
    · refine j_sub [0, 1, 2, 4] rfl ?_
      exact t_X8_parish_123 C hQ hf
    · refine j_iload_n C (pc := 38) 2 rfl rfl dX8_parish_38 ?_
      refine j_bipush C (pc := 39) (v := 10) (by decide) dX8_parish_39 ?_
      refine j_icmp_ge C (pc := 41) 64 dX8_parish_41 (by decide) hf (fun hf => ?_) (fun hf => ?_)
      · refine j_iconst C (pc := 64) (v := 0) (by decide) dX8_parish_64 ?_
        refine j_sub [0, 1, 2, 4] rfl ?_
        exact t_X8_parish_65 C hQ hk29 hf
      · refine j_aload_n C (pc := 44) 0 rfl rfl dX8_parish_44 ?_
        refine j_bipush C (pc := 45) (v := 10) (by decide) dX8_parish_45 ?_
        refine j_aload_n C (pc := 47) 0 rfl rfl dX8_parish_47 ?_
        refine j_get C (pc := 48) kc_X8 fl_X8_222 0 rfl rfl dX8_parish_48 ?_
        refine j_imul C (pc := 51) dX8_parish_51 ?_
        refine j_iload_n C (pc := 52) 2 rfl rfl dX8_parish_52 ?_
        refine j_iadd C (pc := 53) dX8_parish_53 ?_
        refine j_cVI C (pc := 54) (As := [.int (((10 : Int32) * v_parishes) + x2)]) (st := []) (ws' := fun q1 => [oX8 a_t r_t v_people v_day v_texted q1.2.1 q1.2.2.1 q1.2.2.2.1 q1.2.2.2.2.2.2.2.1 v_parishes v_holds q1.2.2.2.2.2.2.2.2.2.1 v_seen v_inPlan v_inBook v_traced v_imaged v_most, aI G (r_t 10) 100 v_text, aI G (r_t 18) 61 q1.2.2.2.2.1, aI G (r_t 19) 61 q1.2.2.2.2.2.1, aI G (r_t 20) 61 q1.2.2.2.2.2.2.1, aI G (r_t 21) 61 q1.2.2.2.2.2.2.2.2.1, aI G (r_t 22) 800 q1.2.2.2.2.2.2.2.2.2.2, aI G (r_t 17) 6 v_clauses]) ml_X8_225 ms_X8_isClause hf (fun q1 h => (c_X8_isClause G K.2.1) a_t r_t v_people v_day v_texted w_at w_value w_digits w_open v_parishes v_holds w_coded v_seen v_inPlan v_inBook v_traced v_imaged v_most v_text w_word w_number w_begins w_length w_code (((10 : Int32) * v_parishes) + x2) q1 h) [0, 1, 2, 3, 4, 5, 6] [some 0, some 1, some 2, some 3, some 4, some 5, some 6, none] 8 rfl (by decide +kernel) (by decide +kernel) (fun _ => rfl) (fun _ => rfl) rfl rfl rfl rfl ⟨Nat.zero_le _, Nat.zero_le _⟩ dX8_parish_54 kc_X8 0 rfl (fun q1 hf => ?_)
        refine j_if_eq C (pc := 57) 64 dX8_parish_57 (by decide) hf (fun hf => ?_) (fun hf => ?_)
        · refine j_iconst C (pc := 64) (v := 0) (by decide) dX8_parish_64 ?_
          refine j_sub [0, 1, 2, 4] rfl ?_
          exact t_X8_parish_65 C hQ hk29 hf
        · refine j_iconst C (pc := 60) (v := 1) (by decide) dX8_parish_60 ?_
          refine j_goto C (pc := 61) 65 dX8_parish_61 (by decide) ?_
          refine j_sub [0, 1, 2, 4] rfl ?_
          exact t_X8_parish_65 C hQ hk29 hf
theorem t_X8_parish_29 {G : Gx} {K : Kx} (C : Cx G K cX8_parish RX8 5 408) {a_t : Nat} {r_t : Nat → Nat} {v_people : Int32} {v_day : Int32} {v_texted : Int32} {v_parishes : Int32} {v_holds : Int32} {v_seen : Int32} {v_inPlan : Int32} {v_inBook : Int32} {v_traced : Int32} {v_imaged : Int32} {v_most : Int32} {v_text : Nat → Int32} {v_clauses : Nat → Int32} {q : Int32 × Int32 × Int32 × Int32 × (Nat → Int32) × (Nat → Int32) × (Nat → Int32) × Int32 × (Nat → Int32) × Int32 × (Nat → Int32) × Int32 × (Nat → Int32) × Int32 × Int32} (hQ : k_retI G K cX8_parish 5 .int [oX8 a_t r_t v_people v_day q.2.2.2.2.2.2.2.2.2.2.2.1 q.2.1 q.2.2.1 q.2.2.2.1 q.2.2.2.2.2.2.2.1 q.2.2.2.2.2.2.2.2.2.2.2.2.2.2 q.2.2.2.2.2.2.2.2.2.2.2.2.2.1 q.2.2.2.2.2.2.2.2.2.1 v_seen v_inPlan v_inBook v_traced v_imaged v_most, aI G (r_t 10) 100 v_text, aI G (r_t 18) 61 q.2.2.2.2.1, aI G (r_t 19) 61 q.2.2.2.2.2.1, aI G (r_t 20) 61 q.2.2.2.2.2.2.1, aI G (r_t 21) 61 q.2.2.2.2.2.2.2.2.1, aI G (r_t 22) 800 q.2.2.2.2.2.2.2.2.2.2.1, aI G (r_t 17) 6 q.2.2.2.2.2.2.2.2.2.2.2.2.1] q.1) : ∀ (n : Nat) (x1 : Int32) (x2 : Int32) (x3 : Int32) (x4 : Int32) (w_at : Int32) (w_value : Int32) (w_digits : Int32) (w_word : Nat → Int32) (w_number : Nat → Int32) (w_begins : Nat → Int32) (w_open : Int32) (w_length : Nat → Int32) (w_coded : Int32) (w_code : Nat → Int32), f_X8_parish_29 v_texted v_parishes v_holds v_text v_clauses n x1 x2 x3 x4 w_at w_value w_digits w_word w_number w_begins w_open w_length w_coded w_code = some q → J G K 5 0 0 [oX8 a_t r_t v_people v_day v_texted w_at w_value w_digits w_open v_parishes v_holds w_coded v_seen v_inPlan v_inBook v_traced v_imaged v_most, aI G (r_t 10) 100 v_text, aI G (r_t 18) 61 w_word, aI G (r_t 19) 61 w_number, aI G (r_t 20) 61 w_begins, aI G (r_t 21) 61 w_length, aI G (r_t 22) 800 w_code, aI G (r_t 17) 6 v_clauses] [(0, .ref a_t), (1, .int x1), (2, .int x2), (3, .int x3), (4, .int x4)] 29 [] := by
  intro n
  induction n with
  | zero => intro x1 x2 x3 x4 w_at w_value w_digits w_word w_number w_begins w_open w_length w_coded w_code hf; cases hf
  | succ n ih => intro x1 x2 x3 x4 w_at w_value w_digits w_word w_number w_begins w_open w_length w_coded w_code hf; exact t_X8_parish_29_b C hQ ih hf
def f_X8_parish (v_texted : Int32) (v_at : Int32) (v_value : Int32) (v_digits : Int32) (v_open : Int32) (v_parishes : Int32) (v_holds : Int32) (v_coded : Int32) (v_text : Nat → Int32) (v_word : Nat → Int32) (v_number : Nat → Int32) (v_begins : Nat → Int32) (v_length : Nat → Int32) (v_code : Nat → Int32) (v_clauses : Nat → Int32) : Option (Int32 × Int32 × Int32 × Int32 × (Nat → Int32) × (Nat → Int32) × (Nat → Int32) × Int32 × (Nat → Int32) × Int32 × (Nat → Int32) × Int32 × (Nat → Int32) × Int32 × Int32) := (if v_parishes = (6 : Int32) then (some ((-4 : Int32), v_at, v_value, v_digits, v_word, v_number, v_begins, v_open, v_length, v_coded, v_code, v_texted, v_clauses, v_holds, v_parishes)) else (f_X8_parish_29 v_texted v_parishes v_holds v_text v_clauses 1000 v_coded (0 : Int32) (1 : Int32) (0 : Int32) (0 : Int32) v_value v_digits v_word v_number v_begins v_open v_length v_coded v_code))
set_option maxRecDepth 20000 in
set_option maxHeartbeats 1000000 in
theorem t_X8_parish {G : Gx} {K : Kx} (C : Cx G K cX8_parish RX8 5 408) {a_t : Nat} {r_t : Nat → Nat} {v_people : Int32} {v_day : Int32} {v_texted : Int32} {v_at : Int32} {v_value : Int32} {v_digits : Int32} {v_open : Int32} {v_parishes : Int32} {v_holds : Int32} {v_coded : Int32} {v_seen : Int32} {v_inPlan : Int32} {v_inBook : Int32} {v_traced : Int32} {v_imaged : Int32} {v_most : Int32} {v_text : Nat → Int32} {v_word : Nat → Int32} {v_number : Nat → Int32} {v_begins : Nat → Int32} {v_length : Nat → Int32} {v_code : Nat → Int32} {v_clauses : Nat → Int32} {q : Int32 × Int32 × Int32 × Int32 × (Nat → Int32) × (Nat → Int32) × (Nat → Int32) × Int32 × (Nat → Int32) × Int32 × (Nat → Int32) × Int32 × (Nat → Int32) × Int32 × Int32} (hQ : k_retI G K cX8_parish 5 .int [oX8 a_t r_t v_people v_day q.2.2.2.2.2.2.2.2.2.2.2.1 q.2.1 q.2.2.1 q.2.2.2.1 q.2.2.2.2.2.2.2.1 q.2.2.2.2.2.2.2.2.2.2.2.2.2.2 q.2.2.2.2.2.2.2.2.2.2.2.2.2.1 q.2.2.2.2.2.2.2.2.2.1 v_seen v_inPlan v_inBook v_traced v_imaged v_most, aI G (r_t 10) 100 v_text, aI G (r_t 18) 61 q.2.2.2.2.1, aI G (r_t 19) 61 q.2.2.2.2.2.1, aI G (r_t 20) 61 q.2.2.2.2.2.2.1, aI G (r_t 21) 61 q.2.2.2.2.2.2.2.2.1, aI G (r_t 22) 800 q.2.2.2.2.2.2.2.2.2.2.1, aI G (r_t 17) 6 q.2.2.2.2.2.2.2.2.2.2.2.2.1] q.1) (hf : f_X8_parish v_texted v_at v_value v_digits v_open v_parishes v_holds v_coded v_text v_word v_number v_begins v_length v_code v_clauses = some q) : J G K 5 0 0 [oX8 a_t r_t v_people v_day v_texted v_at v_value v_digits v_open v_parishes v_holds v_coded v_seen v_inPlan v_inBook v_traced v_imaged v_most, aI G (r_t 10) 100 v_text, aI G (r_t 18) 61 v_word, aI G (r_t 19) 61 v_number, aI G (r_t 20) 61 v_begins, aI G (r_t 21) 61 v_length, aI G (r_t 22) 800 v_code, aI G (r_t 17) 6 v_clauses] [(0, .ref a_t)] 0 [] := by
  unfold f_X8_parish at hf
  refine j_aload_n C (pc := 0) 0 rfl rfl dX8_parish_0 ?_
  refine j_get C (pc := 1) kc_X8 fl_X8_222 0 rfl rfl dX8_parish_1 ?_
  refine j_bipush C (pc := 4) (v := 6) (by decide) dX8_parish_4 ?_
  refine j_icmp_ne C (pc := 6) 12 dX8_parish_6 (by decide) hf (fun hf => ?_) (fun hf => ?_)
  · refine j_aload_n C (pc := 12) 0 rfl rfl dX8_parish_12 ?_
    refine j_get C (pc := 13) kc_X8 fl_X8_178 0 rfl rfl dX8_parish_13 ?_
    refine j_istore_n C (pc := 16) (L' := [(1, .int v_coded), (0, .ref a_t)]) dX8_parish_16 rfl (by decide) rfl ?_
    refine j_aload_n C (pc := 17) 1 rfl rfl dX8_parish_17 ?_
    refine j_iconst C (pc := 18) (v := 0) (by decide) dX8_parish_18 ?_
    refine j_put C (pc := 19) (ws' := [oX8 a_t r_t v_people v_day v_texted (0 : Int32) v_value v_digits v_open v_parishes v_holds v_coded v_seen v_inPlan v_inBook v_traced v_imaged v_most, aI G (r_t 10) 100 v_text, aI G (r_t 18) 61 v_word, aI G (r_t 19) 61 v_number, aI G (r_t 20) 61 v_begins, aI G (r_t 21) 61 v_length, aI G (r_t 22) 800 v_code, aI G (r_t 17) 6 v_clauses]) kc_X8 fl_X8_153 0 rfl rfl rfl rfl rfl rfl dX8_parish_19 ?_
    refine j_iconst C (pc := 22) (v := 0) (by decide) dX8_parish_22 ?_
    refine j_istore_n C (pc := 23) (L' := [(2, .int (0 : Int32)), (1, .int v_coded), (0, .ref a_t)]) dX8_parish_23 rfl (by decide) rfl ?_
    refine j_iconst C (pc := 24) (v := 1) (by decide) dX8_parish_24 ?_
    refine j_istore_n C (pc := 25) (L' := [(3, .int (1 : Int32)), (2, .int (0 : Int32)), (1, .int v_coded), (0, .ref a_t)]) dX8_parish_25 rfl (by decide) rfl ?_
    refine j_iconst C (pc := 26) (v := 0) (by decide) dX8_parish_26 ?_
    refine j_istore C (pc := 27) (L' := [(4, .int (0 : Int32)), (3, .int (1 : Int32)), (2, .int (0 : Int32)), (1, .int v_coded), (0, .ref a_t)]) dX8_parish_27 (by decide) rfl ?_
    refine j_sub [4, 3, 2, 1, 0] rfl ?_
    exact t_X8_parish_29 C hQ 1000 _ _ _ _ _ _ _ _ _ _ _ _ _ _ hf
  · refine j_bipush C (pc := 9) (v := -4) (by decide) dX8_parish_9 ?_
    obtain rfl := Option.some.inj hf
    exact hQ _ _ dX8_parish_11 rfl
def ct_X8_parish (G : Gx) (l : Launch) (F : Int32 → Int32 → Int32 → Int32 → Int32 → Int32 → Int32 → Int32 → (Nat → Int32) → (Nat → Int32) → (Nat → Int32) → (Nat → Int32) → (Nat → Int32) → (Nat → Int32) → (Nat → Int32) → Option (Int32 × Int32 × Int32 × Int32 × (Nat → Int32) × (Nat → Int32) × (Nat → Int32) × Int32 × (Nat → Int32) × Int32 × (Nat → Int32) × Int32 × (Nat → Int32) × Int32 × Int32)) (lv : Nat) : Prop := ∀ (a_t : Nat) (r_t : Nat → Nat) (v_people : Int32) (v_day : Int32) (v_texted : Int32) (v_at : Int32) (v_value : Int32) (v_digits : Int32) (v_open : Int32) (v_parishes : Int32) (v_holds : Int32) (v_coded : Int32) (v_seen : Int32) (v_inPlan : Int32) (v_inBook : Int32) (v_traced : Int32) (v_imaged : Int32) (v_most : Int32) (v_text : Nat → Int32) (v_word : Nat → Int32) (v_number : Nat → Int32) (v_begins : Nat → Int32) (v_length : Nat → Int32) (v_code : Nat → Int32) (v_clauses : Nat → Int32), ∀ (q : Int32 × Int32 × Int32 × Int32 × (Nat → Int32) × (Nat → Int32) × (Nat → Int32) × Int32 × (Nat → Int32) × Int32 × (Nat → Int32) × Int32 × (Nat → Int32) × Int32 × Int32), F v_texted v_at v_value v_digits v_open v_parishes v_holds v_coded v_text v_word v_number v_begins v_length v_code v_clauses = some q → MI G l yX8_parish cX8_parish 5 .int lv [.ref a_t] [oX8 a_t r_t v_people v_day v_texted v_at v_value v_digits v_open v_parishes v_holds v_coded v_seen v_inPlan v_inBook v_traced v_imaged v_most, aI G (r_t 10) 100 v_text, aI G (r_t 18) 61 v_word, aI G (r_t 19) 61 v_number, aI G (r_t 20) 61 v_begins, aI G (r_t 21) 61 v_length, aI G (r_t 22) 800 v_code, aI G (r_t 17) 6 v_clauses] [oX8 a_t r_t v_people v_day q.2.2.2.2.2.2.2.2.2.2.2.1 q.2.1 q.2.2.1 q.2.2.2.1 q.2.2.2.2.2.2.2.1 q.2.2.2.2.2.2.2.2.2.2.2.2.2.2 q.2.2.2.2.2.2.2.2.2.2.2.2.2.1 q.2.2.2.2.2.2.2.2.2.1 v_seen v_inPlan v_inBook v_traced v_imaged v_most, aI G (r_t 10) 100 v_text, aI G (r_t 18) 61 q.2.2.2.2.1, aI G (r_t 19) 61 q.2.2.2.2.2.1, aI G (r_t 20) 61 q.2.2.2.2.2.2.1, aI G (r_t 21) 61 q.2.2.2.2.2.2.2.2.1, aI G (r_t 22) 800 q.2.2.2.2.2.2.2.2.2.2.1, aI G (r_t 17) 6 q.2.2.2.2.2.2.2.2.2.2.2.2.1] q.1
theorem c_X8_parish (G : Gx) (l : Launch) : ct_X8_parish G l f_X8_parish 408 := by
  intro a_t r_t v_people v_day v_texted v_at v_value v_digits v_open v_parishes v_holds v_coded v_seen v_inPlan v_inBook v_traced v_imaged v_most v_text v_word v_number v_begins v_length v_code v_clauses q hf
  exact mI_of (by decide +kernel) rfl (fun K hl C hQ => t_X8_parish C hQ hf)
-- X8_pass
def f_X8_pass_41_b (v_people : Int32) (k30 : Int32 → Int32 → (Nat → Int32) → (Nat → Int32) → (Nat → Int32) → (Nat → Int32) → Option (Int32 × Int32 × (Nat → Int32) × (Nat → Int32) × (Nat → Int32) × (Nat → Int32))) (k41 : Int32 → Int32 → Int32 → (Nat → Int32) → (Nat → Int32) → (Nat → Int32) → (Nat → Int32) → Option (Int32 × Int32 × (Nat → Int32) × (Nat → Int32) × (Nat → Int32) × (Nat → Int32))) (x2 : Int32) (x3 : Int32) (w_day : Int32) (w_stack : Nat → Int32) (w_buried : Nat → Int32) (w_thrown : Nat → Int32) (w_hate : Nat → Int32) : Option (Int32 × Int32 × (Nat → Int32) × (Nat → Int32) × (Nat → Int32) × (Nat → Int32)) := (if v_people ≤ x3 then (k30 (x2 + (1 : Int32)) w_day w_stack w_buried w_thrown w_hate) else (gd x3 6 ((f_J9_min_7cf53 (9999 : Int32) (w_thrown x3.toNatClampNeg)).bind fun q1 => (gd x3 6 (k41 x2 (x3 + (1 : Int32)) w_day w_stack w_buried (upd w_thrown x3.toNatClampNeg q1) w_hate)))))
def f_X8_pass_41 (v_people : Int32) (k30 : Int32 → Int32 → (Nat → Int32) → (Nat → Int32) → (Nat → Int32) → (Nat → Int32) → Option (Int32 × Int32 × (Nat → Int32) × (Nat → Int32) × (Nat → Int32) × (Nat → Int32))) : Nat → Int32 → Int32 → Int32 → (Nat → Int32) → (Nat → Int32) → (Nat → Int32) → (Nat → Int32) → Option (Int32 × Int32 × (Nat → Int32) × (Nat → Int32) × (Nat → Int32) × (Nat → Int32))
  | 0 => fun _ _ _ _ _ _ _ => none
  | n + 1 => f_X8_pass_41_b v_people k30 (f_X8_pass_41 v_people k30 n)
set_option maxRecDepth 20000 in
set_option maxHeartbeats 1000000 in
theorem t_X8_pass_41_b {G : Gx} {K : Kx} (C : Cx G K cX8_pass RX8 4 9) {a_t : Nat} {r_t : Nat → Nat} {v_people : Int32} {v_texted : Int32} {v_at : Int32} {v_value : Int32} {v_digits : Int32} {v_open : Int32} {v_parishes : Int32} {v_holds : Int32} {v_coded : Int32} {v_seen : Int32} {v_inPlan : Int32} {v_inBook : Int32} {v_traced : Int32} {v_imaged : Int32} {v_most : Int32} {v_dead : Nat → Int32} {v_clauses : Nat → Int32} {v_word : Nat → Int32} {v_begins : Nat → Int32} {v_length : Nat → Int32} {v_code : Nat → Int32} {v_kind : Nat → Int32} {v_v : Nat → Int32} {v_number : Nat → Int32} {v_rows : Nat → Int32} {p1 : Int32} {q : Int32 × Int32 × (Nat → Int32) × (Nat → Int32) × (Nat → Int32) × (Nat → Int32)} (hQ : k_retI G K cX8_pass 4 .int [oX8 a_t r_t v_people q.2.1 v_texted v_at v_value v_digits v_open v_parishes v_holds v_coded v_seen v_inPlan v_inBook v_traced v_imaged v_most, aI G (r_t 3) 6 v_dead, aI G (r_t 4) 6 q.2.2.2.1, aI G (r_t 7) 36 q.2.2.2.2.2, aI G (r_t 17) 6 v_clauses, aI G (r_t 18) 61 v_word, aI G (r_t 20) 61 v_begins, aI G (r_t 21) 61 v_length, aZ G (r_t 24) 110 q.2.2.1, aI G (r_t 22) 800 v_code, aI G (r_t 1) 6 v_kind, aI G (r_t 2) 6 v_v, aI G (r_t 19) 61 v_number, aI G (r_t 6) 24 v_rows, aI G (r_t 5) 6 q.2.2.2.2.1] q.1) {k30 : Int32 → Int32 → (Nat → Int32) → (Nat → Int32) → (Nat → Int32) → (Nat → Int32) → Option (Int32 × Int32 × (Nat → Int32) × (Nat → Int32) × (Nat → Int32) × (Nat → Int32))} {k41 : Int32 → Int32 → Int32 → (Nat → Int32) → (Nat → Int32) → (Nat → Int32) → (Nat → Int32) → Option (Int32 × Int32 × (Nat → Int32) × (Nat → Int32) × (Nat → Int32) × (Nat → Int32))} (hk30 : ∀ (x2 : Int32) (w_day : Int32) (w_stack : Nat → Int32) (w_buried : Nat → Int32) (w_thrown : Nat → Int32) (w_hate : Nat → Int32), k30 x2 w_day w_stack w_buried w_thrown w_hate = some q → J G K 4 0 0 [oX8 a_t r_t v_people w_day v_texted v_at v_value v_digits v_open v_parishes v_holds v_coded v_seen v_inPlan v_inBook v_traced v_imaged v_most, aI G (r_t 3) 6 v_dead, aI G (r_t 4) 6 w_buried, aI G (r_t 7) 36 w_hate, aI G (r_t 17) 6 v_clauses, aI G (r_t 18) 61 v_word, aI G (r_t 20) 61 v_begins, aI G (r_t 21) 61 v_length, aZ G (r_t 24) 110 w_stack, aI G (r_t 22) 800 v_code, aI G (r_t 1) 6 v_kind, aI G (r_t 2) 6 v_v, aI G (r_t 19) 61 v_number, aI G (r_t 6) 24 v_rows, aI G (r_t 5) 6 w_thrown] [(0, .ref a_t), (1, .int p1), (2, .int x2)] 30 []) (hk41 : ∀ (x2 : Int32) (x3 : Int32) (w_day : Int32) (w_stack : Nat → Int32) (w_buried : Nat → Int32) (w_thrown : Nat → Int32) (w_hate : Nat → Int32), k41 x2 x3 w_day w_stack w_buried w_thrown w_hate = some q → J G K 4 0 0 [oX8 a_t r_t v_people w_day v_texted v_at v_value v_digits v_open v_parishes v_holds v_coded v_seen v_inPlan v_inBook v_traced v_imaged v_most, aI G (r_t 3) 6 v_dead, aI G (r_t 4) 6 w_buried, aI G (r_t 7) 36 w_hate, aI G (r_t 17) 6 v_clauses, aI G (r_t 18) 61 v_word, aI G (r_t 20) 61 v_begins, aI G (r_t 21) 61 v_length, aZ G (r_t 24) 110 w_stack, aI G (r_t 22) 800 v_code, aI G (r_t 1) 6 v_kind, aI G (r_t 2) 6 v_v, aI G (r_t 19) 61 v_number, aI G (r_t 6) 24 v_rows, aI G (r_t 5) 6 w_thrown] [(0, .ref a_t), (1, .int p1), (2, .int x2), (3, .int x3)] 41 []) {x2 : Int32} {x3 : Int32} {w_day : Int32} {w_stack : Nat → Int32} {w_buried : Nat → Int32} {w_thrown : Nat → Int32} {w_hate : Nat → Int32} (hf : f_X8_pass_41_b v_people k30 k41 x2 x3 w_day w_stack w_buried w_thrown w_hate = some q) : J G K 4 0 0 [oX8 a_t r_t v_people w_day v_texted v_at v_value v_digits v_open v_parishes v_holds v_coded v_seen v_inPlan v_inBook v_traced v_imaged v_most, aI G (r_t 3) 6 v_dead, aI G (r_t 4) 6 w_buried, aI G (r_t 7) 36 w_hate, aI G (r_t 17) 6 v_clauses, aI G (r_t 18) 61 v_word, aI G (r_t 20) 61 v_begins, aI G (r_t 21) 61 v_length, aZ G (r_t 24) 110 w_stack, aI G (r_t 22) 800 v_code, aI G (r_t 1) 6 v_kind, aI G (r_t 2) 6 v_v, aI G (r_t 19) 61 v_number, aI G (r_t 6) 24 v_rows, aI G (r_t 5) 6 w_thrown] [(0, .ref a_t), (1, .int p1), (2, .int x2), (3, .int x3)] 41 [] := by
  unfold f_X8_pass_41_b at hf
  refine j_iload_n C (pc := 41) 3 rfl rfl dX8_pass_41 ?_
  refine j_aload_n C (pc := 42) 0 rfl rfl dX8_pass_42 ?_
  refine j_get C (pc := 43) kc_X8 fl_X8_114 0 rfl rfl dX8_pass_43 ?_
  refine j_icmp_ge C (pc := 46) 73 dX8_pass_46 (by decide) hf (fun hf => ?_) (fun hf => ?_)
  · refine j_iinc C (pc := 73) (L' := [(2, .int (x2 + (1 : Int32))), (0, .ref a_t), (1, .int p1), (3, .int x3)]) (v := x2 + (1 : Int32)) dX8_pass_73 (t := 2) rfl rfl (by decide) rfl ?_
    refine j_goto C (pc := 76) 30 dX8_pass_76 (by decide) ?_
    refine j_sub [1, 2, 0] rfl ?_
    exact hk30 _ _ _ _ _ _ hf
  · refine j_aload_n C (pc := 49) 0 rfl rfl dX8_pass_49 ?_
    refine j_get C (pc := 50) kc_X8 fl_X8_24 0 rfl rfl dX8_pass_50 ?_
    refine j_iload_n C (pc := 53) 3 rfl rfl dX8_pass_53 ?_
    refine j_sipush C (pc := 54) (v := 9999) (by decide) dX8_pass_54 ?_
    refine j_aload_n C (pc := 57) 0 rfl rfl dX8_pass_57 ?_
    refine j_get C (pc := 58) kc_X8 fl_X8_24 0 rfl rfl dX8_pass_58 ?_
    refine j_iload_n C (pc := 61) 3 rfl rfl dX8_pass_61 ?_
    refine j_iald C (pc := 62) 14 rfl hf dX8_pass_62 (fun hf => ?_)
    refine j_cSI C (pc := 63) (As := [.int (9999 : Int32), .int (w_thrown x3.toNatClampNeg)]) (st := [.int x3, .ref (r_t 5)]) (ws' := fun q1 => [oX8 a_t r_t v_people w_day v_texted v_at v_value v_digits v_open v_parishes v_holds v_coded v_seen v_inPlan v_inBook v_traced v_imaged v_most, aI G (r_t 3) 6 v_dead, aI G (r_t 4) 6 w_buried, aI G (r_t 7) 36 w_hate, aI G (r_t 17) 6 v_clauses, aI G (r_t 18) 61 v_word, aI G (r_t 20) 61 v_begins, aI G (r_t 21) 61 v_length, aZ G (r_t 24) 110 w_stack, aI G (r_t 22) 800 v_code, aI G (r_t 1) 6 v_kind, aI G (r_t 2) 6 v_v, aI G (r_t 19) 61 v_number, aI G (r_t 6) 24 v_rows, aI G (r_t 5) 6 w_thrown]) ml_X8_277 ms_J9_min_7cf53 hf (fun q1 h => (c_J9_min_7cf53 G K.2.1) (9999 : Int32) (w_thrown x3.toNatClampNeg) q1 h) [] [none, none, none, none, none, none, none, none, none, none, none, none, none, none, none] 15 rfl (by decide +kernel) (by decide +kernel) (fun _ => rfl) (fun _ => rfl) rfl rfl rfl rfl ⟨Nat.zero_le _, Nat.zero_le _⟩ dX8_pass_63 (fun q1 hf => ?_)
    refine j_iast C (pc := 66) (ws' := [oX8 a_t r_t v_people w_day v_texted v_at v_value v_digits v_open v_parishes v_holds v_coded v_seen v_inPlan v_inBook v_traced v_imaged v_most, aI G (r_t 3) 6 v_dead, aI G (r_t 4) 6 w_buried, aI G (r_t 7) 36 w_hate, aI G (r_t 17) 6 v_clauses, aI G (r_t 18) 61 v_word, aI G (r_t 20) 61 v_begins, aI G (r_t 21) 61 v_length, aZ G (r_t 24) 110 w_stack, aI G (r_t 22) 800 v_code, aI G (r_t 1) 6 v_kind, aI G (r_t 2) 6 v_v, aI G (r_t 19) 61 v_number, aI G (r_t 6) 24 v_rows, aI G (r_t 5) 6 (upd w_thrown x3.toNatClampNeg q1)]) 14 rfl hf rfl dX8_pass_66 (fun hf => ?_)
    refine j_iinc C (pc := 67) (L' := [(3, .int (x3 + (1 : Int32))), (0, .ref a_t), (1, .int p1), (2, .int x2)]) (v := x3 + (1 : Int32)) dX8_pass_67 (t := 3) rfl rfl (by decide) rfl ?_
    refine j_goto C (pc := 70) 41 dX8_pass_70 (by decide) ?_
    refine j_sub [1, 2, 3, 0] rfl ?_
    exact hk41 _ _ _ _ _ _ _ hf
theorem t_X8_pass_41 {G : Gx} {K : Kx} (C : Cx G K cX8_pass RX8 4 9) {a_t : Nat} {r_t : Nat → Nat} {v_people : Int32} {v_texted : Int32} {v_at : Int32} {v_value : Int32} {v_digits : Int32} {v_open : Int32} {v_parishes : Int32} {v_holds : Int32} {v_coded : Int32} {v_seen : Int32} {v_inPlan : Int32} {v_inBook : Int32} {v_traced : Int32} {v_imaged : Int32} {v_most : Int32} {v_dead : Nat → Int32} {v_clauses : Nat → Int32} {v_word : Nat → Int32} {v_begins : Nat → Int32} {v_length : Nat → Int32} {v_code : Nat → Int32} {v_kind : Nat → Int32} {v_v : Nat → Int32} {v_number : Nat → Int32} {v_rows : Nat → Int32} {p1 : Int32} {q : Int32 × Int32 × (Nat → Int32) × (Nat → Int32) × (Nat → Int32) × (Nat → Int32)} (hQ : k_retI G K cX8_pass 4 .int [oX8 a_t r_t v_people q.2.1 v_texted v_at v_value v_digits v_open v_parishes v_holds v_coded v_seen v_inPlan v_inBook v_traced v_imaged v_most, aI G (r_t 3) 6 v_dead, aI G (r_t 4) 6 q.2.2.2.1, aI G (r_t 7) 36 q.2.2.2.2.2, aI G (r_t 17) 6 v_clauses, aI G (r_t 18) 61 v_word, aI G (r_t 20) 61 v_begins, aI G (r_t 21) 61 v_length, aZ G (r_t 24) 110 q.2.2.1, aI G (r_t 22) 800 v_code, aI G (r_t 1) 6 v_kind, aI G (r_t 2) 6 v_v, aI G (r_t 19) 61 v_number, aI G (r_t 6) 24 v_rows, aI G (r_t 5) 6 q.2.2.2.2.1] q.1) {k30 : Int32 → Int32 → (Nat → Int32) → (Nat → Int32) → (Nat → Int32) → (Nat → Int32) → Option (Int32 × Int32 × (Nat → Int32) × (Nat → Int32) × (Nat → Int32) × (Nat → Int32))} (hk30 : ∀ (x2 : Int32) (w_day : Int32) (w_stack : Nat → Int32) (w_buried : Nat → Int32) (w_thrown : Nat → Int32) (w_hate : Nat → Int32), k30 x2 w_day w_stack w_buried w_thrown w_hate = some q → J G K 4 0 0 [oX8 a_t r_t v_people w_day v_texted v_at v_value v_digits v_open v_parishes v_holds v_coded v_seen v_inPlan v_inBook v_traced v_imaged v_most, aI G (r_t 3) 6 v_dead, aI G (r_t 4) 6 w_buried, aI G (r_t 7) 36 w_hate, aI G (r_t 17) 6 v_clauses, aI G (r_t 18) 61 v_word, aI G (r_t 20) 61 v_begins, aI G (r_t 21) 61 v_length, aZ G (r_t 24) 110 w_stack, aI G (r_t 22) 800 v_code, aI G (r_t 1) 6 v_kind, aI G (r_t 2) 6 v_v, aI G (r_t 19) 61 v_number, aI G (r_t 6) 24 v_rows, aI G (r_t 5) 6 w_thrown] [(0, .ref a_t), (1, .int p1), (2, .int x2)] 30 []) : ∀ (n : Nat) (x2 : Int32) (x3 : Int32) (w_day : Int32) (w_stack : Nat → Int32) (w_buried : Nat → Int32) (w_thrown : Nat → Int32) (w_hate : Nat → Int32), f_X8_pass_41 v_people k30 n x2 x3 w_day w_stack w_buried w_thrown w_hate = some q → J G K 4 0 0 [oX8 a_t r_t v_people w_day v_texted v_at v_value v_digits v_open v_parishes v_holds v_coded v_seen v_inPlan v_inBook v_traced v_imaged v_most, aI G (r_t 3) 6 v_dead, aI G (r_t 4) 6 w_buried, aI G (r_t 7) 36 w_hate, aI G (r_t 17) 6 v_clauses, aI G (r_t 18) 61 v_word, aI G (r_t 20) 61 v_begins, aI G (r_t 21) 61 v_length, aZ G (r_t 24) 110 w_stack, aI G (r_t 22) 800 v_code, aI G (r_t 1) 6 v_kind, aI G (r_t 2) 6 v_v, aI G (r_t 19) 61 v_number, aI G (r_t 6) 24 v_rows, aI G (r_t 5) 6 w_thrown] [(0, .ref a_t), (1, .int p1), (2, .int x2), (3, .int x3)] 41 [] := by
  intro n
  induction n with
  | zero => intro x2 x3 w_day w_stack w_buried w_thrown w_hate hf; cases hf
  | succ n ih => intro x2 x3 w_day w_stack w_buried w_thrown w_hate hf; exact t_X8_pass_41_b C hQ hk30 ih hf
def f_X8_pass_30_b (v_people : Int32) (v_holds : Int32) (v_dead : Nat → Int32) (v_clauses : Nat → Int32) (v_word : Nat → Int32) (v_begins : Nat → Int32) (v_length : Nat → Int32) (v_code : Nat → Int32) (v_kind : Nat → Int32) (v_v : Nat → Int32) (v_number : Nat → Int32) (v_rows : Nat → Int32) (p1 : Int32) (k30 : Int32 → Int32 → (Nat → Int32) → (Nat → Int32) → (Nat → Int32) → (Nat → Int32) → Option (Int32 × Int32 × (Nat → Int32) × (Nat → Int32) × (Nat → Int32) × (Nat → Int32))) (x2 : Int32) (w_day : Int32) (w_stack : Nat → Int32) (w_buried : Nat → Int32) (w_thrown : Nat → Int32) (w_hate : Nat → Int32) : Option (Int32 × Int32 × (Nat → Int32) × (Nat → Int32) × (Nat → Int32) × (Nat → Int32)) := (if p1 ≤ x2 then (some (w_day, w_day, w_stack, w_buried, w_thrown, w_hate)) else ((f_X8_goesDay v_people w_day v_holds v_dead w_buried w_hate v_clauses v_word v_begins v_length w_stack v_code v_kind v_v v_number v_rows w_thrown).bind fun q1 => (f_X8_pass_41 v_people k30 1000 x2 (0 : Int32) q1.1 q1.2.1 q1.2.2.1 q1.2.2.2.1 q1.2.2.2.2)))
def f_X8_pass_30 (v_people : Int32) (v_holds : Int32) (v_dead : Nat → Int32) (v_clauses : Nat → Int32) (v_word : Nat → Int32) (v_begins : Nat → Int32) (v_length : Nat → Int32) (v_code : Nat → Int32) (v_kind : Nat → Int32) (v_v : Nat → Int32) (v_number : Nat → Int32) (v_rows : Nat → Int32) (p1 : Int32) : Nat → Int32 → Int32 → (Nat → Int32) → (Nat → Int32) → (Nat → Int32) → (Nat → Int32) → Option (Int32 × Int32 × (Nat → Int32) × (Nat → Int32) × (Nat → Int32) × (Nat → Int32))
  | 0 => fun _ _ _ _ _ _ => none
  | n + 1 => f_X8_pass_30_b v_people v_holds v_dead v_clauses v_word v_begins v_length v_code v_kind v_v v_number v_rows p1 (f_X8_pass_30 v_people v_holds v_dead v_clauses v_word v_begins v_length v_code v_kind v_v v_number v_rows p1 n)
set_option maxRecDepth 20000 in
set_option maxHeartbeats 1000000 in
theorem t_X8_pass_30_b {G : Gx} {K : Kx} (C : Cx G K cX8_pass RX8 4 9) {a_t : Nat} {r_t : Nat → Nat} {v_people : Int32} {v_texted : Int32} {v_at : Int32} {v_value : Int32} {v_digits : Int32} {v_open : Int32} {v_parishes : Int32} {v_holds : Int32} {v_coded : Int32} {v_seen : Int32} {v_inPlan : Int32} {v_inBook : Int32} {v_traced : Int32} {v_imaged : Int32} {v_most : Int32} {v_dead : Nat → Int32} {v_clauses : Nat → Int32} {v_word : Nat → Int32} {v_begins : Nat → Int32} {v_length : Nat → Int32} {v_code : Nat → Int32} {v_kind : Nat → Int32} {v_v : Nat → Int32} {v_number : Nat → Int32} {v_rows : Nat → Int32} {p1 : Int32} {q : Int32 × Int32 × (Nat → Int32) × (Nat → Int32) × (Nat → Int32) × (Nat → Int32)} (hQ : k_retI G K cX8_pass 4 .int [oX8 a_t r_t v_people q.2.1 v_texted v_at v_value v_digits v_open v_parishes v_holds v_coded v_seen v_inPlan v_inBook v_traced v_imaged v_most, aI G (r_t 3) 6 v_dead, aI G (r_t 4) 6 q.2.2.2.1, aI G (r_t 7) 36 q.2.2.2.2.2, aI G (r_t 17) 6 v_clauses, aI G (r_t 18) 61 v_word, aI G (r_t 20) 61 v_begins, aI G (r_t 21) 61 v_length, aZ G (r_t 24) 110 q.2.2.1, aI G (r_t 22) 800 v_code, aI G (r_t 1) 6 v_kind, aI G (r_t 2) 6 v_v, aI G (r_t 19) 61 v_number, aI G (r_t 6) 24 v_rows, aI G (r_t 5) 6 q.2.2.2.2.1] q.1) {k30 : Int32 → Int32 → (Nat → Int32) → (Nat → Int32) → (Nat → Int32) → (Nat → Int32) → Option (Int32 × Int32 × (Nat → Int32) × (Nat → Int32) × (Nat → Int32) × (Nat → Int32))} (hk30 : ∀ (x2 : Int32) (w_day : Int32) (w_stack : Nat → Int32) (w_buried : Nat → Int32) (w_thrown : Nat → Int32) (w_hate : Nat → Int32), k30 x2 w_day w_stack w_buried w_thrown w_hate = some q → J G K 4 0 0 [oX8 a_t r_t v_people w_day v_texted v_at v_value v_digits v_open v_parishes v_holds v_coded v_seen v_inPlan v_inBook v_traced v_imaged v_most, aI G (r_t 3) 6 v_dead, aI G (r_t 4) 6 w_buried, aI G (r_t 7) 36 w_hate, aI G (r_t 17) 6 v_clauses, aI G (r_t 18) 61 v_word, aI G (r_t 20) 61 v_begins, aI G (r_t 21) 61 v_length, aZ G (r_t 24) 110 w_stack, aI G (r_t 22) 800 v_code, aI G (r_t 1) 6 v_kind, aI G (r_t 2) 6 v_v, aI G (r_t 19) 61 v_number, aI G (r_t 6) 24 v_rows, aI G (r_t 5) 6 w_thrown] [(0, .ref a_t), (1, .int p1), (2, .int x2)] 30 []) {x2 : Int32} {w_day : Int32} {w_stack : Nat → Int32} {w_buried : Nat → Int32} {w_thrown : Nat → Int32} {w_hate : Nat → Int32} (hf : f_X8_pass_30_b v_people v_holds v_dead v_clauses v_word v_begins v_length v_code v_kind v_v v_number v_rows p1 k30 x2 w_day w_stack w_buried w_thrown w_hate = some q) : J G K 4 0 0 [oX8 a_t r_t v_people w_day v_texted v_at v_value v_digits v_open v_parishes v_holds v_coded v_seen v_inPlan v_inBook v_traced v_imaged v_most, aI G (r_t 3) 6 v_dead, aI G (r_t 4) 6 w_buried, aI G (r_t 7) 36 w_hate, aI G (r_t 17) 6 v_clauses, aI G (r_t 18) 61 v_word, aI G (r_t 20) 61 v_begins, aI G (r_t 21) 61 v_length, aZ G (r_t 24) 110 w_stack, aI G (r_t 22) 800 v_code, aI G (r_t 1) 6 v_kind, aI G (r_t 2) 6 v_v, aI G (r_t 19) 61 v_number, aI G (r_t 6) 24 v_rows, aI G (r_t 5) 6 w_thrown] [(0, .ref a_t), (1, .int p1), (2, .int x2)] 30 [] := by
  unfold f_X8_pass_30_b at hf
  refine j_iload_n C (pc := 30) 2 rfl rfl dX8_pass_30 ?_
  refine j_iload_n C (pc := 31) 1 rfl rfl dX8_pass_31 ?_
  refine j_icmp_ge C (pc := 32) 79 dX8_pass_32 (by decide) hf (fun hf => ?_) (fun hf => ?_)
  · refine j_aload_n C (pc := 79) 0 rfl rfl dX8_pass_79 ?_
    refine j_get C (pc := 80) kc_X8 fl_X8_125 0 rfl rfl dX8_pass_80 ?_
    obtain rfl := Option.some.inj hf
    exact hQ _ _ dX8_pass_83 rfl
  · refine j_aload_n C (pc := 35) 0 rfl rfl dX8_pass_35 ?_
    refine j_cVZ C (pc := 36) (As := []) (st := []) (ws' := fun q1 => [oX8 a_t r_t v_people q1.1 v_texted v_at v_value v_digits v_open v_parishes v_holds v_coded v_seen v_inPlan v_inBook v_traced v_imaged v_most, aI G (r_t 3) 6 v_dead, aI G (r_t 4) 6 q1.2.2.1, aI G (r_t 7) 36 q1.2.2.2.2, aI G (r_t 17) 6 v_clauses, aI G (r_t 18) 61 v_word, aI G (r_t 20) 61 v_begins, aI G (r_t 21) 61 v_length, aZ G (r_t 24) 110 q1.2.1, aI G (r_t 22) 800 v_code, aI G (r_t 1) 6 v_kind, aI G (r_t 2) 6 v_v, aI G (r_t 19) 61 v_number, aI G (r_t 6) 24 v_rows, aI G (r_t 5) 6 q1.2.2.2.1]) ml_X8_274 ms_X8_goesDay hf (fun q1 h => (c_X8_goesDay G K.2.1) a_t r_t v_people w_day v_texted v_at v_value v_digits v_open v_parishes v_holds v_coded v_seen v_inPlan v_inBook v_traced v_imaged v_most v_dead w_buried w_hate v_clauses v_word v_begins v_length w_stack v_code v_kind v_v v_number v_rows w_thrown q1 h) [0, 1, 2, 3, 4, 5, 6, 7, 8, 9, 10, 11, 12, 13, 14] [some 0, some 1, some 2, some 3, some 4, some 5, some 6, some 7, some 8, some 9, some 10, some 11, some 12, some 13, some 14] 15 rfl (by decide +kernel) (by decide +kernel) (fun _ => rfl) (fun _ => rfl) rfl rfl rfl rfl ⟨Nat.zero_le _, Nat.zero_le _⟩ dX8_pass_36 kc_X8 0 rfl (fun q1 hf => ?_)
    refine j_iconst C (pc := 39) (v := 0) (by decide) dX8_pass_39 ?_
    refine j_istore_n C (pc := 40) (L' := [(3, .int (0 : Int32)), (0, .ref a_t), (1, .int p1), (2, .int x2)]) dX8_pass_40 rfl (by decide) rfl ?_
    refine j_sub [1, 2, 3, 0] rfl ?_
    exact t_X8_pass_41 C hQ hk30 1000 _ _ _ _ _ _ _ hf
theorem t_X8_pass_30 {G : Gx} {K : Kx} (C : Cx G K cX8_pass RX8 4 9) {a_t : Nat} {r_t : Nat → Nat} {v_people : Int32} {v_texted : Int32} {v_at : Int32} {v_value : Int32} {v_digits : Int32} {v_open : Int32} {v_parishes : Int32} {v_holds : Int32} {v_coded : Int32} {v_seen : Int32} {v_inPlan : Int32} {v_inBook : Int32} {v_traced : Int32} {v_imaged : Int32} {v_most : Int32} {v_dead : Nat → Int32} {v_clauses : Nat → Int32} {v_word : Nat → Int32} {v_begins : Nat → Int32} {v_length : Nat → Int32} {v_code : Nat → Int32} {v_kind : Nat → Int32} {v_v : Nat → Int32} {v_number : Nat → Int32} {v_rows : Nat → Int32} {p1 : Int32} {q : Int32 × Int32 × (Nat → Int32) × (Nat → Int32) × (Nat → Int32) × (Nat → Int32)} (hQ : k_retI G K cX8_pass 4 .int [oX8 a_t r_t v_people q.2.1 v_texted v_at v_value v_digits v_open v_parishes v_holds v_coded v_seen v_inPlan v_inBook v_traced v_imaged v_most, aI G (r_t 3) 6 v_dead, aI G (r_t 4) 6 q.2.2.2.1, aI G (r_t 7) 36 q.2.2.2.2.2, aI G (r_t 17) 6 v_clauses, aI G (r_t 18) 61 v_word, aI G (r_t 20) 61 v_begins, aI G (r_t 21) 61 v_length, aZ G (r_t 24) 110 q.2.2.1, aI G (r_t 22) 800 v_code, aI G (r_t 1) 6 v_kind, aI G (r_t 2) 6 v_v, aI G (r_t 19) 61 v_number, aI G (r_t 6) 24 v_rows, aI G (r_t 5) 6 q.2.2.2.2.1] q.1) : ∀ (n : Nat) (x2 : Int32) (w_day : Int32) (w_stack : Nat → Int32) (w_buried : Nat → Int32) (w_thrown : Nat → Int32) (w_hate : Nat → Int32), f_X8_pass_30 v_people v_holds v_dead v_clauses v_word v_begins v_length v_code v_kind v_v v_number v_rows p1 n x2 w_day w_stack w_buried w_thrown w_hate = some q → J G K 4 0 0 [oX8 a_t r_t v_people w_day v_texted v_at v_value v_digits v_open v_parishes v_holds v_coded v_seen v_inPlan v_inBook v_traced v_imaged v_most, aI G (r_t 3) 6 v_dead, aI G (r_t 4) 6 w_buried, aI G (r_t 7) 36 w_hate, aI G (r_t 17) 6 v_clauses, aI G (r_t 18) 61 v_word, aI G (r_t 20) 61 v_begins, aI G (r_t 21) 61 v_length, aZ G (r_t 24) 110 w_stack, aI G (r_t 22) 800 v_code, aI G (r_t 1) 6 v_kind, aI G (r_t 2) 6 v_v, aI G (r_t 19) 61 v_number, aI G (r_t 6) 24 v_rows, aI G (r_t 5) 6 w_thrown] [(0, .ref a_t), (1, .int p1), (2, .int x2)] 30 [] := by
  intro n
  induction n with
  | zero => intro x2 w_day w_stack w_buried w_thrown w_hate hf; cases hf
  | succ n ih => intro x2 w_day w_stack w_buried w_thrown w_hate hf; exact t_X8_pass_30_b C hQ ih hf
def f_X8_pass (v_people : Int32) (v_day : Int32) (v_holds : Int32) (v_dead : Nat → Int32) (v_buried : Nat → Int32) (v_hate : Nat → Int32) (v_clauses : Nat → Int32) (v_word : Nat → Int32) (v_begins : Nat → Int32) (v_length : Nat → Int32) (v_stack : Nat → Int32) (v_code : Nat → Int32) (v_kind : Nat → Int32) (v_v : Nat → Int32) (v_number : Nat → Int32) (v_rows : Nat → Int32) (v_thrown : Nat → Int32) (p1 : Int32) : Option (Int32 × Int32 × (Nat → Int32) × (Nat → Int32) × (Nat → Int32) × (Nat → Int32)) := ((f_X8_within p1 (0 : Int32) (60 : Int32)).bind fun q1 => (if q1 = 0 then (some ((-2 : Int32), v_day, v_stack, v_buried, v_thrown, v_hate)) else (if (v_day + p1) ≤ (9999 : Int32) then (f_X8_pass_30 v_people v_holds v_dead v_clauses v_word v_begins v_length v_code v_kind v_v v_number v_rows p1 1000 (0 : Int32) v_day v_stack v_buried v_thrown v_hate) else (some ((-3 : Int32), v_day, v_stack, v_buried, v_thrown, v_hate)))))
set_option maxRecDepth 20000 in
set_option maxHeartbeats 1000000 in
theorem t_X8_pass {G : Gx} {K : Kx} (C : Cx G K cX8_pass RX8 4 9) {a_t : Nat} {r_t : Nat → Nat} {v_people : Int32} {v_day : Int32} {v_texted : Int32} {v_at : Int32} {v_value : Int32} {v_digits : Int32} {v_open : Int32} {v_parishes : Int32} {v_holds : Int32} {v_coded : Int32} {v_seen : Int32} {v_inPlan : Int32} {v_inBook : Int32} {v_traced : Int32} {v_imaged : Int32} {v_most : Int32} {v_dead : Nat → Int32} {v_buried : Nat → Int32} {v_hate : Nat → Int32} {v_clauses : Nat → Int32} {v_word : Nat → Int32} {v_begins : Nat → Int32} {v_length : Nat → Int32} {v_stack : Nat → Int32} {v_code : Nat → Int32} {v_kind : Nat → Int32} {v_v : Nat → Int32} {v_number : Nat → Int32} {v_rows : Nat → Int32} {v_thrown : Nat → Int32} {p1 : Int32} {q : Int32 × Int32 × (Nat → Int32) × (Nat → Int32) × (Nat → Int32) × (Nat → Int32)} (hQ : k_retI G K cX8_pass 4 .int [oX8 a_t r_t v_people q.2.1 v_texted v_at v_value v_digits v_open v_parishes v_holds v_coded v_seen v_inPlan v_inBook v_traced v_imaged v_most, aI G (r_t 3) 6 v_dead, aI G (r_t 4) 6 q.2.2.2.1, aI G (r_t 7) 36 q.2.2.2.2.2, aI G (r_t 17) 6 v_clauses, aI G (r_t 18) 61 v_word, aI G (r_t 20) 61 v_begins, aI G (r_t 21) 61 v_length, aZ G (r_t 24) 110 q.2.2.1, aI G (r_t 22) 800 v_code, aI G (r_t 1) 6 v_kind, aI G (r_t 2) 6 v_v, aI G (r_t 19) 61 v_number, aI G (r_t 6) 24 v_rows, aI G (r_t 5) 6 q.2.2.2.2.1] q.1) (hf : f_X8_pass v_people v_day v_holds v_dead v_buried v_hate v_clauses v_word v_begins v_length v_stack v_code v_kind v_v v_number v_rows v_thrown p1 = some q) : J G K 4 0 0 [oX8 a_t r_t v_people v_day v_texted v_at v_value v_digits v_open v_parishes v_holds v_coded v_seen v_inPlan v_inBook v_traced v_imaged v_most, aI G (r_t 3) 6 v_dead, aI G (r_t 4) 6 v_buried, aI G (r_t 7) 36 v_hate, aI G (r_t 17) 6 v_clauses, aI G (r_t 18) 61 v_word, aI G (r_t 20) 61 v_begins, aI G (r_t 21) 61 v_length, aZ G (r_t 24) 110 v_stack, aI G (r_t 22) 800 v_code, aI G (r_t 1) 6 v_kind, aI G (r_t 2) 6 v_v, aI G (r_t 19) 61 v_number, aI G (r_t 6) 24 v_rows, aI G (r_t 5) 6 v_thrown] [(0, .ref a_t), (1, .int p1)] 0 [] := by
  unfold f_X8_pass at hf
  refine j_iload_n C (pc := 0) 1 rfl rfl dX8_pass_0 ?_
  refine j_iconst C (pc := 1) (v := 0) (by decide) dX8_pass_1 ?_
  refine j_bipush C (pc := 2) (v := 60) (by decide) dX8_pass_2 ?_
  refine j_cSI C (pc := 4) (As := [.int p1, .int (0 : Int32), .int (60 : Int32)]) (st := []) (ws' := fun q1 => [oX8 a_t r_t v_people v_day v_texted v_at v_value v_digits v_open v_parishes v_holds v_coded v_seen v_inPlan v_inBook v_traced v_imaged v_most, aI G (r_t 3) 6 v_dead, aI G (r_t 4) 6 v_buried, aI G (r_t 7) 36 v_hate, aI G (r_t 17) 6 v_clauses, aI G (r_t 18) 61 v_word, aI G (r_t 20) 61 v_begins, aI G (r_t 21) 61 v_length, aZ G (r_t 24) 110 v_stack, aI G (r_t 22) 800 v_code, aI G (r_t 1) 6 v_kind, aI G (r_t 2) 6 v_v, aI G (r_t 19) 61 v_number, aI G (r_t 6) 24 v_rows, aI G (r_t 5) 6 v_thrown]) ml_X8_117 ms_X8_within hf (fun q1 h => (c_X8_within G K.2.1) p1 (0 : Int32) (60 : Int32) q1 h) [] [none, none, none, none, none, none, none, none, none, none, none, none, none, none, none] 15 rfl (by decide +kernel) (by decide +kernel) (fun _ => rfl) (fun _ => rfl) rfl rfl rfl rfl ⟨Nat.zero_le _, Nat.zero_le _⟩ dX8_pass_4 (fun q1 hf => ?_)
  refine j_if_ne C (pc := 7) 13 dX8_pass_7 (by decide) hf (fun hf => ?_) (fun hf => ?_)
  · refine j_aload_n C (pc := 13) 0 rfl rfl dX8_pass_13 ?_
    refine j_get C (pc := 14) kc_X8 fl_X8_125 0 rfl rfl dX8_pass_14 ?_
    refine j_iload_n C (pc := 17) 1 rfl rfl dX8_pass_17 ?_
    refine j_iadd C (pc := 18) dX8_pass_18 ?_
    refine j_sipush C (pc := 19) (v := 9999) (by decide) dX8_pass_19 ?_
    refine j_icmp_le C (pc := 22) 28 dX8_pass_22 (by decide) hf (fun hf => ?_) (fun hf => ?_)
    · refine j_iconst C (pc := 28) (v := 0) (by decide) dX8_pass_28 ?_
      refine j_istore_n C (pc := 29) (L' := [(2, .int (0 : Int32)), (0, .ref a_t), (1, .int p1)]) dX8_pass_29 rfl (by decide) rfl ?_
      refine j_sub [1, 2, 0] rfl ?_
      exact t_X8_pass_30 C hQ 1000 _ _ _ _ _ _ hf
    · refine j_bipush C (pc := 25) (v := -3) (by decide) dX8_pass_25 ?_
      obtain rfl := Option.some.inj hf
      exact hQ _ _ dX8_pass_27 rfl
  · refine j_bipush C (pc := 10) (v := -2) (by decide) dX8_pass_10 ?_
    obtain rfl := Option.some.inj hf
    exact hQ _ _ dX8_pass_12 rfl
def ct_X8_pass (G : Gx) (l : Launch) (F : Int32 → Int32 → Int32 → (Nat → Int32) → (Nat → Int32) → (Nat → Int32) → (Nat → Int32) → (Nat → Int32) → (Nat → Int32) → (Nat → Int32) → (Nat → Int32) → (Nat → Int32) → (Nat → Int32) → (Nat → Int32) → (Nat → Int32) → (Nat → Int32) → (Nat → Int32) → Int32 → Option (Int32 × Int32 × (Nat → Int32) × (Nat → Int32) × (Nat → Int32) × (Nat → Int32))) (lv : Nat) : Prop := ∀ (a_t : Nat) (r_t : Nat → Nat) (v_people : Int32) (v_day : Int32) (v_texted : Int32) (v_at : Int32) (v_value : Int32) (v_digits : Int32) (v_open : Int32) (v_parishes : Int32) (v_holds : Int32) (v_coded : Int32) (v_seen : Int32) (v_inPlan : Int32) (v_inBook : Int32) (v_traced : Int32) (v_imaged : Int32) (v_most : Int32) (v_dead : Nat → Int32) (v_buried : Nat → Int32) (v_hate : Nat → Int32) (v_clauses : Nat → Int32) (v_word : Nat → Int32) (v_begins : Nat → Int32) (v_length : Nat → Int32) (v_stack : Nat → Int32) (v_code : Nat → Int32) (v_kind : Nat → Int32) (v_v : Nat → Int32) (v_number : Nat → Int32) (v_rows : Nat → Int32) (v_thrown : Nat → Int32) (p1 : Int32), ∀ (q : Int32 × Int32 × (Nat → Int32) × (Nat → Int32) × (Nat → Int32) × (Nat → Int32)), F v_people v_day v_holds v_dead v_buried v_hate v_clauses v_word v_begins v_length v_stack v_code v_kind v_v v_number v_rows v_thrown p1 = some q → MI G l yX8_pass cX8_pass 4 .int lv [.ref a_t, .int p1] [oX8 a_t r_t v_people v_day v_texted v_at v_value v_digits v_open v_parishes v_holds v_coded v_seen v_inPlan v_inBook v_traced v_imaged v_most, aI G (r_t 3) 6 v_dead, aI G (r_t 4) 6 v_buried, aI G (r_t 7) 36 v_hate, aI G (r_t 17) 6 v_clauses, aI G (r_t 18) 61 v_word, aI G (r_t 20) 61 v_begins, aI G (r_t 21) 61 v_length, aZ G (r_t 24) 110 v_stack, aI G (r_t 22) 800 v_code, aI G (r_t 1) 6 v_kind, aI G (r_t 2) 6 v_v, aI G (r_t 19) 61 v_number, aI G (r_t 6) 24 v_rows, aI G (r_t 5) 6 v_thrown] [oX8 a_t r_t v_people q.2.1 v_texted v_at v_value v_digits v_open v_parishes v_holds v_coded v_seen v_inPlan v_inBook v_traced v_imaged v_most, aI G (r_t 3) 6 v_dead, aI G (r_t 4) 6 q.2.2.2.1, aI G (r_t 7) 36 q.2.2.2.2.2, aI G (r_t 17) 6 v_clauses, aI G (r_t 18) 61 v_word, aI G (r_t 20) 61 v_begins, aI G (r_t 21) 61 v_length, aZ G (r_t 24) 110 q.2.2.1, aI G (r_t 22) 800 v_code, aI G (r_t 1) 6 v_kind, aI G (r_t 2) 6 v_v, aI G (r_t 19) 61 v_number, aI G (r_t 6) 24 v_rows, aI G (r_t 5) 6 q.2.2.2.2.1] q.1
theorem c_X8_pass (G : Gx) (l : Launch) : ct_X8_pass G l f_X8_pass 9 := by
  intro a_t r_t v_people v_day v_texted v_at v_value v_digits v_open v_parishes v_holds v_coded v_seen v_inPlan v_inBook v_traced v_imaged v_most v_dead v_buried v_hate v_clauses v_word v_begins v_length v_stack v_code v_kind v_v v_number v_rows v_thrown p1 q hf
  exact mI_of (by decide +kernel) rfl (fun K hl C hQ => t_X8_pass C hQ hf)
-- X8_plan
def f_X8_plan_35 (v_inPlan : Int32) (v_goes : Nat → Int32) (v_whose : Nat → Int32) (p1 : Int32) (p2 : Int32) : Option (Int32 × Int32 × (Nat → Int32) × (Nat → Int32)) := (if v_inPlan = (10 : Int32) then (some ((-4 : Int32), v_inPlan, v_goes, v_whose)) else (gd v_inPlan 10 (if p1 = 0 then (gd v_inPlan 10 (some (v_inPlan + (1 : Int32), v_inPlan + (1 : Int32), upd v_goes v_inPlan.toNatClampNeg p1, upd v_whose v_inPlan.toNatClampNeg (0 : Int32)))) else (gd v_inPlan 10 (some (v_inPlan + (1 : Int32), v_inPlan + (1 : Int32), upd v_goes v_inPlan.toNatClampNeg p1, upd v_whose v_inPlan.toNatClampNeg p2))))))
set_option maxRecDepth 20000 in
set_option maxHeartbeats 1000000 in
theorem t_X8_plan_35 {G : Gx} {K : Kx} (C : Cx G K cX8_plan RX8 3 3) {a_t : Nat} {r_t : Nat → Nat} {v_people : Int32} {v_day : Int32} {v_texted : Int32} {v_at : Int32} {v_value : Int32} {v_digits : Int32} {v_open : Int32} {v_parishes : Int32} {v_holds : Int32} {v_coded : Int32} {v_seen : Int32} {v_inPlan : Int32} {v_inBook : Int32} {v_traced : Int32} {v_imaged : Int32} {v_most : Int32} {v_goes : Nat → Int32} {v_whose : Nat → Int32} {p1 : Int32} {p2 : Int32} {q : Int32 × Int32 × (Nat → Int32) × (Nat → Int32)} (hQ : k_retI G K cX8_plan 3 .int [oX8 a_t r_t v_people v_day v_texted v_at v_value v_digits v_open v_parishes v_holds v_coded v_seen q.2.1 v_inBook v_traced v_imaged v_most, aI G (r_t 31) 10 q.2.2.1, aI G (r_t 32) 10 q.2.2.2] q.1) (hf : f_X8_plan_35 v_inPlan v_goes v_whose p1 p2 = some q) : J G K 3 0 0 [oX8 a_t r_t v_people v_day v_texted v_at v_value v_digits v_open v_parishes v_holds v_coded v_seen v_inPlan v_inBook v_traced v_imaged v_most, aI G (r_t 31) 10 v_goes, aI G (r_t 32) 10 v_whose] [(0, .ref a_t), (1, .int p1), (2, .int p2)] 35 [] := by
  unfold f_X8_plan_35 at hf
  refine j_aload_n C (pc := 35) 0 rfl rfl dX8_plan_35 ?_
  refine j_get C (pc := 36) kc_X8 fl_X8_317 0 rfl rfl dX8_plan_36 ?_
  refine j_bipush C (pc := 39) (v := 10) (by decide) dX8_plan_39 ?_
  refine j_icmp_ne C (pc := 41) 47 dX8_plan_41 (by decide) hf (fun hf => ?_) (fun hf => ?_)
  · refine j_aload_n C (pc := 47) 0 rfl rfl dX8_plan_47 ?_
    refine j_get C (pc := 48) kc_X8 fl_X8_70 0 rfl rfl dX8_plan_48 ?_
    refine j_aload_n C (pc := 51) 0 rfl rfl dX8_plan_51 ?_
    refine j_get C (pc := 52) kc_X8 fl_X8_317 0 rfl rfl dX8_plan_52 ?_
    refine j_iload_n C (pc := 55) 1 rfl rfl dX8_plan_55 ?_
    refine j_iast C (pc := 56) (ws' := [oX8 a_t r_t v_people v_day v_texted v_at v_value v_digits v_open v_parishes v_holds v_coded v_seen v_inPlan v_inBook v_traced v_imaged v_most, aI G (r_t 31) 10 (upd v_goes v_inPlan.toNatClampNeg p1), aI G (r_t 32) 10 v_whose]) 1 rfl hf rfl dX8_plan_56 (fun hf => ?_)
    refine j_aload_n C (pc := 57) 0 rfl rfl dX8_plan_57 ?_
    refine j_get C (pc := 58) kc_X8 fl_X8_73 0 rfl rfl dX8_plan_58 ?_
    refine j_aload_n C (pc := 61) 0 rfl rfl dX8_plan_61 ?_
    refine j_dup C (pc := 62) rfl dX8_plan_62 ?_
    refine j_get C (pc := 63) kc_X8 fl_X8_317 0 rfl rfl dX8_plan_63 ?_
    refine j_dup_x1 C (pc := 66) rfl rfl dX8_plan_66 ?_
    refine j_iconst C (pc := 67) (v := 1) (by decide) dX8_plan_67 ?_
    refine j_iadd C (pc := 68) dX8_plan_68 ?_
    refine j_put C (pc := 69) (ws' := [oX8 a_t r_t v_people v_day v_texted v_at v_value v_digits v_open v_parishes v_holds v_coded v_seen (v_inPlan + (1 : Int32)) v_inBook v_traced v_imaged v_most, aI G (r_t 31) 10 (upd v_goes v_inPlan.toNatClampNeg p1), aI G (r_t 32) 10 v_whose]) kc_X8 fl_X8_317 0 rfl rfl rfl rfl rfl rfl dX8_plan_69 ?_
    refine j_iload_n C (pc := 72) 1 rfl rfl dX8_plan_72 ?_
    refine j_if_ne C (pc := 73) 80 dX8_plan_73 (by decide) hf (fun hf => ?_) (fun hf => ?_)
    · refine j_iload_n C (pc := 80) 2 rfl rfl dX8_plan_80 ?_
      refine j_iast C (pc := 81) (ws' := [oX8 a_t r_t v_people v_day v_texted v_at v_value v_digits v_open v_parishes v_holds v_coded v_seen (v_inPlan + (1 : Int32)) v_inBook v_traced v_imaged v_most, aI G (r_t 31) 10 (upd v_goes v_inPlan.toNatClampNeg p1), aI G (r_t 32) 10 (upd v_whose v_inPlan.toNatClampNeg p2)]) 2 rfl hf rfl dX8_plan_81 (fun hf => ?_)
      refine j_aload_n C (pc := 82) 0 rfl rfl dX8_plan_82 ?_
      refine j_get C (pc := 83) kc_X8 fl_X8_317 0 rfl rfl dX8_plan_83 ?_
      obtain rfl := Option.some.inj hf
      exact hQ _ _ dX8_plan_86 rfl
    · refine j_iconst C (pc := 76) (v := 0) (by decide) dX8_plan_76 ?_
      refine j_goto C (pc := 77) 81 dX8_plan_77 (by decide) ?_
      refine j_iast C (pc := 81) (ws' := [oX8 a_t r_t v_people v_day v_texted v_at v_value v_digits v_open v_parishes v_holds v_coded v_seen (v_inPlan + (1 : Int32)) v_inBook v_traced v_imaged v_most, aI G (r_t 31) 10 (upd v_goes v_inPlan.toNatClampNeg p1), aI G (r_t 32) 10 (upd v_whose v_inPlan.toNatClampNeg (0 : Int32))]) 2 rfl hf rfl dX8_plan_81 (fun hf => ?_)
      refine j_aload_n C (pc := 82) 0 rfl rfl dX8_plan_82 ?_
      refine j_get C (pc := 83) kc_X8 fl_X8_317 0 rfl rfl dX8_plan_83 ?_
      obtain rfl := Option.some.inj hf
      exact hQ _ _ dX8_plan_86 rfl
  · refine j_bipush C (pc := 44) (v := -4) (by decide) dX8_plan_44 ?_
    obtain rfl := Option.some.inj hf
    exact hQ _ _ dX8_plan_46 rfl
def f_X8_plan (v_people : Int32) (v_inPlan : Int32) (v_goes : Nat → Int32) (v_whose : Nat → Int32) (p1 : Int32) (p2 : Int32) : Option (Int32 × Int32 × (Nat → Int32) × (Nat → Int32)) := (if p1 = (-1 : Int32) then (some ((0 : Int32), (0 : Int32), v_goes, v_whose)) else ((f_X8_within p1 (0 : Int32) (3 : Int32)).bind fun q1 => (if q1 = 0 then (some ((-1 : Int32), v_inPlan, v_goes, v_whose)) else (if p1 ≤ 0 then (f_X8_plan_35 v_inPlan v_goes v_whose p1 p2) else ((f_X8_isOne v_people p2).bind fun q2 => (if q2 = 0 then (some ((-1 : Int32), v_inPlan, v_goes, v_whose)) else (f_X8_plan_35 v_inPlan v_goes v_whose p1 p2)))))))
set_option maxRecDepth 20000 in
set_option maxHeartbeats 1000000 in
theorem t_X8_plan {G : Gx} {K : Kx} (C : Cx G K cX8_plan RX8 3 3) {a_t : Nat} {r_t : Nat → Nat} {v_people : Int32} {v_day : Int32} {v_texted : Int32} {v_at : Int32} {v_value : Int32} {v_digits : Int32} {v_open : Int32} {v_parishes : Int32} {v_holds : Int32} {v_coded : Int32} {v_seen : Int32} {v_inPlan : Int32} {v_inBook : Int32} {v_traced : Int32} {v_imaged : Int32} {v_most : Int32} {v_goes : Nat → Int32} {v_whose : Nat → Int32} {p1 : Int32} {p2 : Int32} {q : Int32 × Int32 × (Nat → Int32) × (Nat → Int32)} (hQ : k_retI G K cX8_plan 3 .int [oX8 a_t r_t v_people v_day v_texted v_at v_value v_digits v_open v_parishes v_holds v_coded v_seen q.2.1 v_inBook v_traced v_imaged v_most, aI G (r_t 31) 10 q.2.2.1, aI G (r_t 32) 10 q.2.2.2] q.1) (hf : f_X8_plan v_people v_inPlan v_goes v_whose p1 p2 = some q) : J G K 3 0 0 [oX8 a_t r_t v_people v_day v_texted v_at v_value v_digits v_open v_parishes v_holds v_coded v_seen v_inPlan v_inBook v_traced v_imaged v_most, aI G (r_t 31) 10 v_goes, aI G (r_t 32) 10 v_whose] [(0, .ref a_t), (1, .int p1), (2, .int p2)] 0 [] := by
  unfold f_X8_plan at hf
  refine j_iload_n C (pc := 0) 1 rfl rfl dX8_plan_0 ?_
  refine j_iconst C (pc := 1) (v := -1) (by decide) dX8_plan_1 ?_
  refine j_icmp_ne C (pc := 2) 12 dX8_plan_2 (by decide) hf (fun hf => ?_) (fun hf => ?_)
  · refine j_iload_n C (pc := 12) 1 rfl rfl dX8_plan_12 ?_
    refine j_iconst C (pc := 13) (v := 0) (by decide) dX8_plan_13 ?_
    refine j_iconst C (pc := 14) (v := 3) (by decide) dX8_plan_14 ?_
    refine j_cSI C (pc := 15) (As := [.int p1, .int (0 : Int32), .int (3 : Int32)]) (st := []) (ws' := fun q1 => [oX8 a_t r_t v_people v_day v_texted v_at v_value v_digits v_open v_parishes v_holds v_coded v_seen v_inPlan v_inBook v_traced v_imaged v_most, aI G (r_t 31) 10 v_goes, aI G (r_t 32) 10 v_whose]) ml_X8_117 ms_X8_within hf (fun q1 h => (c_X8_within G K.2.1) p1 (0 : Int32) (3 : Int32) q1 h) [] [none, none, none] 3 rfl (by decide +kernel) (by decide +kernel) (fun _ => rfl) (fun _ => rfl) rfl rfl rfl rfl ⟨Nat.zero_le _, Nat.zero_le _⟩ dX8_plan_15 (fun q1 hf => ?_)
    refine j_if_eq C (pc := 18) 33 dX8_plan_18 (by decide) hf (fun hf => ?_) (fun hf => ?_)
    · refine j_iconst C (pc := 33) (v := -1) (by decide) dX8_plan_33 ?_
      obtain rfl := Option.some.inj hf
      exact hQ _ _ dX8_plan_34 rfl
    · refine j_iload_n C (pc := 21) 1 rfl rfl dX8_plan_21 ?_
      refine j_if_le C (pc := 22) 35 dX8_plan_22 (by decide) hf (fun hf => ?_) (fun hf => ?_)
      · exact t_X8_plan_35 C hQ hf
      · refine j_aload_n C (pc := 25) 0 rfl rfl dX8_plan_25 ?_
        refine j_iload_n C (pc := 26) 2 rfl rfl dX8_plan_26 ?_
        refine j_cVI C (pc := 27) (As := [.int p2]) (st := []) (ws' := fun q2 => [oX8 a_t r_t v_people v_day v_texted v_at v_value v_digits v_open v_parishes v_holds v_coded v_seen v_inPlan v_inBook v_traced v_imaged v_most, aI G (r_t 31) 10 v_goes, aI G (r_t 32) 10 v_whose]) ml_X8_121 ms_X8_isOne hf (fun q2 h => (c_X8_isOne G K.2.1) a_t r_t v_people v_day v_texted v_at v_value v_digits v_open v_parishes v_holds v_coded v_seen v_inPlan v_inBook v_traced v_imaged v_most p2 q2 h) [0] [some 0, none, none] 3 rfl (by decide +kernel) (by decide +kernel) (fun _ => rfl) (fun _ => rfl) rfl rfl rfl rfl ⟨Nat.zero_le _, Nat.zero_le _⟩ dX8_plan_27 kc_X8 0 rfl (fun q2 hf => ?_)
        refine j_if_ne C (pc := 30) 35 dX8_plan_30 (by decide) hf (fun hf => ?_) (fun hf => ?_)
        · exact t_X8_plan_35 C hQ hf
        · refine j_iconst C (pc := 33) (v := -1) (by decide) dX8_plan_33 ?_
          obtain rfl := Option.some.inj hf
          exact hQ _ _ dX8_plan_34 rfl
  · refine j_aload_n C (pc := 5) 0 rfl rfl dX8_plan_5 ?_
    refine j_iconst C (pc := 6) (v := 0) (by decide) dX8_plan_6 ?_
    refine j_put C (pc := 7) (ws' := [oX8 a_t r_t v_people v_day v_texted v_at v_value v_digits v_open v_parishes v_holds v_coded v_seen (0 : Int32) v_inBook v_traced v_imaged v_most, aI G (r_t 31) 10 v_goes, aI G (r_t 32) 10 v_whose]) kc_X8 fl_X8_317 0 rfl rfl rfl rfl rfl rfl dX8_plan_7 ?_
    refine j_iconst C (pc := 10) (v := 0) (by decide) dX8_plan_10 ?_
    obtain rfl := Option.some.inj hf
    exact hQ _ _ dX8_plan_11 rfl
def ct_X8_plan (G : Gx) (l : Launch) (F : Int32 → Int32 → (Nat → Int32) → (Nat → Int32) → Int32 → Int32 → Option (Int32 × Int32 × (Nat → Int32) × (Nat → Int32))) (lv : Nat) : Prop := ∀ (a_t : Nat) (r_t : Nat → Nat) (v_people : Int32) (v_day : Int32) (v_texted : Int32) (v_at : Int32) (v_value : Int32) (v_digits : Int32) (v_open : Int32) (v_parishes : Int32) (v_holds : Int32) (v_coded : Int32) (v_seen : Int32) (v_inPlan : Int32) (v_inBook : Int32) (v_traced : Int32) (v_imaged : Int32) (v_most : Int32) (v_goes : Nat → Int32) (v_whose : Nat → Int32) (p1 : Int32) (p2 : Int32), ∀ (q : Int32 × Int32 × (Nat → Int32) × (Nat → Int32)), F v_people v_inPlan v_goes v_whose p1 p2 = some q → MI G l yX8_plan cX8_plan 3 .int lv [.ref a_t, .int p1, .int p2] [oX8 a_t r_t v_people v_day v_texted v_at v_value v_digits v_open v_parishes v_holds v_coded v_seen v_inPlan v_inBook v_traced v_imaged v_most, aI G (r_t 31) 10 v_goes, aI G (r_t 32) 10 v_whose] [oX8 a_t r_t v_people v_day v_texted v_at v_value v_digits v_open v_parishes v_holds v_coded v_seen q.2.1 v_inBook v_traced v_imaged v_most, aI G (r_t 31) 10 q.2.2.1, aI G (r_t 32) 10 q.2.2.2] q.1
theorem c_X8_plan (G : Gx) (l : Launch) : ct_X8_plan G l f_X8_plan 3 := by
  intro a_t r_t v_people v_day v_texted v_at v_value v_digits v_open v_parishes v_holds v_coded v_seen v_inPlan v_inBook v_traced v_imaged v_most v_goes v_whose p1 p2 q hf
  exact mI_of (by decide +kernel) rfl (fun K hl C hQ => t_X8_plan C hQ hf)
-- X8_read
def f_X8_read (v_tapeSort : Nat → Int32) (v_tapeSize : Nat → Int32) (v_items : Nat → Int64) (p1 : Int32) (p2 : Int32) : Option (Int64) := ((f_X8_isTape p1).bind fun q1 => (if q1 = 0 then (some (-9223372036854775808 : Int64)) else (gd p1 6 (if (v_tapeSort p1.toNatClampNeg) < 0 then (some (-9223372036854775808 : Int64)) else (gd p1 6 ((f_X8_within p2 (0 : Int32) ((v_tapeSize p1.toNatClampNeg) - (1 : Int32))).bind fun q2 => (if q2 = 0 then (some (-9223372036854775808 : Int64)) else (gd (((60 : Int32) * p1) + p2) 360 (some (v_items (((60 : Int32) * p1) + p2).toNatClampNeg))))))))))
set_option maxRecDepth 20000 in
set_option maxHeartbeats 1000000 in
theorem t_X8_read {G : Gx} {K : Kx} (C : Cx G K cX8_read RX8 3 3) {a_t : Nat} {r_t : Nat → Nat} {v_people : Int32} {v_day : Int32} {v_texted : Int32} {v_at : Int32} {v_value : Int32} {v_digits : Int32} {v_open : Int32} {v_parishes : Int32} {v_holds : Int32} {v_coded : Int32} {v_seen : Int32} {v_inPlan : Int32} {v_inBook : Int32} {v_traced : Int32} {v_imaged : Int32} {v_most : Int32} {v_tapeSort : Nat → Int32} {v_tapeSize : Nat → Int32} {v_items : Nat → Int64} {p1 : Int32} {p2 : Int32} {q : Int64} (hQ : k_retL G K cX8_read 3 [oX8 a_t r_t v_people v_day v_texted v_at v_value v_digits v_open v_parishes v_holds v_coded v_seen v_inPlan v_inBook v_traced v_imaged v_most, aI G (r_t 45) 6 v_tapeSort, aI G (r_t 46) 6 v_tapeSize, aJ G (r_t 47) 360 v_items] q) (hf : f_X8_read v_tapeSort v_tapeSize v_items p1 p2 = some q) : J G K 3 0 0 [oX8 a_t r_t v_people v_day v_texted v_at v_value v_digits v_open v_parishes v_holds v_coded v_seen v_inPlan v_inBook v_traced v_imaged v_most, aI G (r_t 45) 6 v_tapeSort, aI G (r_t 46) 6 v_tapeSize, aJ G (r_t 47) 360 v_items] [(0, .ref a_t), (1, .int p1), (2, .int p2)] 0 [] := by
  unfold f_X8_read at hf
  refine j_iload_n C (pc := 0) 1 rfl rfl dX8_read_0 ?_
  refine j_cSI C (pc := 1) (As := [.int p1]) (st := []) (ws' := fun q1 => [oX8 a_t r_t v_people v_day v_texted v_at v_value v_digits v_open v_parishes v_holds v_coded v_seen v_inPlan v_inBook v_traced v_imaged v_most, aI G (r_t 45) 6 v_tapeSort, aI G (r_t 46) 6 v_tapeSize, aJ G (r_t 47) 360 v_items]) ml_X8_346 ms_X8_isTape hf (fun q1 h => (c_X8_isTape G K.2.1) p1 q1 h) [] [none, none, none, none] 4 rfl (by decide +kernel) (by decide +kernel) (fun _ => rfl) (fun _ => rfl) rfl rfl rfl rfl ⟨Nat.zero_le _, Nat.zero_le _⟩ dX8_read_1 (fun q1 hf => ?_)
  refine j_if_eq C (pc := 4) 46 dX8_read_4 (by decide) hf (fun hf => ?_) (fun hf => ?_)
  · refine j_ldc2 C (pc := 46) kk_X8_311 dX8_read_46 ?_
    obtain rfl := Option.some.inj hf
    exact hQ _ _ dX8_read_49
  · refine j_aload_n C (pc := 7) 0 rfl rfl dX8_read_7 ?_
    refine j_get C (pc := 8) kc_X8 fl_X8_100 0 rfl rfl dX8_read_8 ?_
    refine j_iload_n C (pc := 11) 1 rfl rfl dX8_read_11 ?_
    refine j_iald C (pc := 12) 1 rfl hf dX8_read_12 (fun hf => ?_)
    refine j_if_lt C (pc := 13) 46 dX8_read_13 (by decide) hf (fun hf => ?_) (fun hf => ?_)
    · refine j_ldc2 C (pc := 46) kk_X8_311 dX8_read_46 ?_
      obtain rfl := Option.some.inj hf
      exact hQ _ _ dX8_read_49
    · refine j_iload_n C (pc := 16) 2 rfl rfl dX8_read_16 ?_
      refine j_iconst C (pc := 17) (v := 0) (by decide) dX8_read_17 ?_
      refine j_aload_n C (pc := 18) 0 rfl rfl dX8_read_18 ?_
      refine j_get C (pc := 19) kc_X8 fl_X8_103 0 rfl rfl dX8_read_19 ?_
      refine j_iload_n C (pc := 22) 1 rfl rfl dX8_read_22 ?_
      refine j_iald C (pc := 23) 2 rfl hf dX8_read_23 (fun hf => ?_)
      refine j_iconst C (pc := 24) (v := 1) (by decide) dX8_read_24 ?_
      refine j_isub C (pc := 25) dX8_read_25 ?_
      refine j_cSI C (pc := 26) (As := [.int p2, .int (0 : Int32), .int ((v_tapeSize p1.toNatClampNeg) - (1 : Int32))]) (st := []) (ws' := fun q2 => [oX8 a_t r_t v_people v_day v_texted v_at v_value v_digits v_open v_parishes v_holds v_coded v_seen v_inPlan v_inBook v_traced v_imaged v_most, aI G (r_t 45) 6 v_tapeSort, aI G (r_t 46) 6 v_tapeSize, aJ G (r_t 47) 360 v_items]) ml_X8_117 ms_X8_within hf (fun q2 h => (c_X8_within G K.2.1) p2 (0 : Int32) ((v_tapeSize p1.toNatClampNeg) - (1 : Int32)) q2 h) [] [none, none, none, none] 4 rfl (by decide +kernel) (by decide +kernel) (fun _ => rfl) (fun _ => rfl) rfl rfl rfl rfl ⟨Nat.zero_le _, Nat.zero_le _⟩ dX8_read_26 (fun q2 hf => ?_)
      refine j_if_eq C (pc := 29) 46 dX8_read_29 (by decide) hf (fun hf => ?_) (fun hf => ?_)
      · refine j_ldc2 C (pc := 46) kk_X8_311 dX8_read_46 ?_
        obtain rfl := Option.some.inj hf
        exact hQ _ _ dX8_read_49
      · refine j_aload_n C (pc := 32) 0 rfl rfl dX8_read_32 ?_
        refine j_get C (pc := 33) kc_X8 fl_X8_106 0 rfl rfl dX8_read_33 ?_
        refine j_bipush C (pc := 36) (v := 60) (by decide) dX8_read_36 ?_
        refine j_iload_n C (pc := 38) 1 rfl rfl dX8_read_38 ?_
        refine j_imul C (pc := 39) dX8_read_39 ?_
        refine j_iload_n C (pc := 40) 2 rfl rfl dX8_read_40 ?_
        refine j_iadd C (pc := 41) dX8_read_41 ?_
        refine j_lald C (pc := 42) 3 rfl hf dX8_read_42 (fun hf => ?_)
        refine j_goto C (pc := 43) 49 dX8_read_43 (by decide) ?_
        obtain rfl := Option.some.inj hf
        exact hQ _ _ dX8_read_49
def ct_X8_read (G : Gx) (l : Launch) (F : (Nat → Int32) → (Nat → Int32) → (Nat → Int64) → Int32 → Int32 → Option (Int64)) (lv : Nat) : Prop := ∀ (a_t : Nat) (r_t : Nat → Nat) (v_people : Int32) (v_day : Int32) (v_texted : Int32) (v_at : Int32) (v_value : Int32) (v_digits : Int32) (v_open : Int32) (v_parishes : Int32) (v_holds : Int32) (v_coded : Int32) (v_seen : Int32) (v_inPlan : Int32) (v_inBook : Int32) (v_traced : Int32) (v_imaged : Int32) (v_most : Int32) (v_tapeSort : Nat → Int32) (v_tapeSize : Nat → Int32) (v_items : Nat → Int64) (p1 : Int32) (p2 : Int32), ∀ (q : Int64), F v_tapeSort v_tapeSize v_items p1 p2 = some q → ML G l yX8_read cX8_read 3 .long lv [.ref a_t, .int p1, .int p2] [oX8 a_t r_t v_people v_day v_texted v_at v_value v_digits v_open v_parishes v_holds v_coded v_seen v_inPlan v_inBook v_traced v_imaged v_most, aI G (r_t 45) 6 v_tapeSort, aI G (r_t 46) 6 v_tapeSize, aJ G (r_t 47) 360 v_items] [oX8 a_t r_t v_people v_day v_texted v_at v_value v_digits v_open v_parishes v_holds v_coded v_seen v_inPlan v_inBook v_traced v_imaged v_most, aI G (r_t 45) 6 v_tapeSort, aI G (r_t 46) 6 v_tapeSize, aJ G (r_t 47) 360 v_items] q
theorem c_X8_read (G : Gx) (l : Launch) : ct_X8_read G l f_X8_read 3 := by
  intro a_t r_t v_people v_day v_texted v_at v_value v_digits v_open v_parishes v_holds v_coded v_seen v_inPlan v_inBook v_traced v_imaged v_most v_tapeSort v_tapeSize v_items p1 p2 q hf
  exact mL_of (by decide +kernel) rfl (fun K hl C hQ => t_X8_read C hQ hf)
-- X8_row
def f_X8_row (v_people : Int32) (v_kind : Nat → Int32) (v_rows : Nat → Int32) (p1 : Int32) (p2 : Int32) (p3 : Int32) : Option (Int32 × (Nat → Int32)) := ((f_X8_isOne v_people p1).bind fun q1 => (if q1 = 0 then (some ((-1 : Int32), v_rows)) else ((f_X8_within p2 (0 : Int32) (3 : Int32)).bind fun q2 => (if q2 = 0 then (some ((-1 : Int32), v_rows)) else ((f_X8_within p3 (0 : Int32) (9 : Int32)).bind fun q3 => (if q3 = 0 then (some ((-2 : Int32), v_rows)) else (gd p1 6 (if (v_kind p1.toNatClampNeg) = (6 : Int32) then (gd (((4 : Int32) * p1) + p2) 24 (nm (v_rows (((4 : Int32) * p1) + p2).toNatClampNeg) fun y4 => (gd (((4 : Int32) * p1) + p2) 24 (some (y4, upd v_rows (((4 : Int32) * p1) + p2).toNatClampNeg p3))))) else (some ((-3 : Int32), v_rows))))))))))
set_option maxRecDepth 20000 in
set_option maxHeartbeats 1000000 in
theorem t_X8_row {G : Gx} {K : Kx} (C : Cx G K cX8_row RX8 5 3) {a_t : Nat} {r_t : Nat → Nat} {v_people : Int32} {v_day : Int32} {v_texted : Int32} {v_at : Int32} {v_value : Int32} {v_digits : Int32} {v_open : Int32} {v_parishes : Int32} {v_holds : Int32} {v_coded : Int32} {v_seen : Int32} {v_inPlan : Int32} {v_inBook : Int32} {v_traced : Int32} {v_imaged : Int32} {v_most : Int32} {v_kind : Nat → Int32} {v_rows : Nat → Int32} {p1 : Int32} {p2 : Int32} {p3 : Int32} {q : Int32 × (Nat → Int32)} (hQ : k_retI G K cX8_row 5 .int [oX8 a_t r_t v_people v_day v_texted v_at v_value v_digits v_open v_parishes v_holds v_coded v_seen v_inPlan v_inBook v_traced v_imaged v_most, aI G (r_t 1) 6 v_kind, aI G (r_t 6) 24 q.2] q.1) (hf : f_X8_row v_people v_kind v_rows p1 p2 p3 = some q) : J G K 5 0 0 [oX8 a_t r_t v_people v_day v_texted v_at v_value v_digits v_open v_parishes v_holds v_coded v_seen v_inPlan v_inBook v_traced v_imaged v_most, aI G (r_t 1) 6 v_kind, aI G (r_t 6) 24 v_rows] [(0, .ref a_t), (1, .int p1), (2, .int p2), (3, .int p3)] 0 [] := by
  unfold f_X8_row at hf
  refine j_aload_n C (pc := 0) 0 rfl rfl dX8_row_0 ?_
  refine j_iload_n C (pc := 1) 1 rfl rfl dX8_row_1 ?_
  refine j_cVI C (pc := 2) (As := [.int p1]) (st := []) (ws' := fun q1 => [oX8 a_t r_t v_people v_day v_texted v_at v_value v_digits v_open v_parishes v_holds v_coded v_seen v_inPlan v_inBook v_traced v_imaged v_most, aI G (r_t 1) 6 v_kind, aI G (r_t 6) 24 v_rows]) ml_X8_121 ms_X8_isOne hf (fun q1 h => (c_X8_isOne G K.2.1) a_t r_t v_people v_day v_texted v_at v_value v_digits v_open v_parishes v_holds v_coded v_seen v_inPlan v_inBook v_traced v_imaged v_most p1 q1 h) [0] [some 0, none, none] 3 rfl (by decide +kernel) (by decide +kernel) (fun _ => rfl) (fun _ => rfl) rfl rfl rfl rfl ⟨Nat.zero_le _, Nat.zero_le _⟩ dX8_row_2 kc_X8 0 rfl (fun q1 hf => ?_)
  refine j_if_eq C (pc := 5) 17 dX8_row_5 (by decide) hf (fun hf => ?_) (fun hf => ?_)
  · refine j_iconst C (pc := 17) (v := -1) (by decide) dX8_row_17 ?_
    obtain rfl := Option.some.inj hf
    exact hQ _ _ dX8_row_18 rfl
  · refine j_iload_n C (pc := 8) 2 rfl rfl dX8_row_8 ?_
    refine j_iconst C (pc := 9) (v := 0) (by decide) dX8_row_9 ?_
    refine j_iconst C (pc := 10) (v := 3) (by decide) dX8_row_10 ?_
    refine j_cSI C (pc := 11) (As := [.int p2, .int (0 : Int32), .int (3 : Int32)]) (st := []) (ws' := fun q2 => [oX8 a_t r_t v_people v_day v_texted v_at v_value v_digits v_open v_parishes v_holds v_coded v_seen v_inPlan v_inBook v_traced v_imaged v_most, aI G (r_t 1) 6 v_kind, aI G (r_t 6) 24 v_rows]) ml_X8_117 ms_X8_within hf (fun q2 h => (c_X8_within G K.2.1) p2 (0 : Int32) (3 : Int32) q2 h) [] [none, none, none] 3 rfl (by decide +kernel) (by decide +kernel) (fun _ => rfl) (fun _ => rfl) rfl rfl rfl rfl ⟨Nat.zero_le _, Nat.zero_le _⟩ dX8_row_11 (fun q2 hf => ?_)
    refine j_if_ne C (pc := 14) 19 dX8_row_14 (by decide) hf (fun hf => ?_) (fun hf => ?_)
    · refine j_iload_n C (pc := 19) 3 rfl rfl dX8_row_19 ?_
      refine j_iconst C (pc := 20) (v := 0) (by decide) dX8_row_20 ?_
      refine j_bipush C (pc := 21) (v := 9) (by decide) dX8_row_21 ?_
      refine j_cSI C (pc := 23) (As := [.int p3, .int (0 : Int32), .int (9 : Int32)]) (st := []) (ws' := fun q3 => [oX8 a_t r_t v_people v_day v_texted v_at v_value v_digits v_open v_parishes v_holds v_coded v_seen v_inPlan v_inBook v_traced v_imaged v_most, aI G (r_t 1) 6 v_kind, aI G (r_t 6) 24 v_rows]) ml_X8_117 ms_X8_within hf (fun q3 h => (c_X8_within G K.2.1) p3 (0 : Int32) (9 : Int32) q3 h) [] [none, none, none] 3 rfl (by decide +kernel) (by decide +kernel) (fun _ => rfl) (fun _ => rfl) rfl rfl rfl rfl ⟨Nat.zero_le _, Nat.zero_le _⟩ dX8_row_23 (fun q3 hf => ?_)
      refine j_if_ne C (pc := 26) 32 dX8_row_26 (by decide) hf (fun hf => ?_) (fun hf => ?_)
      · refine j_aload_n C (pc := 32) 0 rfl rfl dX8_row_32 ?_
        refine j_get C (pc := 33) kc_X8 fl_X8_9 0 rfl rfl dX8_row_33 ?_
        refine j_iload_n C (pc := 36) 1 rfl rfl dX8_row_36 ?_
        refine j_iald C (pc := 37) 1 rfl hf dX8_row_37 (fun hf => ?_)
        refine j_bipush C (pc := 38) (v := 6) (by decide) dX8_row_38 ?_
        refine j_icmp_eq C (pc := 40) 46 dX8_row_40 (by decide) hf (fun hf => ?_) (fun hf => ?_)
        · refine j_aload_n C (pc := 46) 0 rfl rfl dX8_row_46 ?_
          refine j_get C (pc := 47) kc_X8 fl_X8_27 0 rfl rfl dX8_row_47 ?_
          refine j_iconst C (pc := 50) (v := 4) (by decide) dX8_row_50 ?_
          refine j_iload_n C (pc := 51) 1 rfl rfl dX8_row_51 ?_
          refine j_imul C (pc := 52) dX8_row_52 ?_
          refine j_iload_n C (pc := 53) 2 rfl rfl dX8_row_53 ?_
          refine j_iadd C (pc := 54) dX8_row_54 ?_
          refine j_iald C (pc := 55) 2 rfl hf dX8_row_55 (fun hf => ?_)
          refine j_nm hf (fun y4 hf => ?_)
          refine j_istore C (pc := 56) (L' := [(4, .int y4), (0, .ref a_t), (1, .int p1), (2, .int p2), (3, .int p3)]) dX8_row_56 (by decide) rfl ?_
          refine j_aload_n C (pc := 58) 1 rfl rfl dX8_row_58 ?_
          refine j_get C (pc := 59) kc_X8 fl_X8_27 0 rfl rfl dX8_row_59 ?_
          refine j_iconst C (pc := 62) (v := 4) (by decide) dX8_row_62 ?_
          refine j_iload_n C (pc := 63) 2 rfl rfl dX8_row_63 ?_
          refine j_imul C (pc := 64) dX8_row_64 ?_
          refine j_iload_n C (pc := 65) 3 rfl rfl dX8_row_65 ?_
          refine j_iadd C (pc := 66) dX8_row_66 ?_
          refine j_iload_n C (pc := 67) 4 rfl rfl dX8_row_67 ?_
          refine j_iast C (pc := 68) (ws' := [oX8 a_t r_t v_people v_day v_texted v_at v_value v_digits v_open v_parishes v_holds v_coded v_seen v_inPlan v_inBook v_traced v_imaged v_most, aI G (r_t 1) 6 v_kind, aI G (r_t 6) 24 (upd v_rows (((4 : Int32) * p1) + p2).toNatClampNeg p3)]) 2 rfl hf rfl dX8_row_68 (fun hf => ?_)
          refine j_iload C (pc := 69) 0 rfl dX8_row_69 ?_
          obtain rfl := Option.some.inj hf
          exact hQ _ _ dX8_row_71 rfl
        · refine j_bipush C (pc := 43) (v := -3) (by decide) dX8_row_43 ?_
          obtain rfl := Option.some.inj hf
          exact hQ _ _ dX8_row_45 rfl
      · refine j_bipush C (pc := 29) (v := -2) (by decide) dX8_row_29 ?_
        obtain rfl := Option.some.inj hf
        exact hQ _ _ dX8_row_31 rfl
    · refine j_iconst C (pc := 17) (v := -1) (by decide) dX8_row_17 ?_
      obtain rfl := Option.some.inj hf
      exact hQ _ _ dX8_row_18 rfl
def ct_X8_row (G : Gx) (l : Launch) (F : Int32 → (Nat → Int32) → (Nat → Int32) → Int32 → Int32 → Int32 → Option (Int32 × (Nat → Int32))) (lv : Nat) : Prop := ∀ (a_t : Nat) (r_t : Nat → Nat) (v_people : Int32) (v_day : Int32) (v_texted : Int32) (v_at : Int32) (v_value : Int32) (v_digits : Int32) (v_open : Int32) (v_parishes : Int32) (v_holds : Int32) (v_coded : Int32) (v_seen : Int32) (v_inPlan : Int32) (v_inBook : Int32) (v_traced : Int32) (v_imaged : Int32) (v_most : Int32) (v_kind : Nat → Int32) (v_rows : Nat → Int32) (p1 : Int32) (p2 : Int32) (p3 : Int32), ∀ (q : Int32 × (Nat → Int32)), F v_people v_kind v_rows p1 p2 p3 = some q → MI G l yX8_row cX8_row 5 .int lv [.ref a_t, .int p1, .int p2, .int p3] [oX8 a_t r_t v_people v_day v_texted v_at v_value v_digits v_open v_parishes v_holds v_coded v_seen v_inPlan v_inBook v_traced v_imaged v_most, aI G (r_t 1) 6 v_kind, aI G (r_t 6) 24 v_rows] [oX8 a_t r_t v_people v_day v_texted v_at v_value v_digits v_open v_parishes v_holds v_coded v_seen v_inPlan v_inBook v_traced v_imaged v_most, aI G (r_t 1) 6 v_kind, aI G (r_t 6) 24 q.2] q.1
theorem c_X8_row (G : Gx) (l : Launch) : ct_X8_row G l f_X8_row 3 := by
  intro a_t r_t v_people v_day v_texted v_at v_value v_digits v_open v_parishes v_holds v_coded v_seen v_inPlan v_inBook v_traced v_imaged v_most v_kind v_rows p1 p2 p3 q hf
  exact mI_of (by decide +kernel) rfl (fun K hl C hQ => t_X8_row C hQ hf)
-- X8_see
def f_X8_see (v_people : Int32) (v_seen : Int32) (v_seenBy : Nat → Int32) (v_seenOf : Nat → Int32) (v_seenIn : Nat → Int32) (v_seenSo : Nat → Int32) (p1 : Int32) (p2 : Int32) (p3 : Int32) (p4 : Int32) : Option (Int32 × (Nat → Int32) × (Nat → Int32) × (Nat → Int32) × Int32 × (Nat → Int32)) := (if p1 = (-1 : Int32) then (some ((0 : Int32), v_seenBy, v_seenOf, v_seenIn, (0 : Int32), v_seenSo)) else ((f_X8_are v_people p1 p2).bind fun q1 => (if q1 = 0 then (some ((-1 : Int32), v_seenBy, v_seenOf, v_seenIn, v_seen, v_seenSo)) else (if p1 = p2 then (some ((-2 : Int32), v_seenBy, v_seenOf, v_seenIn, v_seen, v_seenSo)) else ((f_X8_within p3 (0 : Int32) (20 : Int32)).bind fun q2 => (if q2 = 0 then (some ((-2 : Int32), v_seenBy, v_seenOf, v_seenIn, v_seen, v_seenSo)) else (if v_seen = (5 : Int32) then (some ((-4 : Int32), v_seenBy, v_seenOf, v_seenIn, v_seen, v_seenSo)) else (gd v_seen 5 (gd v_seen 5 (gd v_seen 5 (if p4 = 0 then (gd v_seen 5 (some (v_seen + (1 : Int32), upd v_seenBy v_seen.toNatClampNeg p1, upd v_seenOf v_seen.toNatClampNeg p2, upd v_seenIn v_seen.toNatClampNeg p3, v_seen + (1 : Int32), upd v_seenSo v_seen.toNatClampNeg (0 : Int32)))) else (gd v_seen 5 (some (v_seen + (1 : Int32), upd v_seenBy v_seen.toNatClampNeg p1, upd v_seenOf v_seen.toNatClampNeg p2, upd v_seenIn v_seen.toNatClampNeg p3, v_seen + (1 : Int32), upd v_seenSo v_seen.toNatClampNeg (1 : Int32)))))))))))))))
set_option maxRecDepth 20000 in
set_option maxHeartbeats 1000000 in
theorem t_X8_see {G : Gx} {K : Kx} (C : Cx G K cX8_see RX8 5 4) {a_t : Nat} {r_t : Nat → Nat} {v_people : Int32} {v_day : Int32} {v_texted : Int32} {v_at : Int32} {v_value : Int32} {v_digits : Int32} {v_open : Int32} {v_parishes : Int32} {v_holds : Int32} {v_coded : Int32} {v_seen : Int32} {v_inPlan : Int32} {v_inBook : Int32} {v_traced : Int32} {v_imaged : Int32} {v_most : Int32} {v_seenBy : Nat → Int32} {v_seenOf : Nat → Int32} {v_seenIn : Nat → Int32} {v_seenSo : Nat → Int32} {p1 : Int32} {p2 : Int32} {p3 : Int32} {p4 : Int32} {q : Int32 × (Nat → Int32) × (Nat → Int32) × (Nat → Int32) × Int32 × (Nat → Int32)} (hQ : k_retI G K cX8_see 5 .int [oX8 a_t r_t v_people v_day v_texted v_at v_value v_digits v_open v_parishes v_holds v_coded q.2.2.2.2.1 v_inPlan v_inBook v_traced v_imaged v_most, aI G (r_t 26) 5 q.2.1, aI G (r_t 27) 5 q.2.2.1, aI G (r_t 28) 5 q.2.2.2.1, aI G (r_t 29) 5 q.2.2.2.2.2] q.1) (hf : f_X8_see v_people v_seen v_seenBy v_seenOf v_seenIn v_seenSo p1 p2 p3 p4 = some q) : J G K 5 0 0 [oX8 a_t r_t v_people v_day v_texted v_at v_value v_digits v_open v_parishes v_holds v_coded v_seen v_inPlan v_inBook v_traced v_imaged v_most, aI G (r_t 26) 5 v_seenBy, aI G (r_t 27) 5 v_seenOf, aI G (r_t 28) 5 v_seenIn, aI G (r_t 29) 5 v_seenSo] [(0, .ref a_t), (1, .int p1), (2, .int p2), (3, .int p3), (4, .int p4)] 0 [] := by
  unfold f_X8_see at hf
  refine j_iload_n C (pc := 0) 1 rfl rfl dX8_see_0 ?_
  refine j_iconst C (pc := 1) (v := -1) (by decide) dX8_see_1 ?_
  refine j_icmp_ne C (pc := 2) 12 dX8_see_2 (by decide) hf (fun hf => ?_) (fun hf => ?_)
  · refine j_aload_n C (pc := 12) 0 rfl rfl dX8_see_12 ?_
    refine j_iload_n C (pc := 13) 1 rfl rfl dX8_see_13 ?_
    refine j_iload_n C (pc := 14) 2 rfl rfl dX8_see_14 ?_
    refine j_cVI C (pc := 15) (As := [.int p1, .int p2]) (st := []) (ws' := fun q1 => [oX8 a_t r_t v_people v_day v_texted v_at v_value v_digits v_open v_parishes v_holds v_coded v_seen v_inPlan v_inBook v_traced v_imaged v_most, aI G (r_t 26) 5 v_seenBy, aI G (r_t 27) 5 v_seenOf, aI G (r_t 28) 5 v_seenIn, aI G (r_t 29) 5 v_seenSo]) ml_X8_136 ms_X8_are hf (fun q1 h => (c_X8_are G K.2.1) a_t r_t v_people v_day v_texted v_at v_value v_digits v_open v_parishes v_holds v_coded v_seen v_inPlan v_inBook v_traced v_imaged v_most p1 p2 q1 h) [0] [some 0, none, none, none, none] 5 rfl (by decide +kernel) (by decide +kernel) (fun _ => rfl) (fun _ => rfl) rfl rfl rfl rfl ⟨Nat.zero_le _, Nat.zero_le _⟩ dX8_see_15 kc_X8 0 rfl (fun q1 hf => ?_)
    refine j_if_ne C (pc := 18) 23 dX8_see_18 (by decide) hf (fun hf => ?_) (fun hf => ?_)
    · refine j_iload_n C (pc := 23) 1 rfl rfl dX8_see_23 ?_
      refine j_iload_n C (pc := 24) 2 rfl rfl dX8_see_24 ?_
      refine j_icmp_eq C (pc := 25) 38 dX8_see_25 (by decide) hf (fun hf => ?_) (fun hf => ?_)
      · refine j_bipush C (pc := 38) (v := -2) (by decide) dX8_see_38 ?_
        obtain rfl := Option.some.inj hf
        exact hQ _ _ dX8_see_40 rfl
      · refine j_iload_n C (pc := 28) 3 rfl rfl dX8_see_28 ?_
        refine j_iconst C (pc := 29) (v := 0) (by decide) dX8_see_29 ?_
        refine j_bipush C (pc := 30) (v := 20) (by decide) dX8_see_30 ?_
        refine j_cSI C (pc := 32) (As := [.int p3, .int (0 : Int32), .int (20 : Int32)]) (st := []) (ws' := fun q2 => [oX8 a_t r_t v_people v_day v_texted v_at v_value v_digits v_open v_parishes v_holds v_coded v_seen v_inPlan v_inBook v_traced v_imaged v_most, aI G (r_t 26) 5 v_seenBy, aI G (r_t 27) 5 v_seenOf, aI G (r_t 28) 5 v_seenIn, aI G (r_t 29) 5 v_seenSo]) ml_X8_117 ms_X8_within hf (fun q2 h => (c_X8_within G K.2.1) p3 (0 : Int32) (20 : Int32) q2 h) [] [none, none, none, none, none] 5 rfl (by decide +kernel) (by decide +kernel) (fun _ => rfl) (fun _ => rfl) rfl rfl rfl rfl ⟨Nat.zero_le _, Nat.zero_le _⟩ dX8_see_32 (fun q2 hf => ?_)
        refine j_if_ne C (pc := 35) 41 dX8_see_35 (by decide) hf (fun hf => ?_) (fun hf => ?_)
        · refine j_aload_n C (pc := 41) 0 rfl rfl dX8_see_41 ?_
          refine j_get C (pc := 42) kc_X8 fl_X8_305 0 rfl rfl dX8_see_42 ?_
          refine j_iconst C (pc := 45) (v := 5) (by decide) dX8_see_45 ?_
          refine j_icmp_ne C (pc := 46) 52 dX8_see_46 (by decide) hf (fun hf => ?_) (fun hf => ?_)
          · refine j_aload_n C (pc := 52) 0 rfl rfl dX8_see_52 ?_
            refine j_get C (pc := 53) kc_X8 fl_X8_58 0 rfl rfl dX8_see_53 ?_
            refine j_aload_n C (pc := 56) 0 rfl rfl dX8_see_56 ?_
            refine j_get C (pc := 57) kc_X8 fl_X8_305 0 rfl rfl dX8_see_57 ?_
            refine j_iload_n C (pc := 60) 1 rfl rfl dX8_see_60 ?_
            refine j_iast C (pc := 61) (ws' := [oX8 a_t r_t v_people v_day v_texted v_at v_value v_digits v_open v_parishes v_holds v_coded v_seen v_inPlan v_inBook v_traced v_imaged v_most, aI G (r_t 26) 5 (upd v_seenBy v_seen.toNatClampNeg p1), aI G (r_t 27) 5 v_seenOf, aI G (r_t 28) 5 v_seenIn, aI G (r_t 29) 5 v_seenSo]) 1 rfl hf rfl dX8_see_61 (fun hf => ?_)
            refine j_aload_n C (pc := 62) 0 rfl rfl dX8_see_62 ?_
            refine j_get C (pc := 63) kc_X8 fl_X8_61 0 rfl rfl dX8_see_63 ?_
            refine j_aload_n C (pc := 66) 0 rfl rfl dX8_see_66 ?_
            refine j_get C (pc := 67) kc_X8 fl_X8_305 0 rfl rfl dX8_see_67 ?_
            refine j_iload_n C (pc := 70) 2 rfl rfl dX8_see_70 ?_
            refine j_iast C (pc := 71) (ws' := [oX8 a_t r_t v_people v_day v_texted v_at v_value v_digits v_open v_parishes v_holds v_coded v_seen v_inPlan v_inBook v_traced v_imaged v_most, aI G (r_t 26) 5 (upd v_seenBy v_seen.toNatClampNeg p1), aI G (r_t 27) 5 (upd v_seenOf v_seen.toNatClampNeg p2), aI G (r_t 28) 5 v_seenIn, aI G (r_t 29) 5 v_seenSo]) 2 rfl hf rfl dX8_see_71 (fun hf => ?_)
            refine j_aload_n C (pc := 72) 0 rfl rfl dX8_see_72 ?_
            refine j_get C (pc := 73) kc_X8 fl_X8_64 0 rfl rfl dX8_see_73 ?_
            refine j_aload_n C (pc := 76) 0 rfl rfl dX8_see_76 ?_
            refine j_get C (pc := 77) kc_X8 fl_X8_305 0 rfl rfl dX8_see_77 ?_
            refine j_iload_n C (pc := 80) 3 rfl rfl dX8_see_80 ?_
            refine j_iast C (pc := 81) (ws' := [oX8 a_t r_t v_people v_day v_texted v_at v_value v_digits v_open v_parishes v_holds v_coded v_seen v_inPlan v_inBook v_traced v_imaged v_most, aI G (r_t 26) 5 (upd v_seenBy v_seen.toNatClampNeg p1), aI G (r_t 27) 5 (upd v_seenOf v_seen.toNatClampNeg p2), aI G (r_t 28) 5 (upd v_seenIn v_seen.toNatClampNeg p3), aI G (r_t 29) 5 v_seenSo]) 3 rfl hf rfl dX8_see_81 (fun hf => ?_)
            refine j_aload_n C (pc := 82) 0 rfl rfl dX8_see_82 ?_
            refine j_get C (pc := 83) kc_X8 fl_X8_67 0 rfl rfl dX8_see_83 ?_
            refine j_aload_n C (pc := 86) 0 rfl rfl dX8_see_86 ?_
            refine j_dup C (pc := 87) rfl dX8_see_87 ?_
            refine j_get C (pc := 88) kc_X8 fl_X8_305 0 rfl rfl dX8_see_88 ?_
            refine j_dup_x1 C (pc := 91) rfl rfl dX8_see_91 ?_
            refine j_iconst C (pc := 92) (v := 1) (by decide) dX8_see_92 ?_
            refine j_iadd C (pc := 93) dX8_see_93 ?_
            refine j_put C (pc := 94) (ws' := [oX8 a_t r_t v_people v_day v_texted v_at v_value v_digits v_open v_parishes v_holds v_coded (v_seen + (1 : Int32)) v_inPlan v_inBook v_traced v_imaged v_most, aI G (r_t 26) 5 (upd v_seenBy v_seen.toNatClampNeg p1), aI G (r_t 27) 5 (upd v_seenOf v_seen.toNatClampNeg p2), aI G (r_t 28) 5 (upd v_seenIn v_seen.toNatClampNeg p3), aI G (r_t 29) 5 v_seenSo]) kc_X8 fl_X8_305 0 rfl rfl rfl rfl rfl rfl dX8_see_94 ?_
            refine j_iload C (pc := 97) 4 rfl dX8_see_97 ?_
            refine j_if_eq C (pc := 99) 106 dX8_see_99 (by decide) hf (fun hf => ?_) (fun hf => ?_)
            · refine j_iconst C (pc := 106) (v := 0) (by decide) dX8_see_106 ?_
              refine j_iast C (pc := 107) (ws' := [oX8 a_t r_t v_people v_day v_texted v_at v_value v_digits v_open v_parishes v_holds v_coded (v_seen + (1 : Int32)) v_inPlan v_inBook v_traced v_imaged v_most, aI G (r_t 26) 5 (upd v_seenBy v_seen.toNatClampNeg p1), aI G (r_t 27) 5 (upd v_seenOf v_seen.toNatClampNeg p2), aI G (r_t 28) 5 (upd v_seenIn v_seen.toNatClampNeg p3), aI G (r_t 29) 5 (upd v_seenSo v_seen.toNatClampNeg (0 : Int32))]) 4 rfl hf rfl dX8_see_107 (fun hf => ?_)
              refine j_aload_n C (pc := 108) 0 rfl rfl dX8_see_108 ?_
              refine j_get C (pc := 109) kc_X8 fl_X8_305 0 rfl rfl dX8_see_109 ?_
              obtain rfl := Option.some.inj hf
              exact hQ _ _ dX8_see_112 rfl
            · refine j_iconst C (pc := 102) (v := 1) (by decide) dX8_see_102 ?_
              refine j_goto C (pc := 103) 107 dX8_see_103 (by decide) ?_
              refine j_iast C (pc := 107) (ws' := [oX8 a_t r_t v_people v_day v_texted v_at v_value v_digits v_open v_parishes v_holds v_coded (v_seen + (1 : Int32)) v_inPlan v_inBook v_traced v_imaged v_most, aI G (r_t 26) 5 (upd v_seenBy v_seen.toNatClampNeg p1), aI G (r_t 27) 5 (upd v_seenOf v_seen.toNatClampNeg p2), aI G (r_t 28) 5 (upd v_seenIn v_seen.toNatClampNeg p3), aI G (r_t 29) 5 (upd v_seenSo v_seen.toNatClampNeg (1 : Int32))]) 4 rfl hf rfl dX8_see_107 (fun hf => ?_)
              refine j_aload_n C (pc := 108) 0 rfl rfl dX8_see_108 ?_
              refine j_get C (pc := 109) kc_X8 fl_X8_305 0 rfl rfl dX8_see_109 ?_
              obtain rfl := Option.some.inj hf
              exact hQ _ _ dX8_see_112 rfl
          · refine j_bipush C (pc := 49) (v := -4) (by decide) dX8_see_49 ?_
            obtain rfl := Option.some.inj hf
            exact hQ _ _ dX8_see_51 rfl
        · refine j_bipush C (pc := 38) (v := -2) (by decide) dX8_see_38 ?_
          obtain rfl := Option.some.inj hf
          exact hQ _ _ dX8_see_40 rfl
    · refine j_iconst C (pc := 21) (v := -1) (by decide) dX8_see_21 ?_
      obtain rfl := Option.some.inj hf
      exact hQ _ _ dX8_see_22 rfl
  · refine j_aload_n C (pc := 5) 0 rfl rfl dX8_see_5 ?_
    refine j_iconst C (pc := 6) (v := 0) (by decide) dX8_see_6 ?_
    refine j_put C (pc := 7) (ws' := [oX8 a_t r_t v_people v_day v_texted v_at v_value v_digits v_open v_parishes v_holds v_coded (0 : Int32) v_inPlan v_inBook v_traced v_imaged v_most, aI G (r_t 26) 5 v_seenBy, aI G (r_t 27) 5 v_seenOf, aI G (r_t 28) 5 v_seenIn, aI G (r_t 29) 5 v_seenSo]) kc_X8 fl_X8_305 0 rfl rfl rfl rfl rfl rfl dX8_see_7 ?_
    refine j_iconst C (pc := 10) (v := 0) (by decide) dX8_see_10 ?_
    obtain rfl := Option.some.inj hf
    exact hQ _ _ dX8_see_11 rfl
def ct_X8_see (G : Gx) (l : Launch) (F : Int32 → Int32 → (Nat → Int32) → (Nat → Int32) → (Nat → Int32) → (Nat → Int32) → Int32 → Int32 → Int32 → Int32 → Option (Int32 × (Nat → Int32) × (Nat → Int32) × (Nat → Int32) × Int32 × (Nat → Int32))) (lv : Nat) : Prop := ∀ (a_t : Nat) (r_t : Nat → Nat) (v_people : Int32) (v_day : Int32) (v_texted : Int32) (v_at : Int32) (v_value : Int32) (v_digits : Int32) (v_open : Int32) (v_parishes : Int32) (v_holds : Int32) (v_coded : Int32) (v_seen : Int32) (v_inPlan : Int32) (v_inBook : Int32) (v_traced : Int32) (v_imaged : Int32) (v_most : Int32) (v_seenBy : Nat → Int32) (v_seenOf : Nat → Int32) (v_seenIn : Nat → Int32) (v_seenSo : Nat → Int32) (p1 : Int32) (p2 : Int32) (p3 : Int32) (p4 : Int32), ∀ (q : Int32 × (Nat → Int32) × (Nat → Int32) × (Nat → Int32) × Int32 × (Nat → Int32)), F v_people v_seen v_seenBy v_seenOf v_seenIn v_seenSo p1 p2 p3 p4 = some q → MI G l yX8_see cX8_see 5 .int lv [.ref a_t, .int p1, .int p2, .int p3, .int p4] [oX8 a_t r_t v_people v_day v_texted v_at v_value v_digits v_open v_parishes v_holds v_coded v_seen v_inPlan v_inBook v_traced v_imaged v_most, aI G (r_t 26) 5 v_seenBy, aI G (r_t 27) 5 v_seenOf, aI G (r_t 28) 5 v_seenIn, aI G (r_t 29) 5 v_seenSo] [oX8 a_t r_t v_people v_day v_texted v_at v_value v_digits v_open v_parishes v_holds v_coded q.2.2.2.2.1 v_inPlan v_inBook v_traced v_imaged v_most, aI G (r_t 26) 5 q.2.1, aI G (r_t 27) 5 q.2.2.1, aI G (r_t 28) 5 q.2.2.2.1, aI G (r_t 29) 5 q.2.2.2.2.2] q.1
theorem c_X8_see (G : Gx) (l : Launch) : ct_X8_see G l f_X8_see 4 := by
  intro a_t r_t v_people v_day v_texted v_at v_value v_digits v_open v_parishes v_holds v_coded v_seen v_inPlan v_inBook v_traced v_imaged v_most v_seenBy v_seenOf v_seenIn v_seenSo p1 p2 p3 p4 q hf
  exact mI_of (by decide +kernel) rfl (fun K hl C hQ => t_X8_see C hQ hf)
-- X8_shift
def f_X8_shift_170_b (p1 : Int32) (p2 : Int32) (p3 : Int32) (p4 : Int32) (p5 : Int32) (k170 : Int32 → (Nat → Int64) → Option (Int32 × (Nat → Int64))) (x6 : Int32) (w_items : Nat → Int64) : Option (Int32 × (Nat → Int64)) := (if p5 ≤ x6 then (some (p5, w_items)) else (gd ((((60 : Int32) * p1) + p2) + x6) 360 (gd ((((60 : Int32) * p3) + p4) + x6) 360 (k170 (x6 + (1 : Int32)) (vp_updL w_items ((((60 : Int32) * p3) + p4) + x6).toNatClampNeg (w_items ((((60 : Int32) * p1) + p2) + x6).toNatClampNeg))))))
def f_X8_shift_170 (p1 : Int32) (p2 : Int32) (p3 : Int32) (p4 : Int32) (p5 : Int32) : Nat → Int32 → (Nat → Int64) → Option (Int32 × (Nat → Int64))
  | 0 => fun _ _ => none
  | n + 1 => f_X8_shift_170_b p1 p2 p3 p4 p5 (f_X8_shift_170 p1 p2 p3 p4 p5 n)
set_option maxRecDepth 20000 in
set_option maxHeartbeats 1000000 in
theorem t_X8_shift_170_b {G : Gx} {K : Kx} (C : Cx G K cX8_shift RX8 7 3) {a_t : Nat} {r_t : Nat → Nat} {v_people : Int32} {v_day : Int32} {v_texted : Int32} {v_at : Int32} {v_value : Int32} {v_digits : Int32} {v_open : Int32} {v_parishes : Int32} {v_holds : Int32} {v_coded : Int32} {v_seen : Int32} {v_inPlan : Int32} {v_inBook : Int32} {v_traced : Int32} {v_imaged : Int32} {v_most : Int32} {v_tapeSort : Nat → Int32} {v_tapeSize : Nat → Int32} {p1 : Int32} {p2 : Int32} {p3 : Int32} {p4 : Int32} {p5 : Int32} {q : Int32 × (Nat → Int64)} (hQ : k_retI G K cX8_shift 7 .int [oX8 a_t r_t v_people v_day v_texted v_at v_value v_digits v_open v_parishes v_holds v_coded v_seen v_inPlan v_inBook v_traced v_imaged v_most, aI G (r_t 45) 6 v_tapeSort, aI G (r_t 46) 6 v_tapeSize, aJ G (r_t 47) 360 q.2] q.1) {k170 : Int32 → (Nat → Int64) → Option (Int32 × (Nat → Int64))} (hk170 : ∀ (x6 : Int32) (w_items : Nat → Int64), k170 x6 w_items = some q → J G K 7 0 0 [oX8 a_t r_t v_people v_day v_texted v_at v_value v_digits v_open v_parishes v_holds v_coded v_seen v_inPlan v_inBook v_traced v_imaged v_most, aI G (r_t 45) 6 v_tapeSort, aI G (r_t 46) 6 v_tapeSize, aJ G (r_t 47) 360 w_items] [(0, .ref a_t), (1, .int p1), (2, .int p2), (3, .int p3), (4, .int p4), (5, .int p5), (6, .int x6)] 170 []) {x6 : Int32} {w_items : Nat → Int64} (hf : f_X8_shift_170_b p1 p2 p3 p4 p5 k170 x6 w_items = some q) : J G K 7 0 0 [oX8 a_t r_t v_people v_day v_texted v_at v_value v_digits v_open v_parishes v_holds v_coded v_seen v_inPlan v_inBook v_traced v_imaged v_most, aI G (r_t 45) 6 v_tapeSort, aI G (r_t 46) 6 v_tapeSize, aJ G (r_t 47) 360 w_items] [(0, .ref a_t), (1, .int p1), (2, .int p2), (3, .int p3), (4, .int p4), (5, .int p5), (6, .int x6)] 170 [] := by
  unfold f_X8_shift_170_b at hf
  refine j_iload C (pc := 170) 6 rfl dX8_shift_170 ?_
  refine j_iload C (pc := 172) 5 rfl dX8_shift_172 ?_
  refine j_icmp_ge C (pc := 174) 212 dX8_shift_174 (by decide) hf (fun hf => ?_) (fun hf => ?_)
  · refine j_iload C (pc := 212) 5 rfl dX8_shift_212 ?_
    obtain rfl := Option.some.inj hf
    exact hQ _ _ dX8_shift_214 rfl
  · refine j_aload_n C (pc := 177) 0 rfl rfl dX8_shift_177 ?_
    refine j_get C (pc := 178) kc_X8 fl_X8_106 0 rfl rfl dX8_shift_178 ?_
    refine j_bipush C (pc := 181) (v := 60) (by decide) dX8_shift_181 ?_
    refine j_iload_n C (pc := 183) 3 rfl rfl dX8_shift_183 ?_
    refine j_imul C (pc := 184) dX8_shift_184 ?_
    refine j_iload C (pc := 185) 4 rfl dX8_shift_185 ?_
    refine j_iadd C (pc := 187) dX8_shift_187 ?_
    refine j_iload C (pc := 188) 6 rfl dX8_shift_188 ?_
    refine j_iadd C (pc := 190) dX8_shift_190 ?_
    refine j_aload_n C (pc := 191) 0 rfl rfl dX8_shift_191 ?_
    refine j_get C (pc := 192) kc_X8 fl_X8_106 0 rfl rfl dX8_shift_192 ?_
    refine j_bipush C (pc := 195) (v := 60) (by decide) dX8_shift_195 ?_
    refine j_iload_n C (pc := 197) 1 rfl rfl dX8_shift_197 ?_
    refine j_imul C (pc := 198) dX8_shift_198 ?_
    refine j_iload_n C (pc := 199) 2 rfl rfl dX8_shift_199 ?_
    refine j_iadd C (pc := 200) dX8_shift_200 ?_
    refine j_iload C (pc := 201) 6 rfl dX8_shift_201 ?_
    refine j_iadd C (pc := 203) dX8_shift_203 ?_
    refine j_lald C (pc := 204) 3 rfl hf dX8_shift_204 (fun hf => ?_)
    refine j_last C (pc := 205) (ws' := [oX8 a_t r_t v_people v_day v_texted v_at v_value v_digits v_open v_parishes v_holds v_coded v_seen v_inPlan v_inBook v_traced v_imaged v_most, aI G (r_t 45) 6 v_tapeSort, aI G (r_t 46) 6 v_tapeSize, aJ G (r_t 47) 360 (vp_updL w_items ((((60 : Int32) * p3) + p4) + x6).toNatClampNeg (w_items ((((60 : Int32) * p1) + p2) + x6).toNatClampNeg))]) 3 rfl hf rfl dX8_shift_205 (fun hf => ?_)
    refine j_iinc C (pc := 206) (L' := [(6, .int (x6 + (1 : Int32))), (0, .ref a_t), (1, .int p1), (2, .int p2), (3, .int p3), (4, .int p4), (5, .int p5)]) (v := x6 + (1 : Int32)) dX8_shift_206 (t := 6) rfl rfl (by decide) rfl ?_
    refine j_goto C (pc := 209) 170 dX8_shift_209 (by decide) ?_
    refine j_sub [1, 2, 3, 4, 5, 6, 0] rfl ?_
    exact hk170 _ _ hf
theorem t_X8_shift_170 {G : Gx} {K : Kx} (C : Cx G K cX8_shift RX8 7 3) {a_t : Nat} {r_t : Nat → Nat} {v_people : Int32} {v_day : Int32} {v_texted : Int32} {v_at : Int32} {v_value : Int32} {v_digits : Int32} {v_open : Int32} {v_parishes : Int32} {v_holds : Int32} {v_coded : Int32} {v_seen : Int32} {v_inPlan : Int32} {v_inBook : Int32} {v_traced : Int32} {v_imaged : Int32} {v_most : Int32} {v_tapeSort : Nat → Int32} {v_tapeSize : Nat → Int32} {p1 : Int32} {p2 : Int32} {p3 : Int32} {p4 : Int32} {p5 : Int32} {q : Int32 × (Nat → Int64)} (hQ : k_retI G K cX8_shift 7 .int [oX8 a_t r_t v_people v_day v_texted v_at v_value v_digits v_open v_parishes v_holds v_coded v_seen v_inPlan v_inBook v_traced v_imaged v_most, aI G (r_t 45) 6 v_tapeSort, aI G (r_t 46) 6 v_tapeSize, aJ G (r_t 47) 360 q.2] q.1) : ∀ (n : Nat) (x6 : Int32) (w_items : Nat → Int64), f_X8_shift_170 p1 p2 p3 p4 p5 n x6 w_items = some q → J G K 7 0 0 [oX8 a_t r_t v_people v_day v_texted v_at v_value v_digits v_open v_parishes v_holds v_coded v_seen v_inPlan v_inBook v_traced v_imaged v_most, aI G (r_t 45) 6 v_tapeSort, aI G (r_t 46) 6 v_tapeSize, aJ G (r_t 47) 360 w_items] [(0, .ref a_t), (1, .int p1), (2, .int p2), (3, .int p3), (4, .int p4), (5, .int p5), (6, .int x6)] 170 [] := by
  intro n
  induction n with
  | zero => intro x6 w_items hf; cases hf
  | succ n ih => intro x6 w_items hf; exact t_X8_shift_170_b C hQ ih hf
def f_X8_shift_124_b (p1 : Int32) (p2 : Int32) (p3 : Int32) (p4 : Int32) (p5 : Int32) (k124 : Int32 → (Nat → Int64) → Option (Int32 × (Nat → Int64))) (x6 : Int32) (w_items : Nat → Int64) : Option (Int32 × (Nat → Int64)) := (if x6 < 0 then (some (p5, w_items)) else (gd ((((60 : Int32) * p1) + p2) + x6) 360 (gd ((((60 : Int32) * p3) + p4) + x6) 360 (k124 (x6 + (-1 : Int32)) (vp_updL w_items ((((60 : Int32) * p3) + p4) + x6).toNatClampNeg (w_items ((((60 : Int32) * p1) + p2) + x6).toNatClampNeg))))))
def f_X8_shift_124 (p1 : Int32) (p2 : Int32) (p3 : Int32) (p4 : Int32) (p5 : Int32) : Nat → Int32 → (Nat → Int64) → Option (Int32 × (Nat → Int64))
  | 0 => fun _ _ => none
  | n + 1 => f_X8_shift_124_b p1 p2 p3 p4 p5 (f_X8_shift_124 p1 p2 p3 p4 p5 n)
set_option maxRecDepth 20000 in
set_option maxHeartbeats 1000000 in
theorem t_X8_shift_124_b {G : Gx} {K : Kx} (C : Cx G K cX8_shift RX8 7 3) {a_t : Nat} {r_t : Nat → Nat} {v_people : Int32} {v_day : Int32} {v_texted : Int32} {v_at : Int32} {v_value : Int32} {v_digits : Int32} {v_open : Int32} {v_parishes : Int32} {v_holds : Int32} {v_coded : Int32} {v_seen : Int32} {v_inPlan : Int32} {v_inBook : Int32} {v_traced : Int32} {v_imaged : Int32} {v_most : Int32} {v_tapeSort : Nat → Int32} {v_tapeSize : Nat → Int32} {p1 : Int32} {p2 : Int32} {p3 : Int32} {p4 : Int32} {p5 : Int32} {q : Int32 × (Nat → Int64)} (hQ : k_retI G K cX8_shift 7 .int [oX8 a_t r_t v_people v_day v_texted v_at v_value v_digits v_open v_parishes v_holds v_coded v_seen v_inPlan v_inBook v_traced v_imaged v_most, aI G (r_t 45) 6 v_tapeSort, aI G (r_t 46) 6 v_tapeSize, aJ G (r_t 47) 360 q.2] q.1) {k124 : Int32 → (Nat → Int64) → Option (Int32 × (Nat → Int64))} (hk124 : ∀ (x6 : Int32) (w_items : Nat → Int64), k124 x6 w_items = some q → J G K 7 0 0 [oX8 a_t r_t v_people v_day v_texted v_at v_value v_digits v_open v_parishes v_holds v_coded v_seen v_inPlan v_inBook v_traced v_imaged v_most, aI G (r_t 45) 6 v_tapeSort, aI G (r_t 46) 6 v_tapeSize, aJ G (r_t 47) 360 w_items] [(0, .ref a_t), (1, .int p1), (2, .int p2), (3, .int p3), (4, .int p4), (5, .int p5), (6, .int x6)] 124 []) {x6 : Int32} {w_items : Nat → Int64} (hf : f_X8_shift_124_b p1 p2 p3 p4 p5 k124 x6 w_items = some q) : J G K 7 0 0 [oX8 a_t r_t v_people v_day v_texted v_at v_value v_digits v_open v_parishes v_holds v_coded v_seen v_inPlan v_inBook v_traced v_imaged v_most, aI G (r_t 45) 6 v_tapeSort, aI G (r_t 46) 6 v_tapeSize, aJ G (r_t 47) 360 w_items] [(0, .ref a_t), (1, .int p1), (2, .int p2), (3, .int p3), (4, .int p4), (5, .int p5), (6, .int x6)] 124 [] := by
  unfold f_X8_shift_124_b at hf
  refine j_iload C (pc := 124) 6 rfl dX8_shift_124 ?_
  refine j_if_lt C (pc := 126) 164 dX8_shift_126 (by decide) hf (fun hf => ?_) (fun hf => ?_)
  · refine j_goto C (pc := 164) 212 dX8_shift_164 (by decide) ?_
    refine j_iload C (pc := 212) 5 rfl dX8_shift_212 ?_
    obtain rfl := Option.some.inj hf
    exact hQ _ _ dX8_shift_214 rfl
  · refine j_aload_n C (pc := 129) 0 rfl rfl dX8_shift_129 ?_
    refine j_get C (pc := 130) kc_X8 fl_X8_106 0 rfl rfl dX8_shift_130 ?_
    refine j_bipush C (pc := 133) (v := 60) (by decide) dX8_shift_133 ?_
    refine j_iload_n C (pc := 135) 3 rfl rfl dX8_shift_135 ?_
    refine j_imul C (pc := 136) dX8_shift_136 ?_
    refine j_iload C (pc := 137) 4 rfl dX8_shift_137 ?_
    refine j_iadd C (pc := 139) dX8_shift_139 ?_
    refine j_iload C (pc := 140) 6 rfl dX8_shift_140 ?_
    refine j_iadd C (pc := 142) dX8_shift_142 ?_
    refine j_aload_n C (pc := 143) 0 rfl rfl dX8_shift_143 ?_
    refine j_get C (pc := 144) kc_X8 fl_X8_106 0 rfl rfl dX8_shift_144 ?_
    refine j_bipush C (pc := 147) (v := 60) (by decide) dX8_shift_147 ?_
    refine j_iload_n C (pc := 149) 1 rfl rfl dX8_shift_149 ?_
    refine j_imul C (pc := 150) dX8_shift_150 ?_
    refine j_iload_n C (pc := 151) 2 rfl rfl dX8_shift_151 ?_
    refine j_iadd C (pc := 152) dX8_shift_152 ?_
    refine j_iload C (pc := 153) 6 rfl dX8_shift_153 ?_
    refine j_iadd C (pc := 155) dX8_shift_155 ?_
    refine j_lald C (pc := 156) 3 rfl hf dX8_shift_156 (fun hf => ?_)
    refine j_last C (pc := 157) (ws' := [oX8 a_t r_t v_people v_day v_texted v_at v_value v_digits v_open v_parishes v_holds v_coded v_seen v_inPlan v_inBook v_traced v_imaged v_most, aI G (r_t 45) 6 v_tapeSort, aI G (r_t 46) 6 v_tapeSize, aJ G (r_t 47) 360 (vp_updL w_items ((((60 : Int32) * p3) + p4) + x6).toNatClampNeg (w_items ((((60 : Int32) * p1) + p2) + x6).toNatClampNeg))]) 3 rfl hf rfl dX8_shift_157 (fun hf => ?_)
    refine j_iinc C (pc := 158) (L' := [(6, .int (x6 + (-1 : Int32))), (0, .ref a_t), (1, .int p1), (2, .int p2), (3, .int p3), (4, .int p4), (5, .int p5)]) (v := x6 + (-1 : Int32)) dX8_shift_158 (t := 6) rfl rfl (by decide) rfl ?_
    refine j_goto C (pc := 161) 124 dX8_shift_161 (by decide) ?_
    refine j_sub [1, 2, 3, 4, 5, 6, 0] rfl ?_
    exact hk124 _ _ hf
theorem t_X8_shift_124 {G : Gx} {K : Kx} (C : Cx G K cX8_shift RX8 7 3) {a_t : Nat} {r_t : Nat → Nat} {v_people : Int32} {v_day : Int32} {v_texted : Int32} {v_at : Int32} {v_value : Int32} {v_digits : Int32} {v_open : Int32} {v_parishes : Int32} {v_holds : Int32} {v_coded : Int32} {v_seen : Int32} {v_inPlan : Int32} {v_inBook : Int32} {v_traced : Int32} {v_imaged : Int32} {v_most : Int32} {v_tapeSort : Nat → Int32} {v_tapeSize : Nat → Int32} {p1 : Int32} {p2 : Int32} {p3 : Int32} {p4 : Int32} {p5 : Int32} {q : Int32 × (Nat → Int64)} (hQ : k_retI G K cX8_shift 7 .int [oX8 a_t r_t v_people v_day v_texted v_at v_value v_digits v_open v_parishes v_holds v_coded v_seen v_inPlan v_inBook v_traced v_imaged v_most, aI G (r_t 45) 6 v_tapeSort, aI G (r_t 46) 6 v_tapeSize, aJ G (r_t 47) 360 q.2] q.1) : ∀ (n : Nat) (x6 : Int32) (w_items : Nat → Int64), f_X8_shift_124 p1 p2 p3 p4 p5 n x6 w_items = some q → J G K 7 0 0 [oX8 a_t r_t v_people v_day v_texted v_at v_value v_digits v_open v_parishes v_holds v_coded v_seen v_inPlan v_inBook v_traced v_imaged v_most, aI G (r_t 45) 6 v_tapeSort, aI G (r_t 46) 6 v_tapeSize, aJ G (r_t 47) 360 w_items] [(0, .ref a_t), (1, .int p1), (2, .int p2), (3, .int p3), (4, .int p4), (5, .int p5), (6, .int x6)] 124 [] := by
  intro n
  induction n with
  | zero => intro x6 w_items hf; cases hf
  | succ n ih => intro x6 w_items hf; exact t_X8_shift_124_b C hQ ih hf
def f_X8_shift (v_tapeSort : Nat → Int32) (v_tapeSize : Nat → Int32) (v_items : Nat → Int64) (p1 : Int32) (p2 : Int32) (p3 : Int32) (p4 : Int32) (p5 : Int32) : Option (Int32 × (Nat → Int64)) := ((f_X8_isTape p1).bind fun q1 => (if q1 = 0 then (some ((-1 : Int32), v_items)) else ((f_X8_isTape p3).bind fun q2 => (if q2 = 0 then (some ((-1 : Int32), v_items)) else (gd p1 6 (if (v_tapeSort p1.toNatClampNeg) < 0 then (some ((-11 : Int32), v_items)) else (gd p3 6 (if 0 ≤ (v_tapeSort p3.toNatClampNeg) then (gd p1 6 (gd p3 6 (if (v_tapeSort p1.toNatClampNeg) = (v_tapeSort p3.toNatClampNeg) then (if p5 < 0 then (some ((-13 : Int32), v_items)) else (if p2 < 0 then (some ((-13 : Int32), v_items)) else (if p4 < 0 then (some ((-13 : Int32), v_items)) else (gd p1 6 (if 0 < (lg_cmp ((p2.toInt64) + (p5.toInt64)) ((v_tapeSize p1.toNatClampNeg).toInt64)) then (some ((-13 : Int32), v_items)) else (gd p3 6 (if (lg_cmp ((p4.toInt64) + (p5.toInt64)) ((v_tapeSize p3.toNatClampNeg).toInt64)) ≤ 0 then (if p1 = p3 then (if p4 ≤ p2 then (f_X8_shift_170 p1 p2 p3 p4 p5 1000 (0 : Int32) v_items) else (nm (p5 - (1 : Int32)) fun y3 => (f_X8_shift_124 p1 p2 p3 p4 p5 1000 y3 v_items))) else (f_X8_shift_170 p1 p2 p3 p4 p5 1000 (0 : Int32) v_items)) else (some ((-13 : Int32), v_items))))))))) else (some ((-12 : Int32), v_items))))) else (some ((-11 : Int32), v_items))))))))))
set_option maxRecDepth 20000 in
set_option maxHeartbeats 1000000 in
theorem t_X8_shift {G : Gx} {K : Kx} (C : Cx G K cX8_shift RX8 7 3) {a_t : Nat} {r_t : Nat → Nat} {v_people : Int32} {v_day : Int32} {v_texted : Int32} {v_at : Int32} {v_value : Int32} {v_digits : Int32} {v_open : Int32} {v_parishes : Int32} {v_holds : Int32} {v_coded : Int32} {v_seen : Int32} {v_inPlan : Int32} {v_inBook : Int32} {v_traced : Int32} {v_imaged : Int32} {v_most : Int32} {v_tapeSort : Nat → Int32} {v_tapeSize : Nat → Int32} {v_items : Nat → Int64} {p1 : Int32} {p2 : Int32} {p3 : Int32} {p4 : Int32} {p5 : Int32} {q : Int32 × (Nat → Int64)} (hQ : k_retI G K cX8_shift 7 .int [oX8 a_t r_t v_people v_day v_texted v_at v_value v_digits v_open v_parishes v_holds v_coded v_seen v_inPlan v_inBook v_traced v_imaged v_most, aI G (r_t 45) 6 v_tapeSort, aI G (r_t 46) 6 v_tapeSize, aJ G (r_t 47) 360 q.2] q.1) (hf : f_X8_shift v_tapeSort v_tapeSize v_items p1 p2 p3 p4 p5 = some q) : J G K 7 0 0 [oX8 a_t r_t v_people v_day v_texted v_at v_value v_digits v_open v_parishes v_holds v_coded v_seen v_inPlan v_inBook v_traced v_imaged v_most, aI G (r_t 45) 6 v_tapeSort, aI G (r_t 46) 6 v_tapeSize, aJ G (r_t 47) 360 v_items] [(0, .ref a_t), (1, .int p1), (2, .int p2), (3, .int p3), (4, .int p4), (5, .int p5)] 0 [] := by
  unfold f_X8_shift at hf
  refine j_iload_n C (pc := 0) 1 rfl rfl dX8_shift_0 ?_
  refine j_cSI C (pc := 1) (As := [.int p1]) (st := []) (ws' := fun q1 => [oX8 a_t r_t v_people v_day v_texted v_at v_value v_digits v_open v_parishes v_holds v_coded v_seen v_inPlan v_inBook v_traced v_imaged v_most, aI G (r_t 45) 6 v_tapeSort, aI G (r_t 46) 6 v_tapeSize, aJ G (r_t 47) 360 v_items]) ml_X8_346 ms_X8_isTape hf (fun q1 h => (c_X8_isTape G K.2.1) p1 q1 h) [] [none, none, none, none] 4 rfl (by decide +kernel) (by decide +kernel) (fun _ => rfl) (fun _ => rfl) rfl rfl rfl rfl ⟨Nat.zero_le _, Nat.zero_le _⟩ dX8_shift_1 (fun q1 hf => ?_)
  refine j_if_eq C (pc := 4) 14 dX8_shift_4 (by decide) hf (fun hf => ?_) (fun hf => ?_)
  · refine j_iconst C (pc := 14) (v := -1) (by decide) dX8_shift_14 ?_
    obtain rfl := Option.some.inj hf
    exact hQ _ _ dX8_shift_15 rfl
  · refine j_iload_n C (pc := 7) 3 rfl rfl dX8_shift_7 ?_
    refine j_cSI C (pc := 8) (As := [.int p3]) (st := []) (ws' := fun q2 => [oX8 a_t r_t v_people v_day v_texted v_at v_value v_digits v_open v_parishes v_holds v_coded v_seen v_inPlan v_inBook v_traced v_imaged v_most, aI G (r_t 45) 6 v_tapeSort, aI G (r_t 46) 6 v_tapeSize, aJ G (r_t 47) 360 v_items]) ml_X8_346 ms_X8_isTape hf (fun q2 h => (c_X8_isTape G K.2.1) p3 q2 h) [] [none, none, none, none] 4 rfl (by decide +kernel) (by decide +kernel) (fun _ => rfl) (fun _ => rfl) rfl rfl rfl rfl ⟨Nat.zero_le _, Nat.zero_le _⟩ dX8_shift_8 (fun q2 hf => ?_)
    refine j_if_ne C (pc := 11) 16 dX8_shift_11 (by decide) hf (fun hf => ?_) (fun hf => ?_)
    · refine j_aload_n C (pc := 16) 0 rfl rfl dX8_shift_16 ?_
      refine j_get C (pc := 17) kc_X8 fl_X8_100 0 rfl rfl dX8_shift_17 ?_
      refine j_iload_n C (pc := 20) 1 rfl rfl dX8_shift_20 ?_
      refine j_iald C (pc := 21) 1 rfl hf dX8_shift_21 (fun hf => ?_)
      refine j_if_lt C (pc := 22) 34 dX8_shift_22 (by decide) hf (fun hf => ?_) (fun hf => ?_)
      · refine j_bipush C (pc := 34) (v := -11) (by decide) dX8_shift_34 ?_
        obtain rfl := Option.some.inj hf
        exact hQ _ _ dX8_shift_36 rfl
      · refine j_aload_n C (pc := 25) 0 rfl rfl dX8_shift_25 ?_
        refine j_get C (pc := 26) kc_X8 fl_X8_100 0 rfl rfl dX8_shift_26 ?_
        refine j_iload_n C (pc := 29) 3 rfl rfl dX8_shift_29 ?_
        refine j_iald C (pc := 30) 1 rfl hf dX8_shift_30 (fun hf => ?_)
        refine j_if_ge C (pc := 31) 37 dX8_shift_31 (by decide) hf (fun hf => ?_) (fun hf => ?_)
        · refine j_aload_n C (pc := 37) 0 rfl rfl dX8_shift_37 ?_
          refine j_get C (pc := 38) kc_X8 fl_X8_100 0 rfl rfl dX8_shift_38 ?_
          refine j_iload_n C (pc := 41) 1 rfl rfl dX8_shift_41 ?_
          refine j_iald C (pc := 42) 1 rfl hf dX8_shift_42 (fun hf => ?_)
          refine j_aload_n C (pc := 43) 0 rfl rfl dX8_shift_43 ?_
          refine j_get C (pc := 44) kc_X8 fl_X8_100 0 rfl rfl dX8_shift_44 ?_
          refine j_iload_n C (pc := 47) 3 rfl rfl dX8_shift_47 ?_
          refine j_iald C (pc := 48) 1 rfl hf dX8_shift_48 (fun hf => ?_)
          refine j_icmp_eq C (pc := 49) 55 dX8_shift_49 (by decide) hf (fun hf => ?_) (fun hf => ?_)
          · refine j_iload C (pc := 55) 5 rfl dX8_shift_55 ?_
            refine j_if_lt C (pc := 57) 104 dX8_shift_57 (by decide) hf (fun hf => ?_) (fun hf => ?_)
            · refine j_bipush C (pc := 104) (v := -13) (by decide) dX8_shift_104 ?_
              obtain rfl := Option.some.inj hf
              exact hQ _ _ dX8_shift_106 rfl
            · refine j_iload_n C (pc := 60) 2 rfl rfl dX8_shift_60 ?_
              refine j_if_lt C (pc := 61) 104 dX8_shift_61 (by decide) hf (fun hf => ?_) (fun hf => ?_)
              · refine j_bipush C (pc := 104) (v := -13) (by decide) dX8_shift_104 ?_
                obtain rfl := Option.some.inj hf
                exact hQ _ _ dX8_shift_106 rfl
              · refine j_iload C (pc := 64) 4 rfl dX8_shift_64 ?_
                refine j_if_lt C (pc := 66) 104 dX8_shift_66 (by decide) hf (fun hf => ?_) (fun hf => ?_)
                · refine j_bipush C (pc := 104) (v := -13) (by decide) dX8_shift_104 ?_
                  obtain rfl := Option.some.inj hf
                  exact hQ _ _ dX8_shift_106 rfl
                · refine j_iload_n C (pc := 69) 2 rfl rfl dX8_shift_69 ?_
                  refine j_i2l C (pc := 70) dX8_shift_70 ?_
                  refine j_iload C (pc := 71) 5 rfl dX8_shift_71 ?_
                  refine j_i2l C (pc := 73) dX8_shift_73 ?_
                  refine j_ladd C (pc := 74) dX8_shift_74 ?_
                  refine j_aload_n C (pc := 75) 0 rfl rfl dX8_shift_75 ?_
                  refine j_get C (pc := 76) kc_X8 fl_X8_103 0 rfl rfl dX8_shift_76 ?_
                  refine j_iload_n C (pc := 79) 1 rfl rfl dX8_shift_79 ?_
                  refine j_iald C (pc := 80) 2 rfl hf dX8_shift_80 (fun hf => ?_)
                  refine j_i2l C (pc := 81) dX8_shift_81 ?_
                  refine j_lcmp C (pc := 82) dX8_shift_82 ?_
                  refine j_if_gt C (pc := 83) 104 dX8_shift_83 (by decide) hf (fun hf => ?_) (fun hf => ?_)
                  · refine j_bipush C (pc := 104) (v := -13) (by decide) dX8_shift_104 ?_
                    obtain rfl := Option.some.inj hf
                    exact hQ _ _ dX8_shift_106 rfl
                  · refine j_iload C (pc := 86) 4 rfl dX8_shift_86 ?_
                    refine j_i2l C (pc := 88) dX8_shift_88 ?_
                    refine j_iload C (pc := 89) 5 rfl dX8_shift_89 ?_
                    refine j_i2l C (pc := 91) dX8_shift_91 ?_
                    refine j_ladd C (pc := 92) dX8_shift_92 ?_
                    refine j_aload_n C (pc := 93) 0 rfl rfl dX8_shift_93 ?_
                    refine j_get C (pc := 94) kc_X8 fl_X8_103 0 rfl rfl dX8_shift_94 ?_
                    refine j_iload_n C (pc := 97) 3 rfl rfl dX8_shift_97 ?_
                    refine j_iald C (pc := 98) 2 rfl hf dX8_shift_98 (fun hf => ?_)
                    refine j_i2l C (pc := 99) dX8_shift_99 ?_
                    refine j_lcmp C (pc := 100) dX8_shift_100 ?_
                    refine j_if_le C (pc := 101) 107 dX8_shift_101 (by decide) hf (fun hf => ?_) (fun hf => ?_)
                    · refine j_iload_n C (pc := 107) 1 rfl rfl dX8_shift_107 ?_
                      refine j_iload_n C (pc := 108) 3 rfl rfl dX8_shift_108 ?_
                      refine j_icmp_ne C (pc := 109) 167 dX8_shift_109 (by decide) hf (fun hf => ?_) (fun hf => ?_)
                      · refine j_iconst C (pc := 167) (v := 0) (by decide) dX8_shift_167 ?_
                        refine j_istore C (pc := 168) (L' := [(6, .int (0 : Int32)), (0, .ref a_t), (1, .int p1), (2, .int p2), (3, .int p3), (4, .int p4), (5, .int p5)]) dX8_shift_168 (by decide) rfl ?_
                        refine j_sub [1, 2, 3, 4, 5, 6, 0] rfl ?_
                        exact t_X8_shift_170 C hQ 1000 _ _ hf
                      · refine j_iload_n C (pc := 112) 2 rfl rfl dX8_shift_112 ?_
                        refine j_iload C (pc := 113) 4 rfl dX8_shift_113 ?_
                        refine j_icmp_ge C (pc := 115) 167 dX8_shift_115 (by decide) hf (fun hf => ?_) (fun hf => ?_)
                        · refine j_iconst C (pc := 167) (v := 0) (by decide) dX8_shift_167 ?_
                          refine j_istore C (pc := 168) (L' := [(6, .int (0 : Int32)), (0, .ref a_t), (1, .int p1), (2, .int p2), (3, .int p3), (4, .int p4), (5, .int p5)]) dX8_shift_168 (by decide) rfl ?_
                          refine j_sub [1, 2, 3, 4, 5, 6, 0] rfl ?_
                          exact t_X8_shift_170 C hQ 1000 _ _ hf
                        · refine j_iload C (pc := 118) 5 rfl dX8_shift_118 ?_
                          refine j_iconst C (pc := 120) (v := 1) (by decide) dX8_shift_120 ?_
                          refine j_isub C (pc := 121) dX8_shift_121 ?_
                          refine j_nm hf (fun y3 hf => ?_)
                          refine j_istore C (pc := 122) (L' := [(6, .int y3), (0, .ref a_t), (1, .int p1), (2, .int p2), (3, .int p3), (4, .int p4), (5, .int p5)]) dX8_shift_122 (by decide) rfl ?_
                          refine j_sub [1, 2, 3, 4, 5, 6, 0] rfl ?_
                          exact t_X8_shift_124 C hQ 1000 _ _ hf
                    · refine j_bipush C (pc := 104) (v := -13) (by decide) dX8_shift_104 ?_
                      obtain rfl := Option.some.inj hf
                      exact hQ _ _ dX8_shift_106 rfl
          · refine j_bipush C (pc := 52) (v := -12) (by decide) dX8_shift_52 ?_
            obtain rfl := Option.some.inj hf
            exact hQ _ _ dX8_shift_54 rfl
        · refine j_bipush C (pc := 34) (v := -11) (by decide) dX8_shift_34 ?_
          obtain rfl := Option.some.inj hf
          exact hQ _ _ dX8_shift_36 rfl
    · refine j_iconst C (pc := 14) (v := -1) (by decide) dX8_shift_14 ?_
      obtain rfl := Option.some.inj hf
      exact hQ _ _ dX8_shift_15 rfl
def ct_X8_shift (G : Gx) (l : Launch) (F : (Nat → Int32) → (Nat → Int32) → (Nat → Int64) → Int32 → Int32 → Int32 → Int32 → Int32 → Option (Int32 × (Nat → Int64))) (lv : Nat) : Prop := ∀ (a_t : Nat) (r_t : Nat → Nat) (v_people : Int32) (v_day : Int32) (v_texted : Int32) (v_at : Int32) (v_value : Int32) (v_digits : Int32) (v_open : Int32) (v_parishes : Int32) (v_holds : Int32) (v_coded : Int32) (v_seen : Int32) (v_inPlan : Int32) (v_inBook : Int32) (v_traced : Int32) (v_imaged : Int32) (v_most : Int32) (v_tapeSort : Nat → Int32) (v_tapeSize : Nat → Int32) (v_items : Nat → Int64) (p1 : Int32) (p2 : Int32) (p3 : Int32) (p4 : Int32) (p5 : Int32), ∀ (q : Int32 × (Nat → Int64)), F v_tapeSort v_tapeSize v_items p1 p2 p3 p4 p5 = some q → MI G l yX8_shift cX8_shift 7 .int lv [.ref a_t, .int p1, .int p2, .int p3, .int p4, .int p5] [oX8 a_t r_t v_people v_day v_texted v_at v_value v_digits v_open v_parishes v_holds v_coded v_seen v_inPlan v_inBook v_traced v_imaged v_most, aI G (r_t 45) 6 v_tapeSort, aI G (r_t 46) 6 v_tapeSize, aJ G (r_t 47) 360 v_items] [oX8 a_t r_t v_people v_day v_texted v_at v_value v_digits v_open v_parishes v_holds v_coded v_seen v_inPlan v_inBook v_traced v_imaged v_most, aI G (r_t 45) 6 v_tapeSort, aI G (r_t 46) 6 v_tapeSize, aJ G (r_t 47) 360 q.2] q.1
theorem c_X8_shift (G : Gx) (l : Launch) : ct_X8_shift G l f_X8_shift 3 := by
  intro a_t r_t v_people v_day v_texted v_at v_value v_digits v_open v_parishes v_holds v_coded v_seen v_inPlan v_inBook v_traced v_imaged v_most v_tapeSort v_tapeSize v_items p1 p2 p3 p4 p5 q hf
  exact mI_of (by decide +kernel) rfl (fun K hl C hQ => t_X8_shift C hQ hf)
-- X8_taken
def f_X8_taken_31_b (v_kind : Nat → Int32) (p1 : Int32) (p2 : Int32) (k31 : Int32 → Option (Int32)) (x3 : Int32) : Option (Int32) := (if x3 = p2 then (if x3 = p2 then (gd p1 6 (some (v_kind p1.toNatClampNeg))) else (some (-12 : Int32))) else (if x3 ≤ 0 then (if x3 = p2 then (gd p1 6 (some (v_kind p1.toNatClampNeg))) else (some (-12 : Int32))) else ((f_X8_above x3).bind fun q1 => (k31 q1))))
def f_X8_taken_31 (v_kind : Nat → Int32) (p1 : Int32) (p2 : Int32) : Nat → Int32 → Option (Int32)
  | 0 => fun _ => none
  | n + 1 => f_X8_taken_31_b v_kind p1 p2 (f_X8_taken_31 v_kind p1 p2 n)
set_option maxRecDepth 20000 in
set_option maxHeartbeats 1000000 in
theorem t_X8_taken_31_b {G : Gx} {K : Kx} (C : Cx G K cX8_taken RX8 4 3) {a_t : Nat} {r_t : Nat → Nat} {v_people : Int32} {v_day : Int32} {v_texted : Int32} {v_at : Int32} {v_value : Int32} {v_digits : Int32} {v_open : Int32} {v_parishes : Int32} {v_holds : Int32} {v_coded : Int32} {v_seen : Int32} {v_inPlan : Int32} {v_inBook : Int32} {v_traced : Int32} {v_imaged : Int32} {v_most : Int32} {v_kind : Nat → Int32} {p1 : Int32} {p2 : Int32} {q : Int32} (hQ : k_retI G K cX8_taken 4 .int [oX8 a_t r_t v_people v_day v_texted v_at v_value v_digits v_open v_parishes v_holds v_coded v_seen v_inPlan v_inBook v_traced v_imaged v_most, aI G (r_t 1) 6 v_kind] q) {k31 : Int32 → Option (Int32)} (hk31 : ∀ (x3 : Int32), k31 x3 = some q → J G K 4 0 0 [oX8 a_t r_t v_people v_day v_texted v_at v_value v_digits v_open v_parishes v_holds v_coded v_seen v_inPlan v_inBook v_traced v_imaged v_most, aI G (r_t 1) 6 v_kind] [(0, .ref a_t), (1, .int p1), (2, .int p2), (3, .int x3)] 31 []) {x3 : Int32} (hf : f_X8_taken_31_b v_kind p1 p2 k31 x3 = some q) : J G K 4 0 0 [oX8 a_t r_t v_people v_day v_texted v_at v_value v_digits v_open v_parishes v_holds v_coded v_seen v_inPlan v_inBook v_traced v_imaged v_most, aI G (r_t 1) 6 v_kind] [(0, .ref a_t), (1, .int p1), (2, .int p2), (3, .int x3)] 31 [] := by
  unfold f_X8_taken_31_b at hf
  refine j_iload_n C (pc := 31) 3 rfl rfl dX8_taken_31 ?_
  refine j_iload_n C (pc := 32) 2 rfl rfl dX8_taken_32 ?_
  refine j_icmp_eq C (pc := 33) 48 dX8_taken_33 (by decide) hf (fun hf => ?_) (fun hf => ?_)
  · refine j_iload_n C (pc := 48) 3 rfl rfl dX8_taken_48 ?_
    refine j_iload_n C (pc := 49) 2 rfl rfl dX8_taken_49 ?_
    refine j_icmp_ne C (pc := 50) 62 dX8_taken_50 (by decide) hf (fun hf => ?_) (fun hf => ?_)
    · refine j_bipush C (pc := 62) (v := -12) (by decide) dX8_taken_62 ?_
      obtain rfl := Option.some.inj hf
      exact hQ _ _ dX8_taken_64 rfl
    · refine j_aload_n C (pc := 53) 0 rfl rfl dX8_taken_53 ?_
      refine j_get C (pc := 54) kc_X8 fl_X8_9 0 rfl rfl dX8_taken_54 ?_
      refine j_iload_n C (pc := 57) 1 rfl rfl dX8_taken_57 ?_
      refine j_iald C (pc := 58) 1 rfl hf dX8_taken_58 (fun hf => ?_)
      refine j_goto C (pc := 59) 64 dX8_taken_59 (by decide) ?_
      obtain rfl := Option.some.inj hf
      exact hQ _ _ dX8_taken_64 rfl
  · refine j_iload_n C (pc := 36) 3 rfl rfl dX8_taken_36 ?_
    refine j_if_le C (pc := 37) 48 dX8_taken_37 (by decide) hf (fun hf => ?_) (fun hf => ?_)
    · refine j_iload_n C (pc := 48) 3 rfl rfl dX8_taken_48 ?_
      refine j_iload_n C (pc := 49) 2 rfl rfl dX8_taken_49 ?_
      refine j_icmp_ne C (pc := 50) 62 dX8_taken_50 (by decide) hf (fun hf => ?_) (fun hf => ?_)
      · refine j_bipush C (pc := 62) (v := -12) (by decide) dX8_taken_62 ?_
        obtain rfl := Option.some.inj hf
        exact hQ _ _ dX8_taken_64 rfl
      · refine j_aload_n C (pc := 53) 0 rfl rfl dX8_taken_53 ?_
        refine j_get C (pc := 54) kc_X8 fl_X8_9 0 rfl rfl dX8_taken_54 ?_
        refine j_iload_n C (pc := 57) 1 rfl rfl dX8_taken_57 ?_
        refine j_iald C (pc := 58) 1 rfl hf dX8_taken_58 (fun hf => ?_)
        refine j_goto C (pc := 59) 64 dX8_taken_59 (by decide) ?_
        obtain rfl := Option.some.inj hf
        exact hQ _ _ dX8_taken_64 rfl
    · refine j_iload_n C (pc := 40) 3 rfl rfl dX8_taken_40 ?_
      refine j_cSI C (pc := 41) (As := [.int x3]) (st := []) (ws' := fun q1 => [oX8 a_t r_t v_people v_day v_texted v_at v_value v_digits v_open v_parishes v_holds v_coded v_seen v_inPlan v_inBook v_traced v_imaged v_most, aI G (r_t 1) 6 v_kind]) ml_X8_337 ms_X8_above hf (fun q1 h => (c_X8_above G K.2.1) x3 q1 h) [] [none, none] 2 rfl (by decide +kernel) (by decide +kernel) (fun _ => rfl) (fun _ => rfl) rfl rfl rfl rfl ⟨Nat.zero_le _, Nat.zero_le _⟩ dX8_taken_41 (fun q1 hf => ?_)
      refine j_istore_n C (pc := 44) (L' := [(3, .int q1), (0, .ref a_t), (1, .int p1), (2, .int p2)]) dX8_taken_44 rfl (by decide) rfl ?_
      refine j_goto C (pc := 45) 31 dX8_taken_45 (by decide) ?_
      refine j_sub [1, 2, 3, 0] rfl ?_
      exact hk31 _ hf
theorem t_X8_taken_31 {G : Gx} {K : Kx} (C : Cx G K cX8_taken RX8 4 3) {a_t : Nat} {r_t : Nat → Nat} {v_people : Int32} {v_day : Int32} {v_texted : Int32} {v_at : Int32} {v_value : Int32} {v_digits : Int32} {v_open : Int32} {v_parishes : Int32} {v_holds : Int32} {v_coded : Int32} {v_seen : Int32} {v_inPlan : Int32} {v_inBook : Int32} {v_traced : Int32} {v_imaged : Int32} {v_most : Int32} {v_kind : Nat → Int32} {p1 : Int32} {p2 : Int32} {q : Int32} (hQ : k_retI G K cX8_taken 4 .int [oX8 a_t r_t v_people v_day v_texted v_at v_value v_digits v_open v_parishes v_holds v_coded v_seen v_inPlan v_inBook v_traced v_imaged v_most, aI G (r_t 1) 6 v_kind] q) : ∀ (n : Nat) (x3 : Int32), f_X8_taken_31 v_kind p1 p2 n x3 = some q → J G K 4 0 0 [oX8 a_t r_t v_people v_day v_texted v_at v_value v_digits v_open v_parishes v_holds v_coded v_seen v_inPlan v_inBook v_traced v_imaged v_most, aI G (r_t 1) 6 v_kind] [(0, .ref a_t), (1, .int p1), (2, .int p2), (3, .int x3)] 31 [] := by
  intro n
  induction n with
  | zero => intro x3 hf; cases hf
  | succ n ih => intro x3 hf; exact t_X8_taken_31_b C hQ ih hf
def f_X8_taken (v_people : Int32) (v_kind : Nat → Int32) (p1 : Int32) (p2 : Int32) : Option (Int32) := ((f_X8_within p2 (0 : Int32) (6 : Int32)).bind fun q1 => (if q1 = 0 then (some (-2 : Int32)) else ((f_X8_isOne v_people p1).bind fun q2 => (if q2 = 0 then (some (-11 : Int32)) else (gd p1 6 (nm (v_kind p1.toNatClampNeg) fun y3 => (f_X8_taken_31 v_kind p1 p2 1000 y3)))))))
set_option maxRecDepth 20000 in
set_option maxHeartbeats 1000000 in
theorem t_X8_taken {G : Gx} {K : Kx} (C : Cx G K cX8_taken RX8 4 3) {a_t : Nat} {r_t : Nat → Nat} {v_people : Int32} {v_day : Int32} {v_texted : Int32} {v_at : Int32} {v_value : Int32} {v_digits : Int32} {v_open : Int32} {v_parishes : Int32} {v_holds : Int32} {v_coded : Int32} {v_seen : Int32} {v_inPlan : Int32} {v_inBook : Int32} {v_traced : Int32} {v_imaged : Int32} {v_most : Int32} {v_kind : Nat → Int32} {p1 : Int32} {p2 : Int32} {q : Int32} (hQ : k_retI G K cX8_taken 4 .int [oX8 a_t r_t v_people v_day v_texted v_at v_value v_digits v_open v_parishes v_holds v_coded v_seen v_inPlan v_inBook v_traced v_imaged v_most, aI G (r_t 1) 6 v_kind] q) (hf : f_X8_taken v_people v_kind p1 p2 = some q) : J G K 4 0 0 [oX8 a_t r_t v_people v_day v_texted v_at v_value v_digits v_open v_parishes v_holds v_coded v_seen v_inPlan v_inBook v_traced v_imaged v_most, aI G (r_t 1) 6 v_kind] [(0, .ref a_t), (1, .int p1), (2, .int p2)] 0 [] := by
  unfold f_X8_taken at hf
  refine j_iload_n C (pc := 0) 2 rfl rfl dX8_taken_0 ?_
  refine j_iconst C (pc := 1) (v := 0) (by decide) dX8_taken_1 ?_
  refine j_bipush C (pc := 2) (v := 6) (by decide) dX8_taken_2 ?_
  refine j_cSI C (pc := 4) (As := [.int p2, .int (0 : Int32), .int (6 : Int32)]) (st := []) (ws' := fun q1 => [oX8 a_t r_t v_people v_day v_texted v_at v_value v_digits v_open v_parishes v_holds v_coded v_seen v_inPlan v_inBook v_traced v_imaged v_most, aI G (r_t 1) 6 v_kind]) ml_X8_117 ms_X8_within hf (fun q1 h => (c_X8_within G K.2.1) p2 (0 : Int32) (6 : Int32) q1 h) [] [none, none] 2 rfl (by decide +kernel) (by decide +kernel) (fun _ => rfl) (fun _ => rfl) rfl rfl rfl rfl ⟨Nat.zero_le _, Nat.zero_le _⟩ dX8_taken_4 (fun q1 hf => ?_)
  refine j_if_ne C (pc := 7) 13 dX8_taken_7 (by decide) hf (fun hf => ?_) (fun hf => ?_)
  · refine j_aload_n C (pc := 13) 0 rfl rfl dX8_taken_13 ?_
    refine j_iload_n C (pc := 14) 1 rfl rfl dX8_taken_14 ?_
    refine j_cVI C (pc := 15) (As := [.int p1]) (st := []) (ws' := fun q2 => [oX8 a_t r_t v_people v_day v_texted v_at v_value v_digits v_open v_parishes v_holds v_coded v_seen v_inPlan v_inBook v_traced v_imaged v_most, aI G (r_t 1) 6 v_kind]) ml_X8_121 ms_X8_isOne hf (fun q2 h => (c_X8_isOne G K.2.1) a_t r_t v_people v_day v_texted v_at v_value v_digits v_open v_parishes v_holds v_coded v_seen v_inPlan v_inBook v_traced v_imaged v_most p1 q2 h) [0] [some 0, none] 2 rfl (by decide +kernel) (by decide +kernel) (fun _ => rfl) (fun _ => rfl) rfl rfl rfl rfl ⟨Nat.zero_le _, Nat.zero_le _⟩ dX8_taken_15 kc_X8 0 rfl (fun q2 hf => ?_)
    refine j_if_ne C (pc := 18) 24 dX8_taken_18 (by decide) hf (fun hf => ?_) (fun hf => ?_)
    · refine j_aload_n C (pc := 24) 0 rfl rfl dX8_taken_24 ?_
      refine j_get C (pc := 25) kc_X8 fl_X8_9 0 rfl rfl dX8_taken_25 ?_
      refine j_iload_n C (pc := 28) 1 rfl rfl dX8_taken_28 ?_
      refine j_iald C (pc := 29) 1 rfl hf dX8_taken_29 (fun hf => ?_)
      refine j_nm hf (fun y3 hf => ?_)
      refine j_istore_n C (pc := 30) (L' := [(3, .int y3), (0, .ref a_t), (1, .int p1), (2, .int p2)]) dX8_taken_30 rfl (by decide) rfl ?_
      refine j_sub [1, 2, 3, 0] rfl ?_
      exact t_X8_taken_31 C hQ 1000 _ hf
    · refine j_bipush C (pc := 21) (v := -11) (by decide) dX8_taken_21 ?_
      obtain rfl := Option.some.inj hf
      exact hQ _ _ dX8_taken_23 rfl
  · refine j_bipush C (pc := 10) (v := -2) (by decide) dX8_taken_10 ?_
    obtain rfl := Option.some.inj hf
    exact hQ _ _ dX8_taken_12 rfl
def ct_X8_taken (G : Gx) (l : Launch) (F : Int32 → (Nat → Int32) → Int32 → Int32 → Option (Int32)) (lv : Nat) : Prop := ∀ (a_t : Nat) (r_t : Nat → Nat) (v_people : Int32) (v_day : Int32) (v_texted : Int32) (v_at : Int32) (v_value : Int32) (v_digits : Int32) (v_open : Int32) (v_parishes : Int32) (v_holds : Int32) (v_coded : Int32) (v_seen : Int32) (v_inPlan : Int32) (v_inBook : Int32) (v_traced : Int32) (v_imaged : Int32) (v_most : Int32) (v_kind : Nat → Int32) (p1 : Int32) (p2 : Int32), ∀ (q : Int32), F v_people v_kind p1 p2 = some q → MI G l yX8_taken cX8_taken 4 .int lv [.ref a_t, .int p1, .int p2] [oX8 a_t r_t v_people v_day v_texted v_at v_value v_digits v_open v_parishes v_holds v_coded v_seen v_inPlan v_inBook v_traced v_imaged v_most, aI G (r_t 1) 6 v_kind] [oX8 a_t r_t v_people v_day v_texted v_at v_value v_digits v_open v_parishes v_holds v_coded v_seen v_inPlan v_inBook v_traced v_imaged v_most, aI G (r_t 1) 6 v_kind] q
theorem c_X8_taken (G : Gx) (l : Launch) : ct_X8_taken G l f_X8_taken 3 := by
  intro a_t r_t v_people v_day v_texted v_at v_value v_digits v_open v_parishes v_holds v_coded v_seen v_inPlan v_inBook v_traced v_imaged v_most v_kind p1 p2 q hf
  exact mI_of (by decide +kernel) rfl (fun K hl C hQ => t_X8_taken C hQ hf)
-- X8_tape
def f_X8_tape_67_b (p1 : Int32) (k67 : Int32 → (Nat → Int32) → (Nat → Int32) → (Nat → Int64) → Option (Int32 × (Nat → Int32) × (Nat → Int32) × (Nat → Int64))) (x4 : Int32) (w_tapeSort : Nat → Int32) (w_tapeSize : Nat → Int32) (w_items : Nat → Int64) : Option (Int32 × (Nat → Int32) × (Nat → Int32) × (Nat → Int64)) := (if (60 : Int32) ≤ x4 then (some ((1 : Int32), w_tapeSort, w_tapeSize, w_items)) else (gd (((60 : Int32) * p1) + x4) 360 (k67 (x4 + (1 : Int32)) w_tapeSort w_tapeSize (vp_updL w_items (((60 : Int32) * p1) + x4).toNatClampNeg (0 : Int64)))))
def f_X8_tape_67 (p1 : Int32) : Nat → Int32 → (Nat → Int32) → (Nat → Int32) → (Nat → Int64) → Option (Int32 × (Nat → Int32) × (Nat → Int32) × (Nat → Int64))
  | 0 => fun _ _ _ _ => none
  | n + 1 => f_X8_tape_67_b p1 (f_X8_tape_67 p1 n)
set_option maxRecDepth 20000 in
set_option maxHeartbeats 1000000 in
theorem t_X8_tape_67_b {G : Gx} {K : Kx} (C : Cx G K cX8_tape RX8 5 3) {a_t : Nat} {r_t : Nat → Nat} {v_people : Int32} {v_day : Int32} {v_texted : Int32} {v_at : Int32} {v_value : Int32} {v_digits : Int32} {v_open : Int32} {v_parishes : Int32} {v_holds : Int32} {v_coded : Int32} {v_seen : Int32} {v_inPlan : Int32} {v_inBook : Int32} {v_traced : Int32} {v_imaged : Int32} {v_most : Int32} {p1 : Int32} {q : Int32 × (Nat → Int32) × (Nat → Int32) × (Nat → Int64)} (hQ : k_retI G K cX8_tape 5 .int [oX8 a_t r_t v_people v_day v_texted v_at v_value v_digits v_open v_parishes v_holds v_coded v_seen v_inPlan v_inBook v_traced v_imaged v_most, aI G (r_t 45) 6 q.2.1, aI G (r_t 46) 6 q.2.2.1, aJ G (r_t 47) 360 q.2.2.2] q.1) {k67 : Int32 → (Nat → Int32) → (Nat → Int32) → (Nat → Int64) → Option (Int32 × (Nat → Int32) × (Nat → Int32) × (Nat → Int64))} (hk67 : ∀ (x4 : Int32) (w_tapeSort : Nat → Int32) (w_tapeSize : Nat → Int32) (w_items : Nat → Int64), k67 x4 w_tapeSort w_tapeSize w_items = some q → J G K 5 0 0 [oX8 a_t r_t v_people v_day v_texted v_at v_value v_digits v_open v_parishes v_holds v_coded v_seen v_inPlan v_inBook v_traced v_imaged v_most, aI G (r_t 45) 6 w_tapeSort, aI G (r_t 46) 6 w_tapeSize, aJ G (r_t 47) 360 w_items] [(0, .ref a_t), (1, .int p1), (4, .int x4)] 67 []) {x4 : Int32} {w_tapeSort : Nat → Int32} {w_tapeSize : Nat → Int32} {w_items : Nat → Int64} (hf : f_X8_tape_67_b p1 k67 x4 w_tapeSort w_tapeSize w_items = some q) : J G K 5 0 0 [oX8 a_t r_t v_people v_day v_texted v_at v_value v_digits v_open v_parishes v_holds v_coded v_seen v_inPlan v_inBook v_traced v_imaged v_most, aI G (r_t 45) 6 w_tapeSort, aI G (r_t 46) 6 w_tapeSize, aJ G (r_t 47) 360 w_items] [(0, .ref a_t), (1, .int p1), (4, .int x4)] 67 [] := by
  unfold f_X8_tape_67_b at hf
  refine j_iload C (pc := 67) 2 rfl dX8_tape_67 ?_
  refine j_bipush C (pc := 69) (v := 60) (by decide) dX8_tape_69 ?_
  refine j_icmp_ge C (pc := 71) 93 dX8_tape_71 (by decide) hf (fun hf => ?_) (fun hf => ?_)
  · refine j_iconst C (pc := 93) (v := 1) (by decide) dX8_tape_93 ?_
    obtain rfl := Option.some.inj hf
    exact hQ _ _ dX8_tape_94 rfl
  · refine j_aload_n C (pc := 74) 0 rfl rfl dX8_tape_74 ?_
    refine j_get C (pc := 75) kc_X8 fl_X8_106 0 rfl rfl dX8_tape_75 ?_
    refine j_bipush C (pc := 78) (v := 60) (by decide) dX8_tape_78 ?_
    refine j_iload_n C (pc := 80) 1 rfl rfl dX8_tape_80 ?_
    refine j_imul C (pc := 81) dX8_tape_81 ?_
    refine j_iload C (pc := 82) 2 rfl dX8_tape_82 ?_
    refine j_iadd C (pc := 84) dX8_tape_84 ?_
    refine j_lconst C (pc := 85) (v := 0) (by decide) dX8_tape_85 ?_
    refine j_last C (pc := 86) (ws' := [oX8 a_t r_t v_people v_day v_texted v_at v_value v_digits v_open v_parishes v_holds v_coded v_seen v_inPlan v_inBook v_traced v_imaged v_most, aI G (r_t 45) 6 w_tapeSort, aI G (r_t 46) 6 w_tapeSize, aJ G (r_t 47) 360 (vp_updL w_items (((60 : Int32) * p1) + x4).toNatClampNeg (0 : Int64))]) 3 rfl hf rfl dX8_tape_86 (fun hf => ?_)
    refine j_iinc C (pc := 87) (L' := [(4, .int (x4 + (1 : Int32))), (0, .ref a_t), (1, .int p1)]) (v := x4 + (1 : Int32)) dX8_tape_87 (t := 2) rfl rfl (by decide) rfl ?_
    refine j_goto C (pc := 90) 67 dX8_tape_90 (by decide) ?_
    refine j_sub [1, 2, 0] rfl ?_
    exact hk67 _ _ _ _ hf
theorem t_X8_tape_67 {G : Gx} {K : Kx} (C : Cx G K cX8_tape RX8 5 3) {a_t : Nat} {r_t : Nat → Nat} {v_people : Int32} {v_day : Int32} {v_texted : Int32} {v_at : Int32} {v_value : Int32} {v_digits : Int32} {v_open : Int32} {v_parishes : Int32} {v_holds : Int32} {v_coded : Int32} {v_seen : Int32} {v_inPlan : Int32} {v_inBook : Int32} {v_traced : Int32} {v_imaged : Int32} {v_most : Int32} {p1 : Int32} {q : Int32 × (Nat → Int32) × (Nat → Int32) × (Nat → Int64)} (hQ : k_retI G K cX8_tape 5 .int [oX8 a_t r_t v_people v_day v_texted v_at v_value v_digits v_open v_parishes v_holds v_coded v_seen v_inPlan v_inBook v_traced v_imaged v_most, aI G (r_t 45) 6 q.2.1, aI G (r_t 46) 6 q.2.2.1, aJ G (r_t 47) 360 q.2.2.2] q.1) : ∀ (n : Nat) (x4 : Int32) (w_tapeSort : Nat → Int32) (w_tapeSize : Nat → Int32) (w_items : Nat → Int64), f_X8_tape_67 p1 n x4 w_tapeSort w_tapeSize w_items = some q → J G K 5 0 0 [oX8 a_t r_t v_people v_day v_texted v_at v_value v_digits v_open v_parishes v_holds v_coded v_seen v_inPlan v_inBook v_traced v_imaged v_most, aI G (r_t 45) 6 w_tapeSort, aI G (r_t 46) 6 w_tapeSize, aJ G (r_t 47) 360 w_items] [(0, .ref a_t), (1, .int p1), (4, .int x4)] 67 [] := by
  intro n
  induction n with
  | zero => intro x4 w_tapeSort w_tapeSize w_items hf; cases hf
  | succ n ih => intro x4 w_tapeSort w_tapeSize w_items hf; exact t_X8_tape_67_b C hQ ih hf
def f_X8_tape_42 (v_tapeSort : Nat → Int32) (v_tapeSize : Nat → Int32) (v_items : Nat → Int64) (p1 : Int32) (p2 : Int32) (p3 : Int32) : Option (Int32 × (Nat → Int32) × (Nat → Int32) × (Nat → Int64)) := (gd p1 6 (if 0 ≤ p2 then (gd p1 6 (f_X8_tape_67 p1 1000 (0 : Int32) (upd v_tapeSort p1.toNatClampNeg p2) (upd v_tapeSize p1.toNatClampNeg p3) v_items)) else (gd p1 6 (f_X8_tape_67 p1 1000 (0 : Int32) (upd v_tapeSort p1.toNatClampNeg p2) (upd v_tapeSize p1.toNatClampNeg (0 : Int32)) v_items))))
set_option maxRecDepth 20000 in
set_option maxHeartbeats 1000000 in
theorem t_X8_tape_42 {G : Gx} {K : Kx} (C : Cx G K cX8_tape RX8 5 3) {a_t : Nat} {r_t : Nat → Nat} {v_people : Int32} {v_day : Int32} {v_texted : Int32} {v_at : Int32} {v_value : Int32} {v_digits : Int32} {v_open : Int32} {v_parishes : Int32} {v_holds : Int32} {v_coded : Int32} {v_seen : Int32} {v_inPlan : Int32} {v_inBook : Int32} {v_traced : Int32} {v_imaged : Int32} {v_most : Int32} {v_tapeSort : Nat → Int32} {v_tapeSize : Nat → Int32} {v_items : Nat → Int64} {p1 : Int32} {p2 : Int32} {p3 : Int32} {q : Int32 × (Nat → Int32) × (Nat → Int32) × (Nat → Int64)} (hQ : k_retI G K cX8_tape 5 .int [oX8 a_t r_t v_people v_day v_texted v_at v_value v_digits v_open v_parishes v_holds v_coded v_seen v_inPlan v_inBook v_traced v_imaged v_most, aI G (r_t 45) 6 q.2.1, aI G (r_t 46) 6 q.2.2.1, aJ G (r_t 47) 360 q.2.2.2] q.1) (hf : f_X8_tape_42 v_tapeSort v_tapeSize v_items p1 p2 p3 = some q) : J G K 5 0 0 [oX8 a_t r_t v_people v_day v_texted v_at v_value v_digits v_open v_parishes v_holds v_coded v_seen v_inPlan v_inBook v_traced v_imaged v_most, aI G (r_t 45) 6 v_tapeSort, aI G (r_t 46) 6 v_tapeSize, aJ G (r_t 47) 360 v_items] [(0, .ref a_t), (1, .int p1), (2, .int p2), (3, .int p3)] 42 [] := by
  unfold f_X8_tape_42 at hf
  refine j_aload_n C (pc := 42) 0 rfl rfl dX8_tape_42 ?_
  refine j_get C (pc := 43) kc_X8 fl_X8_100 0 rfl rfl dX8_tape_43 ?_
  refine j_iload_n C (pc := 46) 1 rfl rfl dX8_tape_46 ?_
  refine j_iload_n C (pc := 47) 2 rfl rfl dX8_tape_47 ?_
  refine j_iast C (pc := 48) (ws' := [oX8 a_t r_t v_people v_day v_texted v_at v_value v_digits v_open v_parishes v_holds v_coded v_seen v_inPlan v_inBook v_traced v_imaged v_most, aI G (r_t 45) 6 (upd v_tapeSort p1.toNatClampNeg p2), aI G (r_t 46) 6 v_tapeSize, aJ G (r_t 47) 360 v_items]) 1 rfl hf rfl dX8_tape_48 (fun hf => ?_)
  refine j_aload_n C (pc := 49) 0 rfl rfl dX8_tape_49 ?_
  refine j_get C (pc := 50) kc_X8 fl_X8_103 0 rfl rfl dX8_tape_50 ?_
  refine j_iload_n C (pc := 53) 1 rfl rfl dX8_tape_53 ?_
  refine j_iload_n C (pc := 54) 2 rfl rfl dX8_tape_54 ?_
  refine j_if_ge C (pc := 55) 62 dX8_tape_55 (by decide) hf (fun hf => ?_) (fun hf => ?_)
  · refine j_iload_n C (pc := 62) 3 rfl rfl dX8_tape_62 ?_
    refine j_iast C (pc := 63) (ws' := [oX8 a_t r_t v_people v_day v_texted v_at v_value v_digits v_open v_parishes v_holds v_coded v_seen v_inPlan v_inBook v_traced v_imaged v_most, aI G (r_t 45) 6 (upd v_tapeSort p1.toNatClampNeg p2), aI G (r_t 46) 6 (upd v_tapeSize p1.toNatClampNeg p3), aJ G (r_t 47) 360 v_items]) 2 rfl hf rfl dX8_tape_63 (fun hf => ?_)
    refine j_iconst C (pc := 64) (v := 0) (by decide) dX8_tape_64 ?_
    refine j_istore C (pc := 65) (L' := [(4, .int (0 : Int32)), (0, .ref a_t), (1, .int p1), (2, .int p2), (3, .int p3)]) dX8_tape_65 (by decide) rfl ?_
    refine j_sub [1, 2, 0] rfl ?_
    exact t_X8_tape_67 C hQ 1000 _ _ _ _ hf
  · refine j_iconst C (pc := 58) (v := 0) (by decide) dX8_tape_58 ?_
    refine j_goto C (pc := 59) 63 dX8_tape_59 (by decide) ?_
    refine j_iast C (pc := 63) (ws' := [oX8 a_t r_t v_people v_day v_texted v_at v_value v_digits v_open v_parishes v_holds v_coded v_seen v_inPlan v_inBook v_traced v_imaged v_most, aI G (r_t 45) 6 (upd v_tapeSort p1.toNatClampNeg p2), aI G (r_t 46) 6 (upd v_tapeSize p1.toNatClampNeg (0 : Int32)), aJ G (r_t 47) 360 v_items]) 2 rfl hf rfl dX8_tape_63 (fun hf => ?_)
    refine j_iconst C (pc := 64) (v := 0) (by decide) dX8_tape_64 ?_
    refine j_istore C (pc := 65) (L' := [(4, .int (0 : Int32)), (0, .ref a_t), (1, .int p1), (2, .int p2), (3, .int p3)]) dX8_tape_65 (by decide) rfl ?_
    refine j_sub [1, 2, 0] rfl ?_
    exact t_X8_tape_67 C hQ 1000 _ _ _ _ hf
def f_X8_tape (v_tapeSort : Nat → Int32) (v_tapeSize : Nat → Int32) (v_items : Nat → Int64) (p1 : Int32) (p2 : Int32) (p3 : Int32) : Option (Int32 × (Nat → Int32) × (Nat → Int32) × (Nat → Int64)) := ((f_X8_isTape p1).bind fun q1 => (if q1 = 0 then (some ((-1 : Int32), v_tapeSort, v_tapeSize, v_items)) else ((f_X8_within p2 (-1 : Int32) (4 : Int32)).bind fun q2 => (if q2 = 0 then (some ((-2 : Int32), v_tapeSort, v_tapeSize, v_items)) else (if p2 < 0 then (if p2 < 0 then (f_X8_tape_42 v_tapeSort v_tapeSize v_items p1 p2 p3) else (if 0 ≤ p3 then (f_X8_tape_42 v_tapeSort v_tapeSize v_items p1 p2 p3) else (some ((-14 : Int32), v_tapeSort, v_tapeSize, v_items)))) else (if p3 ≤ (60 : Int32) then (if p2 < 0 then (f_X8_tape_42 v_tapeSort v_tapeSize v_items p1 p2 p3) else (if 0 ≤ p3 then (f_X8_tape_42 v_tapeSort v_tapeSize v_items p1 p2 p3) else (some ((-14 : Int32), v_tapeSort, v_tapeSize, v_items)))) else (some ((-2 : Int32), v_tapeSort, v_tapeSize, v_items))))))))
set_option maxRecDepth 20000 in
set_option maxHeartbeats 1000000 in
theorem t_X8_tape {G : Gx} {K : Kx} (C : Cx G K cX8_tape RX8 5 3) {a_t : Nat} {r_t : Nat → Nat} {v_people : Int32} {v_day : Int32} {v_texted : Int32} {v_at : Int32} {v_value : Int32} {v_digits : Int32} {v_open : Int32} {v_parishes : Int32} {v_holds : Int32} {v_coded : Int32} {v_seen : Int32} {v_inPlan : Int32} {v_inBook : Int32} {v_traced : Int32} {v_imaged : Int32} {v_most : Int32} {v_tapeSort : Nat → Int32} {v_tapeSize : Nat → Int32} {v_items : Nat → Int64} {p1 : Int32} {p2 : Int32} {p3 : Int32} {q : Int32 × (Nat → Int32) × (Nat → Int32) × (Nat → Int64)} (hQ : k_retI G K cX8_tape 5 .int [oX8 a_t r_t v_people v_day v_texted v_at v_value v_digits v_open v_parishes v_holds v_coded v_seen v_inPlan v_inBook v_traced v_imaged v_most, aI G (r_t 45) 6 q.2.1, aI G (r_t 46) 6 q.2.2.1, aJ G (r_t 47) 360 q.2.2.2] q.1) (hf : f_X8_tape v_tapeSort v_tapeSize v_items p1 p2 p3 = some q) : J G K 5 0 0 [oX8 a_t r_t v_people v_day v_texted v_at v_value v_digits v_open v_parishes v_holds v_coded v_seen v_inPlan v_inBook v_traced v_imaged v_most, aI G (r_t 45) 6 v_tapeSort, aI G (r_t 46) 6 v_tapeSize, aJ G (r_t 47) 360 v_items] [(0, .ref a_t), (1, .int p1), (2, .int p2), (3, .int p3)] 0 [] := by
  unfold f_X8_tape at hf
  refine j_iload_n C (pc := 0) 1 rfl rfl dX8_tape_0 ?_
  refine j_cSI C (pc := 1) (As := [.int p1]) (st := []) (ws' := fun q1 => [oX8 a_t r_t v_people v_day v_texted v_at v_value v_digits v_open v_parishes v_holds v_coded v_seen v_inPlan v_inBook v_traced v_imaged v_most, aI G (r_t 45) 6 v_tapeSort, aI G (r_t 46) 6 v_tapeSize, aJ G (r_t 47) 360 v_items]) ml_X8_346 ms_X8_isTape hf (fun q1 h => (c_X8_isTape G K.2.1) p1 q1 h) [] [none, none, none, none] 4 rfl (by decide +kernel) (by decide +kernel) (fun _ => rfl) (fun _ => rfl) rfl rfl rfl rfl ⟨Nat.zero_le _, Nat.zero_le _⟩ dX8_tape_1 (fun q1 hf => ?_)
  refine j_if_ne C (pc := 4) 9 dX8_tape_4 (by decide) hf (fun hf => ?_) (fun hf => ?_)
  · refine j_iload_n C (pc := 9) 2 rfl rfl dX8_tape_9 ?_
    refine j_iconst C (pc := 10) (v := -1) (by decide) dX8_tape_10 ?_
    refine j_iconst C (pc := 11) (v := 4) (by decide) dX8_tape_11 ?_
    refine j_cSI C (pc := 12) (As := [.int p2, .int (-1 : Int32), .int (4 : Int32)]) (st := []) (ws' := fun q2 => [oX8 a_t r_t v_people v_day v_texted v_at v_value v_digits v_open v_parishes v_holds v_coded v_seen v_inPlan v_inBook v_traced v_imaged v_most, aI G (r_t 45) 6 v_tapeSort, aI G (r_t 46) 6 v_tapeSize, aJ G (r_t 47) 360 v_items]) ml_X8_117 ms_X8_within hf (fun q2 h => (c_X8_within G K.2.1) p2 (-1 : Int32) (4 : Int32) q2 h) [] [none, none, none, none] 4 rfl (by decide +kernel) (by decide +kernel) (fun _ => rfl) (fun _ => rfl) rfl rfl rfl rfl ⟨Nat.zero_le _, Nat.zero_le _⟩ dX8_tape_12 (fun q2 hf => ?_)
    refine j_if_eq C (pc := 15) 28 dX8_tape_15 (by decide) hf (fun hf => ?_) (fun hf => ?_)
    · refine j_bipush C (pc := 28) (v := -2) (by decide) dX8_tape_28 ?_
      obtain rfl := Option.some.inj hf
      exact hQ _ _ dX8_tape_30 rfl
    · refine j_iload_n C (pc := 18) 2 rfl rfl dX8_tape_18 ?_
      refine j_if_lt C (pc := 19) 31 dX8_tape_19 (by decide) hf (fun hf => ?_) (fun hf => ?_)
      · refine j_iload_n C (pc := 31) 2 rfl rfl dX8_tape_31 ?_
        refine j_if_lt C (pc := 32) 42 dX8_tape_32 (by decide) hf (fun hf => ?_) (fun hf => ?_)
        · exact t_X8_tape_42 C hQ hf
        · refine j_iload_n C (pc := 35) 3 rfl rfl dX8_tape_35 ?_
          refine j_if_ge C (pc := 36) 42 dX8_tape_36 (by decide) hf (fun hf => ?_) (fun hf => ?_)
          · exact t_X8_tape_42 C hQ hf
          · refine j_bipush C (pc := 39) (v := -14) (by decide) dX8_tape_39 ?_
            obtain rfl := Option.some.inj hf
            exact hQ _ _ dX8_tape_41 rfl
      · refine j_iload_n C (pc := 22) 3 rfl rfl dX8_tape_22 ?_
        refine j_bipush C (pc := 23) (v := 60) (by decide) dX8_tape_23 ?_
        refine j_icmp_le C (pc := 25) 31 dX8_tape_25 (by decide) hf (fun hf => ?_) (fun hf => ?_)
        · refine j_iload_n C (pc := 31) 2 rfl rfl dX8_tape_31 ?_
          refine j_if_lt C (pc := 32) 42 dX8_tape_32 (by decide) hf (fun hf => ?_) (fun hf => ?_)
          · exact t_X8_tape_42 C hQ hf
          · refine j_iload_n C (pc := 35) 3 rfl rfl dX8_tape_35 ?_
            refine j_if_ge C (pc := 36) 42 dX8_tape_36 (by decide) hf (fun hf => ?_) (fun hf => ?_)
            · exact t_X8_tape_42 C hQ hf
            · refine j_bipush C (pc := 39) (v := -14) (by decide) dX8_tape_39 ?_
              obtain rfl := Option.some.inj hf
              exact hQ _ _ dX8_tape_41 rfl
        · refine j_bipush C (pc := 28) (v := -2) (by decide) dX8_tape_28 ?_
          obtain rfl := Option.some.inj hf
          exact hQ _ _ dX8_tape_30 rfl
  · refine j_iconst C (pc := 7) (v := -1) (by decide) dX8_tape_7 ?_
    obtain rfl := Option.some.inj hf
    exact hQ _ _ dX8_tape_8 rfl
def ct_X8_tape (G : Gx) (l : Launch) (F : (Nat → Int32) → (Nat → Int32) → (Nat → Int64) → Int32 → Int32 → Int32 → Option (Int32 × (Nat → Int32) × (Nat → Int32) × (Nat → Int64))) (lv : Nat) : Prop := ∀ (a_t : Nat) (r_t : Nat → Nat) (v_people : Int32) (v_day : Int32) (v_texted : Int32) (v_at : Int32) (v_value : Int32) (v_digits : Int32) (v_open : Int32) (v_parishes : Int32) (v_holds : Int32) (v_coded : Int32) (v_seen : Int32) (v_inPlan : Int32) (v_inBook : Int32) (v_traced : Int32) (v_imaged : Int32) (v_most : Int32) (v_tapeSort : Nat → Int32) (v_tapeSize : Nat → Int32) (v_items : Nat → Int64) (p1 : Int32) (p2 : Int32) (p3 : Int32), ∀ (q : Int32 × (Nat → Int32) × (Nat → Int32) × (Nat → Int64)), F v_tapeSort v_tapeSize v_items p1 p2 p3 = some q → MI G l yX8_tape cX8_tape 5 .int lv [.ref a_t, .int p1, .int p2, .int p3] [oX8 a_t r_t v_people v_day v_texted v_at v_value v_digits v_open v_parishes v_holds v_coded v_seen v_inPlan v_inBook v_traced v_imaged v_most, aI G (r_t 45) 6 v_tapeSort, aI G (r_t 46) 6 v_tapeSize, aJ G (r_t 47) 360 v_items] [oX8 a_t r_t v_people v_day v_texted v_at v_value v_digits v_open v_parishes v_holds v_coded v_seen v_inPlan v_inBook v_traced v_imaged v_most, aI G (r_t 45) 6 q.2.1, aI G (r_t 46) 6 q.2.2.1, aJ G (r_t 47) 360 q.2.2.2] q.1
theorem c_X8_tape (G : Gx) (l : Launch) : ct_X8_tape G l f_X8_tape 3 := by
  intro a_t r_t v_people v_day v_texted v_at v_value v_digits v_open v_parishes v_holds v_coded v_seen v_inPlan v_inBook v_traced v_imaged v_most v_tapeSort v_tapeSize v_items p1 p2 p3 q hf
  exact mI_of (by decide +kernel) rfl (fun K hl C hQ => t_X8_tape C hQ hf)
-- X8_told
def f_X8_told (v_people : Int32) (v_day : Int32) (v_holds : Int32) (v_clauses : Nat → Int32) (v_word : Nat → Int32) (v_number : Nat → Int32) (v_dead : Nat → Int32) (v_buried : Nat → Int32) (v_hate : Nat → Int32) (v_begins : Nat → Int32) (v_length : Nat → Int32) (v_stack : Nat → Int32) (v_code : Nat → Int32) (v_kind : Nat → Int32) (v_v : Nat → Int32) (v_rows : Nat → Int32) (p1 : Int32) : Option (Int32 × (Nat → Int32)) := (if p1 = (0 : Int32) then (some (v_day, v_stack)) else (if p1 = (1 : Int32) then ((f_X8_need v_holds v_clauses v_word v_number).bind fun q1 => (some (q1, v_stack))) else (if p1 = (2 : Int32) then ((f_X8_deadBits v_people v_dead).bind fun q2 => (some (q2, v_stack))) else (if p1 = (3 : Int32) then ((f_X8_buriedBits v_people v_buried).bind fun q3 => (some (q3, v_stack))) else (if p1 = (4 : Int32) then ((f_X8_allHate v_people v_hate).bind fun q4 => (some (q4, v_stack))) else (if p1 = (5 : Int32) then ((f_X8_lonely v_people v_day v_holds v_dead v_hate v_clauses v_word v_begins v_length v_stack v_code v_kind v_v v_number v_rows).bind fun q5 => (some (q5.1, q5.2))) else (if p1 = (6 : Int32) then ((f_X8_keepers v_people v_day v_holds v_dead v_hate v_clauses v_word v_begins v_length v_stack v_code v_kind v_v v_number v_rows).bind fun q6 => (some (q6.1, q6.2))) else (if p1 = (7 : Int32) then ((f_X8_longest v_people v_day v_holds v_dead v_hate v_clauses v_word v_begins v_length v_stack v_code v_kind v_v v_number v_rows).bind fun q7 => (some (q7.1, q7.2))) else (some ((-1 : Int32), v_stack))))))))))
set_option maxRecDepth 20000 in
set_option maxHeartbeats 1000000 in
theorem t_X8_told {G : Gx} {K : Kx} (C : Cx G K cX8_told RX8 2 20) {a_t : Nat} {r_t : Nat → Nat} {v_people : Int32} {v_day : Int32} {v_texted : Int32} {v_at : Int32} {v_value : Int32} {v_digits : Int32} {v_open : Int32} {v_parishes : Int32} {v_holds : Int32} {v_coded : Int32} {v_seen : Int32} {v_inPlan : Int32} {v_inBook : Int32} {v_traced : Int32} {v_imaged : Int32} {v_most : Int32} {v_clauses : Nat → Int32} {v_word : Nat → Int32} {v_number : Nat → Int32} {v_dead : Nat → Int32} {v_buried : Nat → Int32} {v_hate : Nat → Int32} {v_begins : Nat → Int32} {v_length : Nat → Int32} {v_stack : Nat → Int32} {v_code : Nat → Int32} {v_kind : Nat → Int32} {v_v : Nat → Int32} {v_rows : Nat → Int32} {p1 : Int32} {q : Int32 × (Nat → Int32)} (hQ : k_retI G K cX8_told 2 .int [oX8 a_t r_t v_people v_day v_texted v_at v_value v_digits v_open v_parishes v_holds v_coded v_seen v_inPlan v_inBook v_traced v_imaged v_most, aI G (r_t 17) 6 v_clauses, aI G (r_t 18) 61 v_word, aI G (r_t 19) 61 v_number, aI G (r_t 3) 6 v_dead, aI G (r_t 4) 6 v_buried, aI G (r_t 7) 36 v_hate, aI G (r_t 20) 61 v_begins, aI G (r_t 21) 61 v_length, aZ G (r_t 24) 110 q.2, aI G (r_t 22) 800 v_code, aI G (r_t 1) 6 v_kind, aI G (r_t 2) 6 v_v, aI G (r_t 6) 24 v_rows] q.1) (hf : f_X8_told v_people v_day v_holds v_clauses v_word v_number v_dead v_buried v_hate v_begins v_length v_stack v_code v_kind v_v v_rows p1 = some q) : J G K 2 0 0 [oX8 a_t r_t v_people v_day v_texted v_at v_value v_digits v_open v_parishes v_holds v_coded v_seen v_inPlan v_inBook v_traced v_imaged v_most, aI G (r_t 17) 6 v_clauses, aI G (r_t 18) 61 v_word, aI G (r_t 19) 61 v_number, aI G (r_t 3) 6 v_dead, aI G (r_t 4) 6 v_buried, aI G (r_t 7) 36 v_hate, aI G (r_t 20) 61 v_begins, aI G (r_t 21) 61 v_length, aZ G (r_t 24) 110 v_stack, aI G (r_t 22) 800 v_code, aI G (r_t 1) 6 v_kind, aI G (r_t 2) 6 v_v, aI G (r_t 6) 24 v_rows] [(0, .ref a_t), (1, .int p1)] 0 [] := by
  unfold f_X8_told at hf
  refine j_iload_n C (pc := 0) 1 rfl rfl dX8_told_0 ?_
  obtain ⟨h0, hf⟩ | ⟨h0, hf⟩ := k_or hf
  · refine j_tabIn C (pc := 1) 48 dX8_told_1 (by rw [h0]; decide) (by rw [h0]; decide) (by rw [h0] <;> rfl) (by decide) ?_
    refine j_aload_n C (pc := 48) 0 rfl rfl dX8_told_48 ?_
    refine j_get C (pc := 49) kc_X8 fl_X8_125 0 rfl rfl dX8_told_49 ?_
    obtain rfl := Option.some.inj hf
    exact hQ _ _ dX8_told_52 rfl
  · skip
    obtain ⟨h1, hf⟩ | ⟨h1, hf⟩ := k_or hf
    · refine j_tabIn C (pc := 1) 53 dX8_told_1 (by rw [h1]; decide) (by rw [h1]; decide) (by rw [h1] <;> rfl) (by decide) ?_
      refine j_aload_n C (pc := 53) 0 rfl rfl dX8_told_53 ?_
      refine j_cVI C (pc := 54) (As := []) (st := []) (ws' := fun q1 => [oX8 a_t r_t v_people v_day v_texted v_at v_value v_digits v_open v_parishes v_holds v_coded v_seen v_inPlan v_inBook v_traced v_imaged v_most, aI G (r_t 17) 6 v_clauses, aI G (r_t 18) 61 v_word, aI G (r_t 19) 61 v_number, aI G (r_t 3) 6 v_dead, aI G (r_t 4) 6 v_buried, aI G (r_t 7) 36 v_hate, aI G (r_t 20) 61 v_begins, aI G (r_t 21) 61 v_length, aZ G (r_t 24) 110 v_stack, aI G (r_t 22) 800 v_code, aI G (r_t 1) 6 v_kind, aI G (r_t 2) 6 v_v, aI G (r_t 6) 24 v_rows]) ml_X8_239 ms_X8_need hf (fun q1 h => (c_X8_need G K.2.1) a_t r_t v_people v_day v_texted v_at v_value v_digits v_open v_parishes v_holds v_coded v_seen v_inPlan v_inBook v_traced v_imaged v_most v_clauses v_word v_number q1 h) [0, 1, 2, 3] [some 0, some 1, some 2, some 3, none, none, none, none, none, none, none, none, none, none] 14 rfl (by decide +kernel) (by decide +kernel) (fun _ => rfl) (fun _ => rfl) rfl rfl rfl rfl ⟨Nat.zero_le _, Nat.zero_le _⟩ dX8_told_54 kc_X8 0 rfl (fun q1 hf => ?_)
      obtain rfl := Option.some.inj hf
      exact hQ _ _ dX8_told_57 rfl
    · skip
      obtain ⟨h2, hf⟩ | ⟨h2, hf⟩ := k_or hf
      · refine j_tabIn C (pc := 1) 58 dX8_told_1 (by rw [h2]; decide) (by rw [h2]; decide) (by rw [h2] <;> rfl) (by decide) ?_
        refine j_aload_n C (pc := 58) 0 rfl rfl dX8_told_58 ?_
        refine j_cVI C (pc := 59) (As := []) (st := []) (ws' := fun q2 => [oX8 a_t r_t v_people v_day v_texted v_at v_value v_digits v_open v_parishes v_holds v_coded v_seen v_inPlan v_inBook v_traced v_imaged v_most, aI G (r_t 17) 6 v_clauses, aI G (r_t 18) 61 v_word, aI G (r_t 19) 61 v_number, aI G (r_t 3) 6 v_dead, aI G (r_t 4) 6 v_buried, aI G (r_t 7) 36 v_hate, aI G (r_t 20) 61 v_begins, aI G (r_t 21) 61 v_length, aZ G (r_t 24) 110 v_stack, aI G (r_t 22) 800 v_code, aI G (r_t 1) 6 v_kind, aI G (r_t 2) 6 v_v, aI G (r_t 6) 24 v_rows]) ml_X8_245 ms_X8_deadBits hf (fun q2 h => (c_X8_deadBits G K.2.1) a_t r_t v_people v_day v_texted v_at v_value v_digits v_open v_parishes v_holds v_coded v_seen v_inPlan v_inBook v_traced v_imaged v_most v_dead q2 h) [0, 4] [some 0, none, none, none, some 1, none, none, none, none, none, none, none, none, none] 14 rfl (by decide +kernel) (by decide +kernel) (fun _ => rfl) (fun _ => rfl) rfl rfl rfl rfl ⟨Nat.zero_le _, Nat.zero_le _⟩ dX8_told_59 kc_X8 0 rfl (fun q2 hf => ?_)
        obtain rfl := Option.some.inj hf
        exact hQ _ _ dX8_told_62 rfl
      · skip
        obtain ⟨h3, hf⟩ | ⟨h3, hf⟩ := k_or hf
        · refine j_tabIn C (pc := 1) 63 dX8_told_1 (by rw [h3]; decide) (by rw [h3]; decide) (by rw [h3] <;> rfl) (by decide) ?_
          refine j_aload_n C (pc := 63) 0 rfl rfl dX8_told_63 ?_
          refine j_cVI C (pc := 64) (As := []) (st := []) (ws' := fun q3 => [oX8 a_t r_t v_people v_day v_texted v_at v_value v_digits v_open v_parishes v_holds v_coded v_seen v_inPlan v_inBook v_traced v_imaged v_most, aI G (r_t 17) 6 v_clauses, aI G (r_t 18) 61 v_word, aI G (r_t 19) 61 v_number, aI G (r_t 3) 6 v_dead, aI G (r_t 4) 6 v_buried, aI G (r_t 7) 36 v_hate, aI G (r_t 20) 61 v_begins, aI G (r_t 21) 61 v_length, aZ G (r_t 24) 110 v_stack, aI G (r_t 22) 800 v_code, aI G (r_t 1) 6 v_kind, aI G (r_t 2) 6 v_v, aI G (r_t 6) 24 v_rows]) ml_X8_256 ms_X8_buriedBits hf (fun q3 h => (c_X8_buriedBits G K.2.1) a_t r_t v_people v_day v_texted v_at v_value v_digits v_open v_parishes v_holds v_coded v_seen v_inPlan v_inBook v_traced v_imaged v_most v_buried q3 h) [0, 5] [some 0, none, none, none, none, some 1, none, none, none, none, none, none, none, none] 14 rfl (by decide +kernel) (by decide +kernel) (fun _ => rfl) (fun _ => rfl) rfl rfl rfl rfl ⟨Nat.zero_le _, Nat.zero_le _⟩ dX8_told_64 kc_X8 0 rfl (fun q3 hf => ?_)
          obtain rfl := Option.some.inj hf
          exact hQ _ _ dX8_told_67 rfl
        · skip
          obtain ⟨h4, hf⟩ | ⟨h4, hf⟩ := k_or hf
          · refine j_tabIn C (pc := 1) 68 dX8_told_1 (by rw [h4]; decide) (by rw [h4]; decide) (by rw [h4] <;> rfl) (by decide) ?_
            refine j_aload_n C (pc := 68) 0 rfl rfl dX8_told_68 ?_
            refine j_cVI C (pc := 69) (As := []) (st := []) (ws' := fun q4 => [oX8 a_t r_t v_people v_day v_texted v_at v_value v_digits v_open v_parishes v_holds v_coded v_seen v_inPlan v_inBook v_traced v_imaged v_most, aI G (r_t 17) 6 v_clauses, aI G (r_t 18) 61 v_word, aI G (r_t 19) 61 v_number, aI G (r_t 3) 6 v_dead, aI G (r_t 4) 6 v_buried, aI G (r_t 7) 36 v_hate, aI G (r_t 20) 61 v_begins, aI G (r_t 21) 61 v_length, aZ G (r_t 24) 110 v_stack, aI G (r_t 22) 800 v_code, aI G (r_t 1) 6 v_kind, aI G (r_t 2) 6 v_v, aI G (r_t 6) 24 v_rows]) ml_X8_259 ms_X8_allHate hf (fun q4 h => (c_X8_allHate G K.2.1) a_t r_t v_people v_day v_texted v_at v_value v_digits v_open v_parishes v_holds v_coded v_seen v_inPlan v_inBook v_traced v_imaged v_most v_hate q4 h) [0, 6] [some 0, none, none, none, none, none, some 1, none, none, none, none, none, none, none] 14 rfl (by decide +kernel) (by decide +kernel) (fun _ => rfl) (fun _ => rfl) rfl rfl rfl rfl ⟨Nat.zero_le _, Nat.zero_le _⟩ dX8_told_69 kc_X8 0 rfl (fun q4 hf => ?_)
            obtain rfl := Option.some.inj hf
            exact hQ _ _ dX8_told_72 rfl
          · skip
            obtain ⟨h5, hf⟩ | ⟨h5, hf⟩ := k_or hf
            · refine j_tabIn C (pc := 1) 73 dX8_told_1 (by rw [h5]; decide) (by rw [h5]; decide) (by rw [h5] <;> rfl) (by decide) ?_
              refine j_aload_n C (pc := 73) 0 rfl rfl dX8_told_73 ?_
              refine j_cVI C (pc := 74) (As := []) (st := []) (ws' := fun q5 => [oX8 a_t r_t v_people v_day v_texted v_at v_value v_digits v_open v_parishes v_holds v_coded v_seen v_inPlan v_inBook v_traced v_imaged v_most, aI G (r_t 17) 6 v_clauses, aI G (r_t 18) 61 v_word, aI G (r_t 19) 61 v_number, aI G (r_t 3) 6 v_dead, aI G (r_t 4) 6 v_buried, aI G (r_t 7) 36 v_hate, aI G (r_t 20) 61 v_begins, aI G (r_t 21) 61 v_length, aZ G (r_t 24) 110 q5.2, aI G (r_t 22) 800 v_code, aI G (r_t 1) 6 v_kind, aI G (r_t 2) 6 v_v, aI G (r_t 6) 24 v_rows]) ml_X8_262 ms_X8_lonely hf (fun q5 h => (c_X8_lonely G K.2.1) a_t r_t v_people v_day v_texted v_at v_value v_digits v_open v_parishes v_holds v_coded v_seen v_inPlan v_inBook v_traced v_imaged v_most v_dead v_hate v_clauses v_word v_begins v_length v_stack v_code v_kind v_v v_number v_rows q5 h) [0, 4, 6, 1, 2, 7, 8, 9, 10, 11, 12, 3, 13] [some 0, some 3, some 4, some 11, some 1, none, some 2, some 5, some 6, some 7, some 8, some 9, some 10, some 12] 14 rfl (by decide +kernel) (by decide +kernel) (fun _ => rfl) (fun _ => rfl) rfl rfl rfl rfl ⟨Nat.zero_le _, Nat.zero_le _⟩ dX8_told_74 kc_X8 0 rfl (fun q5 hf => ?_)
              obtain rfl := Option.some.inj hf
              exact hQ _ _ dX8_told_77 rfl
            · skip
              obtain ⟨h6, hf⟩ | ⟨h6, hf⟩ := k_or hf
              · refine j_tabIn C (pc := 1) 78 dX8_told_1 (by rw [h6]; decide) (by rw [h6]; decide) (by rw [h6] <;> rfl) (by decide) ?_
                refine j_aload_n C (pc := 78) 0 rfl rfl dX8_told_78 ?_
                refine j_cVI C (pc := 79) (As := []) (st := []) (ws' := fun q6 => [oX8 a_t r_t v_people v_day v_texted v_at v_value v_digits v_open v_parishes v_holds v_coded v_seen v_inPlan v_inBook v_traced v_imaged v_most, aI G (r_t 17) 6 v_clauses, aI G (r_t 18) 61 v_word, aI G (r_t 19) 61 v_number, aI G (r_t 3) 6 v_dead, aI G (r_t 4) 6 v_buried, aI G (r_t 7) 36 v_hate, aI G (r_t 20) 61 v_begins, aI G (r_t 21) 61 v_length, aZ G (r_t 24) 110 q6.2, aI G (r_t 22) 800 v_code, aI G (r_t 1) 6 v_kind, aI G (r_t 2) 6 v_v, aI G (r_t 6) 24 v_rows]) ml_X8_265 ms_X8_keepers hf (fun q6 h => (c_X8_keepers G K.2.1) a_t r_t v_people v_day v_texted v_at v_value v_digits v_open v_parishes v_holds v_coded v_seen v_inPlan v_inBook v_traced v_imaged v_most v_dead v_hate v_clauses v_word v_begins v_length v_stack v_code v_kind v_v v_number v_rows q6 h) [0, 4, 6, 1, 2, 7, 8, 9, 10, 11, 12, 3, 13] [some 0, some 3, some 4, some 11, some 1, none, some 2, some 5, some 6, some 7, some 8, some 9, some 10, some 12] 14 rfl (by decide +kernel) (by decide +kernel) (fun _ => rfl) (fun _ => rfl) rfl rfl rfl rfl ⟨Nat.zero_le _, Nat.zero_le _⟩ dX8_told_79 kc_X8 0 rfl (fun q6 hf => ?_)
                obtain rfl := Option.some.inj hf
                exact hQ _ _ dX8_told_82 rfl
              · skip
                obtain ⟨h7, hf⟩ | ⟨h7, hf⟩ := k_or hf
                · refine j_tabIn C (pc := 1) 83 dX8_told_1 (by rw [h7]; decide) (by rw [h7]; decide) (by rw [h7] <;> rfl) (by decide) ?_
                  refine j_aload_n C (pc := 83) 0 rfl rfl dX8_told_83 ?_
                  refine j_cVI C (pc := 84) (As := []) (st := []) (ws' := fun q7 => [oX8 a_t r_t v_people v_day v_texted v_at v_value v_digits v_open v_parishes v_holds v_coded v_seen v_inPlan v_inBook v_traced v_imaged v_most, aI G (r_t 17) 6 v_clauses, aI G (r_t 18) 61 v_word, aI G (r_t 19) 61 v_number, aI G (r_t 3) 6 v_dead, aI G (r_t 4) 6 v_buried, aI G (r_t 7) 36 v_hate, aI G (r_t 20) 61 v_begins, aI G (r_t 21) 61 v_length, aZ G (r_t 24) 110 q7.2, aI G (r_t 22) 800 v_code, aI G (r_t 1) 6 v_kind, aI G (r_t 2) 6 v_v, aI G (r_t 6) 24 v_rows]) ml_X8_268 ms_X8_longest hf (fun q7 h => (c_X8_longest G K.2.1) a_t r_t v_people v_day v_texted v_at v_value v_digits v_open v_parishes v_holds v_coded v_seen v_inPlan v_inBook v_traced v_imaged v_most v_dead v_hate v_clauses v_word v_begins v_length v_stack v_code v_kind v_v v_number v_rows q7 h) [0, 4, 6, 1, 2, 7, 8, 9, 10, 11, 12, 3, 13] [some 0, some 3, some 4, some 11, some 1, none, some 2, some 5, some 6, some 7, some 8, some 9, some 10, some 12] 14 rfl (by decide +kernel) (by decide +kernel) (fun _ => rfl) (fun _ => rfl) rfl rfl rfl rfl ⟨Nat.zero_le _, Nat.zero_le _⟩ dX8_told_84 kc_X8 0 rfl (fun q7 hf => ?_)
                  obtain rfl := Option.some.inj hf
                  exact hQ _ _ dX8_told_87 rfl
                · skip
                  have hout : (p1).toInt < 0 ∨ 7 < (p1).toInt := by
                    have := lv_neT (a := 0) h0 rfl
                    have := lv_neT (a := 1) h1 rfl
                    have := lv_neT (a := 2) h2 rfl
                    have := lv_neT (a := 3) h3 rfl
                    have := lv_neT (a := 4) h4 rfl
                    have := lv_neT (a := 5) h5 rfl
                    have := lv_neT (a := 6) h6 rfl
                    have := lv_neT (a := 7) h7 rfl
                    omega
                  refine j_tabOut C (pc := 1) 88 dX8_told_1 hout (by decide) ?_
                  refine j_iconst C (pc := 88) (v := -1) (by decide) dX8_told_88 ?_
                  obtain rfl := Option.some.inj hf
                  exact hQ _ _ dX8_told_89 rfl
def ct_X8_told (G : Gx) (l : Launch) (F : Int32 → Int32 → Int32 → (Nat → Int32) → (Nat → Int32) → (Nat → Int32) → (Nat → Int32) → (Nat → Int32) → (Nat → Int32) → (Nat → Int32) → (Nat → Int32) → (Nat → Int32) → (Nat → Int32) → (Nat → Int32) → (Nat → Int32) → (Nat → Int32) → Int32 → Option (Int32 × (Nat → Int32))) (lv : Nat) : Prop := ∀ (a_t : Nat) (r_t : Nat → Nat) (v_people : Int32) (v_day : Int32) (v_texted : Int32) (v_at : Int32) (v_value : Int32) (v_digits : Int32) (v_open : Int32) (v_parishes : Int32) (v_holds : Int32) (v_coded : Int32) (v_seen : Int32) (v_inPlan : Int32) (v_inBook : Int32) (v_traced : Int32) (v_imaged : Int32) (v_most : Int32) (v_clauses : Nat → Int32) (v_word : Nat → Int32) (v_number : Nat → Int32) (v_dead : Nat → Int32) (v_buried : Nat → Int32) (v_hate : Nat → Int32) (v_begins : Nat → Int32) (v_length : Nat → Int32) (v_stack : Nat → Int32) (v_code : Nat → Int32) (v_kind : Nat → Int32) (v_v : Nat → Int32) (v_rows : Nat → Int32) (p1 : Int32), ∀ (q : Int32 × (Nat → Int32)), F v_people v_day v_holds v_clauses v_word v_number v_dead v_buried v_hate v_begins v_length v_stack v_code v_kind v_v v_rows p1 = some q → MI G l yX8_told cX8_told 2 .int lv [.ref a_t, .int p1] [oX8 a_t r_t v_people v_day v_texted v_at v_value v_digits v_open v_parishes v_holds v_coded v_seen v_inPlan v_inBook v_traced v_imaged v_most, aI G (r_t 17) 6 v_clauses, aI G (r_t 18) 61 v_word, aI G (r_t 19) 61 v_number, aI G (r_t 3) 6 v_dead, aI G (r_t 4) 6 v_buried, aI G (r_t 7) 36 v_hate, aI G (r_t 20) 61 v_begins, aI G (r_t 21) 61 v_length, aZ G (r_t 24) 110 v_stack, aI G (r_t 22) 800 v_code, aI G (r_t 1) 6 v_kind, aI G (r_t 2) 6 v_v, aI G (r_t 6) 24 v_rows] [oX8 a_t r_t v_people v_day v_texted v_at v_value v_digits v_open v_parishes v_holds v_coded v_seen v_inPlan v_inBook v_traced v_imaged v_most, aI G (r_t 17) 6 v_clauses, aI G (r_t 18) 61 v_word, aI G (r_t 19) 61 v_number, aI G (r_t 3) 6 v_dead, aI G (r_t 4) 6 v_buried, aI G (r_t 7) 36 v_hate, aI G (r_t 20) 61 v_begins, aI G (r_t 21) 61 v_length, aZ G (r_t 24) 110 q.2, aI G (r_t 22) 800 v_code, aI G (r_t 1) 6 v_kind, aI G (r_t 2) 6 v_v, aI G (r_t 6) 24 v_rows] q.1
theorem c_X8_told (G : Gx) (l : Launch) : ct_X8_told G l f_X8_told 20 := by
  intro a_t r_t v_people v_day v_texted v_at v_value v_digits v_open v_parishes v_holds v_coded v_seen v_inPlan v_inBook v_traced v_imaged v_most v_clauses v_word v_number v_dead v_buried v_hate v_begins v_length v_stack v_code v_kind v_v v_rows p1 q hf
  exact mI_of (by decide +kernel) rfl (fun K hl C hQ => t_X8_told C hQ hf)
-- X8_trace
def f_X8_trace (v_traced : Int32) (v_traces : Nat → Int32) (p1 : Int32) : Option (Int32) := ((f_J9_min_7cf53 (20 : Int32) v_traced).bind fun q1 => ((f_X8_within p1 (0 : Int32) (q1 - (1 : Int32))).bind fun q2 => (if q2 = 0 then (some (-1 : Int32)) else (gd p1 20 (some (v_traces p1.toNatClampNeg))))))
set_option maxRecDepth 20000 in
set_option maxHeartbeats 1000000 in
theorem t_X8_trace {G : Gx} {K : Kx} (C : Cx G K cX8_trace RX8 2 2) {a_t : Nat} {r_t : Nat → Nat} {v_people : Int32} {v_day : Int32} {v_texted : Int32} {v_at : Int32} {v_value : Int32} {v_digits : Int32} {v_open : Int32} {v_parishes : Int32} {v_holds : Int32} {v_coded : Int32} {v_seen : Int32} {v_inPlan : Int32} {v_inBook : Int32} {v_traced : Int32} {v_imaged : Int32} {v_most : Int32} {v_traces : Nat → Int32} {p1 : Int32} {q : Int32} (hQ : k_retI G K cX8_trace 2 .int [oX8 a_t r_t v_people v_day v_texted v_at v_value v_digits v_open v_parishes v_holds v_coded v_seen v_inPlan v_inBook v_traced v_imaged v_most, aI G (r_t 38) 20 v_traces] q) (hf : f_X8_trace v_traced v_traces p1 = some q) : J G K 2 0 0 [oX8 a_t r_t v_people v_day v_texted v_at v_value v_digits v_open v_parishes v_holds v_coded v_seen v_inPlan v_inBook v_traced v_imaged v_most, aI G (r_t 38) 20 v_traces] [(0, .ref a_t), (1, .int p1)] 0 [] := by
  unfold f_X8_trace at hf
  refine j_iload_n C (pc := 0) 1 rfl rfl dX8_trace_0 ?_
  refine j_iconst C (pc := 1) (v := 0) (by decide) dX8_trace_1 ?_
  refine j_bipush C (pc := 2) (v := 20) (by decide) dX8_trace_2 ?_
  refine j_aload_n C (pc := 4) 0 rfl rfl dX8_trace_4 ?_
  refine j_get C (pc := 5) kc_X8 fl_X8_327 0 rfl rfl dX8_trace_5 ?_
  refine j_cSI C (pc := 8) (As := [.int (20 : Int32), .int v_traced]) (st := [.int (0 : Int32), .int p1]) (ws' := fun q1 => [oX8 a_t r_t v_people v_day v_texted v_at v_value v_digits v_open v_parishes v_holds v_coded v_seen v_inPlan v_inBook v_traced v_imaged v_most, aI G (r_t 38) 20 v_traces]) ml_X8_277 ms_J9_min_7cf53 hf (fun q1 h => (c_J9_min_7cf53 G K.2.1) (20 : Int32) v_traced q1 h) [] [none, none] 2 rfl (by decide +kernel) (by decide +kernel) (fun _ => rfl) (fun _ => rfl) rfl rfl rfl rfl ⟨Nat.zero_le _, Nat.zero_le _⟩ dX8_trace_8 (fun q1 hf => ?_)
  refine j_iconst C (pc := 11) (v := 1) (by decide) dX8_trace_11 ?_
  refine j_isub C (pc := 12) dX8_trace_12 ?_
  refine j_cSI C (pc := 13) (As := [.int p1, .int (0 : Int32), .int (q1 - (1 : Int32))]) (st := []) (ws' := fun q2 => [oX8 a_t r_t v_people v_day v_texted v_at v_value v_digits v_open v_parishes v_holds v_coded v_seen v_inPlan v_inBook v_traced v_imaged v_most, aI G (r_t 38) 20 v_traces]) ml_X8_117 ms_X8_within hf (fun q2 h => (c_X8_within G K.2.1) p1 (0 : Int32) (q1 - (1 : Int32)) q2 h) [] [none, none] 2 rfl (by decide +kernel) (by decide +kernel) (fun _ => rfl) (fun _ => rfl) rfl rfl rfl rfl ⟨Nat.zero_le _, Nat.zero_le _⟩ dX8_trace_13 (fun q2 hf => ?_)
  refine j_if_eq C (pc := 16) 28 dX8_trace_16 (by decide) hf (fun hf => ?_) (fun hf => ?_)
  · refine j_iconst C (pc := 28) (v := -1) (by decide) dX8_trace_28 ?_
    obtain rfl := Option.some.inj hf
    exact hQ _ _ dX8_trace_29 rfl
  · refine j_aload_n C (pc := 19) 0 rfl rfl dX8_trace_19 ?_
    refine j_get C (pc := 20) kc_X8 fl_X8_85 0 rfl rfl dX8_trace_20 ?_
    refine j_iload_n C (pc := 23) 1 rfl rfl dX8_trace_23 ?_
    refine j_iald C (pc := 24) 1 rfl hf dX8_trace_24 (fun hf => ?_)
    refine j_goto C (pc := 25) 29 dX8_trace_25 (by decide) ?_
    obtain rfl := Option.some.inj hf
    exact hQ _ _ dX8_trace_29 rfl
def ct_X8_trace (G : Gx) (l : Launch) (F : Int32 → (Nat → Int32) → Int32 → Option (Int32)) (lv : Nat) : Prop := ∀ (a_t : Nat) (r_t : Nat → Nat) (v_people : Int32) (v_day : Int32) (v_texted : Int32) (v_at : Int32) (v_value : Int32) (v_digits : Int32) (v_open : Int32) (v_parishes : Int32) (v_holds : Int32) (v_coded : Int32) (v_seen : Int32) (v_inPlan : Int32) (v_inBook : Int32) (v_traced : Int32) (v_imaged : Int32) (v_most : Int32) (v_traces : Nat → Int32) (p1 : Int32), ∀ (q : Int32), F v_traced v_traces p1 = some q → MI G l yX8_trace cX8_trace 2 .int lv [.ref a_t, .int p1] [oX8 a_t r_t v_people v_day v_texted v_at v_value v_digits v_open v_parishes v_holds v_coded v_seen v_inPlan v_inBook v_traced v_imaged v_most, aI G (r_t 38) 20 v_traces] [oX8 a_t r_t v_people v_day v_texted v_at v_value v_digits v_open v_parishes v_holds v_coded v_seen v_inPlan v_inBook v_traced v_imaged v_most, aI G (r_t 38) 20 v_traces] q
theorem c_X8_trace (G : Gx) (l : Launch) : ct_X8_trace G l f_X8_trace 2 := by
  intro a_t r_t v_people v_day v_texted v_at v_value v_digits v_open v_parishes v_holds v_coded v_seen v_inPlan v_inBook v_traced v_imaged v_most v_traces p1 q hf
  exact mI_of (by decide +kernel) rfl (fun K hl C hQ => t_X8_trace C hQ hf)
-- X8_undo
def f_X8_undo (v_people : Int32) (v_day : Int32) (v_holds : Int32) (v_seen : Int32) (v_inPlan : Int32) (v_inBook : Int32) (v_imaged : Int32) (v_image : Nat → Int32) (v_kind : Nat → Int32) (v_v : Nat → Int32) (v_dead : Nat → Int32) (v_buried : Nat → Int32) (v_thrown : Nat → Int32) (v_rows : Nat → Int32) (v_hate : Nat → Int32) (v_seenBy : Nat → Int32) (v_seenOf : Nat → Int32) (v_seenIn : Nat → Int32) (v_seenSo : Nat → Int32) (v_goes : Nat → Int32) (v_whose : Nat → Int32) (v_bookBy : Nat → Int32) (v_bookOf : Nat → Int32) (v_bookHate : Nat → Int32) : Option (Int32 × (Nat → Int32) × (Nat → Int32) × (Nat → Int32) × (Nat → Int32) × (Nat → Int32) × (Nat → Int32) × (Nat → Int32) × (Nat → Int32) × (Nat → Int32) × (Nat → Int32) × (Nat → Int32) × (Nat → Int32) × (Nat → Int32) × Int32 × Int32 × Int32 × Int32 × Int32 × Int32 × (Nat → Int32) × (Nat → Int32) × (Nat → Int32)) := (if v_imaged = 0 then (some ((-3 : Int32), v_kind, v_v, v_dead, v_buried, v_thrown, v_rows, v_hate, v_seenBy, v_seenOf, v_seenIn, v_seenSo, v_goes, v_whose, v_people, v_day, v_seen, v_inPlan, v_inBook, v_holds, v_bookBy, v_bookOf, v_bookHate)) else ((f_X8_again v_image v_kind v_v v_dead v_buried v_thrown v_rows v_hate v_seenBy v_seenOf v_seenIn v_seenSo v_goes v_whose v_bookBy v_bookOf v_bookHate).bind fun q1 => (some (q1.2.2.2.2.2.2.2.2.2.2.2.2.2.1, q1.1, q1.2.1, q1.2.2.1, q1.2.2.2.1, q1.2.2.2.2.1, q1.2.2.2.2.2.1, q1.2.2.2.2.2.2.1, q1.2.2.2.2.2.2.2.1, q1.2.2.2.2.2.2.2.2.1, q1.2.2.2.2.2.2.2.2.2.1, q1.2.2.2.2.2.2.2.2.2.2.1, q1.2.2.2.2.2.2.2.2.2.2.2.1, q1.2.2.2.2.2.2.2.2.2.2.2.2.1, q1.2.2.2.2.2.2.2.2.2.2.2.2.2.1, q1.2.2.2.2.2.2.2.2.2.2.2.2.2.2.1, q1.2.2.2.2.2.2.2.2.2.2.2.2.2.2.2.1, q1.2.2.2.2.2.2.2.2.2.2.2.2.2.2.2.2.1, q1.2.2.2.2.2.2.2.2.2.2.2.2.2.2.2.2.2.1, q1.2.2.2.2.2.2.2.2.2.2.2.2.2.2.2.2.2.2.1, q1.2.2.2.2.2.2.2.2.2.2.2.2.2.2.2.2.2.2.2.1, q1.2.2.2.2.2.2.2.2.2.2.2.2.2.2.2.2.2.2.2.2.1, q1.2.2.2.2.2.2.2.2.2.2.2.2.2.2.2.2.2.2.2.2.2))))
set_option maxRecDepth 20000 in
set_option maxHeartbeats 1000000 in
theorem t_X8_undo {G : Gx} {K : Kx} (C : Cx G K cX8_undo RX8 1 2) {a_t : Nat} {r_t : Nat → Nat} {v_people : Int32} {v_day : Int32} {v_texted : Int32} {v_at : Int32} {v_value : Int32} {v_digits : Int32} {v_open : Int32} {v_parishes : Int32} {v_holds : Int32} {v_coded : Int32} {v_seen : Int32} {v_inPlan : Int32} {v_inBook : Int32} {v_traced : Int32} {v_imaged : Int32} {v_most : Int32} {v_image : Nat → Int32} {v_kind : Nat → Int32} {v_v : Nat → Int32} {v_dead : Nat → Int32} {v_buried : Nat → Int32} {v_thrown : Nat → Int32} {v_rows : Nat → Int32} {v_hate : Nat → Int32} {v_seenBy : Nat → Int32} {v_seenOf : Nat → Int32} {v_seenIn : Nat → Int32} {v_seenSo : Nat → Int32} {v_goes : Nat → Int32} {v_whose : Nat → Int32} {v_bookBy : Nat → Int32} {v_bookOf : Nat → Int32} {v_bookHate : Nat → Int32} {q : Int32 × (Nat → Int32) × (Nat → Int32) × (Nat → Int32) × (Nat → Int32) × (Nat → Int32) × (Nat → Int32) × (Nat → Int32) × (Nat → Int32) × (Nat → Int32) × (Nat → Int32) × (Nat → Int32) × (Nat → Int32) × (Nat → Int32) × Int32 × Int32 × Int32 × Int32 × Int32 × Int32 × (Nat → Int32) × (Nat → Int32) × (Nat → Int32)} (hQ : k_retI G K cX8_undo 1 .int [oX8 a_t r_t q.2.2.2.2.2.2.2.2.2.2.2.2.2.2.1 q.2.2.2.2.2.2.2.2.2.2.2.2.2.2.2.1 v_texted v_at v_value v_digits v_open v_parishes q.2.2.2.2.2.2.2.2.2.2.2.2.2.2.2.2.2.2.2.1 v_coded q.2.2.2.2.2.2.2.2.2.2.2.2.2.2.2.2.1 q.2.2.2.2.2.2.2.2.2.2.2.2.2.2.2.2.2.1 q.2.2.2.2.2.2.2.2.2.2.2.2.2.2.2.2.2.2.1 v_traced v_imaged v_most, aI G (r_t 40) 163 v_image, aI G (r_t 1) 6 q.2.1, aI G (r_t 2) 6 q.2.2.1, aI G (r_t 3) 6 q.2.2.2.1, aI G (r_t 4) 6 q.2.2.2.2.1, aI G (r_t 5) 6 q.2.2.2.2.2.1, aI G (r_t 6) 24 q.2.2.2.2.2.2.1, aI G (r_t 7) 36 q.2.2.2.2.2.2.2.1, aI G (r_t 26) 5 q.2.2.2.2.2.2.2.2.1, aI G (r_t 27) 5 q.2.2.2.2.2.2.2.2.2.1, aI G (r_t 28) 5 q.2.2.2.2.2.2.2.2.2.2.1, aI G (r_t 29) 5 q.2.2.2.2.2.2.2.2.2.2.2.1, aI G (r_t 31) 10 q.2.2.2.2.2.2.2.2.2.2.2.2.1, aI G (r_t 32) 10 q.2.2.2.2.2.2.2.2.2.2.2.2.2.1, aI G (r_t 34) 8 q.2.2.2.2.2.2.2.2.2.2.2.2.2.2.2.2.2.2.2.2.1, aI G (r_t 35) 8 q.2.2.2.2.2.2.2.2.2.2.2.2.2.2.2.2.2.2.2.2.2.1, aI G (r_t 36) 8 q.2.2.2.2.2.2.2.2.2.2.2.2.2.2.2.2.2.2.2.2.2.2] q.1) (hf : f_X8_undo v_people v_day v_holds v_seen v_inPlan v_inBook v_imaged v_image v_kind v_v v_dead v_buried v_thrown v_rows v_hate v_seenBy v_seenOf v_seenIn v_seenSo v_goes v_whose v_bookBy v_bookOf v_bookHate = some q) : J G K 1 0 0 [oX8 a_t r_t v_people v_day v_texted v_at v_value v_digits v_open v_parishes v_holds v_coded v_seen v_inPlan v_inBook v_traced v_imaged v_most, aI G (r_t 40) 163 v_image, aI G (r_t 1) 6 v_kind, aI G (r_t 2) 6 v_v, aI G (r_t 3) 6 v_dead, aI G (r_t 4) 6 v_buried, aI G (r_t 5) 6 v_thrown, aI G (r_t 6) 24 v_rows, aI G (r_t 7) 36 v_hate, aI G (r_t 26) 5 v_seenBy, aI G (r_t 27) 5 v_seenOf, aI G (r_t 28) 5 v_seenIn, aI G (r_t 29) 5 v_seenSo, aI G (r_t 31) 10 v_goes, aI G (r_t 32) 10 v_whose, aI G (r_t 34) 8 v_bookBy, aI G (r_t 35) 8 v_bookOf, aI G (r_t 36) 8 v_bookHate] [(0, .ref a_t)] 0 [] := by
  unfold f_X8_undo at hf
  refine j_aload_n C (pc := 0) 0 rfl rfl dX8_undo_0 ?_
  refine j_get C (pc := 1) kc_X8 fl_X8_323 0 rfl rfl dX8_undo_1 ?_
  refine j_if_ne C (pc := 4) 10 dX8_undo_4 (by decide) hf (fun hf => ?_) (fun hf => ?_)
  · refine j_aload_n C (pc := 10) 0 rfl rfl dX8_undo_10 ?_
    refine j_aload_n C (pc := 11) 0 rfl rfl dX8_undo_11 ?_
    refine j_get C (pc := 12) kc_X8 fl_X8_88 0 rfl rfl dX8_undo_12 ?_
    refine j_cVZ C (pc := 15) (As := [.ref (r_t 40)]) (st := []) (ws' := fun q1 => [oX8 a_t r_t q1.2.2.2.2.2.2.2.2.2.2.2.2.2.1 q1.2.2.2.2.2.2.2.2.2.2.2.2.2.2.1 v_texted v_at v_value v_digits v_open v_parishes q1.2.2.2.2.2.2.2.2.2.2.2.2.2.2.2.2.2.2.1 v_coded q1.2.2.2.2.2.2.2.2.2.2.2.2.2.2.2.1 q1.2.2.2.2.2.2.2.2.2.2.2.2.2.2.2.2.1 q1.2.2.2.2.2.2.2.2.2.2.2.2.2.2.2.2.2.1 v_traced v_imaged v_most, aI G (r_t 40) 163 v_image, aI G (r_t 1) 6 q1.1, aI G (r_t 2) 6 q1.2.1, aI G (r_t 3) 6 q1.2.2.1, aI G (r_t 4) 6 q1.2.2.2.1, aI G (r_t 5) 6 q1.2.2.2.2.1, aI G (r_t 6) 24 q1.2.2.2.2.2.1, aI G (r_t 7) 36 q1.2.2.2.2.2.2.1, aI G (r_t 26) 5 q1.2.2.2.2.2.2.2.1, aI G (r_t 27) 5 q1.2.2.2.2.2.2.2.2.1, aI G (r_t 28) 5 q1.2.2.2.2.2.2.2.2.2.1, aI G (r_t 29) 5 q1.2.2.2.2.2.2.2.2.2.2.1, aI G (r_t 31) 10 q1.2.2.2.2.2.2.2.2.2.2.2.1, aI G (r_t 32) 10 q1.2.2.2.2.2.2.2.2.2.2.2.2.1, aI G (r_t 34) 8 q1.2.2.2.2.2.2.2.2.2.2.2.2.2.2.2.2.2.2.2.1, aI G (r_t 35) 8 q1.2.2.2.2.2.2.2.2.2.2.2.2.2.2.2.2.2.2.2.2.1, aI G (r_t 36) 8 q1.2.2.2.2.2.2.2.2.2.2.2.2.2.2.2.2.2.2.2.2.2]) ml_X8_292 ms_X8_again hf (fun q1 h => (c_X8_again G K.2.1) a_t r_t (r_t 40) v_people v_day v_texted v_at v_value v_digits v_open v_parishes v_holds v_coded v_seen v_inPlan v_inBook v_traced v_imaged v_most v_image v_kind v_v v_dead v_buried v_thrown v_rows v_hate v_seenBy v_seenOf v_seenIn v_seenSo v_goes v_whose v_bookBy v_bookOf v_bookHate q1 h) [0, 1, 2, 3, 4, 5, 6, 7, 8, 9, 10, 11, 12, 13, 14, 15, 16, 17] [some 0, some 1, some 2, some 3, some 4, some 5, some 6, some 7, some 8, some 9, some 10, some 11, some 12, some 13, some 14, some 15, some 16, some 17] 18 rfl (by decide +kernel) (by decide +kernel) (fun _ => rfl) (fun _ => rfl) rfl rfl rfl rfl ⟨Nat.zero_le _, Nat.zero_le _⟩ dX8_undo_15 kc_X8 0 rfl (fun q1 hf => ?_)
    refine j_aload_n C (pc := 18) 0 rfl rfl dX8_undo_18 ?_
    refine j_get C (pc := 19) kc_X8 fl_X8_114 0 rfl rfl dX8_undo_19 ?_
    obtain rfl := Option.some.inj hf
    exact hQ _ _ dX8_undo_22 rfl
  · refine j_bipush C (pc := 7) (v := -3) (by decide) dX8_undo_7 ?_
    obtain rfl := Option.some.inj hf
    exact hQ _ _ dX8_undo_9 rfl
def ct_X8_undo (G : Gx) (l : Launch) (F : Int32 → Int32 → Int32 → Int32 → Int32 → Int32 → Int32 → (Nat → Int32) → (Nat → Int32) → (Nat → Int32) → (Nat → Int32) → (Nat → Int32) → (Nat → Int32) → (Nat → Int32) → (Nat → Int32) → (Nat → Int32) → (Nat → Int32) → (Nat → Int32) → (Nat → Int32) → (Nat → Int32) → (Nat → Int32) → (Nat → Int32) → (Nat → Int32) → (Nat → Int32) → Option (Int32 × (Nat → Int32) × (Nat → Int32) × (Nat → Int32) × (Nat → Int32) × (Nat → Int32) × (Nat → Int32) × (Nat → Int32) × (Nat → Int32) × (Nat → Int32) × (Nat → Int32) × (Nat → Int32) × (Nat → Int32) × (Nat → Int32) × Int32 × Int32 × Int32 × Int32 × Int32 × Int32 × (Nat → Int32) × (Nat → Int32) × (Nat → Int32))) (lv : Nat) : Prop := ∀ (a_t : Nat) (r_t : Nat → Nat) (v_people : Int32) (v_day : Int32) (v_texted : Int32) (v_at : Int32) (v_value : Int32) (v_digits : Int32) (v_open : Int32) (v_parishes : Int32) (v_holds : Int32) (v_coded : Int32) (v_seen : Int32) (v_inPlan : Int32) (v_inBook : Int32) (v_traced : Int32) (v_imaged : Int32) (v_most : Int32) (v_image : Nat → Int32) (v_kind : Nat → Int32) (v_v : Nat → Int32) (v_dead : Nat → Int32) (v_buried : Nat → Int32) (v_thrown : Nat → Int32) (v_rows : Nat → Int32) (v_hate : Nat → Int32) (v_seenBy : Nat → Int32) (v_seenOf : Nat → Int32) (v_seenIn : Nat → Int32) (v_seenSo : Nat → Int32) (v_goes : Nat → Int32) (v_whose : Nat → Int32) (v_bookBy : Nat → Int32) (v_bookOf : Nat → Int32) (v_bookHate : Nat → Int32), ∀ (q : Int32 × (Nat → Int32) × (Nat → Int32) × (Nat → Int32) × (Nat → Int32) × (Nat → Int32) × (Nat → Int32) × (Nat → Int32) × (Nat → Int32) × (Nat → Int32) × (Nat → Int32) × (Nat → Int32) × (Nat → Int32) × (Nat → Int32) × Int32 × Int32 × Int32 × Int32 × Int32 × Int32 × (Nat → Int32) × (Nat → Int32) × (Nat → Int32)), F v_people v_day v_holds v_seen v_inPlan v_inBook v_imaged v_image v_kind v_v v_dead v_buried v_thrown v_rows v_hate v_seenBy v_seenOf v_seenIn v_seenSo v_goes v_whose v_bookBy v_bookOf v_bookHate = some q → MI G l yX8_undo cX8_undo 1 .int lv [.ref a_t] [oX8 a_t r_t v_people v_day v_texted v_at v_value v_digits v_open v_parishes v_holds v_coded v_seen v_inPlan v_inBook v_traced v_imaged v_most, aI G (r_t 40) 163 v_image, aI G (r_t 1) 6 v_kind, aI G (r_t 2) 6 v_v, aI G (r_t 3) 6 v_dead, aI G (r_t 4) 6 v_buried, aI G (r_t 5) 6 v_thrown, aI G (r_t 6) 24 v_rows, aI G (r_t 7) 36 v_hate, aI G (r_t 26) 5 v_seenBy, aI G (r_t 27) 5 v_seenOf, aI G (r_t 28) 5 v_seenIn, aI G (r_t 29) 5 v_seenSo, aI G (r_t 31) 10 v_goes, aI G (r_t 32) 10 v_whose, aI G (r_t 34) 8 v_bookBy, aI G (r_t 35) 8 v_bookOf, aI G (r_t 36) 8 v_bookHate] [oX8 a_t r_t q.2.2.2.2.2.2.2.2.2.2.2.2.2.2.1 q.2.2.2.2.2.2.2.2.2.2.2.2.2.2.2.1 v_texted v_at v_value v_digits v_open v_parishes q.2.2.2.2.2.2.2.2.2.2.2.2.2.2.2.2.2.2.2.1 v_coded q.2.2.2.2.2.2.2.2.2.2.2.2.2.2.2.2.1 q.2.2.2.2.2.2.2.2.2.2.2.2.2.2.2.2.2.1 q.2.2.2.2.2.2.2.2.2.2.2.2.2.2.2.2.2.2.1 v_traced v_imaged v_most, aI G (r_t 40) 163 v_image, aI G (r_t 1) 6 q.2.1, aI G (r_t 2) 6 q.2.2.1, aI G (r_t 3) 6 q.2.2.2.1, aI G (r_t 4) 6 q.2.2.2.2.1, aI G (r_t 5) 6 q.2.2.2.2.2.1, aI G (r_t 6) 24 q.2.2.2.2.2.2.1, aI G (r_t 7) 36 q.2.2.2.2.2.2.2.1, aI G (r_t 26) 5 q.2.2.2.2.2.2.2.2.1, aI G (r_t 27) 5 q.2.2.2.2.2.2.2.2.2.1, aI G (r_t 28) 5 q.2.2.2.2.2.2.2.2.2.2.1, aI G (r_t 29) 5 q.2.2.2.2.2.2.2.2.2.2.2.1, aI G (r_t 31) 10 q.2.2.2.2.2.2.2.2.2.2.2.2.1, aI G (r_t 32) 10 q.2.2.2.2.2.2.2.2.2.2.2.2.2.1, aI G (r_t 34) 8 q.2.2.2.2.2.2.2.2.2.2.2.2.2.2.2.2.2.2.2.2.1, aI G (r_t 35) 8 q.2.2.2.2.2.2.2.2.2.2.2.2.2.2.2.2.2.2.2.2.2.1, aI G (r_t 36) 8 q.2.2.2.2.2.2.2.2.2.2.2.2.2.2.2.2.2.2.2.2.2.2] q.1
theorem c_X8_undo (G : Gx) (l : Launch) : ct_X8_undo G l f_X8_undo 2 := by
  intro a_t r_t v_people v_day v_texted v_at v_value v_digits v_open v_parishes v_holds v_coded v_seen v_inPlan v_inBook v_traced v_imaged v_most v_image v_kind v_v v_dead v_buried v_thrown v_rows v_hate v_seenBy v_seenOf v_seenIn v_seenSo v_goes v_whose v_bookBy v_bookOf v_bookHate q hf
  exact mI_of (by decide +kernel) rfl (fun K hl C hQ => t_X8_undo C hQ hf)
