theorem letter_is {p q d j : Nat} (hp : p < 6) (hq : q < 6) (hj : j < 6) (ki v ha : Nat → Int32) : f_X8_letterOf ki v ha (nI p) (nI q) (nI d) (nI j) = some (k_fa p q ki v ha d j) := by
  unfold f_X8_letterOf
  have h6 : j = 0 ∨ j = 1 ∨ j = 2 ∨ j = 3 ∨ j = 4 ∨ j = 5 := by omega
  rcases h6 with rfl | rfl | rfl | rfl | rfl | rfl
  · rw [if_pos (by rfl)]; rfl
  · rw [if_neg (by decide), if_pos (by rfl)]; rfl
  · rw [if_neg (by decide), if_neg (by decide), if_pos (by rfl), n_gd hp (by omega), n_cl (by omega)]; rfl
  · rw [if_neg (by decide), if_neg (by decide), if_neg (by decide), if_pos (by rfl), n_gd hp (by omega), n_cl (by omega)]; rfl
  · rw [if_neg (by decide), if_neg (by decide), if_neg (by decide), if_neg (by decide), if_pos (by rfl), n_mulL, n_gd (show 6 * p + q < 36 by omega) (by omega), n_cl (by omega)]; rfl
  · rw [if_neg (by decide), if_neg (by decide), if_neg (by decide), if_neg (by decide), if_neg (by decide)]; rfl
section RX
variable {p q d cl e a t F : Nat} {ki v ha begins length code w : Nat → Int32}
theorem y_not {b : Bool} (hcl : cl < 61) (he : begins cl + length cl = nI e) (he8 : e ≤ 800) (ha1 : a < e) (ht : t < 110) (hc : code a = 0) (hw : w t = bI b) : f_X8_isTrue_12 begins length code ki v ha (nI p) (nI q) (nI d) (nI cl) (F + 1) (nI (t + 1)) (nI a) w = f_X8_isTrue_12 begins length code ki v ha (nI p) (nI q) (nI d) (nI cl) F (nI (t + 1)) (nI (a + 1)) (upd w t (bI (!b))) := by
  conv => lhs; unfold f_X8_isTrue_12 f_X8_isTrue_12_b
  rw [n_gd hcl (by omega), n_gd hcl (by omega), n_cl (show cl < 2 ^ 31 by omega), he, if_neg (by rw [n_le (by omega) (by omega)]; omega), n_gd (show a < 800 by omega) (by omega), n_cl (show a < 2 ^ 31 by omega)]
  dsimp only [nm]
  rw [hc, if_pos (by decide), if_pos rfl, n_p1 (by omega), show t + 1 - 1 = t by omega, n_gd ht (by omega), n_cl (show t < 2 ^ 31 by omega), hw, n_s]
  cases b
  · rw [if_pos (by rfl), n_gd ht (by omega), bz_1]; rfl
  · rw [if_neg (by exact i_10), n_gd ht (by omega), bz_01]; rfl
theorem y_op (op : Bool → Bool → Bool) {g b : Bool} (hcl : cl < 61) (he : begins cl + length cl = nI e) (he8 : e ≤ 800) (ha1 : a < e) (ht : t + 1 < 110) (hc : (op = (· && ·) ∧ code a = 1) ∨ (op = (· || ·) ∧ code a = 2)) (hw : w t = bI g) (hw2 : w (t + 1) = bI b) : f_X8_isTrue_12 begins length code ki v ha (nI p) (nI q) (nI d) (nI cl) (F + 1) (nI (t + 1 + 1)) (nI a) w = f_X8_isTrue_12 begins length code ki v ha (nI p) (nI q) (nI d) (nI cl) F (nI (t + 1)) (nI (a + 1)) (upd w t (bI (op g b))) := by
  have ht0 : t < 110 := by omega
  conv => lhs; unfold f_X8_isTrue_12 f_X8_isTrue_12_b
  rw [n_gd hcl (by omega), n_gd hcl (by omega), n_cl (show cl < 2 ^ 31 by omega), he, if_neg (by rw [n_le (by omega) (by omega)]; omega), n_gd (show a < 800 by omega) (by omega), n_cl (show a < 2 ^ 31 by omega)]
  dsimp only [nm]
  rw [n_d, n_p1 (n := t + 1) (by omega), show t + 1 - 1 = t by omega, n_s]
  rcases hc with ⟨rfl, hc⟩ | ⟨rfl, hc⟩
  · rw [hc, if_pos (by decide), if_neg (by decide), if_pos rfl, n_gd ht0 (by omega), n_cl (show t < 2 ^ 31 by omega), hw, n_gd ht (by omega), n_cl (show t + 1 < 2 ^ 31 by omega), hw2, n_gd ht0 (by omega), n_gd ht0 (by omega), bz_1, bz_01]
    cases g <;> cases b <;> rfl
  · rw [hc, if_pos (by decide), if_neg (by decide), if_neg (by decide), n_gd ht0 (by omega), n_cl (show t < 2 ^ 31 by omega), hw, n_gd ht (by omega), n_cl (show t + 1 < 2 ^ 31 by omega), hw2, n_gd ht0 (by omega), n_gd ht0 (by omega), bz_1, bz_01]
    cases g <;> cases b <;> rfl
theorem y_test {j c n : Nat} (hp : p < 6) (hq : q < 6) (hj : j < 6) (hc3 : c < 3) (hn : n ≤ 99) (hcl : cl < 61) (he : begins cl + length cl = nI e) (he8 : e ≤ 800) (ha1 : a < e) (ht : t < 110) (hc : code a = nI (3 + 300 * j + 100 * c + n)) : f_X8_isTrue_12 begins length code ki v ha (nI p) (nI q) (nI d) (nI cl) (F + 1) (nI t) (nI a) w = f_X8_isTrue_12 begins length code ki v ha (nI p) (nI q) (nI d) (nI cl) F (nI (t + 1)) (nI (a + 1)) (upd w t (bI (tst j c n (k_fa p q ki v ha d)))) := by
  have e3 : nI (3 + 300 * j + 100 * c + n) - (3 : Int32) = nI (300 * j + 100 * c + n) := by
    rw [show (3 : Int32) = nI 3 from rfl, pk_sub (by omega), show 3 + 300 * j + 100 * c + n - 3 = 300 * j + 100 * c + n by omega]
  have e300 : nI (300 * j + 100 * c + n) / (300 : Int32) = nI j := by
    rw [show (300 : Int32) = nI 300 from rfl, pk_div (by omega) (by omega) (by omega), show (300 * j + 100 * c + n) / 300 = j by omega]
  have e100r : nI (300 * j + 100 * c + n) - nI (300 * j + 100 * c + n) / (100 : Int32) * (100 : Int32) = nI n := by
    rw [show (100 : Int32) = nI 100 from rfl, pk_rem (by omega) (by omega) (by omega), show (300 * j + 100 * c + n) % 100 = n by omega]
  have e100 : nI (300 * j + 100 * c + n) / (100 : Int32) = nI (3 * j + c) := by
    rw [show (100 : Int32) = nI 100 from rfl, pk_div (by omega) (by omega) (by omega), show (300 * j + 100 * c + n) / 100 = 3 * j + c by omega]
  have e3r : nI (3 * j + c) - nI (3 * j + c) / (3 : Int32) * (3 : Int32) = nI c := by
    rw [show (3 : Int32) = nI 3 from rfl, pk_rem (by omega) (by omega) (by omega), show (3 * j + c) % 3 = c by omega]
  conv => lhs; unfold f_X8_isTrue_12 f_X8_isTrue_12_b
  rw [n_gd hcl (by omega), n_gd hcl (by omega), n_cl (show cl < 2 ^ 31 by omega), he, if_neg (by rw [n_le (by omega) (by omega)]; omega), n_gd (show a < 800 by omega) (by omega), n_cl (show a < 2 ^ 31 by omega)]
  dsimp only [nm]
  rw [hc, if_neg (lt_nay (c := 3) (by show (3 : Int) ≤ ((3 + 300 * j + 100 * c + n : Nat) : Int); omega) (by omega)), e3, e300, letter_is hp hq hj, Option.bind_some, e100r, e100, e3r]
  simp only [n_gd ht (by omega : 110 < 2 ^ 31), n_cl (show t < 2 ^ 31 by omega), bz_1, bz_01, n_s]
  unfold tst
  generalize k_fa p q ki v ha d j = y
  have hnn : ¬ nI n < nI n := by rw [n_ltT]; omega
  have hnn2 : nI n ≤ nI n := by rw [n_leT]; omega
  have h3 : c = 0 ∨ c = 1 ∨ c = 2 := by omega
  rcases h3 with rfl | rfl | rfl
  · refine Eq.trans ?_ (show f_X8_isTrue_12 begins length code ki v ha (nI p) (nI q) (nI d) (nI cl) F (nI (t + 1)) (nI (a + 1)) (upd w t (bI (decide (y < nI n)))) = _ from rfl)
    rw [if_pos (by rfl)]
    by_cases k1 : nI n ≤ y
    · have : ¬ y < nI n := by rw [n_leT] at k1; rw [n_ltT]; omega
      rw [if_pos k1, decide_eq_false this]; rfl
    · have : y < nI n := by rw [n_leT] at k1; rw [n_ltT]; omega
      rw [if_neg k1, decide_eq_true this]; rfl
  · refine Eq.trans ?_ (show f_X8_isTrue_12 begins length code ki v ha (nI p) (nI q) (nI d) (nI cl) F (nI (t + 1)) (nI (a + 1)) (upd w t (bI (decide (y = nI n)))) = _ from rfl)
    rw [if_neg (by decide), if_pos (by rfl)]
    by_cases k1 : y = nI n
    · rw [if_pos k1, decide_eq_true k1]; rfl
    · rw [if_neg k1, decide_eq_false k1]; rfl
  · refine Eq.trans ?_ (show f_X8_isTrue_12 begins length code ki v ha (nI p) (nI q) (nI d) (nI cl) F (nI (t + 1)) (nI (a + 1)) (upd w t (bI (decide (nI n < y)))) = _ from rfl)
    rw [if_neg (by decide), if_neg (by decide)]
    by_cases k1 : y ≤ nI n
    · have : ¬ nI n < y := by rw [n_leT] at k1; rw [n_ltT]; omega
      rw [if_pos k1, decide_eq_false this]; rfl
    · have : nI n < y := by rw [n_leT] at k1; rw [n_ltT]; omega
      rw [if_neg k1, decide_eq_true this]; rfl
end RX
theorem CE_test {j c n : Nat} (hj : j < 6) (hc : c < 3) (hn : n ≤ 99) : CE [nI (3 + 300 * j + 100 * c + n)] (tst j c n) := by
  intro p q d cl e a t F ki v ha begins length code w hp hq hd hcl he he8 ha1 ht hC
  obtain ⟨h1, -⟩ := hC
  simp only [List.length_cons, List.length_nil] at ha1 ht
  refine ⟨upd w t (bI (tst j c n (k_fa p q ki v ha d))), upd_at, fun i hi => upd_ne (by omega), ?_⟩
  exact y_test hp hq hj hc hn hcl he he8 (by omega) (by omega) h1
theorem CE.not {c : List Int32} {f : (Nat → Int32) → Bool} (h : CE c f) : CE (c ++ [0]) (fun fb => !(f fb)) := by
  intro p q d cl e a t F ki v ha begins length code w hp hq hd hcl he he8 ha1 ht hC
  obtain ⟨hC1, hC2, -⟩ := CL.app.mp hC
  rw [List.length_append, List.length_cons, List.length_nil] at ha1 ht ⊢
  obtain ⟨w1, g1, g2, g3⟩ := h p q d cl e a t (F + 1) ki v ha begins length code w hp hq hd hcl he he8 (by omega) (by omega) hC1
  refine ⟨upd w1 t (bI (!(f (k_fa p q ki v ha d)))), upd_at, fun i hi => by rw [upd_ne (by omega), g2 i hi], ?_⟩
  rw [show F + (c.length + (0 + 1)) = F + 1 + c.length by omega, g3, y_not hcl he he8 (by omega) (by omega) hC2 g1, show a + (c.length + (0 + 1)) = a + c.length + 1 by omega]
theorem CR_and_nil : CR (· && ·) [] (fun _ => true) := by
  intro p q d cl e a t F g ki v ha begins length code w hp hq hd hcl he he8 ha1 ht hC hw
  exact ⟨w, by show w t = bI (g && true); rw [Bool.and_true]; exact hw, fun _ _ => rfl, rfl⟩
theorem CR_or_nil : CR (· || ·) [] (fun _ => false) := by
  intro p q d cl e a t F g ki v ha begins length code w hp hq hd hcl he he8 ha1 ht hC hw
  exact ⟨w, by show w t = bI (g || false); rw [Bool.or_false]; exact hw, fun _ _ => rfl, rfl⟩
theorem CE_of (op : Bool → Bool → Bool) {c1 c' : List Int32} {f1 h' : (Nat → Int32) → Bool} (h1 : CE c1 f1) (hR : CR op c' h') (hlen : 1 ≤ c1.length) : CE (c1 ++ c') (fun fb => op (f1 fb) (h' fb)) := by
  intro p q d cl e a t F ki v ha begins length code w hp hq hd hcl he he8 ha1 ht hC
  obtain ⟨hC1, hC2⟩ := CL.app.mp hC
  rw [List.length_append] at ha1 ht ⊢
  obtain ⟨w1, g1, g2, g3⟩ := h1 p q d cl e a t (F + c'.length) ki v ha begins length code w hp hq hd hcl he he8 (by omega) (by omega) hC1
  obtain ⟨w2, k1, k2, k3⟩ := hR p q d cl e (a + c1.length) t F (f1 (k_fa p q ki v ha d)) ki v ha begins length code w1 hp hq hd hcl he he8 (by omega) (by omega) hC2 g1
  refine ⟨w2, k1, fun i hi => by rw [k2 i hi, g2 i hi], ?_⟩
  rw [show F + (c1.length + c'.length) = F + c'.length + c1.length by omega, g3, k3, show a + c1.length + c'.length = a + (c1.length + c'.length) by omega]
theorem CR_cons (op : Bool → Bool → Bool) {o : Int32} (ho : (op = (· && ·) ∧ o = 1) ∨ (op = (· || ·) ∧ o = 2)) {c2 c' : List Int32} {f2 h' : (Nat → Int32) → Bool} (h2 : CE c2 f2) (hR : CR op c' h') (hlen : 1 ≤ c2.length) : CR op (c2 ++ c' ++ [o]) (fun fb => op (f2 fb) (h' fb)) := by
  intro p q d cl e a t F g ki v ha begins length code w hp hq hd hcl he he8 ha1 ht hC hw
  obtain ⟨hC1, hC3, -⟩ := CL.app.mp hC
  rw [List.length_append, List.length_cons, List.length_nil] at ha1 ht ⊢
  obtain ⟨w1, g1, g2, g3⟩ := CE_of op h2 hR hlen p q d cl e a (t + 1) (F + 1) ki v ha begins length code w hp hq hd hcl he he8 (by omega) (by omega) hC1
  refine ⟨upd w1 t (bI (op g (op (f2 (k_fa p q ki v ha d)) (h' (k_fa p q ki v ha d))))), upd_at, fun i hi => by rw [upd_ne (by omega), g2 i (by omega)], ?_⟩
  rw [show F + ((c2 ++ c').length + (0 + 1)) = F + 1 + (c2 ++ c').length by omega, g3, y_op op hcl he he8 (by omega) (by omega) (by rcases ho with ⟨x, y⟩ | ⟨x, y⟩; exact Or.inl ⟨x, hC3.trans y⟩; exact Or.inr ⟨x, hC3.trans y⟩) ((g2 t (by omega)).trans hw) g1, show a + ((c2 ++ c').length + (0 + 1)) = a + (c2 ++ c').length + 1 by omega]
