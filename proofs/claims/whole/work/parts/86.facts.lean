theorem howlong_loop {W : (Nat → Int32) → Int32} {N len need : Int32} {steps numbers : Nat → Int32} {holds : Int32} {clauses word number begins length code : Nat → Int32} (hC : PC W N len need steps numbers) (hM : PM W N holds clauses word number begins length code) {bd n dd : Nat} {pe da de bu pe' da' : Int32} {ki vs th ha ro ki' vs' de' bu' th' ro' ha' : Nat → Int32} (hV : VR bd n dd pe da de bu ki vs th ha ro pe' da' ki' vs' de' bu' th' ro' ha') {p q d : Nat} (hp : p < n) (hq : q < n) (hpq : p ≠ q) (hd : d ≤ 19900) : ∀ (m k : Nat), k + m = 30 → ∃ r, ∀ F, m < F → ∀ fa stack : Nat → Int32, ∃ fa2 st2, f_X7_forHowLong_2 (nI n) (nI d) de ha vs ki len need steps numbers ro (nI p) (nI q) F (nI k) fa = some (r, fa2) ∧ f_X8_howLong_2 (nI d) holds de' ha' clauses word begins length code ki' vs' number ro' (nI p) (nI q) F (nI k) stack = some (r, st2) := by
  have hn : n ≤ 6 := hV.1.1
  intro m
  induction m with
  | zero =>
    intro k hk
    refine ⟨nI k, fun F hF fa stack => ⟨fa, stack, ?_, ?_⟩⟩
    · obtain ⟨F, rfl⟩ : ∃ f, F = f + 1 := ⟨F - 1, by omega⟩
      show f_X7_forHowLong_2_b _ _ _ _ _ _ _ _ _ _ _ _ _ _ _ _ = _
      unfold f_X7_forHowLong_2_b
      rw [if_pos (by rw [n_leT, n_toInt (by omega)]; show (30 : Int) ≤ k; omega)]
    · obtain ⟨F, rfl⟩ : ∃ f, F = f + 1 := ⟨F - 1, by omega⟩
      show f_X8_howLong_2_b _ _ _ _ _ _ _ _ _ _ _ _ _ _ _ _ _ _ = _
      unfold f_X8_howLong_2_b
      rw [if_pos (by rw [n_leT, n_toInt (by omega)]; show (30 : Int) ≤ k; omega)]
  | succ m ih =>
    intro k hk
    have hk3 : ¬ (30 : Int32) ≤ nI k := by rw [n_leT, n_toInt (by omega)]; show ¬ (30 : Int) ≤ k; omega
    obtain ⟨b, -, hb⟩ := enemy_eq hC hM hV hp hq hpq (d := d + k) (by omega)
    obtain ⟨r, hr⟩ := ih (k + 1) (by omega)
    cases b with
    | false =>
      refine ⟨nI k, fun F hF fa stack => ?_⟩
      obtain ⟨F, rfl⟩ : ∃ f, F = f + 1 := ⟨F - 1, by omega⟩
      obtain ⟨fa1, st1, hx1, hm1⟩ := hb fa stack
      refine ⟨fa1, st1, ?_, ?_⟩
      · show f_X7_forHowLong_2_b _ _ _ _ _ _ _ _ _ _ _ _ _ _ _ _ = _
        unfold f_X7_forHowLong_2_b
        rw [if_neg hk3, nI_add, hx1, Option.bind_some, if_pos (by rfl)]
      · show f_X8_howLong_2_b _ _ _ _ _ _ _ _ _ _ _ _ _ _ _ _ _ _ = _
        unfold f_X8_howLong_2_b
        rw [if_neg hk3, nI_add, hm1, Option.bind_some, if_pos (by rfl)]
    | true =>
      refine ⟨r, fun F hF fa stack => ?_⟩
      obtain ⟨F, rfl⟩ : ∃ f, F = f + 1 := ⟨F - 1, by omega⟩
      obtain ⟨fa1, st1, hx1, hm1⟩ := hb fa stack
      obtain ⟨fa2, st2, hx, hm⟩ := hr F (by omega) fa1 st1
      refine ⟨fa2, st2, ?_, ?_⟩
      · show f_X7_forHowLong_2_b _ _ _ _ _ _ _ _ _ _ _ _ _ _ _ _ = _
        unfold f_X7_forHowLong_2_b
        rw [if_neg hk3, nI_add, hx1, Option.bind_some, if_neg (by exact i_10), n_s]
        exact hx
      · show f_X8_howLong_2_b _ _ _ _ _ _ _ _ _ _ _ _ _ _ _ _ _ _ = _
        unfold f_X8_howLong_2_b
        rw [if_neg hk3, nI_add, hm1, Option.bind_some, if_neg (by exact i_10), n_s]
        exact hm
theorem F_between (G : Gx) (l : Launch) (A : Lx) : Fact_between G l A (Inv A.2.2.1) := by
  intro S T hI p1 p2 p3
  obtain ⟨σ, φ, τ, nh, kh, ah⟩ := S
  obtain ⟨μ, α, ι⟩ := T
  obtain ⟨n, d, cnt, w, nd, hV, hl, hT, hH, hK, hX, hP, hA, hTp⟩ := hI
  obtain ⟨k, W, N, hk7, hnh, hC, hM⟩ := held hH hP
  have key : ∃ r fa2 st2, f_X7_between (σ 2) (σ 3) (σ 4) (φ 3) (φ 1) (φ 0) (φ 5) (σ (39 + 2 * k)) (σ (40 + 2 * k)) (φ (33 + 2 * k)) (φ (34 + 2 * k)) (φ 4) p1 p2 p3 = some (r, fa2) ∧ f_X8_between (μ 0) (μ 8) (μ 16) (α 7) (α 17) (α 18) (α 20) (α 21) (α 24) (α 22) (α 1) (α 2) (α 19) (α 6) (α 3) p1 p2 p3 = some (r, st2) := by
    obtain ⟨⟨hn, hd, e2, e3, m0, m8⟩, h1, h2, h3, ⟨h5, -⟩, h6⟩ := id hV
    unfold f_X7_between f_X8_between
    rw [e2, m0, e3, m8]
    rcases n_cases p1 n (by omega) with ⟨p, hp, rfl⟩ | hp
    · rw [has_yes hp hn, Option.bind_some, if_neg i_10]
      rcases n_cases p2 n (by omega) with ⟨q, hq, rfl⟩ | hq
      · rw [has_yes hq hn, Option.bind_some, if_neg i_10, are_yes hp hq hn, Option.bind_some, if_neg i_10]
        rcases n_cases p3 4 (by omega) with ⟨t, ht, rfl⟩ | ht
        · rw [if_neg (n_not_neg (by omega)), if_pos (le_yes (c := 3) (by show (t : Int) ≤ 3; omega) (by omega)), wi_yes (c := 3) (by show (t : Int) ≤ 3; omega) (by omega), Option.bind_some, if_neg i_10]
          by_cases hpq : p = q
          · rw [if_pos (by rw [hpq]), if_pos (by rw [hpq])]
            exact ⟨_, _, _, rfl, rfl⟩
          · have hne : ¬ nI p = nI q := by rw [n_eq (by omega) (by omega)]; exact hpq
            rw [if_neg hne, if_neg hne, hateOf_yes hp hq hn, n_mulL, n_gd (show 6 * p + q < 36 by omega) (by omega), n_cl (show 6 * p + q < 2 ^ 31 by omega)]
            simp only [Option.bind_some, n_gd (show p < 6 by omega) (by omega : 6 < 2 ^ 31), n_cl (show p < 2 ^ 31 by omega), (h5 p q hp hq).1, (h1 p hp).2.1]
            have h4 : t = 0 ∨ t = 1 ∨ t = 2 ∨ t = 3 := by omega
            rcases h4 with rfl | rfl | rfl | rfl
            · exact ⟨_, _, _, rfl, rfl⟩
            · obtain ⟨r, hr⟩ := spite_eq hC hM hV hp hq (d := d) (by omega)
              obtain ⟨fa2, st2, hx, hm⟩ := hr (φ 5) (α 24)
              rw [if_neg (by decide), if_pos (by rfl), if_neg (by decide), if_pos (by rfl), hx, hm]
              exact ⟨_, _, _, rfl, rfl⟩
            · obtain ⟨b, -, hb⟩ := enemy_eq hC hM hV hp hq hpq (d := d) (by omega)
              obtain ⟨fa2, st2, hx, hm⟩ := hb (φ 5) (α 24)
              rw [if_neg (by decide), if_neg (by decide), if_pos (by rfl), if_neg (by decide), if_neg (by decide), if_pos (by rfl), hx, hm]
              cases b
              · exact ⟨_, _, _, rfl, rfl⟩
              · exact ⟨_, _, _, rfl, rfl⟩
            · obtain ⟨r, hr⟩ := howlong_loop hC hM hV hp hq hpq (d := d) (by omega) 30 0 (by omega)
              obtain ⟨fa2, st2, hx, hm⟩ := hr 1000 (by omega) (φ 5) (α 24)
              rw [if_neg (by decide), if_neg (by decide), if_neg (by decide), if_neg (by decide), if_neg (by decide), if_neg (by decide)]
              unfold f_X7_forHowLong f_X8_howLong
              rw [show f_X7_forHowLong_2 (nI n) (nI d) (σ 4) (φ 3) (φ 1) (φ 0) (σ (39 + 2 * k)) (σ (40 + 2 * k)) (φ (33 + 2 * k)) (φ (34 + 2 * k)) (φ 4) (nI p) (nI q) 1000 0 (φ 5) = some (r, fa2) from hx, show f_X8_howLong_2 (nI d) (μ 16) (α 3) (α 7) (α 17) (α 18) (α 20) (α 21) (α 22) (α 1) (α 2) (α 19) (α 6) (nI p) (nI q) 1000 0 (α 24) = some (r, st2) from hm]
              exact ⟨_, _, _, rfl, rfl⟩
        · rw [le_no (c := 3) (by show p3.toInt < 0 ∨ (3 : Int) < p3.toInt; omega), within_no (by show p3.toInt < 0 ∨ (3 : Int) < p3.toInt; omega), Option.bind_some, if_pos rfl]
          exact ⟨_, _, _, rfl, rfl⟩
      · rw [has_no hq hn, Option.bind_some, if_pos rfl, are_no2 hp hq hn, Option.bind_some, if_pos rfl]
        exact ⟨_, _, _, rfl, rfl⟩
    · rw [has_no hp hn, Option.bind_some, if_pos rfl, are_no1 hp hn, Option.bind_some, if_pos rfl]
      exact ⟨_, _, _, rfl, rfl⟩
  obtain ⟨r, fa2, st2, hx, hm⟩ := key
  subst hnh
  refine ⟨r, (σ, va_up φ 5 fa2, τ, A.2.2.1 k, kh, ah), (μ, va_up α 24 st2, ι), LX_between _ _ _ _ _ _ _ _ _ _ _ _ _ _ _ k hk7 hx, L_M_between _ _ _ _ _ _ _ _ _ _ _ hm, ?_⟩
  exact ⟨n, d, cnt, w, nd, hV, hl, hT, hH, hK, hX, hP.keep rfl (fun _ _ _ => rfl) (fun i h1 h2 => if_neg (by omega)) rfl rfl (fun i h1 h2 => if_neg (by omega)), hA, hTp.keep (fun _ _ => rfl) rfl rfl rfl rfl⟩
