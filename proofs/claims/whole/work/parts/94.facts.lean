theorem n_p1 {n : Nat} (h : 1 ≤ n) : nI n - (1 : Int32) = nI (n - 1) := by
  obtain ⟨m, rfl⟩ : ∃ m, n = m + 1 := ⟨n - 1, by omega⟩
  rw [← n_s, n_s1]
  rfl
theorem odds_loop {n p : Nat} (hn : n ≤ 6) (p2 x3 : Int32) : ∀ (m k g : Nat), k + m = n → g ≤ k → ∃ s, s ≤ 6 ∧ ∀ F, m < F → ∀ fa st : Nat → Int32, f_X7_odds_48 (nI n) (nI p) p2 F x3 (nI g) (nI k) fa = (f_X7_fraction (nI s) (nI n - (1 : Int32)) p2).bind (fun q1 => some (q1, fa)) ∧ f_X8_odds_45 (nI n) (nI p) p2 F x3 (nI g) (nI k) st = (f_X8_part (nI s) (nI n - (1 : Int32)) p2).bind (fun q1 => some (q1, st)) := by
  intro m
  induction m with
  | zero =>
    intro k g hk hg
    refine ⟨g, by omega, fun F hF fa st => ⟨?_, ?_⟩⟩
    · obtain ⟨F, rfl⟩ : ∃ f, F = f + 1 := ⟨F - 1, by omega⟩
      unfold f_X7_odds_48 f_X7_odds_48_b
      rw [if_pos (by rw [n_le (by omega) (by omega)]; omega)]
    · obtain ⟨F, rfl⟩ : ∃ f, F = f + 1 := ⟨F - 1, by omega⟩
      unfold f_X8_odds_45 f_X8_odds_45_b
      rw [if_pos (by rw [n_le (by omega) (by omega)]; omega)]
  | succ m ih =>
    intro k g hk hg
    have hk6 : ¬ nI n ≤ nI k := by rw [n_le (by omega) (by omega)]; omega
    obtain ⟨s1, a1, a2⟩ := ih (k + 1) g (by omega) (by omega)
    obtain ⟨s2, b1, b2⟩ := ih (k + 1) (g + 1) (by omega) (by omega)
    by_cases h1 : nI k = nI p
    · refine ⟨s1, a1, fun F hF fa st => ?_⟩
      obtain ⟨F, rfl⟩ : ∃ f, F = f + 1 := ⟨F - 1, by omega⟩
      unfold f_X7_odds_48 f_X7_odds_48_b f_X8_odds_45 f_X8_odds_45_b
      rw [if_neg hk6, if_pos h1, if_neg hk6, if_pos h1, n_s]
      exact a2 F (by omega) fa st
    · by_cases h2 : (x3 &&& (((1 : Int32) <<< (nI k &&& 31)) ^^^ (-1 : Int32))) = 0
      · refine ⟨s1, a1, fun F hF fa st => ?_⟩
        obtain ⟨F, rfl⟩ : ∃ f, F = f + 1 := ⟨F - 1, by omega⟩
        unfold f_X7_odds_48 f_X7_odds_48_b f_X8_odds_45 f_X8_odds_45_b
        rw [if_neg hk6, if_neg h1, if_pos h2, if_neg hk6, if_neg h1, if_pos h2, n_s]
        exact a2 F (by omega) fa st
      · refine ⟨s2, b1, fun F hF fa st => ?_⟩
        obtain ⟨F, rfl⟩ : ∃ f, F = f + 1 := ⟨F - 1, by omega⟩
        unfold f_X7_odds_48 f_X7_odds_48_b f_X8_odds_45 f_X8_odds_45_b
        rw [if_neg hk6, if_neg h1, if_neg h2, if_neg hk6, if_neg h1, if_neg h2, n_s, n_s]
        exact b2 F (by omega) fa st
theorem F_odds (G : Gx) (l : Launch) (A : Lx) : Fact_odds G l A (Inv A.2.2.1) := by
  intro S T hI p1 p2
  obtain ⟨σ, φ, τ, nh, kh, ah⟩ := S
  obtain ⟨μ, α, ι⟩ := T
  obtain ⟨n, d, cnt, w, nd, hV, hl, hT, hH, hK, hX, hP, hA, hTp⟩ := hI
  obtain ⟨k, W, N, hk7, hnh, hC, hM⟩ := held hH hP
  have key : ∃ r fa2 st2, f_X7_odds (σ 2) (σ 3) (σ 4) (φ 3) (φ 1) (φ 0) (φ 5) (σ (39 + 2 * k)) (σ (40 + 2 * k)) (φ (33 + 2 * k)) (φ (34 + 2 * k)) (φ 4) p1 p2 = some (r, fa2) ∧ f_X8_odds (μ 0) (μ 8) (μ 16) (α 3) (α 7) (α 17) (α 18) (α 20) (α 21) (α 24) (α 22) (α 1) (α 2) (α 19) (α 6) p1 p2 = some (r, st2) := by
    obtain ⟨⟨hn, hd, e2, e3, m0, m8⟩, -⟩ := id hV
    unfold f_X7_odds f_X8_odds
    rw [e2, m0, e3, m8]
    rcases n_cases p1 n (by omega) with ⟨p, hp, rfl⟩ | hp
    · rw [has_yes hp hn, Option.bind_some, if_neg i_10, isOne_yes hp hn, Option.bind_some, if_neg i_10]
      by_cases h2 : 2 ≤ n
      · have c2 : (2 : Int32) ≤ nI n := by rw [n_leT, n_toInt (by omega)]; show (2 : Int) ≤ n; omega
        rw [if_pos c2, if_pos c2]
        obtain ⟨E, -, -, -, hE⟩ := enemies_eq hC hM hV (q := p) hp (d := d) (by omega)
        obtain ⟨fa2, st2, hx, hm⟩ := hE (φ 5) (α 24)
        rw [hx, hm, Option.bind_some, Option.bind_some]
        obtain ⟨s, hs, hl⟩ := odds_loop (p := p) hn p2 (nI E) n 0 0 (by omega) (by omega)
        obtain ⟨g1, g2⟩ := hl 1000 (by omega) fa2 st2
        rw [show f_X7_odds_48 (nI n) (nI p) p2 1000 (nI E) 0 0 fa2 = _ from g1, show f_X8_odds_45 (nI n) (nI p) p2 1000 (nI E) 0 0 st2 = _ from g2, n_p1 (by omega)]
        rcases n_cases p2 2 (by omega) with ⟨t, ht, rfl⟩ | h
        · obtain ⟨v, f1, f2⟩ := fraction_eq (s := s) (n := n - 1) (t := t) (by omega) (by omega) (by omega) (by omega)
          rw [wi_yes (c := 1) (by show (t : Int) ≤ 1; omega) (by omega), Option.bind_some, if_neg i_10, f1, f2]
          exact ⟨_, _, _, rfl, rfl⟩
        · rw [within_no (by show p2.toInt < 0 ∨ (1 : Int) < p2.toInt; omega), Option.bind_some, if_pos rfl]
          unfold f_X7_fraction
          rw [le_no (c := 1) (by show p2.toInt < 0 ∨ (1 : Int) < p2.toInt; omega)]
          split
          · exact ⟨_, _, _, rfl, rfl⟩
          · exact ⟨_, _, _, rfl, rfl⟩
      · have c2 : ¬ (2 : Int32) ≤ nI n := by rw [n_leT, n_toInt (by omega)]; show ¬ (2 : Int) ≤ n; omega
        rw [if_neg c2, if_neg c2]
        rcases n_cases p2 2 (by omega) with ⟨t, ht, rfl⟩ | h
        · rw [wi_yes (c := 1) (by show (t : Int) ≤ 1; omega) (by omega), Option.bind_some, if_neg i_10]
          exact ⟨_, _, _, rfl, rfl⟩
        · rw [within_no (by show p2.toInt < 0 ∨ (1 : Int) < p2.toInt; omega), Option.bind_some, if_pos rfl]
          exact ⟨_, _, _, rfl, rfl⟩
    · rw [has_no hp hn, Option.bind_some, if_pos rfl, isOne_no hp hn, Option.bind_some, if_pos rfl]
      exact ⟨_, _, _, rfl, rfl⟩
  obtain ⟨r, fa2, st2, hx, hm⟩ := key
  subst hnh
  refine ⟨r, (σ, va_up φ 5 fa2, τ, A.2.2.1 k, kh, ah), (μ, va_up α 24 st2, ι), LX_odds _ _ _ _ _ _ _ _ _ _ _ _ _ _ k hk7 hx, L_M_odds _ _ _ _ _ _ _ _ _ _ hm, ?_⟩
  exact ⟨n, d, cnt, w, nd, hV, hl, hT, hH, hK, hX, hP.keep rfl (fun _ _ _ => rfl) (fun i h1 h2 => if_neg (by omega)) rfl rfl (fun i h1 h2 => if_neg (by omega)), hA, hTp.keep (fun _ _ => rfl) rfl rfl rfl rfl⟩
