-- a contract over a part of a world is one over the whole world
theorem k_lift {G : Gx} {av : List Value} {W0 W1 ws ws' : va_W} {sz : Nat} {isC : List Nat} {ks : List (Option Nat)} {nw : Nat} (hC : isC.map (fun i => ws[i]?) = W0.map some) (hn : va_nd isC = true) (hks : k_ks isC nw = ks) (hAd : W1.map Prod.fst = W0.map Prod.fst) (hw : k_mix ks W1 ws = ws') :
    (∀ q, va_A W0 sz q → va_A ws sz q) ∧ (∀ (a : Array Value) (s : State), k_Pc G av ws sz a s → k_Pc G av W0 sz a s) ∧ (∀ (s t : State), s.heap.size = sz → va_P G.1 vwCl ws s.heap → va_D (fun _ => True) ws → va_F (va_A W0 sz) s t → k_B G W0 W1 sz () t → k_B G ws ws' sz () t ∧ va_F (va_A ws sz) s t) := by
  have hA : ∀ q, va_A W0 sz q → va_A ws sz q := by
    intro q h
    rcases h with ⟨k, e, h⟩ | h
    · obtain ⟨k2, -, h2⟩ := k_at' hC h
      exact Or.inl ⟨k2, e, h2⟩
    · exact Or.inr h
  refine ⟨hA, fun a s h => ?_, fun s t hz hP hD hF hB => ?_⟩
  · obtain ⟨h0, h1, h2, h3, h4, h5⟩ := h
    refine ⟨h0, h1, fun k q hq => ?_, h3, h4.sub isC hn hC, h5.narrow hA⟩
    obtain ⟨i, -, h6⟩ := k_at' hC hq
    exact h2 i q h6
  · obtain ⟨b1, b2, b3⟩ := hB
    subst hz
    have hDs : va_D (va_A ws s.heap.size) ws := hD.self
    obtain ⟨p1, p2⟩ := k_frame hP hDs hC hks (fun q h1 h2 => hF.2 q h1 h2) b1 hAd
    rw [hw] at p1 p2
    exact ⟨⟨p1, b2, p2⟩, hF.1, fun q h1 h2 => hF.2 q h1 (fun z => h2 (hA q z))⟩
theorem MI.lift {G : Gx} {l : Launch} {y : MethodName} {cy : ByteArray} {nL lv : Nat} {av : List Value} {W0 W1 ws ws' : va_W} {rt : FieldType} {r : Int32} (h : MI G l y cy nL rt lv av W0 W1 r) (isC : List Nat) (ks : List (Option Nat)) (nw : Nat) (hC : isC.map (fun i => ws[i]?) = W0.map some) (hn : va_nd isC = true) (hks : k_ks isC nw = ks) (hAd : W1.map Prod.fst = W0.map Prod.fst) (hw : k_mix ks W1 ws = ws') : MI G l y cy nL rt lv av ws ws' r := by
  intro sz p e ha hc hk s m args below hf happ hP hT
  obtain ⟨l1, l2, l3⟩ := k_lift (G := G) (av := av) (sz := sz) hC hn hks hAd hw
  obtain ⟨n, oc, a1, a2, a3, ⟨⟨r2, u, ho, hr, hB⟩, hF⟩, L, b1, b2⟩ := h sz p e ha hc hk s m args below hf happ (l2 _ _ hP) hT
  cases u
  obtain ⟨h0, h1, h2, h3, h4, h5⟩ := hP
  obtain ⟨g1, g2⟩ := l3 s _ h1 h2 h4 hF hB
  exact ⟨n, oc, a1, a2, a3, ⟨⟨r2, (), ho, hr, g1⟩, g2⟩, L, b1, fun q hq => l1 _ (b2 q hq)⟩
theorem ML.lift {G : Gx} {l : Launch} {y : MethodName} {cy : ByteArray} {nL lv : Nat} {av : List Value} {W0 W1 ws ws' : va_W} {rt : FieldType} {r : Int64} (h : ML G l y cy nL rt lv av W0 W1 r) (isC : List Nat) (ks : List (Option Nat)) (nw : Nat) (hC : isC.map (fun i => ws[i]?) = W0.map some) (hn : va_nd isC = true) (hks : k_ks isC nw = ks) (hAd : W1.map Prod.fst = W0.map Prod.fst) (hw : k_mix ks W1 ws = ws') : ML G l y cy nL rt lv av ws ws' r := by
  intro sz p e ha hc hk s m args below hf happ hP hT
  obtain ⟨l1, l2, l3⟩ := k_lift (G := G) (av := av) (sz := sz) hC hn hks hAd hw
  obtain ⟨n, oc, a1, a2, a3, ⟨⟨r2, u, ho, hr, hB⟩, hF⟩, L, b1, b2⟩ := h sz p e ha hc hk s m args below hf happ (l2 _ _ hP) hT
  cases u
  obtain ⟨h0, h1, h2, h3, h4, h5⟩ := hP
  obtain ⟨g1, g2⟩ := l3 s _ h1 h2 h4 hF hB
  exact ⟨n, oc, a1, a2, a3, ⟨⟨r2, (), ho, hr, g1⟩, g2⟩, L, b1, fun q hq => l1 _ (b2 q hq)⟩
theorem MV.lift {G : Gx} {l : Launch} {y : MethodName} {cy : ByteArray} {nL lv : Nat} {av : List Value} {W0 W1 ws ws' : va_W} (h : MV G l y cy nL lv av W0 W1) (isC : List Nat) (ks : List (Option Nat)) (nw : Nat) (hC : isC.map (fun i => ws[i]?) = W0.map some) (hn : va_nd isC = true) (hks : k_ks isC nw = ks) (hAd : W1.map Prod.fst = W0.map Prod.fst) (hw : k_mix ks W1 ws = ws') : MV G l y cy nL lv av ws ws' := by
  intro sz p e ha hc hk s m args below hf happ hP hT
  obtain ⟨l1, l2, l3⟩ := k_lift (G := G) (av := av) (sz := sz) hC hn hks hAd hw
  obtain ⟨n, oc, a1, a2, a3, ⟨⟨u, ho, hr, hB⟩, hF⟩, L, b1, b2⟩ := h sz p e ha hc hk s m args below hf happ (l2 _ _ hP) hT
  cases u
  obtain ⟨h0, h1, h2, h3, h4, h5⟩ := hP
  obtain ⟨g1, g2⟩ := l3 s _ h1 h2 h4 hF hB
  exact ⟨n, oc, a1, a2, a3, ⟨⟨(), ho, hr, g1⟩, g2⟩, L, b1, fun q hq => l1 _ (b2 q hq)⟩
