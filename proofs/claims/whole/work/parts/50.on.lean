-- WHAT IS ASKED OF THE WEEKS: on, mean, melts, of, told (0 to 3)
def MB (σ : Sto) (wm : (Nat → Int32) → Int32) (sn : Int32) (k T : Nat) : Prop := PH σ wm sn k ∧ (0 ≤ sn ∧ sn ≤ 99) ∧ T ≤ 6 ∧ σ.1 8 0 0 = nI T ∧ (0 ≤ σ.1 8 6 0 ∧ σ.1 8 6 0 ≤ 9999) ∧ ∀ q, q < 6 → 0 ≤ σ.2.1 8 4 0 q ∧ σ.2.1 8 4 0 q ≤ 99
theorem MB_of {σ : Sto} {wm : (Nat → Int32) → Int32} {sn : Int32} {k T : Nat} (B : Base σ wm sn k T) : MB σ wm sn k T := ⟨B.1, B.2.1, B.2.2.1, B.2.2.2.1, B.2.2.2.2.2.2.1, fun q hq => (B.2.2.2.2.2.2.2 q hq).2.2⟩
theorem MB_s {σ s : Sto} {wm : (Nat → Int32) → Int32} {sn : Int32} {k T n : Nat} (B : MB σ wm sn k T) (hn : n < 100) (g : Gw wm sn σ T n s) : ∃ τ, f_X8_goesWeek s = some τ ∧ Gw wm sn σ T (n + 1) τ := Gw_s B.1 B.2.1 B.2.2.2.1 B.2.2.1 B.2.2.2.2.1 B.2.2.2.2.2 hn g
theorem Base_ak {σ s : Sto} {wm : (Nat → Int32) → Int32} {sn : Int32} {k T : Nat} (B : Base σ wm sn k T) (e : FrE akF akA [] σ s) : Base s wm sn k T := by
  obtain ⟨f1, f2, f3, f4⟩ := Base_f B e
  obtain ⟨h1, h2, h3, h4, h5, h6, h7, h8⟩ := B
  have t : ∀ q, tM s q = tM σ q := tM_fr e (by decide) (by decide) (by decide) (by decide)
  refine ⟨f1, h2, h3, by rw [e.1 8 0 0 (by decide), h4], f3, by rw [f2, e.1 8 6 0 (by decide)], by rw [e.1 8 6 0 (by decide)]; exact h7, fun q hq => ?_⟩
  rw [(f4 q hq).1, (f4 q hq).2, t, e.2.1 8 4 0 (by decide)]
  exact ⟨rfl, rfl, (h8 q hq).2.2⟩
theorem Dp_fr {fs as ls : List (Nat × Nat × Nat)} {σ s : Sto} {wm : (Nat → Int32) → Int32} {sn : Int32} {N p : Nat} (e : FrE fs as ls σ s) (h0 : (8, 6, 0) ∉ fs) (h1 : (8, 1, 0) ∉ as) (h2 : (8, 2, 0) ∉ as) (h3 : (8, 3, 0) ∉ as) (h4 : (8, 4, 0) ∉ as) (h5 : (8, 5, 0) ∉ as) : Dp wm sn s N p = Dp wm sn σ N p := by
  unfold Dp
  rw [tM_fr e h1 h2 h3 h5, e.1 8 6 0 h0, e.2.1 8 4 0 h4]
theorem ask_step {σ σ1 σ2 : Sto} (h : Inv σ) (e1 : FrE akF akA [] σ σ1) (e2 : FrE agF amA [] σ1 σ2) (hs : ∀ i, i < 105 → snapM σ2 i = snapM σ1 i) : Inv σ2 := Inv_am (Inv_ak h e1) e2 hs
abbrev xxA : List (Nat × Nat × Nat) := agA ++ [(8, 22, 0), (8, 39, 0)]
/-- keep(): the rows as they were, the copy beside them -/
theorem keep_B {σ : Sto} {wm : (Nat → Int32) → Int32} {sn : Int32} {k T : Nat} (B : MB σ wm sn k T) : ∃ τ, f_X8_keep_38 σ = some τ ∧ MB τ wm sn k T ∧ FrE agF amA [] σ τ ∧ (∀ N p, Dp wm sn τ N p = Dp wm sn σ N p) ∧ (∀ i, i < 105 → τ.2.1 8 37 0 i = snapM σ i) ∧ FrE [] [(8, 37, 0)] [] σ τ := by
  obtain ⟨τ, h1, e, h3⟩ := keep38_eq σ
  obtain ⟨b1, b2, b3, b4, b5, b6⟩ := B
  refine ⟨τ, h1, ⟨PH_fr b1 e (by decide) (by decide), b2, b3, by rw [e.1 8 0 0 (by decide), b4], by rw [e.1 8 6 0 (by decide)]; exact b5, by rw [e.2.1 8 4 0 (by decide)]; exact b6⟩, e.mono (by decide) (by decide) (by decide), fun N p => Dp_fr e (by decide) (by decide) (by decide) (by decide) (by decide) (by decide), h3, e⟩
theorem again_B {σ s : Sto} (e : FrE agF amA [] σ s) (ha : ∀ i, i < 105 → s.2.1 8 37 0 i = snapM σ i) : ∃ τ, f_X8_again_38 s = some τ ∧ FrE agF amA [] σ τ ∧ (∀ i, i < 105 → snapM τ i = snapM σ i) := by
  obtain ⟨τ, h1, h2, h3⟩ := again38_eq s
  exact ⟨τ, h1, e.trans (h2.mono (by decide) (by decide) (by decide)), fun i hi => by rw [h3 i hi, ha i hi]⟩
theorem Gw_am {wm : (Nat → Int32) → Int32} {sn : Int32} {σ s : Sto} {T n : Nat} (g : Gw wm sn σ T n s) : FrE agF amA [] σ s := g.1.mono (by decide) (by decide) (by decide)
theorem Gw_ahead {wm : (Nat → Int32) → Int32} {sn : Int32} {σ s : Sto} {T n : Nat} (g : Gw wm sn σ T n s) : s.2.1 8 37 0 = σ.2.1 8 37 0 := g.1.2.1 8 37 0 (by decide)
theorem Gw_d {wm : (Nat → Int32) → Int32} {sn : Int32} {σ s : Sto} {T n q : Nat} (g : Gw wm sn σ T n s) (hT : T ≤ 6) (hq : q < T) : s.2.1 8 4 0 q = Dp wm sn σ n q := by
  rw [g.2.2 q (by omega), if_pos hq]
  rfl
theorem wl_on {σ : Sto} {wm : (Nat → Int32) → Int32} {sn : Int32} {k T N : Nat} (x2 : Int32) (B : MB σ wm sn k T) (hN : N ≤ 60) : ∀ (d j : Nat), j + d = N → ∀ n, d < n → ∀ s, Gw wm sn σ T j s → ∃ s', Gw wm sn σ T N s' ∧ f_X8_on_L40 n s (nI N) x2 (nI j) = f_X8_on_B40 (fun _ _ _ _ => none) s' (nI N) x2 (nI N) := by
  intro d
  induction d with
  | zero =>
    intro j hj n hn s g
    obtain ⟨n, rfl⟩ : ∃ q, n = q + 1 := ⟨n - 1, by omega⟩
    have hj2 : j = N := by omega
    subst hj2
    refine ⟨s, g, ?_⟩
    show f_X8_on_B40 _ s (nI j) x2 (nI j) = _
    unfold f_X8_on_B40
    have hle : nI j ≤ nI j := by grind
    rw [if_pos hle, if_pos hle]
  | succ d ih =>
    intro j hj n hn s g
    obtain ⟨n, rfl⟩ : ∃ q, n = q + 1 := ⟨n - 1, by omega⟩
    obtain ⟨s1, h1, g1⟩ := MB_s B (by omega) g
    obtain ⟨s2, g2, h2⟩ := ih (j + 1) (by omega) n (by omega) s1 g1
    refine ⟨s2, g2, ?_⟩
    rw [← h2]
    show f_X8_on_B40 _ s (nI N) x2 (nI j) = _
    unfold f_X8_on_B40
    rw [if_neg (nI_ge (by omega) (by omega)), h1]
    simp only [Option.bind_some, nmI, nI_1]
theorem wl_mean {σ : Sto} {wm : (Nat → Int32) → Int32} {sn : Int32} {k T N : Nat} (x2 : Int32) (B : MB σ wm sn k T) (hN : N ≤ 60) : ∀ (d j : Nat), j + d = N → ∀ n, d < n → ∀ s, Gw wm sn σ T j s → ∃ s', Gw wm sn σ T N s' ∧ f_X8_mean_L40 n s (nI N) x2 (nI j) = f_X8_mean_B40 (fun _ _ _ _ => none) s' (nI N) x2 (nI N) := by
  intro d
  induction d with
  | zero =>
    intro j hj n hn s g
    obtain ⟨n, rfl⟩ : ∃ q, n = q + 1 := ⟨n - 1, by omega⟩
    have hj2 : j = N := by omega
    subst hj2
    refine ⟨s, g, ?_⟩
    show f_X8_mean_B40 _ s (nI j) x2 (nI j) = _
    unfold f_X8_mean_B40
    have hle : nI j ≤ nI j := by grind
    rw [if_pos hle, if_pos hle]
  | succ d ih =>
    intro j hj n hn s g
    obtain ⟨n, rfl⟩ : ∃ q, n = q + 1 := ⟨n - 1, by omega⟩
    obtain ⟨s1, h1, g1⟩ := MB_s B (by omega) g
    obtain ⟨s2, g2, h2⟩ := ih (j + 1) (by omega) n (by omega) s1 g1
    refine ⟨s2, g2, ?_⟩
    rw [← h2]
    show f_X8_mean_B40 _ s (nI N) x2 (nI j) = _
    unfold f_X8_mean_B40
    rw [if_neg (nI_ge (by omega) (by omega)), h1]
    simp only [Option.bind_some, nmI, nI_1]
theorem wl_iob {σ : Sto} {wm : (Nat → Int32) → Int32} {sn : Int32} {k T N : Nat} (x1 : Int32) (B : MB σ wm sn k T) (hN : N ≤ 60) : ∀ (d j : Nat), j + d = N → ∀ n, d < n → ∀ s, Gw wm sn σ T j s → ∃ s', Gw wm sn σ T N s' ∧ f_X8_isOutBehind_L2 n s x1 (nI N) (nI j) = f_X8_isOutBehind_B2 (fun _ _ _ _ => none) s' x1 (nI N) (nI N) := by
  intro d
  induction d with
  | zero =>
    intro j hj n hn s g
    obtain ⟨n, rfl⟩ : ∃ q, n = q + 1 := ⟨n - 1, by omega⟩
    have hj2 : j = N := by omega
    subst hj2
    refine ⟨s, g, ?_⟩
    show f_X8_isOutBehind_B2 _ s x1 (nI j) (nI j) = _
    unfold f_X8_isOutBehind_B2
    have hle : nI j ≤ nI j := by grind
    rw [if_pos hle, if_pos hle]
  | succ d ih =>
    intro j hj n hn s g
    obtain ⟨n, rfl⟩ : ∃ q, n = q + 1 := ⟨n - 1, by omega⟩
    obtain ⟨s1, h1, g1⟩ := MB_s B (by omega) g
    obtain ⟨s2, g2, h2⟩ := ih (j + 1) (by omega) n (by omega) s1 g1
    refine ⟨s2, g2, ?_⟩
    rw [← h2]
    show f_X8_isOutBehind_B2 _ s x1 (nI N) (nI j) = _
    unfold f_X8_isOutBehind_B2
    rw [if_neg (nI_ge (by omega) (by omega)), h1]
    simp only [Option.bind_some, nmI, nI_1]
theorem wl_pass {σ : Sto} {wm : (Nat → Int32) → Int32} {sn : Int32} {k T N : Nat} (B : MB σ wm sn k T) (hN : N ≤ 60) : ∀ (d j : Nat), j + d = N → ∀ n, d < n → ∀ s, Gw wm sn σ T j s → ∃ s', Gw wm sn σ T N s' ∧ f_X8_pass_L30 n s (nI N) (nI j) = f_X8_pass_B30 (fun _ _ _ => none) s' (nI N) (nI N) := by
  intro d
  induction d with
  | zero =>
    intro j hj n hn s g
    obtain ⟨n, rfl⟩ : ∃ q, n = q + 1 := ⟨n - 1, by omega⟩
    have hj2 : j = N := by omega
    subst hj2
    refine ⟨s, g, ?_⟩
    show f_X8_pass_B30 _ s (nI j) (nI j) = _
    unfold f_X8_pass_B30
    have hle : nI j ≤ nI j := by grind
    rw [if_pos hle, if_pos hle]
  | succ d ih =>
    intro j hj n hn s g
    obtain ⟨n, rfl⟩ : ∃ q, n = q + 1 := ⟨n - 1, by omega⟩
    obtain ⟨s1, h1, g1⟩ := MB_s B (by omega) g
    obtain ⟨s2, g2, h2⟩ := ih (j + 1) (by omega) n (by omega) s1 g1
    refine ⟨s2, g2, ?_⟩
    rw [← h2]
    show f_X8_pass_B30 _ s (nI N) (nI j) = _
    unfold f_X8_pass_B30
    rw [if_neg (nI_ge (by omega) (by omega)), h1]
    simp only [Option.bind_some, nmI, nI_1]
/-- on(), the reference, once n and what are as told -/
theorem on8 {σ : Sto} {wm : (Nat → Int32) → Int32} {sn : Int32} {k T N : Nat} (B : MB σ wm sn k T) (hN : N ≤ 60) (x2 : Int32) (hx : x2 = 0 ∨ ∃ p, p < T ∧ x2 - 10 = nI p ∧ ¬ x2 = 0) : ∃ τ, f_X8_on_L17 σ (nI N) x2 = some ((if x2 = 0 then bitsN (Dp wm sn σ N) T else Dp wm sn σ N (x2 - 10).toNatClampNeg), τ) ∧ FrE agF amA [] σ τ ∧ (∀ i, i < 105 → snapM τ i = snapM σ i) := by
  obtain ⟨s0, k1, B0, k3, k4, k5, -⟩ := keep_B B
  have hT := B.2.2.1
  have key : ∀ M, 60 < M → ∃ τ, f_X8_on_L40 M s0 (nI N) x2 0 = some ((if x2 = 0 then bitsN (Dp wm sn σ N) T else Dp wm sn σ N (x2 - 10).toNatClampNeg), τ) ∧ FrE agF amA [] σ τ ∧ (∀ i, i < 105 → snapM τ i = snapM σ i) := by
    intro M hM
    obtain ⟨s, g, h⟩ := wl_on x2 B0 hN N 0 (by omega) M (by omega) s0 Gw_0
    rw [nI_0] at h
    obtain ⟨τ, t1, t2, t3⟩ := again_B (k3.trans (Gw_am g)) (fun i hi => by rw [Gw_ahead g, k5 i hi])
    refine ⟨τ, ?_, t2, t3⟩
    rw [h]
    unfold f_X8_on_B40 f_X8_on_L75
    have hle : nI N ≤ nI N := by grind
    rw [if_pos hle]
    by_cases h0 : x2 = 0
    · rw [if_pos h0, if_pos h0, outs_eq (T := T) (by rw [g.1.1 8 0 0 (by decide)]; exact B0.2.2.2.1) hT]
      simp only [Option.bind_some, t1]
      rw [bitsN_c T (fun q hq => (Gw_d g hT hq).trans (k4 N q))]
    · rcases hx with hx | ⟨p, hp, he, -⟩
      · exact absurd hx h0
      · have a1 : (0 : Int32) ≤ nI p ∧ nI p < 6 := nI_r (N := 6) (by omega) (by decide)
        rw [if_neg h0, if_neg h0, he, if_pos a1, nI_clamp (by omega), t1, Gw_d g hT hp, k4]
        rfl
  unfold f_X8_on_L17
  rw [within_eq, if_pos (by
    have := nI_leI (a := N) (b := 60) (by omega) (by decide)
    exact ⟨nI_n0 (by omega), this.mpr hN⟩)]
  simp only [Option.bind_some, h10, if_false, k1]
  exact key 1000 (by decide)
theorem on_step {σ : Sto} (h : Inv σ) (n x : Int32) : ∃ r σ1 σ2, f_X7_on σ n x = some (r, σ1) ∧ f_X8_on σ1 n x = some (r, σ2) ∧ Inv σ2 := by
  obtain ⟨wm, sn, k, T, B⟩ := base_of h
  have hT := B.2.2.1
  have hT8 := B.2.2.2.1
  have hT6 := B.2.2.2.2.1
  have hTb : 0 ≤ nI T ∧ nI T ≤ 6 := ⟨nI_n0 (by omega), (nI_leI (a := T) (b := 6) (by omega) (by decide)).mpr hT⟩
  unfold f_X7_on f_X7_on_L21 f_X7_on_L22 f_X7_on_L33 f_X8_on
  simp only [isUpTo_eq, isThing_eq, Option.bind_some, hT6]
  have hno : ∀ σ1, FrE akF akA [] σ σ1 → ¬ (0 ≤ n ∧ n ≤ 60) → f_X8_on_L17 σ1 n x = some (-2, σ1) := by
    intro σ1 _ hn
    unfold f_X8_on_L17
    rw [within_eq, if_neg hn]
    simp only [Option.bind_some, if_true]
  by_cases hx0 : x = 0
  · subst hx0
    by_cases hn : 0 ≤ n ∧ n ≤ 60
    · obtain ⟨N, hN, rfl⟩ := i32_range (N := 61) (by decide) hn.1 (by have := hn.2; grind)
      obtain ⟨σ1, c1, c2⟩ := outBits_eq (N := N) B (by omega) FrE.rfl'
      obtain ⟨σ2, m1, m2, m3⟩ := on8 (MB_of (Base_ak B c2)) (show N ≤ 60 by omega) 0 (Or.inl rfl)
      refine ⟨bitsN (Dp wm sn σ N) T, σ1, σ2, ?_, ?_, ask_step h c2 m2 m3⟩
      · simp only [show (0 : Int32) < 10 by decide, hn, and_self, if_true, h10, if_false, c1, Option.bind_some]
      · rw [if_pos rfl, m1, if_pos rfl]
        rw [bitsN_c T (fun q _ => Dp_fr c2 (by decide) (by decide) (by decide) (by decide) (by decide) (by decide))]
    · refine ⟨-2, σ, σ, ?_, ?_, h⟩
      · simp only [show (0 : Int32) < 10 by decide, hn, if_true, if_false]
      · rw [if_pos rfl, hno σ FrE.rfl' hn]
  · by_cases hp : 0 ≤ x - 10 ∧ x - 10 < nI T
    · obtain ⟨p, hp6, hpe⟩ := i32_range (N := 6) (x := x - 10) (by decide) hp.1 (by have := hp.2; grind)
      have hpT : p < T := by
        have := hp.2
        rw [hpe] at this
        exact (nI_ltI (by omega) (by omega)).mp this
      have hx10 : ¬ x < 10 := by
        have : x = nI p + 10 := by rw [← hpe]; grind
        have h2 := nI_r (N := 6) hp6 (by decide)
        have h3 : nI p < 6 := h2.2
        have h4 := h2.1
        grind
      by_cases hn : 0 ≤ n ∧ n ≤ 60
      · obtain ⟨N, hN, rfl⟩ := i32_range (N := 61) (by decide) hn.1 (by have := hn.2; grind)
        obtain ⟨σ1, c1, c2⟩ := db_eq (N := N) B FrE.rfl' hp6 (by omega)
        have B1 := Base_ak B c2
        obtain ⟨σ2, m1, m2, m3⟩ := on8 (MB_of B1) (show N ≤ 60 by omega) x (Or.inr ⟨p, hpT, hpe, hx0⟩)
        refine ⟨Dp wm sn σ N p, σ1, σ2, ?_, ?_, ask_step h c2 m2 m3⟩
        · simp only [hx10, hp, hn, and_self, if_true, h10, if_false, hx0, Option.bind_some]
          rw [hpe, c1]
          simp only [Option.bind_some]
        · rw [if_neg hx0, isOne_le (by rw [B1.2.2.2.1]; exact hTb.1) (by rw [B1.2.2.2.1]; exact hTb.2), B1.2.2.2.1, if_pos hp]
          simp only [Option.bind_some, h10, if_false]
          rw [m1, if_neg hx0, hpe, nI_clamp (by omega), Dp_fr c2 (by decide) (by decide) (by decide) (by decide) (by decide) (by decide)]
      · refine ⟨-2, σ, σ, ?_, ?_, h⟩
        · simp only [hx10, hp, hn, and_self, if_true, h10, if_false, hx0]
        · rw [if_neg hx0, isOne_le (by rw [hT8]; exact hTb.1) (by rw [hT8]; exact hTb.2), hT8, if_pos hp]
          simp only [Option.bind_some, h10, if_false]
          rw [hno σ FrE.rfl' hn]
    · refine ⟨-1, σ, σ, ?_, ?_, h⟩
      · by_cases hx10 : x < 10
        · simp only [hx10, hx0, if_true, if_false]
        · simp only [hx10, hp, hx0, if_true, if_false]
      · rw [if_neg hx0, isOne_le (by rw [hT8]; exact hTb.1) (by rw [hT8]; exact hTb.2), hT8, if_neg hp]
        simp only [Option.bind_some, if_true]
