-- WHAT IS ASKED CHANGES NOTHING: frames of both, and the relation behind them
abbrev akF : List (Nat × Nat × Nat) := [(5, 0, 2), (5, 1, 2), (5, 2, 2), (5, 3, 2), (5, 4, 2)]
abbrev akA : List (Nat × Nat × Nat) := [(5, 5, 2), (5, 6, 2), (5, 6, 0), (7, 4, 0)]
abbrev amA : List (Nat × Nat × Nat) := agA ++ [(8, 37, 0), (8, 22, 0), (8, 39, 0), (8, 38, 0)]
theorem Inv_ak {σ σ' : Sto} (h : Inv σ) (e : FrE akF akA [] σ σ') : Inv σ' := by
  obtain ⟨⟨h1, h2, h3, h4, h5⟩, h6, h7, h8, h9, h10, h11⟩ := h
  exact ⟨⟨Wt_fr h1 e (by decide) (by decide), Wn_fr h2 e (by decide), Ws_fr h3 e (by decide) (by decide), Wp_fr h4 e (by decide) (by decide), Wb_fr h5 e (by decide) (by decide)⟩, I_tx_fr h6 e (by decide) (by decide), I_ac_fr h7 e (by decide) (by decide), I_tp_fr h8 e (by decide) (by decide) (by decide), Im_fr h9 e (by decide) (by decide), Pc_fr h10 e (by decide), Ps_fr h11 e (by decide) (by decide)⟩
theorem RW_congr {σ : Sto} {w : Nat} {s s' : Nat → Int32} (h : RW σ w s) (e : ∀ i, i < 105 → s' i = s i) : RW σ w s' := by
  obtain ⟨h1, h2, h3, h4, h5⟩ := h
  refine ⟨?_, ?_, ?_, ?_, ?_⟩
  · intro p hp
    have h := h1 p hp
    rw [e p (by omega), e (6 + p) (by omega), e (12 + p) (by omega), e (18 + p) (by omega)]
    refine ⟨h.1, h.2.1, h.2.2.1, h.2.2.2.1, h.2.2.2.2.1, fun j hj => ?_⟩
    rw [e (24 + (4 * p + j)) (by omega)]
    exact h.2.2.2.2.2 j hj
  · unfold RWn at *
    rw [e 99 (by omega), e 100 (by omega), e 104 (by omega)]
    exact h2
  · unfold RWs at *
    rw [e 101 (by omega)]
    refine ⟨h3.1, fun j hj h => ?_⟩
    rw [e (48 + j) (by omega), e (53 + j) (by omega), e (58 + j) (by omega)]
    exact h3.2 j hj h
  · unfold RWp at *
    rw [e 102 (by omega), e 99 (by omega)]
    refine ⟨h4.1, fun j hj h => ?_⟩
    rw [e (63 + j) (by omega), e (73 + j) (by omega)]
    exact h4.2 j hj h
  · unfold RWb at *
    rw [e 103 (by omega), e 99 (by omega)]
    refine ⟨h5.1, fun j hj h => ?_⟩
    rw [e (83 + j) (by omega), e (91 + j) (by omega)]
    exact h5.2 j hj h
abbrev bf_R0 (x : Nat × Nat × Nat) : Prop := (x.1 = 5 ∧ x.2.2 = 0) ∨ (x.1 = 6 ∧ x.2.2 = 0) ∨ (x.1 = 2 ∧ x.2.2 = 0) ∨ (x.1 = 7 ∧ x.2.1 = 7)
abbrev ba_R0 (x : Nat × Nat × Nat) : Prop := (x.1 = 5 ∧ x.2.1 = 5 ∧ x.2.2 = 0) ∨ (x.1 = 2 ∧ x.2.2 = 0)
theorem RW0_fr {fs as ls : List (Nat × Nat × Nat)} {σ σ' : Sto} {s : Nat → Int32} (h : RW σ 0 s) (e : FrE fs as ls σ σ') (hf : ∀ x ∈ fs, ¬ bf_R0 x) (ha : ∀ x ∈ as, ¬ ba_R0 x) : RW σ' 0 s := by
  obtain ⟨h1, h2, h3, h4, h5⟩ := h
  refine ⟨?_, ?_, ?_, ?_, ?_⟩
  · intro p hp
    have g : grp 5 (6 * 0 + p) = 0 := by rw [Nat.mul_zero, Nat.zero_add]; exact grp5a hp
    rw [e.f (c := 5) (k := 0) (i := 6 * 0 + p) hf (Or.inl ⟨rfl, g⟩), e.f (c := 5) (k := 1) (i := 6 * 0 + p) hf (Or.inl ⟨rfl, g⟩), e.f (c := 5) (k := 2) (i := 6 * 0 + p) hf (Or.inl ⟨rfl, g⟩), e.f (c := 5) (k := 3) (i := 6 * 0 + p) hf (Or.inl ⟨rfl, g⟩), e.f (c := 5) (k := 4) (i := 6 * 0 + p) hf (Or.inl ⟨rfl, g⟩), e.a (c := 5) (k := 5) (i := 6 * 0 + p) ha (Or.inl ⟨rfl, rfl, g⟩)]
    exact h1 p hp
  · unfold RWn at *
    rw [e.f (c := 6) (k := 1) (i := 0) hf (by decide), e.f (c := 6) (k := 2) (i := 0) hf (by decide), e.f (c := 6) (k := 3) (i := 0) hf (by decide), e.f (c := 7) (k := 7) (i := 0) hf (by decide)]
    exact h2
  · unfold RWs at *
    rw [e.f (c := 2) (k := 0) (i := 3 * 0) hf (by decide), e.f (c := 2) (k := 4) (i := 3 * 0) hf (by decide), e.a (c := 2) (k := 1) (i := 3 * 0) ha (by decide), e.a (c := 2) (k := 2) (i := 3 * 0) ha (by decide), e.a (c := 2) (k := 3) (i := 3 * 0) ha (by decide)]
    exact h3
  · unfold RWp at *
    rw [e.f (c := 2) (k := 0) (i := 3 * 0 + 1) hf (by decide), e.f (c := 2) (k := 4) (i := 3 * 0 + 1) hf (by decide), e.a (c := 2) (k := 1) (i := 3 * 0 + 1) ha (by decide), e.a (c := 2) (k := 2) (i := 3 * 0 + 1) ha (by decide)]
    exact h4
  · unfold RWb at *
    rw [e.f (c := 2) (k := 0) (i := 3 * 0 + 2) hf (by decide), e.f (c := 2) (k := 4) (i := 3 * 0 + 2) hf (by decide), e.a (c := 2) (k := 1) (i := 3 * 0 + 2) ha (by decide), e.a (c := 2) (k := 2) (i := 3 * 0 + 2) ha (by decide)]
    exact h5
theorem Inv_am {σ σ' : Sto} (h : Inv σ) (e : FrE agF amA [] σ σ') (hs : ∀ i, i < 105 → snapM σ' i = snapM σ i) : Inv σ' := by
  obtain ⟨hw, h6, h7, h8, h9, h10, h11⟩ := h
  refine ⟨W0_of.mp (RW_congr (RW0_fr (W0_of.mpr hw) e (by decide) (by decide)) hs), I_tx_fr h6 e (by decide) (by decide), I_ac_fr h7 e (by decide) (by decide), I_tp_fr h8 e (by decide) (by decide) (by decide), Im_fr h9 e (by decide) (by decide), Pc_fr h10 e (by decide), Ps_fr h11 e (by decide) (by decide)⟩
/-- what all that is asked rests on -/
def Base (σ : Sto) (wm : (Nat → Int32) → Int32) (sn : Int32) (k T : Nat) : Prop := PH σ wm sn k ∧ (0 ≤ sn ∧ sn ≤ 99) ∧ T ≤ 6 ∧ σ.1 8 0 0 = nI T ∧ σ.1 6 1 0 = nI T ∧ σ.1 6 2 0 = σ.1 8 6 0 ∧ (0 ≤ σ.1 8 6 0 ∧ σ.1 8 6 0 ≤ 9999) ∧ ∀ q, q < 6 → tC σ q = tM σ q ∧ σ.1 5 4 q = σ.2.1 8 4 0 q ∧ 0 ≤ σ.2.1 8 4 0 q ∧ σ.2.1 8 4 0 q ≤ 99
theorem base_of {σ : Sto} (h : Inv σ) : ∃ wm sn k T, Base σ wm sn k T := by
  obtain ⟨wm, sn, k, h1, h2⟩ := ph_of h
  obtain ⟨⟨ht, ⟨⟨n1, n2, n3⟩, ⟨w1, w2, w3⟩, -⟩, -⟩, -⟩ := h
  obtain ⟨T, hT, hTe⟩ := i32_range (N := 7) (x := σ.1 8 0 0) (by decide) n2 (by grind)
  refine ⟨wm, sn, k, T, h1, h2, by omega, hTe, by rw [n1, hTe], w1, ⟨w2, w3⟩, fun q hq => ?_⟩
  obtain ⟨e1, e2⟩ := t_eq ht hq
  obtain ⟨-, -, -, -, ⟨-, d2, d3⟩, -⟩ := ht q hq
  exact ⟨e1, e2, d2, d3⟩
/-- DEPTH of a THING n WEEKS on -/
def Dp (wm : (Nat → Int32) → Int32) (sn : Int32) (σ : Sto) (n p : Nat) : Int32 := dN wm sn (tM σ p) (σ.1 8 6 0) (σ.2.1 8 4 0 p) n
theorem become_eq (σ : Sto) {i j : Nat} (hij : i ≠ j) : ∃ F, f_X5_become σ i j = some (sA (sF (sF (sF (sF (sF σ 5 0 i (σ.1 5 0 j)) 5 1 i (σ.1 5 1 j)) 5 2 i (σ.1 5 2 j)) 5 3 i (σ.1 5 3 j)) 5 4 i (σ.1 5 4 j)) 5 5 i F) ∧ ∀ q, q < 4 → F q = σ.2.1 5 5 j q := by
  refine ⟨va_cpy (σ.2.1 5 5 j) (σ.2.1 5 5 i) 0 0 4, ?_, ?_⟩
  · unfold f_X5_become
    have hji : ¬ j = i := fun h => hij h.symm
    have hac : acok (0 : Int32) (0 : Int32) (4 : Int32) 4 := by decide
    simp only [nm, sF1, sF2, hji, and_false, if_false, if_pos hac]
    rfl
  · intro q hq
    unfold va_cpy
    rw [if_pos (by omega), Nat.sub_zero, Nat.zero_add]
theorem become12 {σ : Sto} {p : Nat} (hp : p < 6) : ∃ τ, f_X5_become σ 12 p = some τ ∧ FrE akF akA [] σ τ ∧ tC τ 12 = tC σ p ∧ τ.1 5 4 12 = σ.1 5 4 p := by
  obtain ⟨F, h1, h2⟩ := become_eq σ (show 12 ≠ p by omega)
  refine ⟨_, h1, (((((FrE.rfl'.sF (by decide)).sF (by decide)).sF (by decide)).sF (by decide)).sF (by decide)).sA (by decide), ?_, ?_⟩
  · unfold tC
    simp [sA1, sA2, sF1, sF2, h2]
  · simp [sA1, sF1]
theorem Base_f {σ s : Sto} {wm : (Nat → Int32) → Int32} {sn : Int32} {k T : Nat} (B : Base σ wm sn k T) (e : FrE akF akA [] σ s) : PH s wm sn k ∧ s.1 6 2 0 = σ.1 8 6 0 ∧ s.1 6 1 0 = nI T ∧ ∀ q, q < 6 → tC s q = tM σ q ∧ s.1 5 4 q = σ.2.1 8 4 0 q := by
  obtain ⟨h1, h2, h3, h4, h5, h6, h7, h8⟩ := B
  refine ⟨PH_fr h1 e (by decide) (by decide), by rw [e.1 6 2 0 (by decide), h6], by rw [e.1 6 1 0 (by decide), h5], fun q hq => ?_⟩
  obtain ⟨a1, a2, -⟩ := h8 q hq
  have g := grp5a hq
  have nf : ∀ j, (5, j, grp 5 q) ∉ akF := by intro j; rw [g]; simp [akF]
  have na : (5, 5, grp 5 q) ∉ akA := by rw [g]; decide
  rw [← a1, ← a2]
  unfold tC
  rw [e.1 5 0 q (nf 0), e.1 5 1 q (nf 1), e.1 5 2 q (nf 2), e.1 5 3 q (nf 3), e.1 5 4 q (nf 4), e.2.1 5 5 q na]
  exact ⟨rfl, rfl⟩
theorem db_eq {σ s : Sto} {wm : (Nat → Int32) → Int32} {sn : Int32} {k T p N : Nat} (B : Base σ wm sn k T) (e : FrE akF akA [] σ s) (hp : p < 6) (hN : N ≤ 60) : ∃ s', f_X7_depthBehind s (nI p) (nI N) = some (Dp wm sn σ N p, s') ∧ FrE akF akA [] σ s' := by
  obtain ⟨f1, f2, f3, f4⟩ := Base_f B e
  obtain ⟨τ, t1, t2, t3, t4⟩ := become12 (σ := s) hp
  have e2 := e.trans t2
  obtain ⟨g1, g2, g3, g4⟩ := Base_f B e2
  obtain ⟨F, hF⟩ := goWeeks_eq (i := 12) g1 B.2.1 (by rw [g2]; exact B.2.2.2.2.2.2.1) hN
  refine ⟨_, ?_, (e2.sA (c := 5) (k := 6) (i := 12) (v := F) (by decide)).sF (c := 5) (k := 4) (i := 12) (v := dN wm sn (tC τ 12) (τ.1 6 2 0) (τ.1 5 4 12) N) (by decide)⟩
  unfold f_X7_depthBehind
  have a1 : (0 : Int32) ≤ nI p ∧ nI p < 6 := nI_r (N := 6) hp (by decide)
  rw [if_pos a1, nI_clamp (by omega), Nat.mul_zero, Nat.zero_add, t1]
  simp only [Option.bind_some]
  rw [hF]
  simp only [Option.bind_some]
  rw [sF_at]
  unfold Dp
  rw [t3, t4, (f4 p hp).1, (f4 p hp).2, g2]
def tw (w : Int32) (num : Int32) (t : Th) : Th := if w = 0 then (t.1, t.2.1, t.2.2.1, num, t.2.2.2.2) else if w = 1 then t else (t.1, t.2.1, num, t.2.2.2)
def dw (w num d : Int32) : Int32 := if w = 0 then d else if w = 1 then num else d
theorem iw_eq {σ s : Sto} {wm : (Nat → Int32) → Int32} {sn : Int32} {k T p N : Nat} (w num : Int32) (B : Base σ wm sn k T) (e : FrE akF akA [] σ s) (hp : p < 6) (hN : N ≤ 60) : ∃ s', f_X7_isOutWith s (nI p) w num (nI N) = some ((if dN wm sn (tw w num (tM σ p)) (σ.1 8 6 0) (dw w num (σ.2.1 8 4 0 p)) N = 0 then 1 else 0), s') ∧ FrE akF akA [] σ s' := by
  obtain ⟨f1, f2, f3, f4⟩ := Base_f B e
  obtain ⟨τ, t1, t2, t3, t4⟩ := become12 (σ := s) hp
  obtain ⟨υ, u1, u2, u3, u4⟩ : ∃ υ, f_X5_put τ 12 w num = some υ ∧ FrE akF akA [] τ υ ∧ tC υ 12 = tw w num (tC τ 12) ∧ υ.1 5 4 12 = dw w num (τ.1 5 4 12) := by
    unfold f_X5_put tw dw nm
    by_cases h0 : w = 0
    · simp only [if_pos h0]
      exact ⟨_, rfl, FrE.rfl'.sF (by decide), by simp [tC, sF1, sF2], by simp [sF1]⟩
    · simp only [if_neg h0]
      by_cases h1 : w = 1
      · simp only [if_pos h1]
        exact ⟨_, rfl, FrE.rfl'.sF (by decide), by simp [tC, sF1, sF2], by simp [sF1]⟩
      · simp only [if_neg h1]
        exact ⟨_, rfl, FrE.rfl'.sF (by decide), by simp [tC, sF1, sF2], by simp [sF1]⟩
  have e2 := (e.trans t2).trans u2
  obtain ⟨g1, g2, g3, g4⟩ := Base_f B e2
  obtain ⟨F, hF⟩ := goWeeks_eq (i := 12) g1 B.2.1 (by rw [g2]; exact B.2.2.2.2.2.2.1) hN
  refine ⟨_, ?_, (e2.sA (c := 5) (k := 6) (i := 12) (v := F) (by decide)).sF (c := 5) (k := 4) (i := 12) (v := dN wm sn (tC υ 12) (υ.1 6 2 0) (υ.1 5 4 12) N) (by decide)⟩
  unfold f_X7_isOutWith f_X5_isOut
  have a1 : (0 : Int32) ≤ nI p ∧ nI p < 6 := nI_r (N := 6) hp (by decide)
  rw [if_pos a1, nI_clamp (by omega), Nat.mul_zero, Nat.zero_add, t1]
  simp only [Option.bind_some]
  rw [u1]
  simp only [Option.bind_some]
  rw [hF]
  simp only [Option.bind_some]
  rw [sF_at, u3, u4, t3, t4, (f4 p hp).1, (f4 p hp).2, g2]
  by_cases hz : dN wm sn (tw w num (tM σ p)) (σ.1 8 6 0) (dw w num (σ.2.1 8 4 0 p)) N = 0
  · rw [if_pos hz]
    simp [hz]
  · rw [if_neg hz]
    simp [hz]
def bitsN (D : Nat → Int32) : Nat → Int32
  | 0 => 0
  | j + 1 => if D j = 0 then bitsN D j ||| (1 <<< (nI j &&& 31)) else bitsN D j
def sumN (D : Nat → Int32) : Nat → Int32
  | 0 => 0
  | j + 1 => sumN D j + D j
theorem bitsN_c {D E : Nat → Int32} : ∀ T, (∀ q, q < T → D q = E q) → bitsN D T = bitsN E T
  | 0, _ => rfl
  | T + 1, h => by
    have h1 := bitsN_c T (fun q hq => h q (by omega))
    unfold bitsN
    rw [h1, h T (by omega)]
theorem sumN_c {D E : Nat → Int32} : ∀ T, (∀ q, q < T → D q = E q) → sumN D T = sumN E T
  | 0, _ => rfl
  | T + 1, h => by
    have h1 := sumN_c T (fun q hq => h q (by omega))
    unfold sumN
    rw [h1, h T (by omega)]
theorem outBits_L {σ : Sto} {wm : (Nat → Int32) → Int32} {sn : Int32} {k T N : Nat} (B : Base σ wm sn k T) (hN : N ≤ 60) : ∀ (d j : Nat), j + d = T → ∀ n, d < n → ∀ s, FrE akF akA [] σ s → ∃ s', f_X7_outBits_L4 n s (nI N) (bitsN (Dp wm sn σ N) j) (nI j) = some (bitsN (Dp wm sn σ N) T, s') ∧ FrE akF akA [] σ s' := by
  have hT := B.2.2.1
  intro d
  induction d with
  | zero =>
    intro j hj n hn s e
    obtain ⟨n, rfl⟩ : ∃ q, n = q + 1 := ⟨n - 1, by omega⟩
    have hj2 : j = T := by omega
    subst hj2
    refine ⟨s, ?_, e⟩
    show f_X7_outBits_B4 _ s _ _ _ = _
    unfold f_X7_outBits_B4
    rw [(Base_f B e).2.2.1, if_pos (by grind)]
  | succ d ih =>
    intro j hj n hn s e
    obtain ⟨n, rfl⟩ : ∃ q, n = q + 1 := ⟨n - 1, by omega⟩
    obtain ⟨s1, h1, e1⟩ := db_eq B e (show j < 6 by omega) hN
    obtain ⟨s2, h2, e2⟩ := ih (j + 1) (by omega) n (by omega) s1 e1
    refine ⟨s2, ?_, e2⟩
    show f_X7_outBits_B4 _ s _ _ _ = _
    unfold f_X7_outBits_B4
    rw [(Base_f B e).2.2.1, if_neg (nI_ge (by omega) (by omega)), h1]
    simp only [Option.bind_some, nmI, nI_1]
    rw [← h2]
    by_cases hz : Dp wm sn σ N j = 0
    · rw [if_pos hz]
      simp [bitsN, hz]
    · rw [if_neg hz]
      simp [bitsN, hz]
theorem outBits_eq {σ s : Sto} {wm : (Nat → Int32) → Int32} {sn : Int32} {k T N : Nat} (B : Base σ wm sn k T) (hN : N ≤ 60) (e : FrE akF akA [] σ s) : ∃ s', f_X7_outBits s (nI N) = some (bitsN (Dp wm sn σ N) T, s') ∧ FrE akF akA [] σ s' := by
  have key : ∀ M, 10 < M → ∃ s', f_X7_outBits_L4 M s (nI N) 0 0 = some (bitsN (Dp wm sn σ N) T, s') ∧ FrE akF akA [] σ s' := by
    intro M hM
    have := B.2.2.1
    have h := outBits_L B hN T 0 (by omega) M (by omega) s e
    rw [nI_0] at h
    exact h
  exact key 1000 (by decide)
theorem depthOfAll_L {σ : Sto} {wm : (Nat → Int32) → Int32} {sn : Int32} {k T N : Nat} (B : Base σ wm sn k T) (hN : N ≤ 60) : ∀ (d j : Nat), j + d = T → ∀ n, d < n → ∀ s, FrE akF akA [] σ s → ∃ s', f_X7_depthOfAll_L4 n s (nI N) (sumN (Dp wm sn σ N) j) (nI j) = some (sumN (Dp wm sn σ N) T, s') ∧ FrE akF akA [] σ s' := by
  have hT := B.2.2.1
  intro d
  induction d with
  | zero =>
    intro j hj n hn s e
    obtain ⟨n, rfl⟩ : ∃ q, n = q + 1 := ⟨n - 1, by omega⟩
    have hj2 : j = T := by omega
    subst hj2
    refine ⟨s, ?_, e⟩
    show f_X7_depthOfAll_B4 _ s _ _ _ = _
    unfold f_X7_depthOfAll_B4
    rw [(Base_f B e).2.2.1, if_pos (by grind)]
  | succ d ih =>
    intro j hj n hn s e
    obtain ⟨n, rfl⟩ : ∃ q, n = q + 1 := ⟨n - 1, by omega⟩
    obtain ⟨s1, h1, e1⟩ := db_eq B e (show j < 6 by omega) hN
    obtain ⟨s2, h2, e2⟩ := ih (j + 1) (by omega) n (by omega) s1 e1
    refine ⟨s2, ?_, e2⟩
    show f_X7_depthOfAll_B4 _ s _ _ _ = _
    unfold f_X7_depthOfAll_B4
    rw [(Base_f B e).2.2.1, if_neg (nI_ge (by omega) (by omega)), h1]
    simp only [Option.bind_some, nmI, nI_1]
    exact h2
theorem depthOfAll_eq {σ s : Sto} {wm : (Nat → Int32) → Int32} {sn : Int32} {k T N : Nat} (B : Base σ wm sn k T) (hN : N ≤ 60) (e : FrE akF akA [] σ s) : ∃ s', f_X7_depthOfAll s (nI N) = some (sumN (Dp wm sn σ N) T, s') ∧ FrE akF akA [] σ s' := by
  have key : ∀ M, 10 < M → ∃ s', f_X7_depthOfAll_L4 M s (nI N) 0 0 = some (sumN (Dp wm sn σ N) T, s') ∧ FrE akF akA [] σ s' := by
    intro M hM
    have := B.2.2.1
    have h := depthOfAll_L B hN T 0 (by omega) M (by omega) s e
    rw [nI_0] at h
    exact h
  exact key 1000 (by decide)
theorem outs_eq {s : Sto} {T : Nat} (hT : s.1 8 0 0 = nI T) (hT6 : T ≤ 6) : f_X8_outs s = some (bitsN (s.2.1 8 4 0) T) := by
  have hL : ∀ (d j : Nat), j + d = T → ∀ n, d < n → f_X8_outs_L4 s n (bitsN (s.2.1 8 4 0) j) (nI j) = some (bitsN (s.2.1 8 4 0) T) := by
    intro d
    induction d with
    | zero =>
      intro j hj n hn
      obtain ⟨n, rfl⟩ : ∃ q, n = q + 1 := ⟨n - 1, by omega⟩
      have hj2 : j = T := by omega
      subst hj2
      show f_X8_outs_B4 s _ _ _ = _
      unfold f_X8_outs_B4
      rw [hT, if_pos (by grind)]
    | succ d ih =>
      intro j hj n hn
      obtain ⟨n, rfl⟩ : ∃ q, n = q + 1 := ⟨n - 1, by omega⟩
      have h2 := ih (j + 1) (by omega) n (by omega)
      have a1 : (0 : Int32) ≤ nI j ∧ nI j < 6 := nI_r (N := 6) (by omega) (by decide)
      show f_X8_outs_B4 s _ _ _ = _
      unfold f_X8_outs_B4
      rw [hT, if_neg (nI_ge (by omega) (by omega)), if_pos a1, nI_clamp (by omega)]
      simp only [nmI, nI_1]
      rw [← h2]
      by_cases hz : s.2.1 8 4 0 j = 0
      · rw [if_pos hz]
        simp [bitsN, hz]
      · rw [if_neg hz]
        simp [bitsN, hz]
  have key : ∀ M, 10 < M → f_X8_outs_L4 s M 0 0 = some (bitsN (s.2.1 8 4 0) T) := by
    intro M hM
    have h := hL T 0 (by omega) M (by omega)
    rw [nI_0] at h
    exact h
  exact key 1000 (by decide)
theorem allDepth_eq {s : Sto} {T : Nat} (hT : s.1 8 0 0 = nI T) (hT6 : T ≤ 6) : f_X8_allDepth s = some (sumN (s.2.1 8 4 0) T) := by
  have hL : ∀ (d j : Nat), j + d = T → ∀ n, d < n → f_X8_allDepth_L4 s n (sumN (s.2.1 8 4 0) j) (nI j) = some (sumN (s.2.1 8 4 0) T) := by
    intro d
    induction d with
    | zero =>
      intro j hj n hn
      obtain ⟨n, rfl⟩ : ∃ q, n = q + 1 := ⟨n - 1, by omega⟩
      have hj2 : j = T := by omega
      subst hj2
      show f_X8_allDepth_B4 s _ _ _ = _
      unfold f_X8_allDepth_B4
      rw [hT, if_pos (by grind)]
    | succ d ih =>
      intro j hj n hn
      obtain ⟨n, rfl⟩ : ∃ q, n = q + 1 := ⟨n - 1, by omega⟩
      have h2 := ih (j + 1) (by omega) n (by omega)
      have a1 : (0 : Int32) ≤ nI j ∧ nI j < 6 := nI_r (N := 6) (by omega) (by decide)
      show f_X8_allDepth_B4 s _ _ _ = _
      unfold f_X8_allDepth_B4
      rw [hT, if_neg (nI_ge (by omega) (by omega)), if_pos a1, nI_clamp (by omega)]
      simp only [nmI, nI_1]
      exact h2
  have key : ∀ M, 10 < M → f_X8_allDepth_L4 s M 0 0 = some (sumN (s.2.1 8 4 0) T) := by
    intro M hM
    have h := hL T 0 (by omega) M (by omega)
    rw [nI_0] at h
    exact h
  exact key 1000 (by decide)
