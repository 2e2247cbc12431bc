-- BY, LESS, KEPT, ODDS
/-- all rows are as they were, the copy of all beside them -/
def Rest (σ s : Sto) : Prop := FrE agF amA [] σ s ∧ (∀ i, i < 105 → snapM s i = snapM σ i) ∧ ∀ i, i < 105 → s.2.1 8 37 0 i = snapM σ i
theorem Rest_0 {σ : Sto} {wm : (Nat → Int32) → Int32} {sn : Int32} {k T : Nat} (B : MB σ wm sn k T) : ∃ τ, f_X8_keep_38 σ = some τ ∧ Rest σ τ := by
  obtain ⟨τ, h1, h2, h3, h4, h5, h6⟩ := keep_B B
  refine ⟨τ, h1, h3, fun i hi => ?_, h5⟩
  have g : ∀ f, τ.1 8 f 0 = σ.1 8 f 0 := fun f => h6.1 8 f 0 (by simp)
  have a : ∀ c, c ≠ 37 → τ.2.1 8 c 0 = σ.2.1 8 c 0 := fun c hc => h6.2.1 8 c 0 (by simp [grp, hc])
  unfold snapM
  rw [a 1 (by decide), a 2 (by decide), a 3 (by decide), a 4 (by decide), a 5 (by decide), a 24 (by decide), a 25 (by decide), a 26 (by decide), a 28 (by decide), a 29 (by decide), a 31 (by decide), a 32 (by decide), g, g, g, g, g, g]
theorem Rest_f {σ s : Sto} {wm : (Nat → Int32) → Int32} {sn : Int32} {k T : Nat} (B : MB σ wm sn k T) (R : Rest σ s) : MB s wm sn k T ∧ s.1 8 6 0 = σ.1 8 6 0 ∧ ∀ p, p < 6 → tM s p = tM σ p ∧ s.2.1 8 4 0 p = σ.2.1 8 4 0 p := by
  obtain ⟨e, r, -⟩ := R
  obtain ⟨b1, b2, b3, b4, b5, b6⟩ := B
  have h99 : s.1 8 0 0 = σ.1 8 0 0 := r 99 (by omega)
  have h100 : s.1 8 6 0 = σ.1 8 6 0 := r 100 (by omega)
  have h104 : s.1 8 14 0 = σ.1 8 14 0 := r 104 (by omega)
  have hd : ∀ p, p < 6 → s.2.1 8 4 0 p = σ.2.1 8 4 0 p := fun p hp => by
    have := r (18 + p) (by omega)
    rwa [snap_depth s hp, snap_depth σ hp] at this
  refine ⟨⟨?_, b2, b3, by rw [h99, b4], by rw [h100]; exact b5, fun q hq => by rw [hd q hq]; exact b6 q hq⟩, h100, fun p hp => ⟨?_, hd p hp⟩⟩
  · unfold PH RPk at *
    have hf : ∀ x ∈ agF, ¬ ((x.1 = 1) ∨ (x.1 = 8 ∧ x.2.1 = 21) ∨ (x.1 = 6 ∧ x.2.1 = 3 ∧ x.2.2 = 0)) := by decide
    have ha : ∀ x ∈ amA, ¬ ba_Ps x := by decide
    rw [e.f (c := 6) (k := 3) (i := 0) hf (by decide), h104, e.f (c := 1) (k := 3) (i := 6) hf (Or.inl rfl), e.f (c := 1) (k := 4) (i := 6) hf (Or.inl rfl)]
    rw [e.f (c := 1) (k := 3) (i := k) hf (Or.inl rfl), e.f (c := 1) (k := 4) (i := k) hf (Or.inl rfl), e.f (c := 8) (k := 21) (i := 0) hf (by decide), e.a (c := 1) (k := 0) (i := k) ha (Or.inl rfl), e.a (c := 1) (k := 1) (i := k) ha (Or.inl rfl), e.a (c := 1) (k := 2) (i := k) ha (Or.inl rfl)]
    rw [e.a (c := 8) (k := 15) (i := 0) ha (by decide), e.a (c := 8) (k := 16) (i := 0) ha (by decide), e.a (c := 8) (k := 17) (i := 0) ha (by decide), e.a (c := 8) (k := 18) (i := 0) ha (by decide), e.a (c := 8) (k := 19) (i := 0) ha (by decide), e.a (c := 8) (k := 20) (i := 0) ha (by decide)]
    exact b1
  · have r1 := r p (by omega)
    have r2 := r (6 + p) (by omega)
    have r3 := r (12 + p) (by omega)
    have r5 := r (24 + 4 * p) (by omega)
    have r6 := r (24 + (4 * p + 1)) (by omega)
    have r7 := r (24 + (4 * p + 2)) (by omega)
    have r8 := r (24 + (4 * p + 3)) (by omega)
    rw [snap_kind s hp, snap_kind σ hp] at r1
    rw [snap_v s hp, snap_v σ hp] at r2
    rw [snap_worth s hp, snap_worth σ hp] at r3
    rw [snap_row s (by omega), snap_row σ (by omega)] at r5 r6 r7 r8
    unfold tM
    rw [r1, r2, r3, r5, r6, r7, r8]
theorem Rest_again {σ s : Sto} (e : FrE agF amA [] σ s) (ha : ∀ i, i < 105 → s.2.1 8 37 0 i = snapM σ i) : ∃ τ, f_X8_again_38 s = some τ ∧ Rest σ τ := by
  obtain ⟨τ, h1, h2, h3⟩ := again38_eq s
  refine ⟨τ, h1, e.trans (h2.mono (by decide) (by decide) (by decide)), fun i hi => by rw [h3 i hi, ha i hi], fun i hi => ?_⟩
  rw [h2.2.1 8 37 0 (by decide), ha i hi]
/-- the slot of a THING that is tried otherwise -/
def alS (w : Int32) : Nat := if w = 0 then 3 else if w = 1 then 4 else 2
theorem alt_eq {s : Sto} {p : Nat} (w num : Int32) : tM (sA s 8 (alS w) 0 (upd (s.2.1 8 (alS w) 0) p num)) p = tw w num (tM s p) ∧ (sA s 8 (alS w) 0 (upd (s.2.1 8 (alS w) 0) p num)).2.1 8 4 0 p = dw w num (s.2.1 8 4 0 p) := by
  unfold alS tw dw tM
  by_cases h0 : w = 0
  · simp [h0, sA2, upd_at]
  · by_cases h1 : w = 1
    · simp [h1, sA2, upd_at]
    · simp [h0, h1, sA2, upd_at]
theorem alt_MB {s : Sto} {wm : (Nat → Int32) → Int32} {sn : Int32} {k T p : Nat} (B : MB s wm sn k T) (w num : Int32) (hn : w = 1 → 0 ≤ num ∧ num ≤ 99) : MB (sA s 8 (alS w) 0 (upd (s.2.1 8 (alS w) 0) p num)) wm sn k T ∧ FrE agF amA [] s (sA s 8 (alS w) 0 (upd (s.2.1 8 (alS w) 0) p num)) := by
  obtain ⟨b1, b2, b3, b4, b5, b6⟩ := B
  have e : FrE [] [(8, 2, 0), (8, 3, 0), (8, 4, 0)] [] s (sA s 8 (alS w) 0 (upd (s.2.1 8 (alS w) 0) p num)) := by
    refine FrE.rfl'.sA ?_
    unfold alS
    split
    · decide
    · split <;> decide
  refine ⟨⟨PH_fr b1 e (by decide) (by decide), b2, b3, by rw [sA1]; exact b4, by rw [sA1]; exact b5, fun q hq => ?_⟩, e.mono (by decide) (by decide) (by decide)⟩
  by_cases h0 : w = 0
  · have : alS w = 3 := by unfold alS; rw [if_pos h0]
    rw [this]
    simp only [sA2]
    simpa using b6 q hq
  · by_cases h1 : w = 1
    · have : alS w = 4 := by unfold alS; rw [if_neg h0, if_pos h1]
      rw [this, sA_at, upd_at]
      split
      · exact hn h1
      · exact b6 q hq
    · have : alS w = 2 := by unfold alS; rw [if_neg h0, if_neg h1]
      rw [this]
      simp only [sA2]
      simpa using b6 q hq
/-- whether a THING is OUT behind N WEEKS, had it another number now -/
def Ow (wm : (Nat → Int32) → Int32) (sn : Int32) (σ : Sto) (p N : Nat) (w num : Int32) : Prop := dN wm sn (tw w num (tM σ p)) (σ.1 8 6 0) (dw w num (σ.2.1 8 4 0 p)) N = 0
def ow (wm : (Nat → Int32) → Int32) (sn : Int32) (σ : Sto) (p N : Nat) (w num : Int32) : Bool := decide (dN wm sn (tw w num (tM σ p)) (σ.1 8 6 0) (dw w num (σ.2.1 8 4 0 p)) N = 0)
theorem trial8 {σ s : Sto} {wm : (Nat → Int32) → Int32} {sn : Int32} {k T p N : Nat} (B : MB σ wm sn k T) (R : Rest σ s) (hp : p < T) (hN : N ≤ 60) (w num : Int32) (hn : w = 1 → 0 ≤ num ∧ num ≤ 99) : ∃ s2 s3, f_X8_isOutBehind (sA s 8 (alS w) 0 (upd (s.2.1 8 (alS w) 0) p num)) (nI p) (nI N) = some ((if ow wm sn σ p N w num = true then 1 else 0), s2) ∧ f_X8_again_38 s2 = some s3 ∧ Rest σ s3 := by
  obtain ⟨B1, f2, f3⟩ := Rest_f B R
  obtain ⟨B2, e2⟩ := alt_MB (p := p) B1 w num hn
  obtain ⟨a1, a2⟩ := alt_eq (s := s) (p := p) w num
  have hT := B.2.2.1
  have key : ∀ M, 60 < M → ∃ s2 s3, f_X8_isOutBehind_L2 M (sA s 8 (alS w) 0 (upd (s.2.1 8 (alS w) 0) p num)) (nI p) (nI N) 0 = some ((if ow wm sn σ p N w num = true then 1 else 0), s2) ∧ f_X8_again_38 s2 = some s3 ∧ Rest σ s3 := by
    intro M hM
    obtain ⟨s2, g, h⟩ := wl_iob (nI p) B2 hN N 0 (by omega) M (by omega) _ Gw_0
    rw [nI_0] at h
    have e3 : FrE agF amA [] σ s2 := (R.1.trans e2).trans (Gw_am g)
    have h37 : s2.2.1 8 37 0 = s.2.1 8 37 0 := by
      rw [Gw_ahead g]
      have : alS w ≠ 37 := by unfold alS; split; decide; split <;> decide
      simp [sA2, Ne.symm this]
    obtain ⟨s3, t1, t2⟩ := Rest_again e3 (fun i hi => by rw [h37]; exact R.2.2 i hi)
    refine ⟨s2, s3, ?_, t1, t2⟩
    rw [h]
    unfold f_X8_isOutBehind_B2
    have hle : nI N ≤ nI N := by grind
    have a3 : (0 : Int32) ≤ nI p ∧ nI p < 6 := nI_r (N := 6) (by omega) (by decide)
    rw [if_pos hle, if_pos a3, nI_clamp (by omega), Gw_d g hT hp]
    unfold Dp ow
    rw [a1, a2, sA1, f2, (f3 p (by omega)).1, (f3 p (by omega)).2]
    by_cases hz : dN wm sn (tw w num (tM σ p)) (σ.1 8 6 0) (dw w num (σ.2.1 8 4 0 p)) N = 0
    · simp only [hz, if_true, decide_true]
    · simp only [hz, if_false, decide_false, Bool.false_eq_true]
  unfold f_X8_isOutBehind
  exact key 1000 (by decide)
theorem trial7 {σ s : Sto} {wm : (Nat → Int32) → Int32} {sn : Int32} {k T p N : Nat} (w num : Int32) (B : Base σ wm sn k T) (e : FrE akF akA [] σ s) (hp : p < 6) (hN : N ≤ 60) : ∃ s', f_X7_isOutWith s (nI p) w num (nI N) = some ((if ow wm sn σ p N w num = true then 1 else 0), s') ∧ FrE akF akA [] σ s' := by
  obtain ⟨s', h1, h2⟩ := iw_eq w num B e hp hN
  refine ⟨s', ?_, h2⟩
  rw [h1]
  unfold ow
  by_cases hz : dN wm sn (tw w num (tM σ p)) (σ.1 8 6 0) (dw w num (σ.2.1 8 4 0 p)) N = 0
  · simp only [hz, if_true, decide_true]
  · simp only [hz, if_false, decide_false, Bool.false_eq_true]
theorem ow_ak {σ s : Sto} {wm : (Nat → Int32) → Int32} {sn : Int32} {p N : Nat} {w num : Int32} (e : FrE akF akA [] σ s) : ow wm sn s p N w num = ow wm sn σ p N w num := by
  unfold ow
  rw [tM_fr e (by decide) (by decide) (by decide) (by decide), e.1 8 6 0 (by decide), e.2.1 8 4 0 (by decide)]
def cntN (O : Nat → Bool) : Nat → Nat
  | 0 => 0
  | j + 1 => if O j = true then cntN O j + 1 else cntN O j
def lastN (O : Nat → Bool) : Nat → Int32
  | 0 => -5
  | j + 1 => if O j = true then nI j else lastN O j
def leastN (O : Nat → Bool) : Nat → Nat → Int32
  | 0, _ => -5
  | d + 1, j => if O j = true then nI j else leastN O d (j + 1)
theorem cntN_le (O : Nat → Bool) : ∀ j, cntN O j ≤ j
  | 0 => by simp [cntN]
  | j + 1 => by
    have := cntN_le O j
    unfold cntN
    split <;> omega
theorem cntN_c {O O' : Nat → Bool} (h : ∀ j, O j = O' j) : O = O' := funext h
theorem worthsOut_L {σ : Sto} {wm : (Nat → Int32) → Int32} {sn : Int32} {k T p N : Nat} (B : Base σ wm sn k T) (hp : p < 6) (hN : N ≤ 60) : ∀ (d j : Nat), j + d = 100 → ∀ n, d < n → ∀ s, FrE akF akA [] σ s → ∃ s', f_X7_worthsOut_L5 n s (nI p) (nI N) (nI (cntN (fun i => ow wm sn σ p N 0 (nI i)) j)) (nI j) = some (nI (cntN (fun i => ow wm sn σ p N 0 (nI i)) 100), s') ∧ FrE akF akA [] σ s' := by
  intro d
  induction d with
  | zero =>
    intro j hj n hn s e
    obtain ⟨n, rfl⟩ : ∃ q, n = q + 1 := ⟨n - 1, by omega⟩
    have hj2 : j = 100 := by omega
    subst hj2
    refine ⟨s, ?_, e⟩
    show f_X7_worthsOut_B5 _ s _ _ _ _ = _
    unfold f_X7_worthsOut_B5
    rw [if_pos (by decide)]
  | succ d ih =>
    intro j hj n hn s e
    obtain ⟨n, rfl⟩ : ∃ q, n = q + 1 := ⟨n - 1, by omega⟩
    obtain ⟨s1, h1, e1⟩ := trial7 (N := N) 0 (nI j) B e hp hN
    obtain ⟨s2, h2, e2⟩ := ih (j + 1) (by omega) n (by omega) s1 e1
    refine ⟨s2, ?_, e2⟩
    rw [← h2]
    show f_X7_worthsOut_B5 _ s _ _ _ _ = _
    unfold f_X7_worthsOut_B5
    rw [if_neg (show ¬ (99 : Int32) < nI j from nI_nlt (a := 99) (b := j) (by omega) (by decide)), h1]
    simp only [Option.bind_some, nmI, nI_1]
    by_cases ho : ow wm sn σ p N 0 (nI j) = true
    · simp only [cntN, ho, if_true, h10, if_false]
    · simp only [cntN, ho, if_true, if_false, Bool.false_eq_true]
theorem worthsOut_eq {σ s : Sto} {wm : (Nat → Int32) → Int32} {sn : Int32} {k T p N : Nat} (B : Base σ wm sn k T) (hp : p < 6) (hN : N ≤ 60) (e : FrE akF akA [] σ s) : ∃ s', f_X7_worthsOut s (nI p) (nI N) = some (nI (cntN (fun i => ow wm sn σ p N 0 (nI i)) 100), s') ∧ FrE akF akA [] σ s' := by
  have key : ∀ M, 100 < M → ∃ s', f_X7_worthsOut_L5 M s (nI p) (nI N) 0 0 = some (nI (cntN (fun i => ow wm sn σ p N 0 (nI i)) 100), s') ∧ FrE akF akA [] σ s' := by
    intro M hM
    have h := worthsOut_L B hp hN 100 0 rfl M (by omega) s e
    have h0 : nI (cntN (fun i => ow wm sn σ p N 0 (nI i)) 0) = 0 := nI_0
    rw [h0, nI_0] at h
    exact h
  exact key 1000 (by decide)
theorem gwo_L {σ : Sto} {wm : (Nat → Int32) → Int32} {sn : Int32} {k T p N : Nat} (B : Base σ wm sn k T) (hp : p < 6) (hN : N ≤ 60) : ∀ (j : Nat), j ≤ 100 → ∀ n, j < n → ∀ s, FrE akF akA [] σ s → ∃ s', f_X7_greatestWorthOut_L3 n s (nI p) (nI N) (nI j + (-1 : Int32)) = some (lastN (fun i => ow wm sn σ p N 0 (nI i)) j, s') ∧ FrE akF akA [] σ s' := by
  intro j
  induction j with
  | zero =>
    intro hj n hn s e
    obtain ⟨n, rfl⟩ : ∃ q, n = q + 1 := ⟨n - 1, by omega⟩
    refine ⟨s, ?_, e⟩
    show f_X7_greatestWorthOut_B3 _ s _ _ _ = _
    unfold f_X7_greatestWorthOut_B3
    rw [if_pos (by decide)]
    rfl
  | succ j ih =>
    intro hj n hn s e
    obtain ⟨n, rfl⟩ : ∃ q, n = q + 1 := ⟨n - 1, by omega⟩
    obtain ⟨s1, h1, e1⟩ := trial7 (N := N) 0 (nI j) B e hp hN
    rw [nI_m1]
    by_cases ho : ow wm sn σ p N 0 (nI j) = true
    · refine ⟨s1, ?_, e1⟩
      show f_X7_greatestWorthOut_B3 _ s _ _ _ = _
      unfold f_X7_greatestWorthOut_B3
      rw [if_neg (nI_pos (by omega)), h1]
      simp only [Option.bind_some, lastN, ho, if_true, h10, if_false]
    · obtain ⟨s2, h2, e2⟩ := ih (by omega) n (by omega) s1 e1
      refine ⟨s2, ?_, e2⟩
      show f_X7_greatestWorthOut_B3 _ s _ _ _ = _
      unfold f_X7_greatestWorthOut_B3
      rw [if_neg (nI_pos (by omega)), h1]
      simp only [Option.bind_some, lastN, ho, if_true, if_false, nmI, Bool.false_eq_true]
      exact h2
theorem gwo_eq {σ s : Sto} {wm : (Nat → Int32) → Int32} {sn : Int32} {k T p N : Nat} (B : Base σ wm sn k T) (hp : p < 6) (hN : N ≤ 60) (e : FrE akF akA [] σ s) : ∃ s', f_X7_greatestWorthOut s (nI p) (nI N) = some (lastN (fun i => ow wm sn σ p N 0 (nI i)) 100, s') ∧ FrE akF akA [] σ s' := by
  have key : ∀ M, 100 < M → ∃ s', f_X7_greatestWorthOut_L3 M s (nI p) (nI N) 99 = some (lastN (fun i => ow wm sn σ p N 0 (nI i)) 100, s') ∧ FrE akF akA [] σ s' := by
    intro M hM
    have h := gwo_L B hp hN 100 (by omega) M (by omega) s e
    rw [show nI 100 + (-1 : Int32) = 99 by decide] at h
    exact h
  exact key 1000 (by decide)
theorem by8_L {σ : Sto} {wm : (Nat → Int32) → Int32} {sn : Int32} {k T p N : Nat} (B : MB σ wm sn k T) (hp : p < T) (hN : N ≤ 60) (x3 : Int32) : ∀ (d j : Nat), j + d = 100 → ∀ n, d < n → ∀ s, Rest σ s → ∃ s', f_X8_by_L50 n s (nI p) (nI N) x3 (nI (cntN (fun i => ow wm sn σ p N 0 (nI i)) j)) (lastN (fun i => ow wm sn σ p N 0 (nI i)) j) (nI j) = some ((if x3 = 0 then nI (cntN (fun i => ow wm sn σ p N 0 (nI i)) 100) else lastN (fun i => ow wm sn σ p N 0 (nI i)) 100), s') ∧ Rest σ s' := by
  have hT := B.2.2.1
  intro d
  induction d with
  | zero =>
    intro j hj n hn s R
    obtain ⟨n, rfl⟩ : ∃ q, n = q + 1 := ⟨n - 1, by omega⟩
    have hj2 : j = 100 := by omega
    subst hj2
    refine ⟨s, ?_, R⟩
    show f_X8_by_B50 _ s _ _ _ _ _ _ = _
    unfold f_X8_by_B50
    rw [if_pos (by decide)]
    by_cases h0 : x3 = 0
    · rw [if_pos h0, if_pos h0]
    · rw [if_neg h0, if_neg h0]
  | succ d ih =>
    intro j hj n hn s R
    obtain ⟨n, rfl⟩ : ∃ q, n = q + 1 := ⟨n - 1, by omega⟩
    obtain ⟨s1, s2, h1, h2, R2⟩ := trial8 (N := N) B R hp hN 0 (nI j) (fun h => absurd h (by decide))
    obtain ⟨s3, h3, R3⟩ := ih (j + 1) (by omega) n (by omega) s2 R2
    refine ⟨s3, ?_, R3⟩
    rw [← h3]
    have a1 : (0 : Int32) ≤ nI p ∧ nI p < 6 := nI_r (N := 6) (by omega) (by decide)
    have hal : alS 0 = 3 := rfl
    rw [hal] at h1
    show f_X8_by_B50 _ s _ _ _ _ _ _ = _
    unfold f_X8_by_B50 f_X8_by_L81
    rw [if_neg (show ¬ (100 : Int32) ≤ nI j from nI_ge (a := j) (b := 100) (by omega) (by decide)), if_pos a1, nI_clamp (by omega)]
    simp only [nm, h1, Option.bind_some, nmI, nI_1, h2]
    by_cases ho : ow wm sn σ p N 0 (nI j) = true
    · simp only [cntN, lastN, ho, if_true, h10, if_false]
    · simp only [cntN, lastN, ho, if_true, if_false, Bool.false_eq_true]
theorem by8_eq {σ : Sto} {wm : (Nat → Int32) → Int32} {sn : Int32} {k T p N : Nat} (B : MB σ wm sn k T) (hp : p < T) (hN : N ≤ 30) (x3 : Int32) (hx : 0 ≤ x3 ∧ x3 ≤ 1) : ∃ s', f_X8_by σ (nI p) (nI N) x3 = some ((if x3 = 0 then nI (cntN (fun i => ow wm sn σ p N 0 (nI i)) 100) else lastN (fun i => ow wm sn σ p N 0 (nI i)) 100), s') ∧ Rest σ s' := by
  obtain ⟨s0, k1, R0⟩ := Rest_0 B
  have hT := B.2.2.1
  have hTb : 0 ≤ nI T ∧ nI T ≤ 6 := ⟨nI_n0 (by omega), (nI_leI (a := T) (b := 6) (by omega) (by decide)).mpr hT⟩
  have key : ∀ M, 100 < M → ∃ s', f_X8_by_L50 M s0 (nI p) (nI N) x3 0 (-5) 0 = some ((if x3 = 0 then nI (cntN (fun i => ow wm sn σ p N 0 (nI i)) 100) else lastN (fun i => ow wm sn σ p N 0 (nI i)) 100), s') ∧ Rest σ s' := by
    intro M hM
    have h := by8_L (N := N) B hp (by omega) x3 100 0 rfl M (by omega) s0 R0
    have h0 : nI (cntN (fun i => ow wm sn σ p N 0 (nI i)) 0) = 0 := nI_0
    have h1 : lastN (fun i => ow wm sn σ p N 0 (nI i)) 0 = -5 := rfl
    rw [h0, h1, nI_0] at h
    exact h
  unfold f_X8_by
  rw [isOne_le (by rw [B.2.2.2.1]; exact hTb.1) (by rw [B.2.2.2.1]; exact hTb.2), B.2.2.2.1, within_eq, within_eq]
  have a1 : (0 : Int32) ≤ nI p ∧ nI p < nI T := nI_r hp (by omega)
  have a2 : (0 : Int32) ≤ nI N ∧ nI N ≤ 30 := ⟨nI_n0 (by omega), (nI_leI (a := N) (b := 30) (by omega) (by decide)).mpr hN⟩
  simp only [Option.bind_some, a1, a2, hx, and_self, if_true, h10, if_false, k1]
  exact key 1000 (by decide)
