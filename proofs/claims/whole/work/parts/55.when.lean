-- melts, of, WHEN, CROSSED, ORDER, told
def Ra (σ s : Sto) : Prop := FrE agF amA [] σ s ∧ ∀ i, i < 105 → snapM s i = snapM σ i
theorem Ra_0 {σ : Sto} : Ra σ σ := ⟨FrE.rfl', fun _ _ => rfl⟩
theorem Ra_t {σ s u : Sto} (a : Ra σ s) (b : Ra s u) : Ra σ u := ⟨a.1.trans b.1, fun i hi => (b.2 i hi).trans (a.2 i hi)⟩
theorem Ra_f {σ s : Sto} {wm : (Nat → Int32) → Int32} {sn : Int32} {k T : Nat} (B : MB σ wm sn k T) (R : Ra σ s) : MB s wm sn k T ∧ s.1 8 6 0 = σ.1 8 6 0 ∧ ∀ p, p < 6 → tM s p = tM σ p ∧ s.2.1 8 4 0 p = σ.2.1 8 4 0 p := by
  obtain ⟨e, r⟩ := R
  obtain ⟨b1, b2, b3, b4, b5, b6⟩ := B
  have h99 : s.1 8 0 0 = σ.1 8 0 0 := r 99 (by omega)
  have h100 : s.1 8 6 0 = σ.1 8 6 0 := r 100 (by omega)
  have h104 : s.1 8 14 0 = σ.1 8 14 0 := r 104 (by omega)
  have hd : ∀ p, p < 6 → s.2.1 8 4 0 p = σ.2.1 8 4 0 p := fun p hp => by
    have := r (18 + p) (by omega)
    rwa [snap_depth s hp, snap_depth σ hp] at this
  refine ⟨⟨?_, b2, b3, by rw [h99, b4], by rw [h100]; exact b5, fun q hq => by rw [hd q hq]; exact b6 q hq⟩, h100, fun p hp => ⟨?_, hd p hp⟩⟩
  · unfold PH RPk at *
    have hf : ∀ x ∈ agF, ¬ ((x.1 = 1) ∨ (x.1 = 8 ∧ x.2.1 = 21) ∨ (x.1 = 6 ∧ x.2.1 = 3 ∧ x.2.2 = 0)) := by decide
    have ha : ∀ x ∈ amA, ¬ ba_Ps x := by decide
    rw [e.f (c := 6) (k := 3) (i := 0) hf (by decide), h104, e.f (c := 1) (k := 3) (i := 6) hf (Or.inl rfl), e.f (c := 1) (k := 4) (i := 6) hf (Or.inl rfl)]
    rw [e.f (c := 1) (k := 3) (i := k) hf (Or.inl rfl), e.f (c := 1) (k := 4) (i := k) hf (Or.inl rfl), e.f (c := 8) (k := 21) (i := 0) hf (by decide), e.a (c := 1) (k := 0) (i := k) ha (Or.inl rfl), e.a (c := 1) (k := 1) (i := k) ha (Or.inl rfl), e.a (c := 1) (k := 2) (i := k) ha (Or.inl rfl)]
    rw [e.a (c := 8) (k := 15) (i := 0) ha (by decide), e.a (c := 8) (k := 16) (i := 0) ha (by decide), e.a (c := 8) (k := 17) (i := 0) ha (by decide), e.a (c := 8) (k := 18) (i := 0) ha (by decide), e.a (c := 8) (k := 19) (i := 0) ha (by decide), e.a (c := 8) (k := 20) (i := 0) ha (by decide)]
    exact b1
  · have r1 := r p (by omega)
    have r2 := r (6 + p) (by omega)
    have r3 := r (12 + p) (by omega)
    have r5 := r (24 + 4 * p) (by omega)
    have r6 := r (24 + (4 * p + 1)) (by omega)
    have r7 := r (24 + (4 * p + 2)) (by omega)
    have r8 := r (24 + (4 * p + 3)) (by omega)
    rw [snap_kind s hp, snap_kind σ hp] at r1
    rw [snap_v s hp, snap_v σ hp] at r2
    rw [snap_worth s hp, snap_worth σ hp] at r3
    rw [snap_row s (by omega), snap_row σ (by omega)] at r5 r6 r7 r8
    unfold tM
    rw [r1, r2, r3, r5, r6, r7, r8]
theorem snap_22 {s : Sto} {c : Nat} {F : Nat → Int32} (hc : c = 22 ∨ c = 38 ∨ c = 39 ∨ c = 37) : ∀ i, snapM (sA s 8 c 0 F) i = snapM s i := by
  intro i
  unfold snapM
  rcases hc with rfl | rfl | rfl | rfl <;> simp [sA1, sA2]
theorem Ra_A {σ s : Sto} {c : Nat} {F : Nat → Int32} (R : Ra σ s) (hc : c = 22 ∨ c = 38 ∨ c = 39 ∨ c = 37) : Ra σ (sA s 8 c 0 F) := by
  refine ⟨R.1.sA ?_, fun i hi => by rw [snap_22 hc, R.2 i hi]⟩
  rcases hc with rfl | rfl | rfl | rfl <;> decide
theorem memA56 {p : Nat} (hp : p < 6) : (5, 6, grp 5 p) ∈ akA := by rw [grp5a hp]; decide
theorem melts7 {σ : Sto} {wm : (Nat → Int32) → Int32} {sn : Int32} {k T p : Nat} {wk : Int32} (B : Base σ wm sn k T) (hp : p < 6) (h0 : 0 ≤ wk) (h1 : wk ≤ 20000) : ∃ σ1, f_X5_meltIn σ p wk k = some (mlt wm (tM σ p) (σ.2.1 8 4 0 p) wk, σ1) ∧ FrE akF akA [] σ σ1 := by
  obtain ⟨F, hF⟩ := meltIn_eq (i := p) B.1 h0 h1
  obtain ⟨e1, e2, -⟩ := B.2.2.2.2.2.2.2 p hp
  refine ⟨_, ?_, FrE.rfl'.sA (c := 5) (k := 6) (i := p) (v := F) (memA56 hp)⟩
  rw [hF, e1, e2]
theorem melts8 {σ : Sto} {wm : (Nat → Int32) → Int32} {sn : Int32} {k T p : Nat} {wk : Int32} (B : Base σ wm sn k T) (hp : p < 6) (h0 : 0 ≤ wk) (h1 : wk ≤ 20000) : ∃ σ1, f_X8_meltsIn σ (nI p) wk = some (mlt wm (tM σ p) (σ.2.1 8 4 0 p) wk, σ1) ∧ Ra σ σ1 := by
  obtain ⟨F, hF⟩ := meltsIn_eq (p := p) B.1 hp h0 h1
  exact ⟨_, hF, Ra_A Ra_0 (Or.inl rfl)⟩
theorem melts_step {σ : Sto} (h : Inv σ) (x n : Int32) : ∃ r σ1 σ2, f_X7_melts σ x n = some (r, σ1) ∧ f_X8_melts σ1 x n = some (r, σ2) ∧ Inv σ2 := by
  obtain ⟨wm, sn, k, T, B⟩ := base_of h
  have hT := B.2.2.1
  have hT8 := B.2.2.2.1
  have hT6 := B.2.2.2.2.1
  have hTb : 0 ≤ nI T ∧ nI T ≤ 6 := ⟨nI_n0 (by omega), (nI_leI (a := T) (b := 6) (by omega) (by decide)).mpr hT⟩
  have hone : ∀ s, s.1 8 0 0 = nI T → ∀ y, f_X8_isOne s y = some (if 0 ≤ y ∧ y < nI T then 1 else 0) := fun s hs y => by
    rw [isOne_le (by rw [hs]; exact hTb.1) (by rw [hs]; exact hTb.2), hs]
  unfold f_X7_melts
  simp only [isUpTo_eq, isThing_eq, Option.bind_some, hT6]
  by_cases hx : 0 ≤ x ∧ x < nI T
  · by_cases hn : 0 ≤ n ∧ n ≤ 60
    · obtain ⟨p, hp6, rfl⟩ := i32_range (N := 6) (by decide) hx.1 (by have := hx.2; grind)
      have hwk := B.2.2.2.2.2.2.1
      have b1 : 0 ≤ σ.1 8 6 0 + n := by grind
      have b2 : σ.1 8 6 0 + n ≤ 20000 := by grind
      obtain ⟨σ1, c1, c2⟩ := melts7 B hp6 b1 b2
      have B1 := Base_ak B c2
      obtain ⟨σ2, m1, R⟩ := melts8 (wk := σ.1 8 6 0 + n) B1 hp6 b1 b2
      obtain ⟨g1, g2, -⟩ := holding_ph B.1
      have a1 : (0 : Int32) ≤ nI p ∧ nI p < 6 := nI_r (N := 6) hp6 (by decide)
      refine ⟨mlt wm (tM σ p) (σ.2.1 8 4 0 p) (σ.1 8 6 0 + n), σ1, σ2, ?_, ?_, ask_step h c2 R.1 R.2⟩
      · simp only [hx, hn, and_self, if_true, h10, if_false, a1, g1, g2, Option.bind_some, B.2.2.2.2.2.1, nI_clamp (show p < 2 ^ 31 by omega), Nat.mul_zero, Nat.zero_add, c1]
      · unfold f_X8_melts
        simp only [hone σ1 B1.2.2.2.1, within_eq, Option.bind_some, hx, hn, and_self, if_true, h10, if_false]
        rw [c2.1 8 6 0 (by decide), m1]
        simp only [Option.bind_some]
        rw [tM_fr c2 (by decide) (by decide) (by decide) (by decide), c2.2.1 8 4 0 (by decide)]
    · refine ⟨-10002, σ, σ, by simp only [hx, hn, and_self, if_true, h10, if_false], ?_, h⟩
      unfold f_X8_melts
      simp only [hone σ hT8, within_eq, Option.bind_some, hx, hn, and_self, if_true, h10, if_false]
  · refine ⟨-10001, σ, σ, by simp only [hx, if_true, if_false], ?_, h⟩
    unfold f_X8_melts
    simp only [hone σ hT8, Option.bind_some, hx, if_true, if_false]
-- WHEN
def fstN (O : Nat → Bool) : Nat → Nat → Nat
  | 0, _ => 61
  | d + 1, j => if O j = true then j else fstN O d (j + 1)
theorem fstN_le (O : Nat → Bool) : ∀ d j, j + d = 61 → fstN O d j ≤ 61
  | 0, _, _ => Nat.le_refl _
  | d + 1, j, h => by
    unfold fstN
    split
    · omega
    · exact fstN_le O d (j + 1) (by omega)
def dz (wm : (Nat → Int32) → Int32) (sn : Int32) (σ : Sto) (p n : Nat) : Bool := decide (Dp wm sn σ n p = 0)
/-- WHEN, 61 for never -/
def Wh (wm : (Nat → Int32) → Int32) (sn : Int32) (σ : Sto) (p : Nat) : Nat := fstN (dz wm sn σ p) 61 0
theorem when7_L {σ υ : Sto} {wm : (Nat → Int32) → Int32} {sn : Int32} {k T p : Nat} (B : Base σ wm sn k T) (e : FrE akF akA [] σ υ) (hp : p < 6) (ht : tC υ 12 = tM σ p) (hd : υ.1 5 4 12 = σ.2.1 8 4 0 p) : ∀ (d j : Nat), j + d = 61 → ∀ n, d < n → ∀ F, ∃ s', f_X7_whenOf_L23 n (sF (sA υ 5 6 12 F) 5 4 12 (Dp wm sn σ j p)) k (nI j) = some (nI (fstN (dz wm sn σ p) d j), s') ∧ FrE akF akA [] σ s' ∧ s'.2.1 7 4 0 = υ.2.1 7 4 0 := by
  have hwk := B.2.2.2.2.2.2.1
  intro d
  induction d with
  | zero =>
    intro j hj n hn F
    obtain ⟨n, rfl⟩ : ∃ q, n = q + 1 := ⟨n - 1, by omega⟩
    have hj2 : j = 61 := by omega
    subst hj2
    refine ⟨_, ?_, (e.sA (c := 5) (k := 6) (i := 12) (v := F) (by decide)).sF (c := 5) (k := 4) (i := 12) (v := Dp wm sn σ 61 p) (by decide), by simp [sF2, sA2]⟩
    show f_X7_whenOf_B23 _ _ k (nI 61) = _
    unfold f_X7_whenOf_B23
    rw [if_pos (show (60 : Int32) < nI 61 by decide)]
    rfl
  | succ d ih =>
    intro j hj n hn F
    obtain ⟨n, rfl⟩ : ∃ q, n = q + 1 := ⟨n - 1, by omega⟩
    have e2 : FrE akF akA [] σ (sF (sA υ 5 6 12 F) 5 4 12 (Dp wm sn σ j p)) := (e.sA (by decide)).sF (by decide)
    obtain ⟨g1, g2, g3, g4⟩ := Base_f B e2
    have hno : ¬ (60 : Int32) < nI j := nI_nlt (a := 60) (b := j) (by omega) (by decide)
    have hB : f_X7_whenOf_L23 (n + 1) (sF (sA υ 5 6 12 F) 5 4 12 (Dp wm sn σ j p)) k (nI j) = f_X7_whenOf_B23 (f_X7_whenOf_L23 n) (sF (sA υ 5 6 12 F) 5 4 12 (Dp wm sn σ j p)) k (nI j) := rfl
    by_cases hz : Dp wm sn σ j p = 0
    · refine ⟨_, ?_, e2, by simp [sF2, sA2]⟩
      rw [hB]
      unfold f_X7_whenOf_B23 f_X5_isOut
      rw [if_neg hno, sF_at, if_pos hz]
      simp only [Option.bind_some, h10, if_false]
      have : dz wm sn σ p j = true := by unfold dz; rw [hz]; rfl
      simp only [fstN, this, if_true]
    · obtain ⟨b1, b2⟩ := wk_bd hwk (show j < 61 by omega) (by omega)
      obtain ⟨F1, hF1⟩ := goWeek_eq (i := 12) g1 B.2.1 b1 b2
      obtain ⟨s', h', e'⟩ := ih (j + 1) (by omega) n (by omega) F1
      refine ⟨s', ?_, e'⟩
      rw [hB]
      unfold f_X7_whenOf_B23 f_X5_isOut
      rw [if_neg hno, sF_at, if_neg hz]
      simp only [Option.bind_some, if_true]
      rw [g2, hF1, tC_w, ht, sF_at, sA_sF, sA_sA, sF_sF]
      simp only [Option.bind_some, nmI, nI_1]
      have hgo : go wm sn (tM σ p) (σ.1 8 6 0 + nI j) (Dp wm sn σ j p) = Dp wm sn σ (j + 1) p := rfl
      rw [hgo, h']
      have : dz wm sn σ p j = false := by unfold dz; simp [hz]
      simp only [fstN, this, Bool.false_eq_true, if_false]
theorem when7 {σ s : Sto} {wm : (Nat → Int32) → Int32} {sn : Int32} {k T p : Nat} (B : Base σ wm sn k T) (e : FrE akF akA [] σ s) (hp : p < 6) : ∃ s', f_X7_whenOf s (nI p) = some (nI (Wh wm sn σ p), s') ∧ FrE akF akA [] σ s' ∧ s'.2.1 7 4 0 = s.2.1 7 4 0 := by
  obtain ⟨f1, f2, f3, f4⟩ := Base_f B e
  obtain ⟨τ, t1, t2, t3, t4⟩ := become12 (σ := s) hp
  obtain ⟨g1, g2, -⟩ := holding_ph f1
  have e2 := e.trans t2
  have key : ∀ M, 70 < M → ∃ s', f_X7_whenOf_L23 M τ k 0 = some (nI (Wh wm sn σ p), s') ∧ FrE akF akA [] σ s' ∧ s'.2.1 7 4 0 = s.2.1 7 4 0 := by
    intro M hM
    have ht : tC τ 12 = tM σ p := by rw [t3, (f4 p hp).1]
    have hd : τ.1 5 4 12 = σ.2.1 8 4 0 p := by rw [t4, (f4 p hp).2]
    have h := when7_L B e2 hp ht hd 61 0 rfl M (by omega) (τ.2.1 5 6 12)
    rw [nI_0, sA_id _ _ _ _ _ rfl] at h
    have h0 : Dp wm sn σ 0 p = σ.2.1 8 4 0 p := rfl
    rw [h0, sF_id _ _ _ _ _ hd.symm] at h
    have h74 : τ.2.1 7 4 0 = s.2.1 7 4 0 := by
      obtain ⟨F, hb, -⟩ := become_eq s (show 12 ≠ p by omega)
      rw [hb] at t1
      cases t1
      simp [sA2, sF2]
    rw [h74] at h
    exact h
  unfold f_X7_whenOf
  have a1 : (0 : Int32) ≤ nI p ∧ nI p < 6 := nI_r (N := 6) hp (by decide)
  rw [g1]
  simp only [Option.bind_some, g2, if_true, a1, and_self, nI_clamp (show p < 2 ^ 31 by omega), Nat.mul_zero, Nat.zero_add, t1]
  exact key 1000 (by decide)
/-- the reference's when(): found is -5 while none is -/
theorem when8_L {σ : Sto} {wm : (Nat → Int32) → Int32} {sn : Int32} {k T p : Nat} (B : MB σ wm sn k T) (hp : p < T) (Z : Sto → Prop) (hZ : ∀ n s', Gw wm sn σ T n s' → ∃ τ, f_X8_again_38 s' = some τ ∧ Z τ) : ∀ (d a : Nat), a + d = 61 → ∀ n, d + 1 < n → ∀ s, Gw wm sn σ T (a - 1) s → ∃ τ, f_X8_when_L13 n s (nI p) (-5) (nI a) = some ((if fstN (dz wm sn σ p) d a = 61 then -5 else nI (fstN (dz wm sn σ p) d a)), τ) ∧ Z τ := by
  have hT := B.2.2.1
  intro d
  induction d with
  | zero =>
    intro a ha n hn s g
    obtain ⟨n, rfl⟩ : ∃ q, n = q + 1 := ⟨n - 1, by omega⟩
    have ha2 : a = 61 := by omega
    subst ha2
    obtain ⟨τ, t1, t2⟩ := hZ _ s g
    refine ⟨τ, ?_, t2⟩
    show f_X8_when_B13 _ s _ _ _ = _
    unfold f_X8_when_B13 f_X8_when_L50
    rw [if_pos (show (61 : Int32) ≤ nI 61 by decide), t1]
    rfl
  | succ d ih =>
    intro a ha n hn s g
    obtain ⟨n, rfl⟩ : ∃ q, n = q + 2 := ⟨n - 2, by omega⟩
    obtain ⟨s2, hs2, g2⟩ : ∃ s2, (if nI a ≤ 0 then some s else f_X8_goesWeek s) = some s2 ∧ Gw wm sn σ T a s2 := by
      by_cases h0 : a = 0
      · subst h0
        exact ⟨s, by rw [if_pos (by decide)], g⟩
      · rw [if_neg (nI_nle (by omega) (by omega))]
        have := MB_s B (by omega) g
        rwa [show a - 1 + 1 = a by omega] at this
    have a1 : (0 : Int32) ≤ nI p ∧ nI p < 6 := nI_r (N := 6) (by omega) (by decide)
    have hc : (nI p).toNatClampNeg = p := nI_clamp (by omega)
    have hdp : s2.2.1 8 4 0 p = Dp wm sn σ a p := Gw_d g2 hT hp
    have hB : f_X8_when_L13 (n + 2) s (nI p) (-5) (nI a) = f_X8_when_L33 (f_X8_when_L13 (n + 1)) s2 (nI p) (-5) (nI a) := by
      show f_X8_when_B13 _ s _ _ _ = _
      unfold f_X8_when_B13
      rw [if_neg (show ¬ (61 : Int32) ≤ nI a from nI_ge (a := a) (b := 61) (by omega) (by decide)), if_pos rfl]
      by_cases h0 : nI a ≤ 0
      · rw [if_pos h0] at hs2 ⊢
        cases hs2
        rfl
      · rw [if_neg h0] at hs2 ⊢
        rw [hs2]
        rfl
    have hL : f_X8_when_L33 (f_X8_when_L13 (n + 1)) s2 (nI p) (-5) (nI a) = (if Dp wm sn σ a p = 0 then f_X8_when_L13 (n + 1) s2 (nI p) (nI a) (nI (a + 1)) else f_X8_when_L13 (n + 1) s2 (nI p) (-5) (nI (a + 1))) := by
      unfold f_X8_when_L33
      rw [if_pos a1, hc, hdp]
      simp only [nmI, nI_1]
    rw [hB, hL]
    by_cases hz : Dp wm sn σ a p = 0
    · obtain ⟨τ, t1, t2⟩ := hZ _ s2 g2
      refine ⟨τ, ?_, t2⟩
      have hdz : dz wm sn σ p a = true := by unfold dz; rw [hz]; rfl
      have hf : fstN (dz wm sn σ p) (d + 1) a = a := by simp only [fstN, hdz, if_true]
      rw [if_pos hz, hf, if_neg (by omega)]
      show f_X8_when_B13 _ s2 _ _ _ = _
      unfold f_X8_when_B13 f_X8_when_L50
      have hne : ¬ nI a = (-5 : Int32) := by
        have := nI_n0 (n := a) (by omega); grind
      rw [t1]
      by_cases h61 : (61 : Int32) ≤ nI (a + 1)
      · rw [if_pos h61]; rfl
      · rw [if_neg h61, if_neg hne]; rfl
    · obtain ⟨τ, t1, t2⟩ := ih (a + 1) (by omega) (n + 1) (by omega) s2 (by rw [show a + 1 - 1 = a by omega]; exact g2)
      refine ⟨τ, ?_, t2⟩
      have hdz : dz wm sn σ p a = false := by unfold dz; simp [hz]
      have hf : fstN (dz wm sn σ p) (d + 1) a = fstN (dz wm sn σ p) d (a + 1) := by simp only [fstN, hdz, Bool.false_eq_true, if_false]
      rw [if_neg hz, hf, t1]
theorem when8 {σ : Sto} {wm : (Nat → Int32) → Int32} {sn : Int32} {k T p : Nat} (B : MB σ wm sn k T) (hp : p < T) : ∃ s', f_X8_when σ (nI p) = some ((if Wh wm sn σ p = 61 then -5 else nI (Wh wm sn σ p)), s') ∧ Ra σ s' ∧ s'.2.1 8 38 0 = σ.2.1 8 38 0 := by
  obtain ⟨s0, k1, B0, k3, k4, k5, k6⟩ := keep_B B
  have key : ∀ M, 70 < M → ∃ s', f_X8_when_L13 M s0 (nI p) (-5) 0 = some ((if Wh wm sn σ p = 61 then -5 else nI (Wh wm sn σ p)), s') ∧ Ra σ s' ∧ s'.2.1 8 38 0 = σ.2.1 8 38 0 := by
    intro M hM
    have h := when8_L B0 hp (fun τ => Ra σ τ ∧ τ.2.1 8 38 0 = σ.2.1 8 38 0) (fun n s' g => by
      obtain ⟨τ, t1, t2, t3⟩ := again38_eq s'
      refine ⟨τ, t1, ⟨(k3.trans (Gw_am g)).trans (t2.mono (by decide) (by decide) (by decide)), fun i hi => by rw [t3 i hi, Gw_ahead g, k5 i hi]⟩, ?_⟩
      rw [t2.2.1 8 38 0 (by decide), g.1.2.1 8 38 0 (by decide), k6.2.1 8 38 0 (by decide)]) 61 0 rfl M (by omega) s0 Gw_0
    rw [nI_0] at h
    have hw : (dz wm sn s0 p) = (dz wm sn σ p) := by
      funext n
      unfold dz
      rw [k4]
    rw [hw] at h
    exact h
  unfold f_X8_when
  rw [k1]
  simp only [Option.bind_some]
  exact key 1000 (by decide)
theorem Wh_ak {σ s : Sto} {wm : (Nat → Int32) → Int32} {sn : Int32} {p : Nat} (e : FrE akF akA [] σ s) : Wh wm sn s p = Wh wm sn σ p := by
  unfold Wh
  congr 1
  funext n
  unfold dz
  rw [Dp_fr e (by decide) (by decide) (by decide) (by decide) (by decide) (by decide)]
theorem Wh_ra {σ s : Sto} {wm : (Nat → Int32) → Int32} {sn : Int32} {k T p : Nat} (B : MB σ wm sn k T) (R : Ra σ s) (hp : p < 6) : Wh wm sn s p = Wh wm sn σ p := by
  obtain ⟨-, f2, f3⟩ := Ra_f B R
  unfold Wh
  congr 1
  funext n
  unfold dz Dp
  rw [(f3 p hp).1, (f3 p hp).2, f2]
theorem Wh_le {wm : (Nat → Int32) → Int32} {sn : Int32} {σ : Sto} {p : Nat} : Wh wm sn σ p ≤ 61 := fstN_le _ 61 0 rfl
theorem of_step {σ : Sto} (h : Inv σ) (x w : Int32) : ∃ r σ1 σ2, f_X7_of σ x w = some (r, σ1) ∧ f_X8_of σ1 x w = some (r, σ2) ∧ Inv σ2 := by
  obtain ⟨wm, sn, k, T, B⟩ := base_of h
  have hT := B.2.2.1
  have hT8 := B.2.2.2.1
  have hT6 := B.2.2.2.2.1
  have hTb : 0 ≤ nI T ∧ nI T ≤ 6 := ⟨nI_n0 (by omega), (nI_leI (a := T) (b := 6) (by omega) (by decide)).mpr hT⟩
  have hone : ∀ s, s.1 8 0 0 = nI T → ∀ y, f_X8_isOne s y = some (if 0 ≤ y ∧ y < nI T then 1 else 0) := fun s hs y => by
    rw [isOne_le (by rw [hs]; exact hTb.1) (by rw [hs]; exact hTb.2), hs]
  unfold f_X7_of
  simp only [isThing_eq, Option.bind_some, hT6]
  by_cases hx : 0 ≤ x ∧ x < nI T
  · obtain ⟨p, hp6, rfl⟩ := i32_range (N := 6) (by decide) hx.1 (by have := hx.2; grind)
    have hpT : p < T := (nI_ltI (by omega) (by omega)).mp hx.2
    have a1 : (0 : Int32) ≤ nI p ∧ nI p < 6 := nI_r (N := 6) hp6 (by decide)
    have hc : (nI p).toNatClampNeg = p := nI_clamp (by omega)
    obtain ⟨t0, t1, t2, t3, t4, t5⟩ := h.1.1 p hp6
    have hwk := B.2.2.2.2.2.2.1
    obtain ⟨g1, g2, -⟩ := holding_ph B.1
    by_cases w0 : w = 0
    · refine ⟨σ.2.1 8 1 0 p, σ, σ, by simp only [hx, and_self, if_true, h10, if_false, a1, w0, hc, Nat.mul_zero, Nat.zero_add, t1.1], ?_, h⟩
      unfold f_X8_of
      simp only [hone σ hT8, Option.bind_some, hx, and_self, if_true, h10, if_false, a1, w0, hc]
    · by_cases w1 : w = 1
      · refine ⟨σ.2.1 8 2 0 p, σ, σ, by simp only [hx, and_self, if_true, h10, if_false, a1, w0, w1, hc, Nat.mul_zero, Nat.zero_add, t2.1], ?_, h⟩
        unfold f_X8_of
        simp only [hone σ hT8, Option.bind_some, hx, and_self, if_true, h10, if_false, a1, w0, w1, hc]
      · by_cases w2 : w = 2
        · refine ⟨σ.2.1 8 3 0 p, σ, σ, by simp only [hx, and_self, if_true, h10, if_false, a1, w0, w1, hc, Nat.mul_zero, Nat.zero_add, t3.1, if_pos w2], ?_, h⟩
          unfold f_X8_of
          simp only [hone σ hT8, Option.bind_some, hx, and_self, if_true, h10, if_false, a1, w0, w1, hc, if_pos w2]
        · by_cases w3 : w = 3
          · refine ⟨σ.2.1 8 4 0 p, σ, σ, by simp only [hx, and_self, if_true, h10, if_false, a1, w0, w1, w2, hc, Nat.mul_zero, Nat.zero_add, t4.1, if_pos w3], ?_, h⟩
            unfold f_X8_of
            simp only [hone σ hT8, Option.bind_some, hx, and_self, if_true, h10, if_false, a1, w0, w1, w2, hc, if_pos w3]
          · by_cases w4 : w = 4
            · obtain ⟨σ1, c1, c2⟩ := melts7 (wk := σ.1 8 6 0) B hp6 hwk.1 (by grind)
              have B1 := Base_ak B c2
              obtain ⟨σ2, m1, R⟩ := melts8 (wk := σ.1 8 6 0) B1 hp6 hwk.1 (by grind)
              refine ⟨mlt wm (tM σ p) (σ.2.1 8 4 0 p) (σ.1 8 6 0), σ1, σ2, ?_, ?_, ask_step h c2 R.1 R.2⟩
              · simp only [hx, and_self, if_true, h10, if_false, a1, w0, w1, w2, w3, hc, Nat.mul_zero, Nat.zero_add, if_pos w4, g1, g2, Option.bind_some, B.2.2.2.2.2.1, c1]
              · unfold f_X8_of
                simp only [hone σ1 B1.2.2.2.1, Option.bind_some, hx, and_self, if_true, h10, if_false, w0, w1, w2, w3, if_pos w4]
                rw [c2.1 8 6 0 (by decide), m1]
                simp only [Option.bind_some]
                rw [tM_fr c2 (by decide) (by decide) (by decide) (by decide), c2.2.1 8 4 0 (by decide)]
            · by_cases w5 : w = 5
              · obtain ⟨σ1, c1, c2, -⟩ := when7 B FrE.rfl' hp6
                have B1 := Base_ak B c2
                obtain ⟨σ2, m1, R, -⟩ := when8 (MB_of B1) hpT
                rw [Wh_ak c2] at m1
                refine ⟨(if Wh wm sn σ p = 61 then -5 else nI (Wh wm sn σ p)), σ1, σ2, ?_, ?_, ask_step h c2 R.1 R.2⟩
                · simp only [hx, and_self, if_true, h10, if_false, a1, w0, w1, w2, w3, w4, if_pos w5, c1, Option.bind_some, orNever_eq]
                  have hle := Wh_le (wm := wm) (sn := sn) (σ := σ) (p := p)
                  have hq : nI (Wh wm sn σ p) = 61 ↔ Wh wm sn σ p = 61 := nI_eq (a := Wh wm sn σ p) (b := 61) (by omega) (by decide)
                  by_cases hz : Wh wm sn σ p = 61
                  · rw [if_pos (hq.mpr hz), if_pos hz]
                  · rw [if_neg (fun u => hz (hq.mp u)), if_neg hz]
                · unfold f_X8_of
                  simp only [hone σ1 B1.2.2.2.1, Option.bind_some, hx, and_self, if_true, h10, if_false, w0, w1, w2, w3, w4, if_pos w5, m1]
              · refine ⟨-10001, σ, σ, by simp only [hx, and_self, if_true, h10, if_false, a1, w0, w1, w2, w3, w4, w5], ?_, h⟩
                unfold f_X8_of
                simp only [hone σ hT8, Option.bind_some, hx, and_self, if_true, h10, if_false, w0, w1, w2, w3, w4, w5]
  · refine ⟨-10001, σ, σ, by simp only [hx, if_true, if_false], ?_, h⟩
    unfold f_X8_of
    simp only [hone σ hT8, Option.bind_some, hx, if_true, if_false]
