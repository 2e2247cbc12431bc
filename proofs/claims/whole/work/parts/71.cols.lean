-- COL
abbrev bf_Im7 (x : Nat × Nat × Nat) : Prop := (x.1 = 5 ∧ x.2.2 = 1) ∨ (x.1 = 6 ∧ x.2.2 = 1) ∨ (x.1 = 2 ∧ x.2.2 = 1) ∨ (x.1 = 7 ∧ x.2.1 = 2) ∨ (x.1 = 8 ∧ x.2.1 = 35)
theorem RW1_up {fs as ls : List (Nat × Nat × Nat)} {σ σ' : Sto} {s : Nat → Int32} (h : RW σ 1 s) (e : FrE fs as ls σ σ') (hf : ∀ x ∈ fs, ¬ bf_Im7 x) (ha : ∀ x ∈ as, ¬ ba_Im x) (hp : σ.1 7 7 0 ≤ σ'.1 7 7 0) : RW σ' 1 s := by
  obtain ⟨h1, h2, h3, h4, h5⟩ := h
  refine ⟨?_, ?_, ?_, ?_, ?_⟩
  · intro p hp
    have g : grp 5 (6 * 1 + p) = 1 := grp5b hp
    rw [e.f (c := 5) (k := 0) (i := 6 * 1 + p) hf (Or.inl ⟨rfl, g⟩), e.f (c := 5) (k := 1) (i := 6 * 1 + p) hf (Or.inl ⟨rfl, g⟩), e.f (c := 5) (k := 2) (i := 6 * 1 + p) hf (Or.inl ⟨rfl, g⟩), e.f (c := 5) (k := 3) (i := 6 * 1 + p) hf (Or.inl ⟨rfl, g⟩), e.f (c := 5) (k := 4) (i := 6 * 1 + p) hf (Or.inl ⟨rfl, g⟩), e.a (c := 5) (k := 5) (i := 6 * 1 + p) ha (Or.inl ⟨rfl, rfl, g⟩)]
    exact h1 p hp
  · unfold RWn at *
    rw [e.f (c := 6) (k := 1) (i := 1) hf (by decide), e.f (c := 6) (k := 2) (i := 1) hf (by decide), e.f (c := 6) (k := 3) (i := 1) hf (by decide)]
    refine ⟨h2.1, h2.2.1, h2.2.2.1, h2.2.2.2.1, ?_⟩
    have := h2.2.2.2.2
    grind
  · unfold RWs at *
    rw [e.f (c := 2) (k := 0) (i := 3 * 1) hf (by decide), e.f (c := 2) (k := 4) (i := 3 * 1) hf (by decide), e.a (c := 2) (k := 1) (i := 3 * 1) ha (by decide), e.a (c := 2) (k := 2) (i := 3 * 1) ha (by decide), e.a (c := 2) (k := 3) (i := 3 * 1) ha (by decide)]
    exact h3
  · unfold RWp at *
    rw [e.f (c := 2) (k := 0) (i := 3 * 1 + 1) hf (by decide), e.f (c := 2) (k := 4) (i := 3 * 1 + 1) hf (by decide), e.a (c := 2) (k := 1) (i := 3 * 1 + 1) ha (by decide), e.a (c := 2) (k := 2) (i := 3 * 1 + 1) ha (by decide)]
    exact h4
  · unfold RWb at *
    rw [e.f (c := 2) (k := 0) (i := 3 * 1 + 2) hf (by decide), e.f (c := 2) (k := 4) (i := 3 * 1 + 2) hf (by decide), e.a (c := 2) (k := 1) (i := 3 * 1 + 2) ha (by decide), e.a (c := 2) (k := 2) (i := 3 * 1 + 2) ha (by decide)]
    exact h5
theorem Im_up {fs as ls : List (Nat × Nat × Nat)} {σ σ' : Sto} (h : Im σ) (e : FrE fs as ls σ σ') (hf : ∀ x ∈ fs, ¬ bf_Im7 x) (ha : ∀ x ∈ as, ¬ ba_Im x) (hp : σ.1 7 7 0 ≤ σ'.1 7 7 0) : Im σ' := by
  unfold Im at *
  rw [e.f (c := 7) (k := 2) (i := 0) hf (by decide), e.f (c := 8) (k := 35) (i := 0) hf (by decide), e.a (c := 8) (k := 36) (i := 0) ha (by decide)]
  rw [e.f (c := 2) (k := 0) (i := 3) hf (by decide), e.f (c := 2) (k := 0) (i := 4) hf (by decide), e.f (c := 2) (k := 0) (i := 5) hf (by decide)]
  refine ⟨h.1, ?_, h.2.2⟩
  rcases h.2.1 with h2 | h2
  · exact Or.inl h2
  · exact Or.inr ⟨h2.1, RW1_up h2.2 e hf ha hp⟩
theorem RP_keep {σ σ2 : Sto} {k' k c0 : Nat} (h : RP σ k') (hk : k' < k) (a1 : ∀ c, σ2.1 1 c k' = σ.1 1 c k' ∧ σ2.2.1 1 c k' = σ.2.1 1 c k') (a2 : σ2.2.1 8 15 0 k' = σ.2.1 8 15 0 k') (a3 : ∀ c j, 16 ≤ c → c ≤ 19 → j < 10 * k → σ2.2.1 8 c 0 j = σ.2.1 8 c 0 j) (a4 : ∀ j, j < c0 → σ2.2.1 8 20 0 j = σ.2.1 8 20 0 j) (hc : σ.1 8 21 0 = nI c0) (hc0 : c0 < 2 ^ 31) (hcd : (σ.1 8 21 0).toInt ≤ (σ2.1 8 21 0).toInt) : RP σ2 k' := by
  unfold RP at *
  obtain ⟨m, C, P, b1, b2, b3, b4, b5, b6, b7⟩ := h
  refine ⟨m, C, P, b1, by rw [a2]; exact b2, b3, by rw [(a1 3).1]; exact b4, b5, ?_, fun i hi => ?_⟩
  · rw [(a1 4).1, b6]
    exact (snN_congr m (fun j hj => ⟨a3 16 _ (by omega) (by omega) (by omega), a3 17 _ (by omega) (by omega) (by omega)⟩)).symm
  · exact RCx_old (N := P (i + 1)) (b7 i hi) (Nat.le_refl _) (fun x _ => congrFun (a1 0).2 x) (fun x _ => congrFun (a1 1).2 x) (fun x _ => congrFun (a1 2).2 x) (a3 16 _ (by omega) (by omega) (by omega)) (a3 17 _ (by omega) (by omega) (by omega)) (a3 18 _ (by omega) (by omega) (by omega)) (a3 19 _ (by omega) (by omega) (by omega)) (fun x hx => a4 x (by rw [hc, nI_toInt hc0] at hx; omega)) hcd rfl rfl rfl
abbrev clF : List (Nat × Nat × Nat) := [(4, 2, 0), (4, 3, 0), (1, 3, 0), (1, 4, 0), (4, 1, 0), (8, 9, 0), (8, 10, 0), (8, 11, 0), (8, 12, 0), (8, 21, 0), (8, 7, 0)]
abbrev clG : List (Nat × Nat × Nat) := [(6, 3, 0), (7, 7, 0), (8, 13, 0), (8, 14, 0), (4, 2, 0), (4, 3, 0), (1, 3, 0), (1, 4, 0), (4, 1, 0), (8, 9, 0), (8, 10, 0), (8, 11, 0), (8, 12, 0), (8, 21, 0), (8, 7, 0)]
abbrev clA : List (Nat × Nat × Nat) := [(1, 0, 0), (1, 1, 0), (1, 2, 0), (8, 20, 0), (8, 16, 0), (8, 17, 0), (8, 18, 0), (8, 19, 0), (8, 15, 0)]
theorem col_step {σ : Sto} (h : Inv σ) : ∃ r σ1 σ2, f_X7_col σ = some (r, σ1) ∧ f_X8_col σ1 = some (r, σ2) ∧ Inv σ2 := by
  have h' := h
  obtain ⟨⟨h1, h2, h3, h4, h5⟩, ⟨⟨x1, x2, x3⟩, xr⟩, hac, htp, him, ⟨p1, p2, p3, p4, p5⟩, hps⟩ := h
  obtain ⟨k, hk, hke⟩ := i32_range (N := 7) (x := σ.1 8 13 0) (by decide) p2 (by grind)
  obtain ⟨Ln, hLn, hLe⟩ := i32_range (N := 101) (x := σ.1 8 7 0) (by decide) x2 (by grind)
  have hkt : (σ.1 8 13 0).toInt = k := by rw [hke]; exact nI_toInt (by omega)
  obtain ⟨c0, hc0, hce⟩ : ∃ c0, c0 ≤ 100 * k ∧ σ.1 8 21 0 = nI c0 := by
    obtain ⟨c0, hc, hce⟩ := i32_range (N := 601) (x := σ.1 8 21 0) (by decide) p4 (by
      rw [Int32.lt_iff_toInt_lt]
      have : (Int32.ofNat 601).toInt = 601 := by decide
      omega)
    refine ⟨c0, ?_, hce⟩
    have : (σ.1 8 21 0).toInt = c0 := by rw [hce]; exact nI_toInt (by omega)
    omega
  rw [hke] at p1
  by_cases hk6 : k = 6
  · subst hk6
    refine ⟨-4, σ, σ, ?_, ?_, h'⟩
    · unfold f_X7_col
      rw [p1, if_neg (by decide)]
    · unfold f_X8_col
      rw [hke, if_pos (by decide)]
  have hk5 : k < 6 := by omega
  have b1 : (0 : Int32) ≤ nI k ∧ nI k < 6 := nI_r (N := 6) (by omega) (by decide)
  have b2 : (nI k).toNatClampNeg = k := nI_clamp (by omega)
  -- both loops from a store of the reference that has the text
  have hloop : ∀ t0 : Sto, t0.1 8 7 0 = nI Ln → t0.2.1 8 8 0 = σ.2.1 8 8 0 → t0.1 8 13 0 = nI k → t0.1 8 21 0 = nI c0 → ∃ v rr s' t', f_X4_readInto_L20 1000 (sF (sF (sF (sT σ k) 1 3 k 0) 1 4 k 0) 4 2 0 0) 9 = some (v, s') ∧ f_X8_col_L29 1000 (sF t0 8 9 0 0) (nI c0) 0 1 0 = some (rr, t') ∧ ((∃ a' t1, a' ≤ Ln ∧ v = nI a' ∧ rr = (-10 : Int32) - nI a' ∧ WK σ t0 s' t1 k c0 Ln a' ∧ t' = sF (sF t1 8 7 0 0) 8 21 0 (nI c0)) ∨ (∃ i' a' C' P' t1, v = -1 ∧ rr = nI k ∧ i' ≤ 10 ∧ CL σ t0 s' t1 k c0 Ln a' i' C' P' ∧ t' = fin8 t1 k i')) := by
    intro t0 g1 g2 g3 g4
    have T : TX σ t0 Ln (σ.2.1 8 8 0) := by
      refine ⟨by omega, by rw [x1, hLe], g1, fun j hj => ?_⟩
      obtain ⟨y1, y2, y3⟩ := xr j (by omega) (by rw [hLe, nI_toInt (by omega)]; omega)
      exact ⟨y1, by rw [g2], y2, y3⟩
    have L : CL σ t0 (sF (sF (sF (sT σ k) 1 3 k 0) 1 4 k 0) 4 2 0 0) (sF t0 8 9 0 0) k c0 Ln 0 0 (fun _ => []) (fun _ => 0) := by
      refine ⟨⟨rfl, ((FrE.rfl'.sT.sF (show (1, 3, 0) ∈ cpF by decide)).sF (show (1, 4, 0) ∈ cpF by decide)).sF (by decide), fun k' hk' c => ⟨?_, rfl⟩, sF_at _ _ _ _ _, FrE.rfl'.sF (by decide), fun _ _ _ _ _ => rfl, fun _ _ => rfl, sF_at _ _ _ _ _, Nat.zero_le _⟩, rfl, ?_, Nat.le_refl _, fun _ _ => Nat.le_refl _, ⟨c0, ?_, Nat.le_refl _, by omega⟩, ?_, fun i' hi' => by omega⟩
      · rw [sF_ne (by omega), sF_ne (by omega), sF_ne (by omega)]
        rfl
      · rw [sF_ne (by omega), sF_ne (by omega), sF_at]
        rfl
      · rw [sF_ne (by decide)]; exact g4
      · rw [sF_ne (by omega), sF_at]
        rfl
    exact (fun (key : ∀ M, 70 < M → ∃ v rr s' t', f_X4_readInto_L20 M (sF (sF (sF (sT σ k) 1 3 k 0) 1 4 k 0) 4 2 0 0) 9 = some (v, s') ∧ f_X8_col_L29 M (sF t0 8 9 0 0) (nI c0) 0 1 0 = some (rr, t') ∧ ((∃ a' t1, a' ≤ Ln ∧ v = nI a' ∧ rr = (-10 : Int32) - nI a' ∧ WK σ t0 s' t1 k c0 Ln a' ∧ t' = sF (sF t1 8 7 0 0) 8 21 0 (nI c0)) ∨ (∃ i' a' C' P' t1, v = -1 ∧ rr = nI k ∧ i' ≤ 10 ∧ CL σ t0 s' t1 k c0 Ln a' i' C' P' ∧ t' = fin8 t1 k i'))) => key 1000 (by decide)) (fun M hM => col_loop hk5 (by omega) T g3 (nI c0) 9 0 rfl M M (by omega) (by omega) _ _ 0 _ _ L)
  -- the class
  have hcls : f_X7_col σ = (f_X4_readInto_L20 1000 (sF (sF (sF (sT σ k) 1 3 k 0) 1 4 k 0) 4 2 0 0) 9).bind fun q4 => (if q4.1 < 0 then some ((sF (sF q4.2 4 1 0 0) 6 3 0 ((sF q4.2 4 1 0 0).1 7 7 0)).1 6 3 0, sF (sF (sF q4.2 4 1 0 0) 6 3 0 ((sF q4.2 4 1 0 0).1 7 7 0)) 7 7 0 ((sF (sF q4.2 4 1 0 0) 6 3 0 ((sF q4.2 4 1 0 0).1 7 7 0)).1 7 7 0 + 1)) else some (((-10 : Int32) - q4.1), sF q4.2 4 1 0 0)) := by
    unfold f_X7_col f_X4_readInto f_X1_clear
    rw [p1, if_pos b1.2, if_pos b1, b2]
    simp only [nm, nmI]
    rw [if_pos (show (sT σ k).2.2.2 < 8 from show k < 8 by omega)]
    rfl
  have hmod : ∀ t0 : Sto, t0.1 8 13 0 = nI k → t0.1 8 21 0 = nI c0 → f_X8_col t0 = f_X8_col_L29 1000 (sF t0 8 9 0 0) (nI c0) 0 1 0 := by
    intro t0 g1 g2
    unfold f_X8_col
    rw [g1, g2, if_neg (show ¬ nI k = (6 : Int32) from fun hh => hk6 ((nI_eq (a := k) (b := 6) (by omega) (by decide)).mp hh))]
    simp only [nm, nmI]
  obtain ⟨v, rr, s', t', o7, -, hc⟩ := hloop σ hLe rfl hke hce
  rw [hcls, o7]
  simp only [Option.bind_some]
  have hs : FrE cpF cpA [] σ s' ∧ (∀ k', k' ≠ k → ∀ c, s'.1 1 c k' = σ.1 1 c k' ∧ s'.2.1 1 c k' = σ.2.1 1 c k') ∧ ((v = -1) ∨ ∃ a', a' ≤ Ln ∧ v = nI a') := by
    rcases hc with ⟨a', t1, y1, y2, -, y4, -⟩ | ⟨i', a', C', P', t1, y1, -, -, y4, -⟩
    · exact ⟨y4.2.1, y4.2.2.1, Or.inr ⟨a', y1, y2⟩⟩
    · exact ⟨y4.1.2.1, y4.1.2.2.1, Or.inl y1⟩
  clear hc
  obtain ⟨e1, e1k, hv⟩ := hs
  have hne : ∀ a', a' ≤ Ln → (-1 : Int32) = nI a' → False := fun a' ha hh => by
    have := nI_n0 (n := a') (by omega)
    rw [← hh] at this
    exact absurd this (by decide)
  have s77 : s'.1 7 7 0 = nI k := by rw [e1.1 7 7 0 (by decide), p1]
  rcases hv with rfl | ⟨a', ha', rfl⟩
  · -- it is a PASS
    rw [if_pos (by decide)]
    have q77 : (sF s' 4 1 0 0).1 7 7 0 = nI k := by rw [sF_ne (by decide), s77]
    rw [q77, sF_at, sF_ne (σ := sF s' 4 1 0 0) (c := 6) (k := 3) (i := 0) (c' := 7) (k' := 7) (i' := 0) (by decide), q77, nI_1]
    obtain ⟨v2, rr, s2, t', o7', o8, hc⟩ := hloop (sF (sF (sF s' 4 1 0 0) 6 3 0 (nI k)) 7 7 0 (nI (k + 1))) (by rw [sF_ne (by decide), sF_ne (by decide), sF_ne (by decide), e1.1 8 7 0 (by decide), hLe]) (e1.2.1 8 8 0 (by decide)) (by rw [sF_ne (by decide), sF_ne (by decide), sF_ne (by decide), e1.1 8 13 0 (by decide), hke]) (by rw [sF_ne (by decide), sF_ne (by decide), sF_ne (by decide), e1.1 8 21 0 (by decide), hce])
    have hsame := o7.symm.trans o7'
    have hv2 : (-1 : Int32) = v2 := congrArg Prod.fst (Option.some.inj hsame)
    have hs2 : s' = s2 := congrArg Prod.snd (Option.some.inj hsame)
    subst hs2
    rcases hc with ⟨a', t1, y1, y2, -⟩ | ⟨i', a', C', P', t1, -, y2, y3, y4, y5⟩
    · exact absurd (hv2.trans y2) (fun hh => hne a' y1 hh)
    subst y2
    subst y5
    refine ⟨nI k, _, fin8 t1 k i', rfl, ?_, ?_⟩
    · rw [hmod _ (by rw [sF_ne (by decide), sF_ne (by decide), sF_ne (by decide), e1.1 8 13 0 (by decide), hke]) (by rw [sF_ne (by decide), sF_ne (by decide), sF_ne (by decide), e1.1 8 21 0 (by decide), hce])]
      exact o8
    · obtain ⟨⟨w1, w2, w3, w4, w5, w6, w7, w8, w9⟩, hP0, hsz, hPa, hPm, ⟨cc, hcc, hc1, hc2⟩, hsn, hR⟩ := y4
      have e : FrE clG clA [] σ (fin8 t1 k i') := by
        have e2 : FrE clG clA [] σ (sF (sF (sF s' 4 1 0 0) 6 3 0 (nI k)) 7 7 0 (nI (k + 1))) := (((e1.mono (by decide) (by decide) (by decide)).sF (by decide)).sF (by decide)).sF (by decide)
        have e3 : FrE clG clA [] σ t1 := e2.trans (w5.mono (by decide) (by decide) (by decide))
        exact (((e3.sF (by decide)).sA (by decide)).sF (by decide)).sF (by decide)
      have f13 : (fin8 t1 k i').1 8 13 0 = nI (k + 1) := sF_at _ _ _ _ _
      have f14 : (fin8 t1 k i').1 8 14 0 = nI k := by unfold fin8; rw [sF_ne (by decide), sF_at]
      have f7 : (fin8 t1 k i').1 8 7 0 = 0 := by unfold fin8; rw [sF_ne (by decide), sF_ne (by decide), sA1, sF_at]
      have f21 : (fin8 t1 k i').1 8 21 0 = nI cc := by unfold fin8; rw [sF_ne (by decide), sF_ne (by decide), sA1, sF_ne (by decide), hcc]
      have fF : ∀ c q i, c ≠ 8 → (fin8 t1 k i').1 c q i = (sF (sF (sF s' 4 1 0 0) 6 3 0 (nI k)) 7 7 0 (nI (k + 1))).1 c q i := fun c q i hcn => by
        unfold fin8
        rw [sF_ne (by omega), sF_ne (by omega), sA1, sF_ne (by omega), w5.1 c q i (fun hh => by simp at hh; omega)]
      have fA : ∀ c q i, c ≠ 8 → (fin8 t1 k i').2.1 c q i = s'.2.1 c q i := fun c q i hcn => by
        unfold fin8
        rw [sF2, sF2, sA_ne (by omega), sF2, w5.2.1 c q i (fun hh => by simp at hh; omega)]
        rfl
      have f1 : ∀ q i, (fin8 t1 k i').1 1 q i = s'.1 1 q i := fun q i => by
        rw [fF 1 q i (by omega), sF_ne (by omega), sF_ne (by omega), sF_ne (by omega)]
      have f77 : (fin8 t1 k i').1 7 7 0 = nI (k + 1) := by rw [fF 7 7 0 (by omega), sF_at]
      have f63 : (fin8 t1 k i').1 6 3 0 = nI k := by rw [fF 6 3 0 (by omega), sF_ne (by decide), sF_at]
      have f41 : (fin8 t1 k i').1 4 1 0 = 0 := by rw [fF 4 1 0 (by omega), sF_ne (by decide), sF_ne (by decide), sF_at]
      have f15 : (fin8 t1 k i').2.1 8 15 0 = upd (t1.2.1 8 15 0) k (nI i') := by unfold fin8; rw [sF2, sF2, sA_at]
      have f8 : ∀ c, c ≠ 15 → (fin8 t1 k i').2.1 8 c 0 = t1.2.1 8 c 0 := fun c hcn => by
        unfold fin8
        rw [sF2, sF2, sA_ne (by omega), sF2]
      have m15 : t1.2.1 8 15 0 = σ.2.1 8 15 0 := by
        rw [w5.2.1 8 15 0 (by decide)]
        exact e1.2.1 8 15 0 (by decide)
      have mS : ∀ c, (sF (sF (sF s' 4 1 0 0) 6 3 0 (nI k)) 7 7 0 (nI (k + 1))).2.1 8 c 0 = σ.2.1 8 c 0 := fun c => e1.2.1 8 c 0 (fun hh => by simp at hh)
      have kle : nI k ≤ nI (k + 1) := nI_le (by omega) (by omega)
      have hcI : (nI cc).toInt = cc := nI_toInt (by omega)
      have hc0I : (nI c0).toInt = c0 := nI_toInt (by omega)
      refine ⟨⟨Wt_fr h1 e (by decide) (by decide), ?_, Ws_fr h3 e (by decide) (by decide), Wp_fr h4 e (by decide) (by decide), Wb_fr h5 e (by decide) (by decide)⟩, ?_, I_ac_fr hac e (by decide) (by decide), I_tp_fr htp e (by decide) (by decide) (by decide), Im_up him e (by decide) (by decide) (by rw [f77, p1]; exact kle), ?_, ?_⟩
      · unfold Wn at *
        rw [f63, f14, f77, e.1 6 1 0 (by decide), e.1 6 2 0 (by decide), e.1 8 0 0 (by decide), e.1 8 6 0 (by decide)]
        refine ⟨h2.1, h2.2.1, rfl, ?_, nI_lt (by omega) (by omega)⟩
        have := nI_n0 (n := k) (by omega)
        grind
      · unfold I_tx
        rw [f41, f7]
        refine ⟨⟨rfl, by decide, by decide⟩, fun j hj hj2 => ?_⟩
        exfalso
        have : (0 : Int32).toInt = 0 := rfl
        omega
      · unfold Pc
        rw [f77, f13, f21]
        refine ⟨rfl, nI_n0 (by omega), (nI_leI (a := k + 1) (b := 6) (by omega) (by decide)).mpr (by omega), nI_n0 (by omega), ?_⟩
        rw [hcI, nI_toInt (by omega)]
        omega
      · refine ⟨?_, fun k' hk' => ?_⟩
        · rw [f1, f1, (e1k 6 (by omega) 3).1, (e1k 6 (by omega) 4).1]
          exact hps.1
        · rw [f13, nI_toInt (by omega)] at hk'
          by_cases hkk : k' = k
          · subst hkk
            unfold RP
            rw [f1, f1, fA 1 0 k' (by omega), fA 1 1 k' (by omega), fA 1 2 k' (by omega), f15, f8 16 (by omega), f8 17 (by omega), f8 18 (by omega), f8 19 (by omega), f8 20 (by omega), f21]
            rw [hcc] at hR
            exact ⟨i', C', P', y3, by rw [upd_at, if_pos rfl], hP0, hsz, by omega, hsn, hR⟩
          · refine RP_keep (k := k) (c0 := c0) (hps.2 k' (by rw [hkt]; omega)) (by omega) (fun c => ?_) ?_ (fun c j z1 z2 z3 => ?_) (fun j hj => ?_) hce (by omega) (by rw [hce, f21, hcI, hc0I]; omega)
            · rw [f1, fA 1 c k' (by omega)]
              exact e1k k' hkk c
            · rw [f15, upd_at, if_neg hkk, m15]
            · rw [f8 c (by omega), w6 c j z1 z2 z3, mS]
            · rw [f8 20 (by omega), w7 j hj, mS]
  · -- it is none
    rw [if_neg (fun hh => by
      have := nI_n0 (n := a') (by omega)
      grind)]
    obtain ⟨v2, rr, s2, t', o7', o8, hc⟩ := hloop (sF s' 4 1 0 0) (by rw [sF_ne (by decide), e1.1 8 7 0 (by decide), hLe]) (e1.2.1 8 8 0 (by decide)) (by rw [sF_ne (by decide), e1.1 8 13 0 (by decide), hke]) (by rw [sF_ne (by decide), e1.1 8 21 0 (by decide), hce])
    have hsame := o7.symm.trans o7'
    have hv2 : nI a' = v2 := congrArg Prod.fst (Option.some.inj hsame)
    have hs2 : s' = s2 := congrArg Prod.snd (Option.some.inj hsame)
    subst hs2
    rcases Or.symm hc with ⟨i', a2, C', P', t1, y1, -⟩ | ⟨a2, t1, y1, y2, y3, y4, y5⟩
    · exact absurd (y1.symm.trans hv2.symm) (fun hh => hne a' ha' hh)
    have haa : nI a' = nI a2 := hv2.trans y2
    subst y5
    refine ⟨(-10 : Int32) - nI a', _, sF (sF t1 8 7 0 0) 8 21 0 (nI c0), rfl, ?_, ?_⟩
    · rw [hmod _ (by rw [sF_ne (by decide), e1.1 8 13 0 (by decide), hke]) (by rw [sF_ne (by decide), e1.1 8 21 0 (by decide), hce]), o8, y3, haa]
    · obtain ⟨w1, w2, w3, w4, w5, w6, w7, w8, w9⟩ := y4
      have e : FrE clF clA [] σ (sF (sF t1 8 7 0 0) 8 21 0 (nI c0)) := by
        have e2 : FrE clF clA [] σ (sF s' 4 1 0 0) := (e1.mono (by decide) (by decide) (by decide)).sF (by decide)
        have e3 : FrE clF clA [] σ t1 := e2.trans (w5.mono (by decide) (by decide) (by decide))
        exact (e3.sF (by decide)).sF (by decide)
      have f21 : (sF (sF t1 8 7 0 0) 8 21 0 (nI c0)).1 8 21 0 = nI c0 := sF_at _ _ _ _ _
      have f7 : (sF (sF t1 8 7 0 0) 8 21 0 (nI c0)).1 8 7 0 = 0 := by rw [sF_ne (by decide), sF_at]
      have f41 : (sF (sF t1 8 7 0 0) 8 21 0 (nI c0)).1 4 1 0 = 0 := by rw [sF_ne (by decide), sF_ne (by decide), w5.1 4 1 0 (by decide), sF_at]
      have f13 : (sF (sF t1 8 7 0 0) 8 21 0 (nI c0)).1 8 13 0 = nI k := by rw [e.1 8 13 0 (by decide), hke]
      have f77 : (sF (sF t1 8 7 0 0) 8 21 0 (nI c0)).1 7 7 0 = nI k := by rw [e.1 7 7 0 (by decide), p1]
      have f1 : ∀ q i, (sF (sF t1 8 7 0 0) 8 21 0 (nI c0)).1 1 q i = s'.1 1 q i := fun q i => by
        rw [sF_ne (by omega), sF_ne (by omega), w5.1 1 q i (fun hh => by simp at hh), sF_ne (by omega)]
      have fA : ∀ q i, (sF (sF t1 8 7 0 0) 8 21 0 (nI c0)).2.1 1 q i = s'.2.1 1 q i := fun q i => by
        rw [sF2, sF2, w5.2.1 1 q i (fun hh => by simp at hh)]
        rfl
      have mS : ∀ c, (sF s' 4 1 0 0).2.1 8 c 0 = σ.2.1 8 c 0 := fun c => e1.2.1 8 c 0 (fun hh => by simp at hh)
      have hc0I : (nI c0).toInt = c0 := nI_toInt (by omega)
      refine ⟨⟨Wt_fr h1 e (by decide) (by decide), Wn_fr h2 e (by decide), Ws_fr h3 e (by decide) (by decide), Wp_fr h4 e (by decide) (by decide), Wb_fr h5 e (by decide) (by decide)⟩, ?_, I_ac_fr hac e (by decide) (by decide), I_tp_fr htp e (by decide) (by decide) (by decide), Im_fr him e (by decide) (by decide), ?_, ?_⟩
      · unfold I_tx
        rw [f41, f7]
        refine ⟨⟨rfl, by decide, by decide⟩, fun j hj hj2 => ?_⟩
        exfalso
        have : (0 : Int32).toInt = 0 := rfl
        omega
      · unfold Pc
        rw [f77, f13, f21]
        refine ⟨rfl, nI_n0 (by omega), (nI_leI (a := k) (b := 6) (by omega) (by decide)).mpr (by omega), nI_n0 (by omega), ?_⟩
        rw [hc0I, nI_toInt (by omega)]
        omega
      · refine ⟨?_, fun k' hk' => ?_⟩
        · rw [f1, f1, (e1k 6 (by omega) 3).1, (e1k 6 (by omega) 4).1]
          exact hps.1
        · rw [f13, nI_toInt (by omega)] at hk'
          refine RP_keep (k := k) (c0 := c0) (hps.2 k' (by rw [hkt]; omega)) (by omega) (fun c => ?_) ?_ (fun c j z1 z2 z3 => ?_) (fun j hj => ?_) hce (by omega) (by rw [hce, f21]; exact Int.le_refl _)
          · rw [f1, fA c k']
            exact e1k k' (by omega) c
          · rw [sF2, sF2, w5.2.1 8 15 0 (by decide), mS]
          · rw [sF2, sF2, w6 c j z1 z2 z3, mS]
          · rw [sF2, sF2, w7 j hj, mS]
