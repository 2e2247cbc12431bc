-- told, pass
theorem crossed7 {σ : Sto} {wm : (Nat → Int32) → Int32} {sn : Int32} {k T : Nat} (B : Base σ wm sn k T) (hw : ∀ q, q < 6 → σ.1 5 3 q = σ.2.1 8 3 0 q) : ∃ σ1, FrE akF akA [] σ σ1 ∧ f_X7_crossed σ 0 = some ((crO (crX (σ.2.1 8 3 0) (Wh wm sn σ)) T T 0 (0, -5)).1, σ1) ∧ f_X7_crossed σ 1 = some ((crO (crX (σ.2.1 8 3 0) (Wh wm sn σ)) T T 0 (0, -5)).2, σ1) ∧ ∀ x, f_X7_inOrder σ x = some (atR (Wh wm sn σ) T x T 0, σ1) := by
  obtain ⟨s, h1, e, hq⟩ := findWhens_eq B
  have hT := B.2.2.1
  have hV : Vc s T (σ.2.1 8 3 0) (Wh wm sn σ) := ⟨hT, (Base_f B e).2.2.1, fun q hqT => ⟨by
    rw [← hw q (by omega)]
    exact e.1 5 3 q (by rw [grp5a (by omega)]; decide), hq q hqT, Wh_le⟩⟩
  have key := (fun (key : ∀ M, 10 < M → f_X7_crossed_L8 M s 0 0 0 = some ((crO (crX (σ.2.1 8 3 0) (Wh wm sn σ)) T T 0 (0, -5)).1, s) ∧ f_X7_crossed_L8 M s 1 0 0 = some ((crO (crX (σ.2.1 8 3 0) (Wh wm sn σ)) T T 0 (0, -5)).2, s) ∧ ∀ x, f_X7_inOrder_L6 M s x 0 = some (atR (Wh wm sn σ) T x T 0, s)) => key 1000 (by decide)) (fun M hM => by
    have g := cr7_O hV T 0 (by omega) M (by omega) 0
    have g2 := fun x => ord7_O hV x T 0 (by omega) M (by omega)
    rw [nI_0] at g
    simp only [nI_0] at g2
    exact ⟨g.1, g.2, g2⟩)
  refine ⟨s, e, ?_, ?_, fun x => ?_⟩
  · unfold f_X7_crossed
    rw [h1]
    simp only [Option.bind_some]
    exact key.1
  · unfold f_X7_crossed
    rw [h1]
    simp only [Option.bind_some]
    exact key.2.1
  · unfold f_X7_inOrder
    rw [h1]
    simp only [Option.bind_some]
    exact key.2.2 x
theorem crossed8 {σ : Sto} {wm : (Nat → Int32) → Int32} {sn : Int32} {k T : Nat} (B : MB σ wm sn k T) : ∃ σ1, Ra σ σ1 ∧ (∀ x, f_X8_crossed σ x = some ((if x = 0 then (crO (crX (σ.2.1 8 3 0) (Wh wm sn σ)) T T 0 (0, -5)).1 else (crO (crX (σ.2.1 8 3 0) (Wh wm sn σ)) T T 0 (0, -5)).2), σ1)) ∧ ∀ x, f_X8_order σ x = some (atR (Wh wm sn σ) T x T 0, σ1) := by
  obtain ⟨s, h1, R, hq⟩ := looks_eq B
  have hT := B.2.2.1
  have hV : Vm s T (σ.2.1 8 3 0) (Wh wm sn σ) := ⟨hT, (Ra_f B R).1.2.2.2.1, fun q hqT => ⟨by
    have := R.2 (12 + q) (by omega)
    rwa [snap_worth s (by omega), snap_worth σ (by omega)] at this, hq q hqT, Wh_le⟩⟩
  have key := (fun (key : ∀ M, 10 < M → (∀ x, f_X8_crossed_L12 M s x 0 (-5) 0 = some ((if x = 0 then (crO (crX (σ.2.1 8 3 0) (Wh wm sn σ)) T T 0 (0, -5)).1 else (crO (crX (σ.2.1 8 3 0) (Wh wm sn σ)) T T 0 (0, -5)).2), s)) ∧ ∀ x, f_X8_order_L8 M s x (-1) 0 = some (atR (Wh wm sn σ) T x T 0, s)) => key 1000 (by decide)) (fun M hM => by
    have g := fun x => cr8_O hV x T 0 (by omega) M (by omega) 0 (-5)
    have g2 := fun x => ord8_O hV x T 0 (by omega) M (by omega) (-1) (fun _ _ _ => Or.inl rfl)
    simp only [nI_0] at g
    simp only [nI_0, if_true] at g2
    exact ⟨g, g2⟩)
  refine ⟨s, R, fun x => ?_, fun x => ?_⟩
  · unfold f_X8_crossed
    rw [h1]
    simp only [Option.bind_some]
    exact key.1 x
  · unfold f_X8_order
    rw [h1]
    simp only [Option.bind_some]
    exact key.2 x
theorem told_step {σ : Sto} (h : Inv σ) (x : Int32) : ∃ r σ1 σ2, f_X7_told σ x = some (r, σ1) ∧ f_X8_told σ1 x = some (r, σ2) ∧ Inv σ2 := by
  obtain ⟨wm, sn, k, T, B⟩ := base_of h
  have hT := B.2.2.1
  have hT8 := B.2.2.2.1
  have hTb : 0 ≤ nI T ∧ nI T ≤ 6 := ⟨nI_n0 (by omega), (nI_leI (a := T) (b := 6) (by omega) (by decide)).mpr hT⟩
  have hone : ∀ s, s.1 8 0 0 = nI T → ∀ y, f_X8_isOne s y = some (if 0 ≤ y ∧ y < nI T then 1 else 0) := fun s hs y => by
    rw [isOne_le (by rw [hs]; exact hTb.1) (by rw [hs]; exact hTb.2), hs]
  obtain ⟨g1, g2, g3⟩ := holding_ph B.1
  obtain ⟨σc, ec, cc0, cc1, cco⟩ := crossed7 B (fun q hq => (h.1.1 q hq).2.2.2.1.1)
  have Bc := Base_ak B ec
  obtain ⟨σm, Rm, mm, mmo⟩ := crossed8 (MB_of Bc)
  have hv : σc.2.1 8 3 0 = σ.2.1 8 3 0 := ec.2.1 8 3 0 (by decide)
  have hW : Wh wm sn σc = Wh wm sn σ := funext fun p => Wh_ak ec
  rw [hv, hW] at mm
  rw [hW] at mmo
  by_cases x0 : x = 0
  · refine ⟨σ.1 8 6 0, σ, σ, ?_, ?_, h⟩
    · unfold f_X7_told; rw [if_pos x0, B.2.2.2.2.2.1]
    · unfold f_X8_told; rw [if_pos x0]
  · by_cases x1 : x = 1
    · refine ⟨sn, σ, σ, ?_, ?_, h⟩
      · unfold f_X7_told; rw [if_neg x0, if_pos x1, g1]; simp only [Option.bind_some, g2, if_true, g3]
      · unfold f_X8_told; rw [if_neg x0, if_pos x1, snow_ph B.1]; rfl
    · by_cases x2 : x = 2
      · obtain ⟨σ1, c1, c2⟩ := outBits_eq (N := 0) B (by omega) FrE.rfl'
        have B1 := Base_ak B c2
        rw [nI_0] at c1
        refine ⟨bitsN (Dp wm sn σ 0) T, σ1, σ1, ?_, ?_, Inv_ak h c2⟩
        · unfold f_X7_told; rw [if_neg x0, if_neg x1, if_pos x2, c1]; rfl
        · unfold f_X8_told; rw [if_neg x0, if_neg x1, if_pos x2, outs_eq B1.2.2.2.1 hT, c2.2.1 8 4 0 (by decide)]; rfl
      · by_cases x3 : x = 3
        · obtain ⟨σ1, c1, c2⟩ := depthOfAll_eq (N := 0) B (by omega) FrE.rfl'
          have B1 := Base_ak B c2
          rw [nI_0] at c1
          refine ⟨sumN (Dp wm sn σ 0) T, σ1, σ1, ?_, ?_, Inv_ak h c2⟩
          · unfold f_X7_told; rw [if_neg x0, if_neg x1, if_neg x2, if_pos x3, c1]; rfl
          · unfold f_X8_told; rw [if_neg x0, if_neg x1, if_neg x2, if_pos x3, allDepth_eq B1.2.2.2.1 hT, c2.2.1 8 4 0 (by decide)]; rfl
        · by_cases x4 : x = 4
          · refine ⟨(crO (crX (σ.2.1 8 3 0) (Wh wm sn σ)) T T 0 (0, -5)).1, σc, σm, ?_, ?_, ask_step h ec Rm.1 Rm.2⟩
            · unfold f_X7_told; rw [if_neg x0, if_neg x1, if_neg x2, if_neg x3, if_pos x4, cc0]; rfl
            · unfold f_X8_told; rw [if_neg x0, if_neg x1, if_neg x2, if_neg x3, if_pos x4, mm, if_pos rfl]; rfl
          · by_cases x5 : x = 5
            · refine ⟨(crO (crX (σ.2.1 8 3 0) (Wh wm sn σ)) T T 0 (0, -5)).2, σc, σm, ?_, ?_, ask_step h ec Rm.1 Rm.2⟩
              · unfold f_X7_told; rw [if_neg x0, if_neg x1, if_neg x2, if_neg x3, if_neg x4, if_pos x5, cc1]; rfl
              · unfold f_X8_told; rw [if_neg x0, if_neg x1, if_neg x2, if_neg x3, if_neg x4, if_pos x5, mm, if_neg h10]; rfl
            · by_cases hx : x < 10
              · have hno : ¬ (0 ≤ x - 10 ∧ x - 10 < nI T) := by
                  intro hh
                  have h6 : x - 10 < 6 := by grind
                  have h7 := hh.1
                  grind
                refine ⟨-1, σ, σ, ?_, ?_, h⟩
                · unfold f_X7_told; rw [if_neg x0, if_neg x1, if_neg x2, if_neg x3, if_neg x4, if_neg x5, if_pos hx]
                · unfold f_X8_told; rw [if_neg x0, if_neg x1, if_neg x2, if_neg x3, if_neg x4, if_neg x5, hone σ hT8, if_neg hno]; rfl
              · by_cases hk : 0 ≤ x - 10 ∧ x - 10 < nI T
                · refine ⟨atR (Wh wm sn σ) T (x - 10) T 0, σc, σm, ?_, ?_, ask_step h ec Rm.1 Rm.2⟩
                  · unfold f_X7_told; rw [if_neg x0, if_neg x1, if_neg x2, if_neg x3, if_neg x4, if_neg x5, if_neg hx, cco]; rfl
                  · unfold f_X8_told; rw [if_neg x0, if_neg x1, if_neg x2, if_neg x3, if_neg x4, if_neg x5, hone σc Bc.2.2.2.1, if_pos hk]
                    simp only [Option.bind_some, h10, if_false, mmo]
                · have hn : atR (Wh wm sn σ) T (x - 10) T 0 = -1 := atR_none T 0 (fun q _ hq he => hk (by
                    have hr := rk_lt (W := Wh wm sn σ) (T := T) (p := q) (by omega)
                    rw [← he]
                    exact nI_r hr (by omega)))
                  refine ⟨-1, σc, σc, ?_, ?_, Inv_ak h ec⟩
                  · unfold f_X7_told; rw [if_neg x0, if_neg x1, if_neg x2, if_neg x3, if_neg x4, if_neg x5, if_neg hx, cco, hn]; rfl
                  · unfold f_X8_told; rw [if_neg x0, if_neg x1, if_neg x2, if_neg x3, if_neg x4, if_neg x5, hone σc Bc.2.2.2.1, if_neg hk]; rfl
-- pass
abbrev ps7F : List (Nat × Nat × Nat) := [(5, 4, 0)]
abbrev ps7A : List (Nat × Nat × Nat) := [(5, 6, 0)]
theorem pass7_L {σ : Sto} {wm : (Nat → Int32) → Int32} {sn : Int32} {k T N : Nat} (B : Base σ wm sn k T) (hN : N ≤ 60) : ∀ (d j : Nat), j + d = T → ∀ n, d < n → ∀ s, FrE ps7F ps7A [] σ s → (∀ q, q < 6 → s.1 5 4 q = if q < j then Dp wm sn σ N q else σ.2.1 8 4 0 q) → ∃ s', f_X7_pass_L32 n s (nI N) (nI j) = some (σ.1 8 6 0 + nI N, sF s' 6 2 0 (σ.1 8 6 0 + nI N)) ∧ FrE ps7F ps7A [] σ s' ∧ (∀ q, q < 6 → s'.1 5 4 q = if q < T then Dp wm sn σ N q else σ.2.1 8 4 0 q) := by
  obtain ⟨b1, b2, b3, b4, b5, b6, b7, b8⟩ := B
  intro d
  induction d with
  | zero =>
    intro j hj n hn s e hq
    obtain ⟨n, rfl⟩ : ∃ q, n = q + 1 := ⟨n - 1, by omega⟩
    have hj2 : j = T := by omega
    subst hj2
    refine ⟨s, ?_, e, hq⟩
    show f_X7_pass_B32 _ s _ _ = _
    unfold f_X7_pass_B32
    rw [e.1 6 1 0 (by decide), b5, if_pos (by grind), e.1 6 2 0 (by decide), b6]
    simp only [nm, sF_at]
  | succ d ih =>
    intro j hj n hn s e hq
    obtain ⟨n, rfl⟩ : ∃ q, n = q + 1 := ⟨n - 1, by omega⟩
    have hP : PH s wm sn k := PH_fr b1 e (by decide) (by decide)
    have hw : s.1 6 2 0 = σ.1 8 6 0 := by rw [e.1 6 2 0 (by decide), b6]
    obtain ⟨F, hF⟩ := goWeeks_eq (i := j) hP b2 (by rw [hw]; exact b7) hN
    have hg := grp5a (p := j) (by omega)
    have ht : tC s j = tM σ j := by
      rw [← (b8 j (by omega)).1]
      unfold tC
      rw [e.1 5 0 j (by rw [hg]; decide), e.1 5 1 j (by rw [hg]; decide), e.1 5 2 j (by rw [hg]; decide), e.1 5 3 j (by rw [hg]; decide), e.2.1 5 5 j (by rw [hg]; decide)]
    have hd : s.1 5 4 j = σ.2.1 8 4 0 j := by rw [hq j (by omega), if_neg (by omega)]
    rw [ht, hd, hw] at hF
    have a1 : (0 : Int32) ≤ nI j ∧ nI j < 6 := nI_r (N := 6) (by omega) (by decide)
    obtain ⟨s', g1, g2, g3⟩ := ih (j + 1) (by omega) n (by omega) (sF (sA s 5 6 j F) 5 4 j (Dp wm sn σ N j)) ((e.sA (by rw [hg]; decide)).sF (by rw [hg]; decide)) (by
      intro q hq6
      rw [sF1]
      by_cases hqj : q = j
      · subst hqj
        simp
      · simp only [hqj, and_false, if_false, sA1]
        rw [hq q hq6]
        by_cases hlt : q < j
        · rw [if_pos hlt, if_pos (by omega)]
        · rw [if_neg hlt, if_neg (by omega)])
    refine ⟨s', ?_, g2, g3⟩
    rw [← g1]
    show f_X7_pass_B32 _ s _ _ = _
    unfold f_X7_pass_B32
    rw [e.1 6 1 0 (by decide), b5, if_neg (nI_ge (by omega) (by omega)), if_pos a1, nI_clamp (by omega), Nat.mul_zero, Nat.zero_add, hF]
    simp only [Option.bind_some, nmI, nI_1]
    rfl
abbrev psF : List (Nat × Nat × Nat) := [(5, 4, 0), (6, 2, 0), (8, 6, 0)]
abbrev psA : List (Nat × Nat × Nat) := [(5, 6, 0), (8, 22, 0), (8, 39, 0), (8, 4, 0)]
theorem pass_step {σ : Sto} (h : Inv σ) (x : Int32) : ∃ r σ1 σ2, f_X7_pass σ x = some (r, σ1) ∧ f_X8_pass σ1 x = some (r, σ2) ∧ Inv σ2 := by
  obtain ⟨wm, sn, k, T, B⟩ := base_of h
  have hT := B.2.2.1
  have hw7 := B.2.2.2.2.2.1
  unfold f_X7_pass
  simp only [isUpTo_eq, Option.bind_some]
  by_cases hx : 0 ≤ x ∧ x ≤ 60
  · obtain ⟨N, hN, rfl⟩ := i32_range (N := 61) (by decide) hx.1 (by have := hx.2; grind)
    by_cases hl : σ.1 8 6 0 + nI N ≤ 9999
    · obtain ⟨s, c1, c2, c3⟩ := (fun (key : ∀ M, 10 < M → ∃ s', f_X7_pass_L32 M σ (nI N) 0 = some (σ.1 8 6 0 + nI N, sF s' 6 2 0 (σ.1 8 6 0 + nI N)) ∧ FrE ps7F ps7A [] σ s' ∧ (∀ q, q < 6 → s'.1 5 4 q = if q < T then Dp wm sn σ N q else σ.2.1 8 4 0 q)) => key 1000 (by decide)) (fun M hM => by
        have g := pass7_L (N := N) B (by omega) T 0 (by omega) M (by omega) σ FrE.rfl' (fun q hq => by rw [if_neg (by omega), (B.2.2.2.2.2.2.2 q hq).2.1])
        rw [nI_0] at g
        exact g)
      have e1 : FrE [(5, 4, 0), (6, 2, 0)] [(5, 6, 0)] [] σ (sF s 6 2 0 (σ.1 8 6 0 + nI N)) := (c2.mono (by decide) (by decide) (by decide)).sF (by decide)
      have B1 : MB (sF s 6 2 0 (σ.1 8 6 0 + nI N)) wm sn k T := by
        obtain ⟨b1, b2, b3, b4, b5, b6⟩ := MB_of B
        exact ⟨PH_fr b1 e1 (by decide) (by decide), b2, b3, by rw [e1.1 8 0 0 (by decide), b4], by rw [e1.1 8 6 0 (by decide)]; exact b5, by rw [e1.2.1 8 4 0 (by decide)]; exact b6⟩
      obtain ⟨σ2, m1, g⟩ := (fun (key : ∀ M, 70 < M → ∃ σ2, f_X8_pass_L30 M (sF s 6 2 0 (σ.1 8 6 0 + nI N)) (nI N) 0 = some (σ.1 8 6 0 + nI N, σ2) ∧ Gw wm sn (sF s 6 2 0 (σ.1 8 6 0 + nI N)) T N σ2) => key 1000 (by decide)) (fun M hM => by
        obtain ⟨s', g, hh⟩ := wl_pass B1 (show N ≤ 60 by omega) N 0 (by omega) M (by omega) _ Gw_0
        rw [nI_0] at hh
        refine ⟨s', ?_, g⟩
        rw [hh]
        unfold f_X8_pass_B30
        have hle : nI N ≤ nI N := by grind
        rw [if_pos hle, g.2.1, e1.1 8 6 0 (by decide)])
      have e2 : FrE psF psA [] σ σ2 := (e1.mono (by decide) (by decide) (by decide)).trans (g.1.mono (by decide) (by decide) (by decide))
      refine ⟨σ.1 8 6 0 + nI N, sF s 6 2 0 (σ.1 8 6 0 + nI N), σ2, ?_, ?_, ?_⟩
      · rw [if_pos hx, if_neg h10, hw7, if_pos hl]
        exact c1
      · unfold f_X8_pass
        rw [within_eq, if_pos hx]
        simp only [Option.bind_some, h10, if_false]
        rw [e1.1 8 6 0 (by decide), if_pos hl]
        exact m1
      · obtain ⟨⟨h1, h2, h3, h4, h5⟩, h6, h7, h8, h9, h10', h11⟩ := h
        have hNb := nI_n0 (n := N) (by omega)
        refine ⟨⟨?_, ?_, Ws_fr h3 e2 (by decide) (by decide), Wp_fr h4 e2 (by decide) (by decide), Wb_fr h5 e2 (by decide) (by decide)⟩, I_tx_fr h6 e2 (by decide) (by decide), I_ac_fr h7 e2 (by decide) (by decide), I_tp_fr h8 e2 (by decide) (by decide) (by decide), Im_fr h9 e2 (by decide) (by decide), Pc_fr h10' e2 (by decide), Ps_fr h11 e2 (by decide) (by decide)⟩
        · intro p hp
          obtain ⟨t0, t1, t2, t3, t4, t5⟩ := h1 p hp
          have hg := grp5a hp
          rw [e2.1 5 0 p (by rw [hg]; decide), e2.1 5 1 p (by rw [hg]; decide), e2.1 5 2 p (by rw [hg]; decide), e2.1 5 3 p (by rw [hg]; decide), e2.2.1 5 5 p (by rw [hg]; decide), e2.2.1 8 1 0 (by decide), e2.2.1 8 2 0 (by decide), e2.2.1 8 3 0 (by decide), e2.2.1 8 5 0 (by decide)]
          refine ⟨t0, t1, t2, t3, ?_, t5⟩
          have hc : σ2.1 5 4 p = if p < T then Dp wm sn σ N p else σ.2.1 8 4 0 p := by
            rw [g.1.1 5 4 p (by simp [grp]), sF1]
            simp only [show ¬ (5 : Nat) = 6 by decide, false_and, if_false]
            exact c3 p hp
          have hm : σ2.2.1 8 4 0 p = if p < T then Dp wm sn σ N p else σ.2.1 8 4 0 p := by
            rw [g.2.2 p hp, e1.2.1 8 4 0 (by decide), e1.1 8 6 0 (by decide), tM_fr e1 (by decide) (by decide) (by decide) (by decide)]
            rfl
          rw [hc, hm]
          refine ⟨rfl, ?_⟩
          split
          · exact Dp_bd t4.2
          · exact t4.2
        · obtain ⟨n1, n2, n3⟩ := h2
          unfold Wn
          rw [e2.1 6 1 0 (by decide), e2.1 8 0 0 (by decide), e2.1 6 3 0 (by decide), e2.1 8 14 0 (by decide), e2.1 7 7 0 (by decide)]
          refine ⟨n1, ?_, n3⟩
          rw [g.2.1, e1.1 8 6 0 (by decide), g.1.1 6 2 0 (by decide), sF_at]
          refine ⟨rfl, ?_, hl⟩
          have h60 := hx.2
          have := n2.2.1
          have := n2.2.2
          grind
    · refine ⟨-3, σ, σ, by rw [if_pos hx, if_neg h10, hw7, if_neg hl], ?_, h⟩
      unfold f_X8_pass
      rw [within_eq, if_pos hx]
      simp only [Option.bind_some, h10, if_false, hl]
  · refine ⟨-2, σ, σ, by rw [if_neg hx, if_pos rfl], ?_, h⟩
    unfold f_X8_pass
    rw [within_eq, if_neg hx]
    simp only [Option.bind_some, if_true]
