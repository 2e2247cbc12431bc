-- CALLS THAT CHANGE THE WINTER: set, row
theorem h10 : ¬ ((1 : Int32) = 0) := by decide
theorem isOne_le {σ : Sto} (h0 : 0 ≤ σ.1 8 0 0) (h6 : σ.1 8 0 0 ≤ 6) (n : Int32) : f_X8_isOne σ n = some (if 0 ≤ n ∧ n < σ.1 8 0 0 then 1 else 0) := by
  rw [isOne_eq]; grind
theorem thing_ix {x T : Int32} (hT : T ≤ 6) (h : 0 ≤ x ∧ x < T) : ∃ p : Nat, p < 6 ∧ x = nI p ∧ (nI p).toNatClampNeg = p ∧ 0 ≤ nI p ∧ nI p < 6 := by
  obtain ⟨p, hp, rfl⟩ := i32_range (N := 6) (by decide) h.1 (by have := h.2; grind)
  exact ⟨p, hp, rfl, nI_clamp (by omega), nI_n0 (by omega), (nI_ltI (a := p) (b := 6) (by omega) (by decide)).mpr hp⟩
abbrev wtF : List (Nat × Nat × Nat) := [(5, 1, 0), (5, 2, 0), (5, 3, 0), (5, 4, 0)]
abbrev wtA : List (Nat × Nat × Nat) := [(5, 5, 0), (8, 1, 0), (8, 2, 0), (8, 3, 0), (8, 4, 0), (8, 5, 0)]
theorem Inv_Wt {σ σ' : Sto} (h : Inv σ) (w : Wt σ') (e : FrE wtF wtA [] σ σ') : Inv σ' := by
  obtain ⟨⟨h1, h2, h3, h4, h5⟩, h6, h7, h8, h9, h10, h11⟩ := h
  exact ⟨⟨w, Wn_fr h2 e (by decide), Ws_fr h3 e (by decide) (by decide), Wp_fr h4 e (by decide) (by decide), Wb_fr h5 e (by decide) (by decide)⟩, I_tx_fr h6 e (by decide) (by decide), I_ac_fr h7 e (by decide) (by decide), I_tp_fr h8 e (by decide) (by decide) (by decide), Im_fr h9 e (by decide) (by decide), Pc_fr h10 e (by decide), Ps_fr h11 e (by decide) (by decide)⟩
theorem memwF3 {p : Nat} (hp : p < 6) : (5, 3, grp 5 p) ∈ wtF := by rw [grp5a hp]; decide
theorem memwF4 {p : Nat} (hp : p < 6) : (5, 4, grp 5 p) ∈ wtF := by rw [grp5a hp]; decide
theorem memwA5 {p : Nat} (hp : p < 6) : (5, 5, grp 5 p) ∈ wtA := by rw [grp5a hp]; decide
theorem set_step {σ : Sto} (h : Inv σ) (x w n : Int32) : ∃ r σ1 σ2, f_X7_set σ x w n = some (r, σ1) ∧ f_X8_set σ1 x w n = some (r, σ2) ∧ Inv σ2 := by
  have hN := h.1.2.1.1
  have hT := h.1.1
  unfold f_X7_set f_X8_set
  rw [isThing_eq, isUpTo_eq, isUpTo_eq, hN.1]
  simp only [Option.bind_some, within_eq]
  by_cases hx : 0 ≤ x ∧ x < σ.1 8 0 0
  · obtain ⟨p, hp, rfl, c1, c2, c3⟩ := thing_ix hN.2.2 hx
    simp only [hx, and_self, if_true, h10, if_false, c1, c2, c3, Nat.mul_zero, Nat.zero_add]
    by_cases hw : 0 ≤ w ∧ w ≤ 1
    · by_cases hn : 0 ≤ n ∧ n ≤ 99
      · simp only [hw, hn, and_self, if_true, h10, if_false]
        obtain ⟨t0, t1, t2, t3, t4, t5⟩ := hT p hp
        by_cases hw0 : w = 0
        · refine ⟨σ.2.1 8 3 0 p, sF σ 5 3 p n, sA (sF σ 5 3 p n) 8 3 0 (upd (σ.2.1 8 3 0) p n), ?_, ?_, ?_⟩
          · unfold f_X7_set_L58 f_X5_put
            simp only [hw0, if_true, nm, Option.bind_some, t3.1]
          · unfold f_X8_set_L51
            rw [isOne_le (σ := sF σ 5 3 p n) (by simp [sF1, hN.2.1]) (by simp [sF1, hN.2.2])]
            simp only [sF1, sF2]
            simp [hx, hw0, hw, nm, c1, c2, c3]
          · refine Inv_Wt h ?_ ((FrE.rfl'.sF (memwF3 hp)).sA (by decide))
            intro q hq
            obtain ⟨d0, d1, d2, d3, d4, d5⟩ := hT q hq
            simp only [sF1, sA1, sA2, sF2]
            refine ⟨by simpa using d0, by simpa using d1, by simpa using d2, ?_, by simpa using d4, by simpa using d5⟩
            simp [upd_at]
            grind
        · have hw1 : w = 1 := by grind
          refine ⟨σ.2.1 8 4 0 p, sF σ 5 4 p n, sA (sF σ 5 4 p n) 8 4 0 (upd (σ.2.1 8 4 0) p n), ?_, ?_, ?_⟩
          · unfold f_X7_set_L58 f_X5_put
            simp only [hw1, h10, if_false, if_true, nm, Option.bind_some, t4.1]
          · unfold f_X8_set_L51
            rw [isOne_le (σ := sF σ 5 4 p n) (by simp [sF1, hN.2.1]) (by simp [sF1, hN.2.2])]
            simp only [sF1, sF2]
            simp [hx, hw1, nm, c1, c2, c3, h10]
          · refine Inv_Wt h ?_ ((FrE.rfl'.sF (memwF4 hp)).sA (by decide))
            intro q hq
            obtain ⟨d0, d1, d2, d3, d4, d5⟩ := hT q hq
            simp only [sF1, sA1, sA2, sF2]
            refine ⟨by simpa using d0, by simpa using d1, by simpa using d2, by simpa using d3, ?_, by simpa using d5⟩
            simp [upd_at]
            grind
      · refine ⟨-2, σ, σ, by simp only [hw, hn, and_self, if_true, h10, if_false], ?_, h⟩
        rw [isOne_le hN.2.1 hN.2.2]
        simp only [hx, hw, hn, and_self, if_true, h10, if_false, Option.bind_some]
    · refine ⟨-1, σ, σ, by simp only [hw, if_true, if_false], ?_, h⟩
      rw [isOne_le hN.2.1 hN.2.2]
      simp only [hx, hw, and_self, if_true, h10, if_false, Option.bind_some]
  · refine ⟨-1, σ, σ, by simp only [hx, if_true, if_false], ?_, h⟩
    rw [isOne_le hN.2.1 hN.2.2]
    simp only [hx, if_true, if_false, Option.bind_some]
theorem row_ix {p j : Nat} (hp : p < 6) (hj : j < 4) : (4 : Int32) * nI p + nI j = nI (4 * p + j) ∧ (0 : Int32) ≤ nI (4 * p + j) ∧ nI (4 * p + j) < 24 ∧ (nI (4 * p + j)).toNatClampNeg = 4 * p + j := by
  have e1 : (4 : Int32) = nI 4 := rfl
  refine ⟨?_, nI_n0 (by omega), (nI_ltI (a := 4 * p + j) (b := 24) (by omega) (by decide)).mpr (by omega), nI_clamp (by omega)⟩
  rw [e1, nI_mulN, nI_add]
theorem row_step {σ : Sto} (h : Inv σ) (x w n : Int32) : ∃ r σ1 σ2, f_X7_row σ x w n = some (r, σ1) ∧ f_X8_row σ1 x w n = some (r, σ2) ∧ Inv σ2 := by
  have hN := h.1.2.1.1
  have hT := h.1.1
  unfold f_X7_row f_X8_row
  rw [isThing_eq, isUpTo_eq, isUpTo_eq, hN.1]
  simp only [Option.bind_some, within_eq]
  by_cases hx : 0 ≤ x ∧ x < σ.1 8 0 0
  · obtain ⟨p, hp, rfl, c1, c2, c3⟩ := thing_ix hN.2.2 hx
    simp only [hx, and_self, if_true, h10, if_false, c1, c2, c3, Nat.mul_zero, Nat.zero_add]
    by_cases hw : 0 ≤ w ∧ w ≤ 3
    · by_cases hn : 0 ≤ n ∧ n ≤ 9
      · obtain ⟨t0, t1, t2, t3, t4, t5⟩ := hT p hp
        simp only [hw, hn, and_self, if_true, h10, if_false]
        by_cases hk : σ.2.1 8 1 0 p = 6
        · obtain ⟨j, hj, rfl⟩ := i32_range (x := w) (N := 4) (by decide) hw.1 (by have := hw.2; grind)
          obtain ⟨g1, g2, g3, g4⟩ := row_ix hp hj
          have c4 : (nI j).toNatClampNeg = j := nI_clamp (by omega)
          have c5 : (0 : Int32) ≤ nI j := nI_n0 (by omega)
          have c6 : nI j < (4 : Int32) := (nI_ltI (a := j) (b := 4) (by omega) (by decide)).mpr hj
          refine ⟨σ.2.1 8 5 0 (4 * p + j), sA σ 5 5 p (upd (σ.2.1 5 5 p) j n), sA (sA σ 5 5 p (upd (σ.2.1 5 5 p) j n)) 8 5 0 (upd (σ.2.1 8 5 0) (4 * p + j) n), ?_, ?_, ?_⟩
          · simp only [t1.1, hk, if_true, c4, c5, c6, and_self, nm, nmI, (t5 j hj).1]
          · rw [isOne_le (σ := sA σ 5 5 p (upd (σ.2.1 5 5 p) j n)) (by simp [sA1, hN.2.1]) (by simp [sA1, hN.2.2])]
            simp only [sA1, sA2]
            simp [hx, hw, hk, nm, nmI, c1, c2, c3, g1, g2, g3, g4]
          · refine Inv_Wt h ?_ ((FrE.rfl'.sA (memwA5 hp)).sA (by decide))
            intro q hq
            obtain ⟨d0, d1, d2, d3, d4, d5⟩ := hT q hq
            simp only [sA1, sA2]
            refine ⟨by simpa using d0, by simpa using d1, by simpa using d2, by simpa using d3, by simpa using d4, fun i hi => ?_⟩
            have d6 := d5 i hi
            simp
            by_cases hqp : q = p
            · subst hqp
              simp [upd_at]
              grind
            · have hne : 4 * q + i ≠ 4 * p + j := by omega
              simp [upd_at, hne, hqp, d6]
        · refine ⟨-3, σ, σ, by simp only [t1.1, hk, if_false], ?_, h⟩
          rw [isOne_le hN.2.1 hN.2.2]
          simp only [hx, hk, and_self, if_true, h10, if_false, Option.bind_some]
      · refine ⟨-2, σ, σ, by simp only [hw, hn, and_self, if_true, h10, if_false], ?_, h⟩
        rw [isOne_le hN.2.1 hN.2.2]
        simp only [hx, hw, hn, and_self, if_true, h10, if_false, Option.bind_some]
    · refine ⟨-1, σ, σ, by simp only [hw, if_true, if_false], ?_, h⟩
      rw [isOne_le hN.2.1 hN.2.2]
      simp only [hx, hw, and_self, if_true, h10, if_false, Option.bind_some]
  · refine ⟨-1, σ, σ, by simp only [hx, if_true, if_false], ?_, h⟩
    rw [isOne_le hN.2.1 hN.2.2]
    simp only [hx, if_true, if_false, Option.bind_some]
