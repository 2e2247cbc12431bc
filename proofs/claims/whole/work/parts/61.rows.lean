-- see, plan, book
abbrev rwF : List (Nat × Nat × Nat) := [(2, 4, 0), (8, 23, 0), (8, 27, 0), (8, 30, 0)]
abbrev rwA : List (Nat × Nat × Nat) := [(2, 1, 0), (2, 2, 0), (2, 3, 0), (8, 24, 0), (8, 25, 0), (8, 26, 0), (8, 28, 0), (8, 29, 0), (8, 31, 0), (8, 32, 0)]
theorem Inv_rw {σ σ' : Sto} (h : Inv σ) (e : FrE rwF rwA [] σ σ') (h3 : Ws σ') (h4 : Wp σ') (h5 : Wb σ') : Inv σ' := by
  obtain ⟨⟨h1, h2, -, -, -⟩, i1, i2, i3, i4, i5, i6⟩ := h
  exact ⟨⟨Wt_fr h1 e (by decide) (by decide), Wn_fr h2 e (by decide), h3, h4, h5⟩, I_tx_fr i1 e (by decide) (by decide), I_ac_fr i2 e (by decide) (by decide), I_tp_fr i3 e (by decide) (by decide) (by decide), Im_fr i4 e (by decide) (by decide), Pc_fr i5 e (by decide), Ps_fr i6 e (by decide) (by decide)⟩
theorem see_step {σ : Sto} (h : Inv σ) (x n w : Int32) : ∃ r σ1 σ2, f_X7_see σ x n w = some (r, σ1) ∧ f_X8_see σ1 x n w = some (r, σ2) ∧ Inv σ2 := by
  obtain ⟨wm, sn, k, T, B⟩ := base_of h
  have hT := B.2.2.1
  have hT8 := B.2.2.2.1
  have hT6 := B.2.2.2.2.1
  have hTb : 0 ≤ nI T ∧ nI T ≤ 6 := ⟨nI_n0 (by omega), (nI_leI (a := T) (b := 6) (by omega) (by decide)).mpr hT⟩
  have hone : ∀ s, s.1 8 0 0 = nI T → ∀ y, f_X8_isOne s y = some (if 0 ≤ y ∧ y < nI T then 1 else 0) := fun s hs y => by
    rw [isOne_le (by rw [hs]; exact hTb.1) (by rw [hs]; exact hTb.2), hs]
  have hI := h
  obtain ⟨⟨-, -, ⟨⟨c1, c2, c3, c4⟩, cr⟩, h4, h5⟩, -⟩ := h
  obtain ⟨S, hS, hSe⟩ := i32_range (N := 6) (x := σ.1 8 23 0) (by decide) c3 (by grind)
  have c2' : σ.1 2 4 0 = nI S := by rw [c2, hSe]
  unfold f_X7_see f_X7_see_L58
  simp only [isThing_eq, isUpTo_eq, hT6, Option.bind_some, Nat.mul_zero]
  by_cases hm : x = -1
  · refine ⟨0, sF σ 2 4 0 0, sF (sF σ 2 4 0 0) 8 23 0 0, by rw [if_pos hm]; rfl, by unfold f_X8_see; rw [if_pos hm]; rfl, Inv_rw hI ((FrE.rfl'.sF (by decide)).sF (by decide)) ?_ ?_ ?_⟩
    · unfold Ws
      simp only [sF1, sF2, Nat.reduceEqDiff, and_true, true_and, false_and, and_false, and_self, if_true, if_false]
      refine ⟨⟨c1, by decide, by decide⟩, fun j _ hj => ?_⟩
      exact absurd hj (by simp)
    · unfold Wp at h4 ⊢
      simpa [sF1, sF2] using h4
    · unfold Wb at h5 ⊢
      simpa [sF1, sF2] using h5
  · by_cases hx : 0 ≤ x ∧ x < nI T
    · by_cases hn : 0 ≤ n ∧ n ≤ 20
      · by_cases hf : S = 5
        · refine ⟨-4, σ, σ, ?_, ?_, hI⟩
          · have g := fun a b c => add2_full (σ := σ) (i := 0) (m := 5) (a := a) (b := b) (c := c) (by rw [c2', hf]) (by rw [c1]; rfl)
            simp only [hm, hx, hn, and_self, if_true, h10, if_false, g, Option.bind_some, ite_self]
          · unfold f_X8_see
            simp only [hone σ hT8, within_eq, Option.bind_some, hm, hx, hn, and_self, if_true, h10, if_false, hSe, hf, show nI 5 = (5 : Int32) by decide]
        · have hS5 : S < 5 := by omega
          have a1 : (0 : Int32) ≤ nI S ∧ nI S < 5 := nI_r (N := 5) hS5 (by decide)
          have a2 : (nI S).toNatClampNeg = S := nI_clamp (by omega)
          have a3 : ¬ nI S = 5 := by
            intro hh
            have := (nI_eq (a := S) (b := 5) (by omega) (by decide)).mp hh
            omega
          have key : ∀ v : Int32, (v = 0 ∨ v = 1) → ∀ s1, s1 = sF (sA (sA (sA σ 2 1 0 (upd (σ.2.1 2 1 0) S x)) 2 2 0 (upd (σ.2.1 2 2 0) S n)) 2 3 0 (upd (σ.2.1 2 3 0) S v)) 2 4 0 (nI (S + 1)) → Inv (sA (sF (sA (sA s1 8 24 0 (upd (σ.2.1 8 24 0) S x)) 8 25 0 (upd (σ.2.1 8 25 0) S n)) 8 23 0 (nI (S + 1))) 8 26 0 (upd (σ.2.1 8 26 0) S v)) := by
            intro v hv s1 hs1
            subst hs1
            refine Inv_rw hI ((((((((FrE.rfl'.sA (by decide)).sA (by decide)).sA (by decide)).sF (by decide)).sA (by decide)).sA (by decide)).sF (by decide)).sA (by decide)) ?_ ?_ ?_
            · unfold Ws
              simp only [sF1, sF2, sA1, sA2, Nat.reduceEqDiff, and_true, true_and, false_and, and_false, and_self, if_true, if_false]
              refine ⟨⟨c1, nI_n0 (by omega), (nI_leI (a := S + 1) (b := 5) (by omega) (by decide)).mpr (by omega)⟩, fun j hj hj2 => ?_⟩
              rw [nI_toInt (by omega)] at hj2
              simp only [upd_at]
              by_cases hjS : j = S
              · simp only [hjS, if_true]
                exact ⟨trivial, ⟨trivial, hn.1, hn.2⟩, trivial, hv⟩
              · simp only [hjS, if_false]
                exact cr j hj (by rw [hSe, nI_toInt (by omega)]; omega)
            · unfold Wp at h4 ⊢
              simpa [sF1, sF2, sA1, sA2] using h4
            · unfold Wb at h5 ⊢
              simpa [sF1, sF2, sA1, sA2] using h5
          have g := fun a b c => add2 (σ := σ) (i := 0) (j := S) (m := 5) (a := a) (b := b) (c := c) c2' (by rw [c1]; rfl) hS5 (by omega)
          have g8 : ∀ s1 : Sto, s1.1 8 0 0 = nI T → s1.1 8 23 0 = nI S → s1.2.1 8 24 0 = σ.2.1 8 24 0 → s1.2.1 8 25 0 = σ.2.1 8 25 0 → s1.2.1 8 26 0 = σ.2.1 8 26 0 → f_X8_see s1 x n w = some (nI (S + 1), sA (sF (sA (sA s1 8 24 0 (upd (σ.2.1 8 24 0) S x)) 8 25 0 (upd (σ.2.1 8 25 0) S n)) 8 23 0 (nI (S + 1))) 8 26 0 (upd (σ.2.1 8 26 0) S (if w = 0 then 0 else 1))) := by
            intro s1 k1 k2 k3 k4 k5
            unfold f_X8_see
            simp only [hone s1 k1, within_eq, Option.bind_some, hm, hx, hn, and_self, if_true, h10, if_false, k2, a3, a1, a2, nm, sA1, sA2, sF2, k3, k4, k5, nI_1, Nat.reduceEqDiff, and_true, true_and, false_and, and_false]
            rw [sF_at]
            by_cases hw : w = 0
            · simp only [if_pos hw]
            · simp only [if_neg hw]
          refine ⟨nI (S + 1), sF (sA (sA (sA σ 2 1 0 (upd (σ.2.1 2 1 0) S x)) 2 2 0 (upd (σ.2.1 2 2 0) S n)) 2 3 0 (upd (σ.2.1 2 3 0) S (if w = 0 then 0 else 1))) 2 4 0 (nI (S + 1)), _, ?_, g8 _ ?_ ?_ ?_ ?_ ?_, key _ ?_ _ rfl⟩
          · simp only [hm, hx, hn, and_self, if_true, h10, if_false, g, Option.bind_some]
            by_cases hw : w = 0
            · simp only [if_pos hw]
            · simp only [if_neg hw]
          · simp [sF1, sA1, hT8]
          · simp [sF1, sA1, hSe]
          · simp [sF2, sA2]
          · simp [sF2, sA2]
          · simp [sF2, sA2]
          · by_cases hw : w = 0
            · rw [if_pos hw]; exact Or.inl rfl
            · rw [if_neg hw]; exact Or.inr rfl
      · refine ⟨-2, σ, σ, by simp only [hm, hx, hn, and_self, if_true, h10, if_false], ?_, hI⟩
        unfold f_X8_see
        simp only [hone σ hT8, within_eq, Option.bind_some, hm, hx, hn, and_self, if_true, h10, if_false]
    · refine ⟨-1, σ, σ, by simp only [hm, hx, if_true, if_false], ?_, hI⟩
      unfold f_X8_see
      simp only [hone σ hT8, Option.bind_some, hm, hx, if_true, if_false]
theorem book_step {σ : Sto} (h : Inv σ) (x n : Int32) : ∃ r σ1 σ2, f_X7_book σ x n = some (r, σ1) ∧ f_X8_book σ1 x n = some (r, σ2) ∧ Inv σ2 := by
  obtain ⟨wm, sn, k, T, B⟩ := base_of h
  have hT := B.2.2.1
  have hT8 := B.2.2.2.1
  have hT6 := B.2.2.2.2.1
  have hTb : 0 ≤ nI T ∧ nI T ≤ 6 := ⟨nI_n0 (by omega), (nI_leI (a := T) (b := 6) (by omega) (by decide)).mpr hT⟩
  have hone : ∀ s, s.1 8 0 0 = nI T → ∀ y, f_X8_isOne s y = some (if 0 ≤ y ∧ y < nI T then 1 else 0) := fun s hs y => by
    rw [isOne_le (by rw [hs]; exact hTb.1) (by rw [hs]; exact hTb.2), hs]
  have hI := h
  obtain ⟨⟨-, -, h3, h4, ⟨⟨c1, c2, c3, c4⟩, cr⟩⟩, -⟩ := h
  obtain ⟨S, hS, hSe⟩ := i32_range (N := 9) (x := σ.1 8 30 0) (by decide) c3 (by grind)
  have c2' : σ.1 2 4 2 = nI S := by rw [c2, hSe]
  unfold f_X7_book
  simp only [isThing_eq, isUpTo_eq, hT6, Option.bind_some, Nat.mul_zero, Nat.zero_add]
  by_cases hm : x = -1
  · refine ⟨0, sF σ 2 4 2 0, sF (sF σ 2 4 2 0) 8 30 0 0, by rw [if_pos hm]; rfl, by unfold f_X8_book; rw [if_pos hm]; rfl, Inv_rw hI ((FrE.rfl'.sF (by decide)).sF (by decide)) ?_ ?_ ?_⟩
    · unfold Ws at h3 ⊢
      simpa [sF1, sF2] using h3
    · unfold Wp at h4 ⊢
      simpa [sF1, sF2] using h4
    · unfold Wb
      simp only [sF1, sF2, Nat.reduceEqDiff, and_true, true_and, false_and, and_false, and_self, if_true, if_false]
      refine ⟨⟨c1, by decide, by decide⟩, fun j _ hj => ?_⟩
      exact absurd hj (by simp)
  · by_cases hx : 0 ≤ x ∧ x < nI T
    · by_cases hn : 0 ≤ n ∧ n ≤ 99
      · by_cases hf : S = 8
        · refine ⟨-4, σ, σ, ?_, ?_, hI⟩
          · have g := fun a b c => add2_full (σ := σ) (i := 2) (m := 8) (a := a) (b := b) (c := c) (by rw [c2', hf]) (by rw [c1]; rfl)
            simp only [hm, hx, hn, and_self, if_true, h10, if_false, g, Option.bind_some]
          · unfold f_X8_book
            simp only [hone σ hT8, within_eq, Option.bind_some, hm, hx, hn, and_self, if_true, h10, if_false, hSe, hf, show nI 8 = (8 : Int32) by decide]
        · have hS5 : S < 8 := by omega
          have a1 : (0 : Int32) ≤ nI S ∧ nI S < 8 := nI_r (N := 8) hS5 (by decide)
          have a2 : (nI S).toNatClampNeg = S := nI_clamp (by omega)
          have a3 : ¬ nI S = 8 := by
            intro hh
            have := (nI_eq (a := S) (b := 8) (by omega) (by decide)).mp hh
            omega
          have g := fun a b c => add2 (σ := σ) (i := 2) (j := S) (m := 8) (a := a) (b := b) (c := c) c2' (by rw [c1]; rfl) hS5 (by omega)
          have g8 : ∀ s1 : Sto, s1.1 8 0 0 = nI T → s1.1 8 30 0 = nI S → s1.2.1 8 31 0 = σ.2.1 8 31 0 → s1.2.1 8 32 0 = σ.2.1 8 32 0 → f_X8_book s1 x n = some (nI (S + 1), sA (sF (sA s1 8 31 0 (upd (σ.2.1 8 31 0) S x)) 8 30 0 (nI (S + 1))) 8 32 0 (upd (σ.2.1 8 32 0) S n)) := by
            intro s1 k1 k2 k3 k4
            unfold f_X8_book
            simp only [hone s1 k1, within_eq, Option.bind_some, hm, hx, hn, and_self, if_true, h10, if_false, k2, a3, a1, a2, nm, sA1, sA2, sF2, k3, k4, nI_1, Nat.reduceEqDiff, and_true, true_and, false_and, and_false]
            rw [sF_at]
          refine ⟨nI (S + 1), sF (sA (sA (sA σ 2 1 2 (upd (σ.2.1 2 1 2) S x)) 2 2 2 (upd (σ.2.1 2 2 2) S n)) 2 3 2 (upd (σ.2.1 2 3 2) S 0)) 2 4 2 (nI (S + 1)), _, by simp only [hm, hx, hn, and_self, if_true, h10, if_false, g, Option.bind_some], g8 _ ?_ ?_ ?_ ?_, ?_⟩
          · simp [sF1, sA1, hT8]
          · simp [sF1, sA1, hSe]
          · simp [sF2, sA2]
          · simp [sF2, sA2]
          · refine Inv_rw hI (((((((FrE.rfl'.sA (by decide)).sA (by decide)).sA (by decide)).sF (by decide)).sA (by decide)).sF (by decide)).sA (by decide)) ?_ ?_ ?_
            · unfold Ws at h3 ⊢
              simpa [sF1, sF2, sA1, sA2] using h3
            · unfold Wp at h4 ⊢
              simpa [sF1, sF2, sA1, sA2] using h4
            · unfold Wb
              simp only [sF1, sF2, sA1, sA2, Nat.reduceEqDiff, and_true, true_and, false_and, and_false, and_self, if_true, if_false]
              refine ⟨⟨c1, nI_n0 (by omega), (nI_leI (a := S + 1) (b := 8) (by omega) (by decide)).mpr (by omega)⟩, fun j hj hj2 => ?_⟩
              rw [nI_toInt (by omega)] at hj2
              simp only [upd_at]
              by_cases hjS : j = S
              · simp only [hjS, if_true]
                exact ⟨⟨trivial, hx.1, by rw [hT8]; exact hx.2⟩, trivial⟩
              · simp only [hjS, if_false]
                exact cr j hj (by rw [hSe, nI_toInt (by omega)]; omega)
      · refine ⟨-2, σ, σ, by simp only [hm, hx, hn, and_self, if_true, h10, if_false], ?_, hI⟩
        unfold f_X8_book
        simp only [hone σ hT8, within_eq, Option.bind_some, hm, hx, hn, and_self, if_true, h10, if_false]
    · refine ⟨-1, σ, σ, by simp only [hm, hx, if_true, if_false], ?_, hI⟩
      unfold f_X8_book
      simp only [hone σ hT8, Option.bind_some, hm, hx, if_true, if_false]
theorem plan_step {σ : Sto} (h : Inv σ) (x n : Int32) : ∃ r σ1 σ2, f_X7_plan σ x n = some (r, σ1) ∧ f_X8_plan σ1 x n = some (r, σ2) ∧ Inv σ2 := by
  obtain ⟨wm, sn, k, T, B⟩ := base_of h
  have hT := B.2.2.1
  have hT8 := B.2.2.2.1
  have hT6 := B.2.2.2.2.1
  have hTb : 0 ≤ nI T ∧ nI T ≤ 6 := ⟨nI_n0 (by omega), (nI_leI (a := T) (b := 6) (by omega) (by decide)).mpr hT⟩
  have hone : ∀ s, s.1 8 0 0 = nI T → ∀ y, f_X8_isOne s y = some (if 0 ≤ y ∧ y < nI T then 1 else 0) := fun s hs y => by
    rw [isOne_le (by rw [hs]; exact hTb.1) (by rw [hs]; exact hTb.2), hs]
  have hI := h
  obtain ⟨⟨-, -, h3, ⟨⟨c1, c2, c3, c4⟩, cr⟩, h5⟩, -⟩ := h
  obtain ⟨S, hS, hSe⟩ := i32_range (N := 11) (x := σ.1 8 27 0) (by decide) c3 (by grind)
  have c2' : σ.1 2 4 1 = nI S := by rw [c2, hSe]
  by_cases hm : x = -1
  · refine ⟨0, sF σ 2 4 1 0, sF (sF σ 2 4 1 0) 8 27 0 0, by unfold f_X7_plan; rw [if_pos hm]; rfl, by unfold f_X8_plan; rw [if_pos hm]; rfl, Inv_rw hI ((FrE.rfl'.sF (by decide)).sF (by decide)) ?_ ?_ ?_⟩
    · unfold Ws at h3 ⊢
      simpa [sF1, sF2] using h3
    · unfold Wp
      simp only [sF1, sF2, Nat.reduceEqDiff, and_true, true_and, false_and, and_false, and_self, if_true, if_false]
      refine ⟨⟨c1, by decide, by decide⟩, fun j _ hj => ?_⟩
      exact absurd hj (by simp)
    · unfold Wb at h5 ⊢
      simpa [sF1, sF2] using h5
  · by_cases hx : 0 ≤ x ∧ x ≤ 3
    · -- whether a THING is wanted
      have h7 : f_X7_plan σ x n = if (1 ≤ x ∧ x ≤ 2) ∧ ¬ (0 ≤ n ∧ n < nI T) then some (-1, σ) else f_X7_plan_L58 σ x n := by
        unfold f_X7_plan f_X7_plan_L38 f_X7_plan_L43
        simp only [isUpTo_eq, isThing_eq, hT6, Option.bind_some, hm, hx, and_self, if_true, h10, if_false]
        by_cases x1 : x = 1
        · have : (1 : Int32) ≤ 1 ∧ (1 : Int32) ≤ 2 := by decide
          subst x1
          by_cases hn : 0 ≤ n ∧ n < nI T
          · simp [hn, this]
          · simp [hn, this]
        · by_cases x2 : x = 2
          · have : (1 : Int32) ≤ 2 ∧ (2 : Int32) ≤ 2 := by decide
            subst x2
            by_cases hn : 0 ≤ n ∧ n < nI T
            · simp [hn, this]
            · simp [hn, this]
          · have : ¬ (1 ≤ x ∧ x ≤ 2) := by intro hh; have := hh.1; have := hh.2; grind
            simp only [x1, x2, if_false, if_true, this, false_and]
      have h8 : ∀ s1 : Sto, s1.1 8 0 0 = nI T → f_X8_plan s1 x n = if (1 ≤ x ∧ x ≤ 2) ∧ ¬ (0 ≤ n ∧ n < nI T) then some (-1, s1) else f_X8_plan_L40 s1 x n := by
        intro s1 k1
        unfold f_X8_plan
        simp only [within_eq, hone s1 k1, Option.bind_some, hm, hx, and_self, if_true, h10, if_false]
        by_cases hw : 1 ≤ x ∧ x ≤ 2
        · by_cases hn : 0 ≤ n ∧ n < nI T
          · simp only [hw, hn, and_self, if_true, h10, if_false, not_true, and_false]
          · simp only [hw, hn, and_self, if_true, h10, if_false, not_false_eq_true]
        · simp only [hw, if_false, if_true, false_and]
      rw [h7]
      by_cases hb : (1 ≤ x ∧ x ≤ 2) ∧ ¬ (0 ≤ n ∧ n < nI T)
      · exact ⟨-1, σ, σ, by rw [if_pos hb], by rw [h8 σ hT8, if_pos hb], hI⟩
      · rw [if_neg hb]
        unfold f_X7_plan_L58
        simp only [Nat.mul_zero, Nat.zero_add]
        by_cases hf : S = 10
        · refine ⟨-4, σ, σ, ?_, ?_, hI⟩
          · have g := fun a b c => add2_full (σ := σ) (i := 1) (m := 10) (a := a) (b := b) (c := c) (by rw [c2', hf]) (by rw [c1]; rfl)
            simp only [g, Option.bind_some]
          · rw [h8 σ hT8, if_neg hb]
            unfold f_X8_plan_L40
            rw [hSe, hf, if_pos (by decide)]
        · have hS5 : S < 10 := by omega
          have a1 : (0 : Int32) ≤ nI S ∧ nI S < 10 := nI_r (N := 10) hS5 (by decide)
          have a2 : (nI S).toNatClampNeg = S := nI_clamp (by omega)
          have a3 : ¬ nI S = 10 := by
            intro hh
            have := (nI_eq (a := S) (b := 10) (by omega) (by decide)).mp hh
            omega
          have g := fun a b c => add2 (σ := σ) (i := 1) (j := S) (m := 10) (a := a) (b := b) (c := c) c2' (by rw [c1]; rfl) hS5 (by omega)
          have g8 : ∀ s1 : Sto, s1.1 8 0 0 = nI T → s1.1 8 27 0 = nI S → s1.2.1 8 28 0 = σ.2.1 8 28 0 → s1.2.1 8 29 0 = σ.2.1 8 29 0 → f_X8_plan s1 x n = some (nI (S + 1), sA (sF (sA s1 8 28 0 (upd (σ.2.1 8 28 0) S x)) 8 27 0 (nI (S + 1))) 8 29 0 (upd (σ.2.1 8 29 0) S (if 1 ≤ x ∧ x ≤ 2 then n else 0))) := by
            intro s1 k1 k2 k3 k4
            rw [h8 s1 k1, if_neg hb]
            unfold f_X8_plan_L40
            simp only [within_eq, Option.bind_some, k2, a3, if_false, a1, a2, and_self, if_true, nm, sA1, sA2, sF2, k3, k4, nI_1, Nat.reduceEqDiff, and_true, true_and, false_and, and_false]
            rw [sF_at]
            by_cases hw : 1 ≤ x ∧ x ≤ 2
            · simp only [hw, and_self, if_true, h10, if_false]
            · simp only [hw, if_false, if_true]
          refine ⟨nI (S + 1), sF (sA (sA (sA σ 2 1 1 (upd (σ.2.1 2 1 1) S x)) 2 2 1 (upd (σ.2.1 2 2 1) S n)) 2 3 1 (upd (σ.2.1 2 3 1) S 0)) 2 4 1 (nI (S + 1)), _, by simp only [g, Option.bind_some], g8 _ ?_ ?_ ?_ ?_, ?_⟩
          · simp [sF1, sA1, hT8]
          · simp [sF1, sA1, hSe]
          · simp [sF2, sA2]
          · simp [sF2, sA2]
          · refine Inv_rw hI (((((((FrE.rfl'.sA (by decide)).sA (by decide)).sA (by decide)).sF (by decide)).sA (by decide)).sF (by decide)).sA (by decide)) ?_ ?_ ?_
            · unfold Ws at h3 ⊢
              simpa [sF1, sF2, sA1, sA2] using h3
            · unfold Wp
              simp only [sF1, sF2, sA1, sA2, Nat.reduceEqDiff, and_true, true_and, false_and, and_false, and_self, if_true, if_false]
              refine ⟨⟨c1, nI_n0 (by omega), (nI_leI (a := S + 1) (b := 10) (by omega) (by decide)).mpr (by omega)⟩, fun j hj hj2 => ?_⟩
              rw [nI_toInt (by omega)] at hj2
              simp only [upd_at]
              by_cases hjS : j = S
              · simp only [hjS, if_true]
                by_cases hw : 1 ≤ x ∧ x ≤ 2
                · have hn : 0 ≤ n ∧ n < nI T := by
                    by_cases hn : 0 ≤ n ∧ n < nI T
                    · exact hn
                    · exact absurd ⟨hw, hn⟩ hb
                  rw [if_pos hw, hT8]
                  exact ⟨⟨trivial, hx.1, hx.2⟩, fun _ => rfl, hn.1, fun _ => hn.2⟩
                · rw [if_neg hw]
                  have hno : ¬ (x = 1 ∨ x = 2) := by
                    intro hh
                    rcases hh with rfl | rfl
                    · exact hw (by decide)
                    · exact hw (by decide)
                  exact ⟨⟨trivial, hx.1, hx.2⟩, fun hh => absurd hh hno, by decide, fun hh => absurd hh hno⟩
              · simp only [hjS, if_false]
                exact cr j hj (by rw [hSe, nI_toInt (by omega)]; omega)
            · unfold Wb at h5 ⊢
              simpa [sF1, sF2, sA1, sA2] using h5
    · refine ⟨-1, σ, σ, ?_, ?_, hI⟩
      · unfold f_X7_plan
        simp only [isUpTo_eq, Option.bind_some, hm, hx, if_true, if_false]
      · unfold f_X8_plan
        simp only [within_eq, Option.bind_some, hm, hx, if_true, if_false]
