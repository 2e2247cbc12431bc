theorem looked_L {σ : Sto} (ht : RWt σ 0 (snapM σ)) (hn : RWn σ 0 (snapM σ)) (hb : RWb σ 0 (snapM σ)) : ∀ (d k : Nat), k + d = 8 → (k : Int) ≤ (σ.1 8 30 0).toInt → ∀ n m, d < n → d < m → ∃ r, f_X7_looked_L10 σ n 2 (nI k) = some r ∧ f_X8_looked_L2 σ m (nI k) = some r := by
  intro d
  obtain ⟨⟨-, b2, b3, b4⟩, hrow⟩ := hb
  rw [snap_book] at b2 b3 b4 hrow
  rw [show 3 * 0 + 2 = 2 by omega] at b2 hrow
  induction d with
  | zero =>
    intro k hk hle n m hn1 hm1
    obtain ⟨n, rfl⟩ : ∃ q, n = q + 1 := ⟨n - 1, by omega⟩
    obtain ⟨m, rfl⟩ : ∃ q, m = q + 1 := ⟨m - 1, by omega⟩
    have h8 : σ.1 8 30 0 ≤ nI k := by rw [show k = 8 by omega]; exact b4
    refine ⟨-5, ?_, ?_⟩
    · show f_X7_looked_B10 σ _ 2 (nI k) = _
      unfold f_X7_looked_B10
      rw [b2, if_pos h8]
    · show f_X8_looked_B2 σ _ (nI k) = _
      unfold f_X8_looked_B2
      rw [if_pos h8]
  | succ d ih =>
    intro k hk hle n m hn1 hm1
    obtain ⟨n, rfl⟩ : ∃ q, n = q + 1 := ⟨n - 1, by omega⟩
    obtain ⟨m, rfl⟩ : ∃ q, m = q + 1 := ⟨m - 1, by omega⟩
    have e1 : f_X7_looked_L10 σ (n + 1) 2 (nI k) = f_X7_looked_B10 σ (f_X7_looked_L10 σ n) 2 (nI k) := rfl
    have e2 : f_X8_looked_L2 σ (m + 1) (nI k) = f_X8_looked_B2 σ (f_X8_looked_L2 σ m) (nI k) := rfl
    rw [e1, e2]
    unfold f_X7_looked_B10 f_X8_looked_B2
    rw [b2]
    have hc : (nI k).toNatClampNeg = k := nI_clamp (by omega)
    have hk8 : (0 : Int32) ≤ nI k ∧ nI k < 8 := ⟨nI_n0 (by omega), (nI_ltI (a := k) (b := 8) (by omega) (by decide)).mpr (by omega)⟩
    have hk10 : (0 : Int32) ≤ nI k ∧ nI k < 10 := by grind
    by_cases h8 : σ.1 8 30 0 ≤ nI k
    · exact ⟨-5, by rw [if_pos h8], by rw [if_pos h8]⟩
    · have hlt : (k : Int) < (σ.1 8 30 0).toInt := by
        have : nI k < σ.1 8 30 0 := by grind
        have := Int32.lt_iff_toInt_lt.mp this
        rwa [nI_toInt (by omega)] at this
      obtain ⟨⟨r1, r2, r3⟩, r4⟩ := hrow k (by omega) hlt
      rw [snap_b1 σ (by omega)] at r1 r2 r3
      rw [snap_b2 σ (by omega)] at r4
      rw [snap_things] at r3
      obtain ⟨⟨c1, c2, c3⟩, -, -⟩ := hn
      rw [snap_things] at c1 c2 c3
      obtain ⟨t, ht6, hte⟩ := i32_range (N := 6) (x := σ.2.1 8 31 0 k) (by decide) r2 (by grind)
      have hct : (nI t).toNatClampNeg = t := nI_clamp (by omega)
      have ht66 : (0 : Int32) ≤ nI t ∧ nI t < 6 := ⟨nI_n0 (by omega), (nI_ltI (a := t) (b := 6) (by omega) (by decide)).mpr ht6⟩
      obtain ⟨-, -, -, -, ⟨d1, -, -⟩, -⟩ := ht t ht6
      rw [snap_depth σ ht6, show 6 * 0 + t = t by omega] at d1
      obtain ⟨r, g1, g2⟩ := ih (k + 1) (by omega) (by omega) n m (by omega) (by omega)
      have hth : (0 : Int32) ≤ nI t ∧ nI t < σ.1 6 1 0 := by grind
      rw [if_neg h8, if_neg h8]
      simp only [hk8, hk10, and_self, if_true, nmI, hc, r1, r4, hte, isThing_eq, Option.bind_some, hct, ht66, hth, show ¬ ((1 : Int32) = 0) by decide, if_false, show 6 * 0 + t = t by omega, d1, nI_1, g1, g2]
      by_cases hd : σ.2.1 8 4 0 t = σ.2.1 8 32 0 k
      · simp only [hd, if_true]
        exact ⟨r, rfl⟩
      · simp only [hd, if_false]
        exact ⟨nI k, rfl⟩
theorem looked_eq {σ : Sto} (ht : RWt σ 0 (snapM σ)) (hn : RWn σ 0 (snapM σ)) (hb : RWb σ 0 (snapM σ)) : ∃ r, f_X7_looked σ = some r ∧ f_X8_looked σ = some r := by
  have h0 : ((0 : Nat) : Int) ≤ (σ.1 8 30 0).toInt := by
    have h1 := hb.1.2.2.1
    rw [snap_book] at h1
    have := Int32.le_iff_toInt_le.mp h1
    simpa using this
  have h := fun N hN => looked_L ht hn hb 8 0 rfl h0 N N hN hN
  rw [nI_0] at h
  exact h 1000 (by decide)
