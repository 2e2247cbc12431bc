-- TAPES
theorem i32_range {x : Int32} {N : Nat} (hN : N < 2 ^ 31) (h0 : 0 ≤ x) (h1 : x < Int32.ofNat N) : ∃ n, n < N ∧ x = nI n := by
  have hv : vp_in x N := (inb (N := N) (n := Int32.ofNat N) (nI_toInt hN) ⟨h0, h1⟩).1
  exact vp_in_of hv hN
theorem nI_n0 {n : Nat} (h : n < 2 ^ 31) : (0 : Int32) ≤ nI n := nI_pos' h
theorem nI_mulN (a b : Nat) : nI a * nI b = nI (a * b) := by
  unfold nI
  rw [Int32.ofNat_mul]
theorem tape_ix {n i : Nat} (hn : n < 6) (hi : i < 60) : (60 : Int32) * nI n + nI i = nI (60 * n + i) ∧ (0 : Int32) ≤ nI (60 * n + i) ∧ nI (60 * n + i) < 360 ∧ (nI (60 * n + i)).toNatClampNeg = 60 * n + i := by
  refine ⟨?_, nI_n0 (by omega), ?_, nI_clamp (by omega)⟩
  · rw [show (60 : Int32) = nI 60 from rfl, nI_mulN, nI_add]
  · exact (nI_ltI (by omega) (by decide) : nI (60 * n + i) < nI 360 ↔ _).mpr (by omega)
theorem read_eq {σ : Sto} (h : I_tp σ) (t i : Int32) : ∃ r, f_X7_read σ t i = some r ∧ f_X8_read σ t i = some r := by
  unfold f_X7_read f_X8_read
  rw [isTape_eq, isTape8_eq]
  simp only [Option.bind_some]
  by_cases ht : 0 ≤ t ∧ t ≤ 5
  · obtain ⟨n, hn, rfl⟩ := i32_range (N := 6) (by decide) ht.1 (by have := ht.2; grind)
    obtain ⟨⟨e1, e2, e3⟩, ⟨e4, e5, e6⟩, e7, e8⟩ := h n hn
    have hc : (nI n).toNatClampNeg = n := nI_clamp (by omega)
    have h6 : (0 : Int32) ≤ nI n ∧ nI n < 6 := by grind
    rw [if_pos ht]
    simp only [hc, h6, and_self, if_true, within_eq, Option.bind_some]
    unfold f_X3_hasPlace
    rw [e4]
    generalize hz : σ.2.1 8 41 0 n = len at *
    generalize hs : σ.2.1 8 40 0 n = srt at *
    by_cases hi : 0 ≤ i ∧ i < len
    · obtain ⟨k, hk, rfl⟩ := i32_range (N := 60) (by decide) hi.1 (by have := hi.2; grind)
      obtain ⟨g1, g2, g3, g4⟩ := tape_ix hn hk
      have hck : (nI k).toNatClampNeg = k := nI_clamp (by omega)
      have := e8 k hk
      rw [g1]
      simp only [g2, g3, g4, hck]
      refine ⟨σ.2.2.1 8 42 0 (60 * n + k), ?_, ?_⟩ <;> grind
    · exact ⟨-9223372036854775808, by grind, by grind⟩
  · rw [if_neg ht]
    exact ⟨-9223372036854775808, by simp, by simp⟩
