theorem one_iff {σ : Sto} (h : RWn σ 0 (snapM σ)) (x : Int32) : (0 ≤ x ∧ x < σ.1 6 1 0 ↔ 0 ≤ x ∧ x ≤ σ.1 8 0 0 - 1) ∧ (0 ≤ x ∧ x < σ.1 6 1 0 → ∃ n, n < 6 ∧ x = nI n ∧ nI n < σ.1 8 0 0) := by
  obtain ⟨⟨e1, e2, e3⟩, -, -⟩ := h
  rw [snap_things] at e1 e2 e3
  refine ⟨by grind, fun hx => ?_⟩
  obtain ⟨n, hn, rfl⟩ := i32_range (N := 6) (x := x) (by decide) hx.1 (by have := hx.2; grind)
  exact ⟨n, hn, rfl, by grind⟩
theorem taken_N (N : Nat) (hN : 3 ≤ N) {σ : Sto} (ht : RWt σ 0 (snapM σ)) (hn : RWn σ 0 (snapM σ)) (x1 x2 : Int32) : ∃ r, f_X7_taken σ x1 x2 = some r ∧ ((f_X8_within x2 0 6).bind fun q1 => (if q1 = 0 then
    some (-2 : Int32)
  else
    (f_X8_isOne σ x1).bind fun q3 => (if q3 = 0 then
      some (-11 : Int32)
    else
      (if 0 ≤ x1 ∧ x1 < 6 then nmI ((σ.2.1 8 1 0 (Int32.toNatClampNeg x1))) fun v7 => f_X8_taken_L31 σ N x1 x2 v7 else none)))) = some r := by
  unfold f_X7_taken f_X7_taken_L54 f_X7_taken_L59
  rw [isUpTo_eq, within_eq, isThing_eq, isOne_eq]
  simp only [Option.bind_some, nmI]
  have h10 : ¬ ((1 : Int32) = 0) := by decide
  obtain ⟨o1, o2⟩ := one_iff hn x1
  by_cases hx : 0 ≤ x2 ∧ x2 ≤ 6
  · simp only [if_pos hx, h10, if_false]
    by_cases h1 : 0 ≤ x1 ∧ x1 < σ.1 6 1 0
    · rw [if_pos h1, if_pos (o1.mp h1)]
      simp only [h10, if_false]
      obtain ⟨n, hn6, rfl, hlt⟩ := o2 h1
      have hc : (nI n).toNatClampNeg = n := nI_clamp (by omega)
      have h6 : (0 : Int32) ≤ nI n ∧ nI n < 6 := ⟨nI_n0 (by omega), (nI_ltI (a := n) (b := 6) (by omega) (by decide)).mpr hn6⟩
      obtain ⟨-, ⟨k1, k2, k3⟩, -⟩ := ht n hn6
      rw [snap_kind σ hn6] at k1 k2 k3
      rw [show 6 * 0 + n = n by omega] at k1
      simp only [h6, and_self, if_true, hc, show 6 * 0 + n = n by omega, k1]
      rw [taken8_L σ hn6 x2 _ hx ⟨k2, k3⟩ N hN]
      generalize σ.2.1 8 1 0 n = v at *
      have hv7 : v = 0 ∨ v = 1 ∨ v = 2 ∨ v = 3 ∨ v = 4 ∨ v = 5 ∨ v = 6 := by grind
      refine ⟨_, ?_, rfl⟩
      rcases hv7 with rfl | rfl | rfl | rfl | rfl | rfl | rfl
      · rw [show ((sarr 0).getD ((0 : Int32).toNatClampNeg) 0) = -1 from by decide]; grind
      · rw [show ((sarr 0).getD ((1 : Int32).toNatClampNeg) 0) = 0 from by decide]; grind
      · rw [show ((sarr 0).getD ((2 : Int32).toNatClampNeg) 0) = 0 from by decide]; grind
      · rw [show ((sarr 0).getD ((3 : Int32).toNatClampNeg) 0) = 0 from by decide]; grind
      · rw [show ((sarr 0).getD ((4 : Int32).toNatClampNeg) 0) = 1 from by decide]; grind
      · rw [show ((sarr 0).getD ((5 : Int32).toNatClampNeg) 0) = 2 from by decide]; grind
      · rw [show ((sarr 0).getD ((6 : Int32).toNatClampNeg) 0) = 3 from by decide]; grind
    · rw [if_neg h1, if_neg (fun h => h1 (o1.mpr h))]
      exact ⟨-11, rfl, rfl⟩
  · simp only [if_neg hx, if_true]
    exact ⟨-2, rfl, rfl⟩
theorem taken_eq {σ : Sto} (ht : RWt σ 0 (snapM σ)) (hn : RWn σ 0 (snapM σ)) (x1 x2 : Int32) : ∃ r, f_X7_taken σ x1 x2 = some r ∧ f_X8_taken σ x1 x2 = some r := taken_N 1000 (by decide) ht hn x1 x2
