theorem trace_eq {σ : Sto} (h : I_ac σ) (i : Int32) : ∃ r, f_X7_trace σ i = some r ∧ f_X8_trace σ i = some r := by
  obtain ⟨e1, e2, e3, e4⟩ := h
  unfold f_X7_trace f_X8_trace
  rw [min_eq]
  simp only [Option.bind_some, within_eq]
  rw [e1]
  generalize hz : σ.1 8 33 0 = m at *
  by_cases hi : 0 ≤ i ∧ i < m ∧ i < 20
  · obtain ⟨k, hk, rfl⟩ := i32_range (N := 20) (by decide) hi.1 (by have := hi.2.2; grind)
    have hc : (nI k).toNatClampNeg = k := nI_clamp (by omega)
    have hm : (k : Int) < m.toInt := by
      have := Int32.lt_iff_toInt_lt.mp hi.2.1
      rwa [nI_toInt (by omega)] at this
    have := e4 k hk hm
    refine ⟨σ.2.1 8 34 0 k, ?_, ?_⟩
    · rw [hc]; grind
    · rw [hc]; grind
  · exact ⟨-1, by grind, by grind⟩
theorem sarr0 (k : Nat) (hk : k < 7) : (sarr 0).getD k 0 = (if k = 0 then -1 else if k = 4 then 1 else if k = 5 then 2 else if k = 6 then 3 else 0) := by
  rcases (show k = 0 ∨ k = 1 ∨ k = 2 ∨ k = 3 ∨ k = 4 ∨ k = 5 ∨ k = 6 by omega) with rfl | rfl | rfl | rfl | rfl | rfl | rfl <;> decide
def takenS (k x : Int32) : Int32 := if k = x ∨ x = 0 ∨ (k = 4 ∧ x = 1) ∨ (k = 5 ∧ x = 2) ∨ (k = 6 ∧ x = 3) then k else -12
theorem taken8_L (σ : Sto) {t : Nat} (ht : t < 6) (x v : Int32) (hx : 0 ≤ x ∧ x ≤ 6) (hv : 0 ≤ v ∧ v ≤ 6) (n : Nat) (hn : 3 ≤ n) : f_X8_taken_L31 σ n (nI t) x v = some (if v = x ∨ x = 0 ∨ (v = 4 ∧ x = 1) ∨ (v = 5 ∧ x = 2) ∨ (v = 6 ∧ x = 3) then σ.2.1 8 1 0 t else -12) := by
  obtain ⟨n, rfl⟩ : ∃ q, n = q + 3 := ⟨n - 3, by omega⟩
  have hc : (nI t).toNatClampNeg = t := nI_clamp (by omega)
  have h6 : (0 : Int32) ≤ nI t ∧ nI t < 6 := ⟨nI_n0 (by omega), (nI_ltI (a := t) (b := 6) (by omega) (by decide)).mpr ht⟩
  have s1 : ∀ m y, f_X8_taken_L31 σ (m + 1) (nI t) x y = f_X8_taken_B31 σ (f_X8_taken_L31 σ m) (nI t) x y := fun _ _ => rfl
  have s2 : ∀ m y, f_X8_taken_L31 σ (m + 1) (nI t) x y = if y = x then some (σ.2.1 8 1 0 t) else if y ≤ 0 then some (-12) else f_X8_taken_L31 σ m (nI t) x (if y = 4 then 1 else if y = 5 then 2 else if y = 6 then 3 else 0) := by
    intro m y
    rw [s1]
    unfold f_X8_taken_B31 f_X8_taken_L48
    rw [above_eq]
    simp only [Option.bind_some, h6, and_self, if_true, hc]
    by_cases a : y = x
    · simp only [a, if_true]
    · simp only [a, if_false]
  rw [show n + 3 = (n + 2) + 1 by omega, s2, show n + 2 = (n + 1) + 1 by omega]
  have hv7 : v = 0 ∨ v = 1 ∨ v = 2 ∨ v = 3 ∨ v = 4 ∨ v = 5 ∨ v = 6 := by grind
  rcases hv7 with rfl | rfl | rfl | rfl | rfl | rfl | rfl
  · grind
  · rw [show (if (1 : Int32) = 4 then (1 : Int32) else if (1 : Int32) = 5 then 2 else if (1 : Int32) = 6 then 3 else 0) = 0 from by decide, s2]; grind
  · rw [show (if (2 : Int32) = 4 then (1 : Int32) else if (2 : Int32) = 5 then 2 else if (2 : Int32) = 6 then 3 else 0) = 0 from by decide, s2]; grind
  · rw [show (if (3 : Int32) = 4 then (1 : Int32) else if (3 : Int32) = 5 then 2 else if (3 : Int32) = 6 then 3 else 0) = 0 from by decide, s2]; grind
  · rw [show (if (4 : Int32) = 4 then (1 : Int32) else if (4 : Int32) = 5 then 2 else if (4 : Int32) = 6 then 3 else 0) = 1 from by decide, s2, show (if (1 : Int32) = 4 then (1 : Int32) else if (1 : Int32) = 5 then 2 else if (1 : Int32) = 6 then 3 else 0) = 0 from by decide, s2]; grind
  · rw [show (if (5 : Int32) = 4 then (1 : Int32) else if (5 : Int32) = 5 then 2 else if (5 : Int32) = 6 then 3 else 0) = 2 from by decide, s2, show (if (2 : Int32) = 4 then (1 : Int32) else if (2 : Int32) = 5 then 2 else if (2 : Int32) = 6 then 3 else 0) = 0 from by decide, s2]; grind
  · rw [show (if (6 : Int32) = 4 then (1 : Int32) else if (6 : Int32) = 5 then 2 else if (6 : Int32) = 6 then 3 else 0) = 3 from by decide, s2, show (if (3 : Int32) = 4 then (1 : Int32) else if (3 : Int32) = 5 then 2 else if (3 : Int32) = 6 then 3 else 0) = 0 from by decide, s2]; grind
