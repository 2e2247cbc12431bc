-- THE REFERENCE'S keep() AND again()
theorem nI_addL {c : Int32} {m j : Nat} (h : c = nI m) : c + nI j = nI (m + j) := by rw [h, nI_add]
theorem kp37_2 {s0 : Sto} : ∀ (d j : Nat), j + d = 6 → ∀ n, d < n → ∀ s, FrE [] [(8, 36, 0)] [] s0 s → (∀ i, ¬ ((0 ≤ i ∧ i < 6) ∨ (6 ≤ i ∧ i < 12) ∨ (12 ≤ i ∧ i < 18) ∨ (18 ≤ i ∧ i < 24)) → s.2.1 8 36 0 i = s0.2.1 8 36 0 i) → (∀ q, q < j → s.2.1 8 36 0 (q) = s0.2.1 8 1 0 q ∧ s.2.1 8 36 0 (6 + q) = s0.2.1 8 2 0 q ∧ s.2.1 8 36 0 (12 + q) = s0.2.1 8 3 0 q ∧ s.2.1 8 36 0 (18 + q) = s0.2.1 8 4 0 q) → ∃ τ, FrE [] [(8, 36, 0)] [] s0 τ ∧ (∀ i, ¬ ((0 ≤ i ∧ i < 6) ∨ (6 ≤ i ∧ i < 12) ∨ (12 ≤ i ∧ i < 18) ∨ (18 ≤ i ∧ i < 24)) → τ.2.1 8 36 0 i = s0.2.1 8 36 0 i) ∧ (∀ q, q < 6 → τ.2.1 8 36 0 (q) = s0.2.1 8 1 0 q ∧ τ.2.1 8 36 0 (6 + q) = s0.2.1 8 2 0 q ∧ τ.2.1 8 36 0 (12 + q) = s0.2.1 8 3 0 q ∧ τ.2.1 8 36 0 (18 + q) = s0.2.1 8 4 0 q) ∧ f_X8_keep_37_L2 n s (nI j) = f_X8_keep_37_L61 1000 τ 0 := by
  intro d
  induction d with
  | zero =>
    intro j hj n hn s he ho hq
    obtain ⟨n, rfl⟩ : ∃ q, n = q + 1 := ⟨n - 1, by omega⟩
    have hj2 : j = 6 := by omega
    subst hj2
    refine ⟨s, he, ho, hq, ?_⟩
    show f_X8_keep_37_B2 _ s (nI 6) = _
    unfold f_X8_keep_37_B2
    rw [if_pos (show (6 : Int32) ≤ nI 6 by decide)]
  | succ d ih =>
    intro j hj n hn s he ho hq
    obtain ⟨n, rfl⟩ : ∃ q, n = q + 1 := ⟨n - 1, by omega⟩
    have b0 : ¬ (6 : Int32) ≤ nI j := nI_ge (a := j) (b := 6) (by omega) (by decide)
    have b1 : (0 : Int32) ≤ nI j ∧ nI j < 6 := nI_r (N := 6) (by omega) (by decide)
    have c0 : (nI j).toNatClampNeg = j := nI_clamp (by omega)
    have d0 : (0 : Int32) ≤ nI j ∧ nI j < 105 := nI_r (N := 105) (by omega) (by decide)
    have e1 : (6 : Int32) + nI j = nI (6 + j) := nI_addL rfl
    have d1 : (0 : Int32) ≤ nI (6 + j) ∧ nI (6 + j) < 105 := nI_r (N := 105) (by omega) (by decide)
    have f1 : (nI (6 + j)).toNatClampNeg = 6 + j := nI_clamp (by omega)
    have e2 : (12 : Int32) + nI j = nI (12 + j) := nI_addL rfl
    have d2 : (0 : Int32) ≤ nI (12 + j) ∧ nI (12 + j) < 105 := nI_r (N := 105) (by omega) (by decide)
    have f2 : (nI (12 + j)).toNatClampNeg = 12 + j := nI_clamp (by omega)
    have e3 : (18 : Int32) + nI j = nI (18 + j) := nI_addL rfl
    have d3 : (0 : Int32) ≤ nI (18 + j) ∧ nI (18 + j) < 105 := nI_r (N := 105) (by omega) (by decide)
    have f3 : (nI (18 + j)).toNatClampNeg = 18 + j := nI_clamp (by omega)
    have v0 : s.2.1 8 1 0 = s0.2.1 8 1 0 := he.2.1 8 1 0 (by decide)
    have v1 : s.2.1 8 2 0 = s0.2.1 8 2 0 := he.2.1 8 2 0 (by decide)
    have v2 : s.2.1 8 3 0 = s0.2.1 8 3 0 := he.2.1 8 3 0 (by decide)
    have v3 : s.2.1 8 4 0 = s0.2.1 8 4 0 := he.2.1 8 4 0 (by decide)
    obtain ⟨τ, t1, t2, t3, t4⟩ := ih (j + 1) (by omega) n (by omega) (sA s 8 36 0 (upd (upd (upd (upd (s.2.1 8 36 0) (j) (s0.2.1 8 1 0 j)) (6 + j) (s0.2.1 8 2 0 j)) (12 + j) (s0.2.1 8 3 0 j)) (18 + j) (s0.2.1 8 4 0 j))) (he.sA (by decide)) (by
      intro i hi
      rw [sA_at]
      have := ho i hi
      simp only [upd_at]
      grind) (by
      intro q hq2
      rw [sA_at]
      by_cases hqj : q = j
      · subst hqj
        simp only [upd_at]
        refine ⟨?_, ?_, ?_, ?_⟩
        · rw [if_neg (by omega), if_neg (by omega), if_neg (by omega), if_pos trivial]
        · rw [if_neg (by omega), if_neg (by omega), if_pos trivial]
        · rw [if_neg (by omega), if_pos trivial]
        · rw [if_pos trivial]
      · have hv := hq q (by omega)
        simp only [upd_at]
        refine ⟨?_, ?_, ?_, ?_⟩
        · rw [if_neg (by omega), if_neg (by omega), if_neg (by omega), if_neg (by omega)]; exact hv.1
        · rw [if_neg (by omega), if_neg (by omega), if_neg (by omega), if_neg (by omega)]; exact hv.2.1
        · rw [if_neg (by omega), if_neg (by omega), if_neg (by omega), if_neg (by omega)]; exact hv.2.2.1
        · rw [if_neg (by omega), if_neg (by omega), if_neg (by omega), if_neg (by omega)]; exact hv.2.2.2)
    refine ⟨τ, t1, t2, t3, ?_⟩
    rw [← t4]
    show f_X8_keep_37_B2 _ s (nI j) = _
    unfold f_X8_keep_37_B2 nm nmI
    simp only [b0, b1, c0, d0, e1, d1, f1, e2, d2, f2, e3, d3, f3, v0, v1, v2, v3, and_self, if_true, if_false, sA2, sA_sA, nI_1, Nat.reduceEqDiff, true_and, and_true, false_and, and_false]
theorem kp37_61 {s0 : Sto} : ∀ (d j : Nat), j + d = 24 → ∀ n, d < n → ∀ s, FrE [] [(8, 36, 0)] [] s0 s → (∀ i, ¬ ((24 ≤ i ∧ i < 48)) → s.2.1 8 36 0 i = s0.2.1 8 36 0 i) → (∀ q, q < j → s.2.1 8 36 0 (24 + q) = s0.2.1 8 5 0 q) → ∃ τ, FrE [] [(8, 36, 0)] [] s0 τ ∧ (∀ i, ¬ ((24 ≤ i ∧ i < 48)) → τ.2.1 8 36 0 i = s0.2.1 8 36 0 i) ∧ (∀ q, q < 24 → τ.2.1 8 36 0 (24 + q) = s0.2.1 8 5 0 q) ∧ f_X8_keep_37_L61 n s (nI j) = f_X8_keep_37_L87 1000 τ 0 := by
  intro d
  induction d with
  | zero =>
    intro j hj n hn s he ho hq
    obtain ⟨n, rfl⟩ : ∃ q, n = q + 1 := ⟨n - 1, by omega⟩
    have hj2 : j = 24 := by omega
    subst hj2
    refine ⟨s, he, ho, hq, ?_⟩
    show f_X8_keep_37_B61 _ s (nI 24) = _
    unfold f_X8_keep_37_B61
    rw [if_pos (show (24 : Int32) ≤ nI 24 by decide)]
  | succ d ih =>
    intro j hj n hn s he ho hq
    obtain ⟨n, rfl⟩ : ∃ q, n = q + 1 := ⟨n - 1, by omega⟩
    have b0 : ¬ (24 : Int32) ≤ nI j := nI_ge (a := j) (b := 24) (by omega) (by decide)
    have b1 : (0 : Int32) ≤ nI j ∧ nI j < 24 := nI_r (N := 24) (by omega) (by decide)
    have c0 : (nI j).toNatClampNeg = j := nI_clamp (by omega)
    have e0 : (24 : Int32) + nI j = nI (24 + j) := nI_addL rfl
    have d0 : (0 : Int32) ≤ nI (24 + j) ∧ nI (24 + j) < 105 := nI_r (N := 105) (by omega) (by decide)
    have f0 : (nI (24 + j)).toNatClampNeg = 24 + j := nI_clamp (by omega)
    have v0 : s.2.1 8 5 0 = s0.2.1 8 5 0 := he.2.1 8 5 0 (by decide)
    obtain ⟨τ, t1, t2, t3, t4⟩ := ih (j + 1) (by omega) n (by omega) (sA s 8 36 0 (upd (s.2.1 8 36 0) (24 + j) (s0.2.1 8 5 0 j))) (he.sA (by decide)) (by
      intro i hi
      rw [sA_at]
      have := ho i hi
      simp only [upd_at]
      grind) (by
      intro q hq2
      rw [sA_at]
      by_cases hqj : q = j
      · subst hqj
        simp only [upd_at]
        rw [if_pos trivial]
      · have hv := hq q (by omega)
        rw [upd_at, if_neg (by omega)]; exact hv)
    refine ⟨τ, t1, t2, t3, ?_⟩
    rw [← t4]
    show f_X8_keep_37_B61 _ s (nI j) = _
    unfold f_X8_keep_37_B61 nm nmI
    simp only [b0, b1, c0, e0, d0, f0, v0, and_self, if_true, if_false, sA2, sA_sA, nI_1, Nat.reduceEqDiff, true_and, and_true, false_and, and_false]
theorem kp37_87 {s0 : Sto} : ∀ (d j : Nat), j + d = 5 → ∀ n, d < n → ∀ s, FrE [] [(8, 36, 0)] [] s0 s → (∀ i, ¬ ((48 ≤ i ∧ i < 53) ∨ (53 ≤ i ∧ i < 58) ∨ (58 ≤ i ∧ i < 63)) → s.2.1 8 36 0 i = s0.2.1 8 36 0 i) → (∀ q, q < j → s.2.1 8 36 0 (48 + q) = s0.2.1 8 24 0 q ∧ s.2.1 8 36 0 (53 + q) = s0.2.1 8 25 0 q ∧ s.2.1 8 36 0 (58 + q) = s0.2.1 8 26 0 q) → ∃ τ, FrE [] [(8, 36, 0)] [] s0 τ ∧ (∀ i, ¬ ((48 ≤ i ∧ i < 53) ∨ (53 ≤ i ∧ i < 58) ∨ (58 ≤ i ∧ i < 63)) → τ.2.1 8 36 0 i = s0.2.1 8 36 0 i) ∧ (∀ q, q < 5 → τ.2.1 8 36 0 (48 + q) = s0.2.1 8 24 0 q ∧ τ.2.1 8 36 0 (53 + q) = s0.2.1 8 25 0 q ∧ τ.2.1 8 36 0 (58 + q) = s0.2.1 8 26 0 q) ∧ f_X8_keep_37_L87 n s (nI j) = f_X8_keep_37_L136 1000 τ 0 := by
  intro d
  induction d with
  | zero =>
    intro j hj n hn s he ho hq
    obtain ⟨n, rfl⟩ : ∃ q, n = q + 1 := ⟨n - 1, by omega⟩
    have hj2 : j = 5 := by omega
    subst hj2
    refine ⟨s, he, ho, hq, ?_⟩
    show f_X8_keep_37_B87 _ s (nI 5) = _
    unfold f_X8_keep_37_B87
    rw [if_pos (show (5 : Int32) ≤ nI 5 by decide)]
  | succ d ih =>
    intro j hj n hn s he ho hq
    obtain ⟨n, rfl⟩ : ∃ q, n = q + 1 := ⟨n - 1, by omega⟩
    have b0 : ¬ (5 : Int32) ≤ nI j := nI_ge (a := j) (b := 5) (by omega) (by decide)
    have b1 : (0 : Int32) ≤ nI j ∧ nI j < 5 := nI_r (N := 5) (by omega) (by decide)
    have c0 : (nI j).toNatClampNeg = j := nI_clamp (by omega)
    have e0 : (48 : Int32) + nI j = nI (48 + j) := nI_addL rfl
    have d0 : (0 : Int32) ≤ nI (48 + j) ∧ nI (48 + j) < 105 := nI_r (N := 105) (by omega) (by decide)
    have f0 : (nI (48 + j)).toNatClampNeg = 48 + j := nI_clamp (by omega)
    have e1 : (53 : Int32) + nI j = nI (53 + j) := nI_addL rfl
    have d1 : (0 : Int32) ≤ nI (53 + j) ∧ nI (53 + j) < 105 := nI_r (N := 105) (by omega) (by decide)
    have f1 : (nI (53 + j)).toNatClampNeg = 53 + j := nI_clamp (by omega)
    have e2 : (58 : Int32) + nI j = nI (58 + j) := nI_addL rfl
    have d2 : (0 : Int32) ≤ nI (58 + j) ∧ nI (58 + j) < 105 := nI_r (N := 105) (by omega) (by decide)
    have f2 : (nI (58 + j)).toNatClampNeg = 58 + j := nI_clamp (by omega)
    have v0 : s.2.1 8 24 0 = s0.2.1 8 24 0 := he.2.1 8 24 0 (by decide)
    have v1 : s.2.1 8 25 0 = s0.2.1 8 25 0 := he.2.1 8 25 0 (by decide)
    have v2 : s.2.1 8 26 0 = s0.2.1 8 26 0 := he.2.1 8 26 0 (by decide)
    obtain ⟨τ, t1, t2, t3, t4⟩ := ih (j + 1) (by omega) n (by omega) (sA s 8 36 0 (upd (upd (upd (s.2.1 8 36 0) (48 + j) (s0.2.1 8 24 0 j)) (53 + j) (s0.2.1 8 25 0 j)) (58 + j) (s0.2.1 8 26 0 j))) (he.sA (by decide)) (by
      intro i hi
      rw [sA_at]
      have := ho i hi
      simp only [upd_at]
      grind) (by
      intro q hq2
      rw [sA_at]
      by_cases hqj : q = j
      · subst hqj
        simp only [upd_at]
        refine ⟨?_, ?_, ?_⟩
        · rw [if_neg (by omega), if_neg (by omega), if_pos trivial]
        · rw [if_neg (by omega), if_pos trivial]
        · rw [if_pos trivial]
      · have hv := hq q (by omega)
        simp only [upd_at]
        refine ⟨?_, ?_, ?_⟩
        · rw [if_neg (by omega), if_neg (by omega), if_neg (by omega)]; exact hv.1
        · rw [if_neg (by omega), if_neg (by omega), if_neg (by omega)]; exact hv.2.1
        · rw [if_neg (by omega), if_neg (by omega), if_neg (by omega)]; exact hv.2.2)
    refine ⟨τ, t1, t2, t3, ?_⟩
    rw [← t4]
    show f_X8_keep_37_B87 _ s (nI j) = _
    unfold f_X8_keep_37_B87 nm nmI
    simp only [b0, b1, c0, e0, d0, f0, e1, d1, f1, e2, d2, f2, v0, v1, v2, and_self, if_true, if_false, sA2, sA_sA, nI_1, Nat.reduceEqDiff, true_and, and_true, false_and, and_false]
theorem kp37_136 {s0 : Sto} : ∀ (d j : Nat), j + d = 10 → ∀ n, d < n → ∀ s, FrE [] [(8, 36, 0)] [] s0 s → (∀ i, ¬ ((63 ≤ i ∧ i < 73) ∨ (73 ≤ i ∧ i < 83)) → s.2.1 8 36 0 i = s0.2.1 8 36 0 i) → (∀ q, q < j → s.2.1 8 36 0 (63 + q) = s0.2.1 8 28 0 q ∧ s.2.1 8 36 0 (73 + q) = s0.2.1 8 29 0 q) → ∃ τ, FrE [] [(8, 36, 0)] [] s0 τ ∧ (∀ i, ¬ ((63 ≤ i ∧ i < 73) ∨ (73 ≤ i ∧ i < 83)) → τ.2.1 8 36 0 i = s0.2.1 8 36 0 i) ∧ (∀ q, q < 10 → τ.2.1 8 36 0 (63 + q) = s0.2.1 8 28 0 q ∧ τ.2.1 8 36 0 (73 + q) = s0.2.1 8 29 0 q) ∧ f_X8_keep_37_L136 n s (nI j) = f_X8_keep_37_L174 1000 τ 0 := by
  intro d
  induction d with
  | zero =>
    intro j hj n hn s he ho hq
    obtain ⟨n, rfl⟩ : ∃ q, n = q + 1 := ⟨n - 1, by omega⟩
    have hj2 : j = 10 := by omega
    subst hj2
    refine ⟨s, he, ho, hq, ?_⟩
    show f_X8_keep_37_B136 _ s (nI 10) = _
    unfold f_X8_keep_37_B136
    rw [if_pos (show (10 : Int32) ≤ nI 10 by decide)]
  | succ d ih =>
    intro j hj n hn s he ho hq
    obtain ⟨n, rfl⟩ : ∃ q, n = q + 1 := ⟨n - 1, by omega⟩
    have b0 : ¬ (10 : Int32) ≤ nI j := nI_ge (a := j) (b := 10) (by omega) (by decide)
    have b1 : (0 : Int32) ≤ nI j ∧ nI j < 10 := nI_r (N := 10) (by omega) (by decide)
    have c0 : (nI j).toNatClampNeg = j := nI_clamp (by omega)
    have e0 : (63 : Int32) + nI j = nI (63 + j) := nI_addL rfl
    have d0 : (0 : Int32) ≤ nI (63 + j) ∧ nI (63 + j) < 105 := nI_r (N := 105) (by omega) (by decide)
    have f0 : (nI (63 + j)).toNatClampNeg = 63 + j := nI_clamp (by omega)
    have e1 : (73 : Int32) + nI j = nI (73 + j) := nI_addL rfl
    have d1 : (0 : Int32) ≤ nI (73 + j) ∧ nI (73 + j) < 105 := nI_r (N := 105) (by omega) (by decide)
    have f1 : (nI (73 + j)).toNatClampNeg = 73 + j := nI_clamp (by omega)
    have v0 : s.2.1 8 28 0 = s0.2.1 8 28 0 := he.2.1 8 28 0 (by decide)
    have v1 : s.2.1 8 29 0 = s0.2.1 8 29 0 := he.2.1 8 29 0 (by decide)
    obtain ⟨τ, t1, t2, t3, t4⟩ := ih (j + 1) (by omega) n (by omega) (sA s 8 36 0 (upd (upd (s.2.1 8 36 0) (63 + j) (s0.2.1 8 28 0 j)) (73 + j) (s0.2.1 8 29 0 j))) (he.sA (by decide)) (by
      intro i hi
      rw [sA_at]
      have := ho i hi
      simp only [upd_at]
      grind) (by
      intro q hq2
      rw [sA_at]
      by_cases hqj : q = j
      · subst hqj
        simp only [upd_at]
        refine ⟨?_, ?_⟩
        · rw [if_neg (by omega), if_pos trivial]
        · rw [if_pos trivial]
      · have hv := hq q (by omega)
        simp only [upd_at]
        refine ⟨?_, ?_⟩
        · rw [if_neg (by omega), if_neg (by omega)]; exact hv.1
        · rw [if_neg (by omega), if_neg (by omega)]; exact hv.2)
    refine ⟨τ, t1, t2, t3, ?_⟩
    rw [← t4]
    show f_X8_keep_37_B136 _ s (nI j) = _
    unfold f_X8_keep_37_B136 nm nmI
    simp only [b0, b1, c0, e0, d0, f0, e1, d1, f1, v0, v1, and_self, if_true, if_false, sA2, sA_sA, nI_1, Nat.reduceEqDiff, true_and, and_true, false_and, and_false]
theorem kp37_174 {s0 : Sto} : ∀ (d j : Nat), j + d = 8 → ∀ n, d < n → ∀ s, FrE [] [(8, 36, 0)] [] s0 s → (∀ i, ¬ ((83 ≤ i ∧ i < 91) ∨ (91 ≤ i ∧ i < 99)) → s.2.1 8 36 0 i = s0.2.1 8 36 0 i) → (∀ q, q < j → s.2.1 8 36 0 (83 + q) = s0.2.1 8 31 0 q ∧ s.2.1 8 36 0 (91 + q) = s0.2.1 8 32 0 q) → ∃ τ, FrE [] [(8, 36, 0)] [] s0 τ ∧ (∀ i, ¬ ((83 ≤ i ∧ i < 91) ∨ (91 ≤ i ∧ i < 99)) → τ.2.1 8 36 0 i = s0.2.1 8 36 0 i) ∧ (∀ q, q < 8 → τ.2.1 8 36 0 (83 + q) = s0.2.1 8 31 0 q ∧ τ.2.1 8 36 0 (91 + q) = s0.2.1 8 32 0 q) ∧ f_X8_keep_37_L174 n s (nI j) = f_X8_keep_37_B174 (fun _ _ => none) τ (nI 8) := by
  intro d
  induction d with
  | zero =>
    intro j hj n hn s he ho hq
    obtain ⟨n, rfl⟩ : ∃ q, n = q + 1 := ⟨n - 1, by omega⟩
    have hj2 : j = 8 := by omega
    subst hj2
    refine ⟨s, he, ho, hq, ?_⟩
    show f_X8_keep_37_B174 _ s (nI 8) = _
    unfold f_X8_keep_37_B174
    rw [if_pos (show (8 : Int32) ≤ nI 8 by decide), if_pos (show (8 : Int32) ≤ nI 8 by decide)]
  | succ d ih =>
    intro j hj n hn s he ho hq
    obtain ⟨n, rfl⟩ : ∃ q, n = q + 1 := ⟨n - 1, by omega⟩
    have b0 : ¬ (8 : Int32) ≤ nI j := nI_ge (a := j) (b := 8) (by omega) (by decide)
    have b1 : (0 : Int32) ≤ nI j ∧ nI j < 8 := nI_r (N := 8) (by omega) (by decide)
    have c0 : (nI j).toNatClampNeg = j := nI_clamp (by omega)
    have e0 : (83 : Int32) + nI j = nI (83 + j) := nI_addL rfl
    have d0 : (0 : Int32) ≤ nI (83 + j) ∧ nI (83 + j) < 105 := nI_r (N := 105) (by omega) (by decide)
    have f0 : (nI (83 + j)).toNatClampNeg = 83 + j := nI_clamp (by omega)
    have e1 : (91 : Int32) + nI j = nI (91 + j) := nI_addL rfl
    have d1 : (0 : Int32) ≤ nI (91 + j) ∧ nI (91 + j) < 105 := nI_r (N := 105) (by omega) (by decide)
    have f1 : (nI (91 + j)).toNatClampNeg = 91 + j := nI_clamp (by omega)
    have v0 : s.2.1 8 31 0 = s0.2.1 8 31 0 := he.2.1 8 31 0 (by decide)
    have v1 : s.2.1 8 32 0 = s0.2.1 8 32 0 := he.2.1 8 32 0 (by decide)
    obtain ⟨τ, t1, t2, t3, t4⟩ := ih (j + 1) (by omega) n (by omega) (sA s 8 36 0 (upd (upd (s.2.1 8 36 0) (83 + j) (s0.2.1 8 31 0 j)) (91 + j) (s0.2.1 8 32 0 j))) (he.sA (by decide)) (by
      intro i hi
      rw [sA_at]
      have := ho i hi
      simp only [upd_at]
      grind) (by
      intro q hq2
      rw [sA_at]
      by_cases hqj : q = j
      · subst hqj
        simp only [upd_at]
        refine ⟨?_, ?_⟩
        · rw [if_neg (by omega), if_pos trivial]
        · rw [if_pos trivial]
      · have hv := hq q (by omega)
        simp only [upd_at]
        refine ⟨?_, ?_⟩
        · rw [if_neg (by omega), if_neg (by omega)]; exact hv.1
        · rw [if_neg (by omega), if_neg (by omega)]; exact hv.2)
    refine ⟨τ, t1, t2, t3, ?_⟩
    rw [← t4]
    show f_X8_keep_37_B174 _ s (nI j) = _
    unfold f_X8_keep_37_B174 nm nmI
    simp only [b0, b1, c0, e0, d0, f0, e1, d1, f1, v0, v1, and_self, if_true, if_false, sA2, sA_sA, nI_1, Nat.reduceEqDiff, true_and, and_true, false_and, and_false]
theorem keep37_N (N : Nat) (hN : 30 < N) (hN1 : N = 1000) (s0 : Sto) : ∃ τ, f_X8_keep_37_L2 N s0 0 = some τ ∧ FrE [] [(8, 36, 0)] [] s0 τ ∧ ∀ i, i < 105 → τ.2.1 8 36 0 i = snapM s0 i := by
  obtain ⟨s1, a1, b1, c1, g1⟩ := kp37_2 (s0 := s0) 6 0 (by omega) N (by omega) s0 FrE.rfl' (fun _ _ => rfl) (fun q hq => absurd hq (by omega))
  rw [nI_0] at g1
  obtain ⟨s2, a2, b2, c2, g2⟩ := kp37_61 (s0 := s1) 24 0 (by omega) N (by omega) s1 FrE.rfl' (fun _ _ => rfl) (fun q hq => absurd hq (by omega))
  rw [nI_0] at g2
  obtain ⟨s3, a3, b3, c3, g3⟩ := kp37_87 (s0 := s2) 5 0 (by omega) N (by omega) s2 FrE.rfl' (fun _ _ => rfl) (fun q hq => absurd hq (by omega))
  rw [nI_0] at g3
  obtain ⟨s4, a4, b4, c4, g4⟩ := kp37_136 (s0 := s3) 10 0 (by omega) N (by omega) s3 FrE.rfl' (fun _ _ => rfl) (fun q hq => absurd hq (by omega))
  rw [nI_0] at g4
  obtain ⟨s5, a5, b5, c5, g5⟩ := kp37_174 (s0 := s4) 8 0 (by omega) N (by omega) s4 FrE.rfl' (fun _ _ => rfl) (fun q hq => absurd hq (by omega))
  rw [nI_0] at g5
  rw [hN1] at g1 g2 g3 g4 g5 ⊢
  rw [g1, g2, g3, g4, g5]
  have e2 := a1.trans a2
  have e3 := e2.trans a3
  have e4 := e3.trans a4
  have e5 := e4.trans a5
  refine ⟨sA s5 8 36 0 (upd (upd (upd (upd (upd (upd (s5.2.1 8 36 0) 99 (s0.1 8 0 0)) 100 (s0.1 8 6 0)) 101 (s0.1 8 23 0)) 102 (s0.1 8 27 0)) 103 (s0.1 8 30 0)) 104 (s0.1 8 14 0)), ?_, e5.sA (by decide), ?_⟩
  · unfold f_X8_keep_37_B174 nm
    have w99 : s5.1 8 0 0 = s0.1 8 0 0 := e5.1 8 0 0 (by decide)
    have w100 : s5.1 8 6 0 = s0.1 8 6 0 := e5.1 8 6 0 (by decide)
    have w101 : s5.1 8 23 0 = s0.1 8 23 0 := e5.1 8 23 0 (by decide)
    have w102 : s5.1 8 27 0 = s0.1 8 27 0 := e5.1 8 27 0 (by decide)
    have w103 : s5.1 8 30 0 = s0.1 8 30 0 := e5.1 8 30 0 (by decide)
    have w104 : s5.1 8 14 0 = s0.1 8 14 0 := e5.1 8 14 0 (by decide)
    have z1 : ∀ x : Nat, x < 105 → (0 : Int32) ≤ nI x ∧ nI x < 105 := fun x hx => nI_r (N := 105) hx (by decide)
    rw [if_pos (show (8 : Int32) ≤ nI 8 by decide)]
    simp only [show (0 : Int32) ≤ 99 ∧ (99 : Int32) < 105 by decide, show (0 : Int32) ≤ 100 ∧ (100 : Int32) < 105 by decide, show (0 : Int32) ≤ 101 ∧ (101 : Int32) < 105 by decide, show (0 : Int32) ≤ 102 ∧ (102 : Int32) < 105 by decide, show (0 : Int32) ≤ 103 ∧ (103 : Int32) < 105 by decide, show (0 : Int32) ≤ 104 ∧ (104 : Int32) < 105 by decide, show Int32.toNatClampNeg 99 = 99 by decide, show Int32.toNatClampNeg 100 = 100 by decide, show Int32.toNatClampNeg 101 = 101 by decide, show Int32.toNatClampNeg 102 = 102 by decide, show Int32.toNatClampNeg 103 = 103 by decide, show Int32.toNatClampNeg 104 = 104 by decide, and_self, if_true, sA1, sA2, sA_sA, w99, w100, w101, w102, w103, w104]
  · intro i hi
    rw [sA_at]
    simp only [upd_at]
    unfold snapM
    by_cases h0 : i < 6
    · have hv := (c1 (i - 0) (by omega))
      have hv := hv.1
      rw [show i - 0 = i by omega] at hv
      have u2 := b2 i (by omega)
      have u3 := b3 i (by omega)
      have u4 := b4 i (by omega)
      have u5 := b5 i (by omega)
      rw [if_neg (by omega), if_neg (by omega), if_neg (by omega), if_neg (by omega), if_neg (by omega), if_neg (by omega)]
      rw [u5, u4, u3, u2, hv]
      rw [if_pos (by omega)]
    by_cases h6 : i < 12
    · have hv := (c1 (i - 6) (by omega))
      have hv := hv.2.1
      rw [show 6 + (i - 6) = i by omega] at hv
      have u2 := b2 i (by omega)
      have u3 := b3 i (by omega)
      have u4 := b4 i (by omega)
      have u5 := b5 i (by omega)
      rw [if_neg (by omega), if_neg (by omega), if_neg (by omega), if_neg (by omega), if_neg (by omega), if_neg (by omega)]
      rw [u5, u4, u3, u2, hv]
      rw [if_neg (by omega), if_pos (by omega)]
    by_cases h12 : i < 18
    · have hv := (c1 (i - 12) (by omega))
      have hv := hv.2.2.1
      rw [show 12 + (i - 12) = i by omega] at hv
      have u2 := b2 i (by omega)
      have u3 := b3 i (by omega)
      have u4 := b4 i (by omega)
      have u5 := b5 i (by omega)
      rw [if_neg (by omega), if_neg (by omega), if_neg (by omega), if_neg (by omega), if_neg (by omega), if_neg (by omega)]
      rw [u5, u4, u3, u2, hv]
      rw [if_neg (by omega), if_neg (by omega), if_pos (by omega)]
    by_cases h18 : i < 24
    · have hv := (c1 (i - 18) (by omega))
      have hv := hv.2.2.2
      rw [show 18 + (i - 18) = i by omega] at hv
      have u2 := b2 i (by omega)
      have u3 := b3 i (by omega)
      have u4 := b4 i (by omega)
      have u5 := b5 i (by omega)
      rw [if_neg (by omega), if_neg (by omega), if_neg (by omega), if_neg (by omega), if_neg (by omega), if_neg (by omega)]
      rw [u5, u4, u3, u2, hv]
      rw [if_neg (by omega), if_neg (by omega), if_neg (by omega), if_pos (by omega)]
    by_cases h24 : i < 48
    · have hv := (c2 (i - 24) (by omega))
      rw [show 24 + (i - 24) = i by omega] at hv
      have u3 := b3 i (by omega)
      have u4 := b4 i (by omega)
      have u5 := b5 i (by omega)
      have w := a1.2.1 8 5 0 (by decide)
      rw [if_neg (by omega), if_neg (by omega), if_neg (by omega), if_neg (by omega), if_neg (by omega), if_neg (by omega)]
      rw [u5, u4, u3, hv, w]
      rw [if_neg (by omega), if_neg (by omega), if_neg (by omega), if_neg (by omega), if_pos (by omega)]
    by_cases h48 : i < 53
    · have hv := (c3 (i - 48) (by omega))
      have hv := hv.1
      rw [show 48 + (i - 48) = i by omega] at hv
      have u4 := b4 i (by omega)
      have u5 := b5 i (by omega)
      have w := e2.2.1 8 24 0 (by decide)
      rw [if_neg (by omega), if_neg (by omega), if_neg (by omega), if_neg (by omega), if_neg (by omega), if_neg (by omega)]
      rw [u5, u4, hv, w]
      rw [if_neg (by omega), if_neg (by omega), if_neg (by omega), if_neg (by omega), if_neg (by omega), if_pos (by omega)]
    by_cases h53 : i < 58
    · have hv := (c3 (i - 53) (by omega))
      have hv := hv.2.1
      rw [show 53 + (i - 53) = i by omega] at hv
      have u4 := b4 i (by omega)
      have u5 := b5 i (by omega)
      have w := e2.2.1 8 25 0 (by decide)
      rw [if_neg (by omega), if_neg (by omega), if_neg (by omega), if_neg (by omega), if_neg (by omega), if_neg (by omega)]
      rw [u5, u4, hv, w]
      rw [if_neg (by omega), if_neg (by omega), if_neg (by omega), if_neg (by omega), if_neg (by omega), if_neg (by omega), if_pos (by omega)]
    by_cases h58 : i < 63
    · have hv := (c3 (i - 58) (by omega))
      have hv := hv.2.2
      rw [show 58 + (i - 58) = i by omega] at hv
      have u4 := b4 i (by omega)
      have u5 := b5 i (by omega)
      have w := e2.2.1 8 26 0 (by decide)
      rw [if_neg (by omega), if_neg (by omega), if_neg (by omega), if_neg (by omega), if_neg (by omega), if_neg (by omega)]
      rw [u5, u4, hv, w]
      rw [if_neg (by omega), if_neg (by omega), if_neg (by omega), if_neg (by omega), if_neg (by omega), if_neg (by omega), if_neg (by omega), if_pos (by omega)]
    by_cases h63 : i < 73
    · have hv := (c4 (i - 63) (by omega))
      have hv := hv.1
      rw [show 63 + (i - 63) = i by omega] at hv
      have u5 := b5 i (by omega)
      have w := e3.2.1 8 28 0 (by decide)
      rw [if_neg (by omega), if_neg (by omega), if_neg (by omega), if_neg (by omega), if_neg (by omega), if_neg (by omega)]
      rw [u5, hv, w]
      rw [if_neg (by omega), if_neg (by omega), if_neg (by omega), if_neg (by omega), if_neg (by omega), if_neg (by omega), if_neg (by omega), if_neg (by omega), if_pos (by omega)]
    by_cases h73 : i < 83
    · have hv := (c4 (i - 73) (by omega))
      have hv := hv.2
      rw [show 73 + (i - 73) = i by omega] at hv
      have u5 := b5 i (by omega)
      have w := e3.2.1 8 29 0 (by decide)
      rw [if_neg (by omega), if_neg (by omega), if_neg (by omega), if_neg (by omega), if_neg (by omega), if_neg (by omega)]
      rw [u5, hv, w]
      rw [if_neg (by omega), if_neg (by omega), if_neg (by omega), if_neg (by omega), if_neg (by omega), if_neg (by omega), if_neg (by omega), if_neg (by omega), if_neg (by omega), if_pos (by omega)]
    by_cases h83 : i < 91
    · have hv := (c5 (i - 83) (by omega))
      have hv := hv.1
      rw [show 83 + (i - 83) = i by omega] at hv
      have w := e4.2.1 8 31 0 (by decide)
      rw [if_neg (by omega), if_neg (by omega), if_neg (by omega), if_neg (by omega), if_neg (by omega), if_neg (by omega)]
      rw [hv, w]
      rw [if_neg (by omega), if_neg (by omega), if_neg (by omega), if_neg (by omega), if_neg (by omega), if_neg (by omega), if_neg (by omega), if_neg (by omega), if_neg (by omega), if_neg (by omega), if_pos (by omega)]
    by_cases h91 : i < 99
    · have hv := (c5 (i - 91) (by omega))
      have hv := hv.2
      rw [show 91 + (i - 91) = i by omega] at hv
      have w := e4.2.1 8 32 0 (by decide)
      rw [if_neg (by omega), if_neg (by omega), if_neg (by omega), if_neg (by omega), if_neg (by omega), if_neg (by omega)]
      rw [hv, w]
      rw [if_neg (by omega), if_neg (by omega), if_neg (by omega), if_neg (by omega), if_neg (by omega), if_neg (by omega), if_neg (by omega), if_neg (by omega), if_neg (by omega), if_neg (by omega), if_neg (by omega), if_pos (by omega)]
    have hcs : i = 99 ∨ i = 100 ∨ i = 101 ∨ i = 102 ∨ i = 103 ∨ i = 104 := by omega
    rcases hcs with rfl | rfl | rfl | rfl | rfl | rfl <;> simp
theorem keep37_eq (s0 : Sto) : ∃ τ, f_X8_keep_37 s0 = some τ ∧ FrE [] [(8, 36, 0)] [] s0 τ ∧ ∀ i, i < 105 → τ.2.1 8 36 0 i = snapM s0 i := keep37_N 1000 (by decide) rfl s0
theorem ag37_2 {s0 : Sto} : ∀ (d j : Nat), j + d = 6 → ∀ n, d < n → ∀ s, FrE [] [(8, 1, 0), (8, 2, 0), (8, 3, 0), (8, 4, 0)] [] s0 s → (∀ q, q < j → s.2.1 8 1 0 q = s0.2.1 8 36 0 (q) ∧ s.2.1 8 2 0 q = s0.2.1 8 36 0 (6 + q) ∧ s.2.1 8 3 0 q = s0.2.1 8 36 0 (12 + q) ∧ s.2.1 8 4 0 q = s0.2.1 8 36 0 (18 + q)) → ∃ τ, FrE [] [(8, 1, 0), (8, 2, 0), (8, 3, 0), (8, 4, 0)] [] s0 τ ∧ (∀ q, q < 6 → τ.2.1 8 1 0 q = s0.2.1 8 36 0 (q) ∧ τ.2.1 8 2 0 q = s0.2.1 8 36 0 (6 + q) ∧ τ.2.1 8 3 0 q = s0.2.1 8 36 0 (12 + q) ∧ τ.2.1 8 4 0 q = s0.2.1 8 36 0 (18 + q)) ∧ f_X8_again_37_L2 n s (nI j) = f_X8_again_37_L61 1000 τ 0 := by
  intro d
  induction d with
  | zero =>
    intro j hj n hn s he hq
    obtain ⟨n, rfl⟩ : ∃ q, n = q + 1 := ⟨n - 1, by omega⟩
    have hj2 : j = 6 := by omega
    subst hj2
    refine ⟨s, he, hq, ?_⟩
    show f_X8_again_37_B2 _ s (nI 6) = _
    unfold f_X8_again_37_B2
    rw [if_pos (show (6 : Int32) ≤ nI 6 by decide)]
  | succ d ih =>
    intro j hj n hn s he hq
    obtain ⟨n, rfl⟩ : ∃ q, n = q + 1 := ⟨n - 1, by omega⟩
    have b0 : ¬ (6 : Int32) ≤ nI j := nI_ge (a := j) (b := 6) (by omega) (by decide)
    have b1 : (0 : Int32) ≤ nI j ∧ nI j < 6 := nI_r (N := 6) (by omega) (by decide)
    have c0 : (nI j).toNatClampNeg = j := nI_clamp (by omega)
    have d0 : (0 : Int32) ≤ nI j ∧ nI j < 105 := nI_r (N := 105) (by omega) (by decide)
    have e1 : (6 : Int32) + nI j = nI (6 + j) := nI_addL rfl
    have d1 : (0 : Int32) ≤ nI (6 + j) ∧ nI (6 + j) < 105 := nI_r (N := 105) (by omega) (by decide)
    have f1 : (nI (6 + j)).toNatClampNeg = 6 + j := nI_clamp (by omega)
    have e2 : (12 : Int32) + nI j = nI (12 + j) := nI_addL rfl
    have d2 : (0 : Int32) ≤ nI (12 + j) ∧ nI (12 + j) < 105 := nI_r (N := 105) (by omega) (by decide)
    have f2 : (nI (12 + j)).toNatClampNeg = 12 + j := nI_clamp (by omega)
    have e3 : (18 : Int32) + nI j = nI (18 + j) := nI_addL rfl
    have d3 : (0 : Int32) ≤ nI (18 + j) ∧ nI (18 + j) < 105 := nI_r (N := 105) (by omega) (by decide)
    have f3 : (nI (18 + j)).toNatClampNeg = 18 + j := nI_clamp (by omega)
    have v0 : s.2.1 8 36 0 = s0.2.1 8 36 0 := he.2.1 8 36 0 (by decide)
    obtain ⟨τ, t1, t2, t3⟩ := ih (j + 1) (by omega) n (by omega) (sA (sA (sA (sA (s) 8 1 0 (upd (s.2.1 8 1 0) j (s0.2.1 8 36 0 (j)))) 8 2 0 (upd (s.2.1 8 2 0) j (s0.2.1 8 36 0 (6 + j)))) 8 3 0 (upd (s.2.1 8 3 0) j (s0.2.1 8 36 0 (12 + j)))) 8 4 0 (upd (s.2.1 8 4 0) j (s0.2.1 8 36 0 (18 + j)))) ((((he.sA (by decide)).sA (by decide)).sA (by decide)).sA (by decide)) (by
      intro q hq2
      have := hq q
      simp only [sA2, upd_at, and_self, if_true, if_false, Nat.reduceEqDiff, true_and, and_true, false_and, and_false]
      grind)
    refine ⟨τ, t1, t2, ?_⟩
    rw [← t3]
    show f_X8_again_37_B2 _ s (nI j) = _
    unfold f_X8_again_37_B2 nm nmI
    simp only [b0, b1, c0, d0, e1, d1, f1, e2, d2, f2, e3, d3, f3, v0, and_self, if_true, if_false, sA2, nI_1, Nat.reduceEqDiff, true_and, and_true, false_and, and_false]
theorem ag37_61 {s0 : Sto} : ∀ (d j : Nat), j + d = 24 → ∀ n, d < n → ∀ s, FrE [] [(8, 5, 0)] [] s0 s → (∀ q, q < j → s.2.1 8 5 0 q = s0.2.1 8 36 0 (24 + q)) → ∃ τ, FrE [] [(8, 5, 0)] [] s0 τ ∧ (∀ q, q < 24 → τ.2.1 8 5 0 q = s0.2.1 8 36 0 (24 + q)) ∧ f_X8_again_37_L61 n s (nI j) = f_X8_again_37_L87 1000 τ 0 := by
  intro d
  induction d with
  | zero =>
    intro j hj n hn s he hq
    obtain ⟨n, rfl⟩ : ∃ q, n = q + 1 := ⟨n - 1, by omega⟩
    have hj2 : j = 24 := by omega
    subst hj2
    refine ⟨s, he, hq, ?_⟩
    show f_X8_again_37_B61 _ s (nI 24) = _
    unfold f_X8_again_37_B61
    rw [if_pos (show (24 : Int32) ≤ nI 24 by decide)]
  | succ d ih =>
    intro j hj n hn s he hq
    obtain ⟨n, rfl⟩ : ∃ q, n = q + 1 := ⟨n - 1, by omega⟩
    have b0 : ¬ (24 : Int32) ≤ nI j := nI_ge (a := j) (b := 24) (by omega) (by decide)
    have b1 : (0 : Int32) ≤ nI j ∧ nI j < 24 := nI_r (N := 24) (by omega) (by decide)
    have c0 : (nI j).toNatClampNeg = j := nI_clamp (by omega)
    have e0 : (24 : Int32) + nI j = nI (24 + j) := nI_addL rfl
    have d0 : (0 : Int32) ≤ nI (24 + j) ∧ nI (24 + j) < 105 := nI_r (N := 105) (by omega) (by decide)
    have f0 : (nI (24 + j)).toNatClampNeg = 24 + j := nI_clamp (by omega)
    have v0 : s.2.1 8 36 0 = s0.2.1 8 36 0 := he.2.1 8 36 0 (by decide)
    obtain ⟨τ, t1, t2, t3⟩ := ih (j + 1) (by omega) n (by omega) (sA (s) 8 5 0 (upd (s.2.1 8 5 0) j (s0.2.1 8 36 0 (24 + j)))) (he.sA (by decide)) (by
      intro q hq2
      have := hq q
      simp only [sA2, upd_at, and_self, if_true, if_false, Nat.reduceEqDiff, true_and, and_true, false_and, and_false]
      grind)
    refine ⟨τ, t1, t2, ?_⟩
    rw [← t3]
    show f_X8_again_37_B61 _ s (nI j) = _
    unfold f_X8_again_37_B61 nm nmI
    simp only [b0, b1, c0, e0, d0, f0, v0, and_self, if_true, if_false, sA2, nI_1, Nat.reduceEqDiff, true_and, and_true, false_and, and_false]
theorem ag37_87 {s0 : Sto} : ∀ (d j : Nat), j + d = 5 → ∀ n, d < n → ∀ s, FrE [] [(8, 24, 0), (8, 25, 0), (8, 26, 0)] [] s0 s → (∀ q, q < j → s.2.1 8 24 0 q = s0.2.1 8 36 0 (48 + q) ∧ s.2.1 8 25 0 q = s0.2.1 8 36 0 (53 + q) ∧ s.2.1 8 26 0 q = s0.2.1 8 36 0 (58 + q)) → ∃ τ, FrE [] [(8, 24, 0), (8, 25, 0), (8, 26, 0)] [] s0 τ ∧ (∀ q, q < 5 → τ.2.1 8 24 0 q = s0.2.1 8 36 0 (48 + q) ∧ τ.2.1 8 25 0 q = s0.2.1 8 36 0 (53 + q) ∧ τ.2.1 8 26 0 q = s0.2.1 8 36 0 (58 + q)) ∧ f_X8_again_37_L87 n s (nI j) = f_X8_again_37_L136 1000 τ 0 := by
  intro d
  induction d with
  | zero =>
    intro j hj n hn s he hq
    obtain ⟨n, rfl⟩ : ∃ q, n = q + 1 := ⟨n - 1, by omega⟩
    have hj2 : j = 5 := by omega
    subst hj2
    refine ⟨s, he, hq, ?_⟩
    show f_X8_again_37_B87 _ s (nI 5) = _
    unfold f_X8_again_37_B87
    rw [if_pos (show (5 : Int32) ≤ nI 5 by decide)]
  | succ d ih =>
    intro j hj n hn s he hq
    obtain ⟨n, rfl⟩ : ∃ q, n = q + 1 := ⟨n - 1, by omega⟩
    have b0 : ¬ (5 : Int32) ≤ nI j := nI_ge (a := j) (b := 5) (by omega) (by decide)
    have b1 : (0 : Int32) ≤ nI j ∧ nI j < 5 := nI_r (N := 5) (by omega) (by decide)
    have c0 : (nI j).toNatClampNeg = j := nI_clamp (by omega)
    have e0 : (48 : Int32) + nI j = nI (48 + j) := nI_addL rfl
    have d0 : (0 : Int32) ≤ nI (48 + j) ∧ nI (48 + j) < 105 := nI_r (N := 105) (by omega) (by decide)
    have f0 : (nI (48 + j)).toNatClampNeg = 48 + j := nI_clamp (by omega)
    have e1 : (53 : Int32) + nI j = nI (53 + j) := nI_addL rfl
    have d1 : (0 : Int32) ≤ nI (53 + j) ∧ nI (53 + j) < 105 := nI_r (N := 105) (by omega) (by decide)
    have f1 : (nI (53 + j)).toNatClampNeg = 53 + j := nI_clamp (by omega)
    have e2 : (58 : Int32) + nI j = nI (58 + j) := nI_addL rfl
    have d2 : (0 : Int32) ≤ nI (58 + j) ∧ nI (58 + j) < 105 := nI_r (N := 105) (by omega) (by decide)
    have f2 : (nI (58 + j)).toNatClampNeg = 58 + j := nI_clamp (by omega)
    have v0 : s.2.1 8 36 0 = s0.2.1 8 36 0 := he.2.1 8 36 0 (by decide)
    obtain ⟨τ, t1, t2, t3⟩ := ih (j + 1) (by omega) n (by omega) (sA (sA (sA (s) 8 24 0 (upd (s.2.1 8 24 0) j (s0.2.1 8 36 0 (48 + j)))) 8 25 0 (upd (s.2.1 8 25 0) j (s0.2.1 8 36 0 (53 + j)))) 8 26 0 (upd (s.2.1 8 26 0) j (s0.2.1 8 36 0 (58 + j)))) (((he.sA (by decide)).sA (by decide)).sA (by decide)) (by
      intro q hq2
      have := hq q
      simp only [sA2, upd_at, and_self, if_true, if_false, Nat.reduceEqDiff, true_and, and_true, false_and, and_false]
      grind)
    refine ⟨τ, t1, t2, ?_⟩
    rw [← t3]
    show f_X8_again_37_B87 _ s (nI j) = _
    unfold f_X8_again_37_B87 nm nmI
    simp only [b0, b1, c0, e0, d0, f0, e1, d1, f1, e2, d2, f2, v0, and_self, if_true, if_false, sA2, nI_1, Nat.reduceEqDiff, true_and, and_true, false_and, and_false]
theorem ag37_136 {s0 : Sto} : ∀ (d j : Nat), j + d = 10 → ∀ n, d < n → ∀ s, FrE [] [(8, 28, 0), (8, 29, 0)] [] s0 s → (∀ q, q < j → s.2.1 8 28 0 q = s0.2.1 8 36 0 (63 + q) ∧ s.2.1 8 29 0 q = s0.2.1 8 36 0 (73 + q)) → ∃ τ, FrE [] [(8, 28, 0), (8, 29, 0)] [] s0 τ ∧ (∀ q, q < 10 → τ.2.1 8 28 0 q = s0.2.1 8 36 0 (63 + q) ∧ τ.2.1 8 29 0 q = s0.2.1 8 36 0 (73 + q)) ∧ f_X8_again_37_L136 n s (nI j) = f_X8_again_37_L174 1000 τ 0 := by
  intro d
  induction d with
  | zero =>
    intro j hj n hn s he hq
    obtain ⟨n, rfl⟩ : ∃ q, n = q + 1 := ⟨n - 1, by omega⟩
    have hj2 : j = 10 := by omega
    subst hj2
    refine ⟨s, he, hq, ?_⟩
    show f_X8_again_37_B136 _ s (nI 10) = _
    unfold f_X8_again_37_B136
    rw [if_pos (show (10 : Int32) ≤ nI 10 by decide)]
  | succ d ih =>
    intro j hj n hn s he hq
    obtain ⟨n, rfl⟩ : ∃ q, n = q + 1 := ⟨n - 1, by omega⟩
    have b0 : ¬ (10 : Int32) ≤ nI j := nI_ge (a := j) (b := 10) (by omega) (by decide)
    have b1 : (0 : Int32) ≤ nI j ∧ nI j < 10 := nI_r (N := 10) (by omega) (by decide)
    have c0 : (nI j).toNatClampNeg = j := nI_clamp (by omega)
    have e0 : (63 : Int32) + nI j = nI (63 + j) := nI_addL rfl
    have d0 : (0 : Int32) ≤ nI (63 + j) ∧ nI (63 + j) < 105 := nI_r (N := 105) (by omega) (by decide)
    have f0 : (nI (63 + j)).toNatClampNeg = 63 + j := nI_clamp (by omega)
    have e1 : (73 : Int32) + nI j = nI (73 + j) := nI_addL rfl
    have d1 : (0 : Int32) ≤ nI (73 + j) ∧ nI (73 + j) < 105 := nI_r (N := 105) (by omega) (by decide)
    have f1 : (nI (73 + j)).toNatClampNeg = 73 + j := nI_clamp (by omega)
    have v0 : s.2.1 8 36 0 = s0.2.1 8 36 0 := he.2.1 8 36 0 (by decide)
    obtain ⟨τ, t1, t2, t3⟩ := ih (j + 1) (by omega) n (by omega) (sA (sA (s) 8 28 0 (upd (s.2.1 8 28 0) j (s0.2.1 8 36 0 (63 + j)))) 8 29 0 (upd (s.2.1 8 29 0) j (s0.2.1 8 36 0 (73 + j)))) ((he.sA (by decide)).sA (by decide)) (by
      intro q hq2
      have := hq q
      simp only [sA2, upd_at, and_self, if_true, if_false, Nat.reduceEqDiff, true_and, and_true, false_and, and_false]
      grind)
    refine ⟨τ, t1, t2, ?_⟩
    rw [← t3]
    show f_X8_again_37_B136 _ s (nI j) = _
    unfold f_X8_again_37_B136 nm nmI
    simp only [b0, b1, c0, e0, d0, f0, e1, d1, f1, v0, and_self, if_true, if_false, sA2, nI_1, Nat.reduceEqDiff, true_and, and_true, false_and, and_false]
theorem ag37_174 {s0 : Sto} : ∀ (d j : Nat), j + d = 8 → ∀ n, d < n → ∀ s, FrE [] [(8, 31, 0), (8, 32, 0)] [] s0 s → (∀ q, q < j → s.2.1 8 31 0 q = s0.2.1 8 36 0 (83 + q) ∧ s.2.1 8 32 0 q = s0.2.1 8 36 0 (91 + q)) → ∃ τ, FrE [] [(8, 31, 0), (8, 32, 0)] [] s0 τ ∧ (∀ q, q < 8 → τ.2.1 8 31 0 q = s0.2.1 8 36 0 (83 + q) ∧ τ.2.1 8 32 0 q = s0.2.1 8 36 0 (91 + q)) ∧ f_X8_again_37_L174 n s (nI j) = f_X8_again_37_B174 (fun _ _ => none) τ (nI 8) := by
  intro d
  induction d with
  | zero =>
    intro j hj n hn s he hq
    obtain ⟨n, rfl⟩ : ∃ q, n = q + 1 := ⟨n - 1, by omega⟩
    have hj2 : j = 8 := by omega
    subst hj2
    refine ⟨s, he, hq, ?_⟩
    show f_X8_again_37_B174 _ s (nI 8) = _
    unfold f_X8_again_37_B174
    rw [if_pos (show (8 : Int32) ≤ nI 8 by decide), if_pos (show (8 : Int32) ≤ nI 8 by decide)]
  | succ d ih =>
    intro j hj n hn s he hq
    obtain ⟨n, rfl⟩ : ∃ q, n = q + 1 := ⟨n - 1, by omega⟩
    have b0 : ¬ (8 : Int32) ≤ nI j := nI_ge (a := j) (b := 8) (by omega) (by decide)
    have b1 : (0 : Int32) ≤ nI j ∧ nI j < 8 := nI_r (N := 8) (by omega) (by decide)
    have c0 : (nI j).toNatClampNeg = j := nI_clamp (by omega)
    have e0 : (83 : Int32) + nI j = nI (83 + j) := nI_addL rfl
    have d0 : (0 : Int32) ≤ nI (83 + j) ∧ nI (83 + j) < 105 := nI_r (N := 105) (by omega) (by decide)
    have f0 : (nI (83 + j)).toNatClampNeg = 83 + j := nI_clamp (by omega)
    have e1 : (91 : Int32) + nI j = nI (91 + j) := nI_addL rfl
    have d1 : (0 : Int32) ≤ nI (91 + j) ∧ nI (91 + j) < 105 := nI_r (N := 105) (by omega) (by decide)
    have f1 : (nI (91 + j)).toNatClampNeg = 91 + j := nI_clamp (by omega)
    have v0 : s.2.1 8 36 0 = s0.2.1 8 36 0 := he.2.1 8 36 0 (by decide)
    obtain ⟨τ, t1, t2, t3⟩ := ih (j + 1) (by omega) n (by omega) (sA (sA (s) 8 31 0 (upd (s.2.1 8 31 0) j (s0.2.1 8 36 0 (83 + j)))) 8 32 0 (upd (s.2.1 8 32 0) j (s0.2.1 8 36 0 (91 + j)))) ((he.sA (by decide)).sA (by decide)) (by
      intro q hq2
      have := hq q
      simp only [sA2, upd_at, and_self, if_true, if_false, Nat.reduceEqDiff, true_and, and_true, false_and, and_false]
      grind)
    refine ⟨τ, t1, t2, ?_⟩
    rw [← t3]
    show f_X8_again_37_B174 _ s (nI j) = _
    unfold f_X8_again_37_B174 nm nmI
    simp only [b0, b1, c0, e0, d0, f0, e1, d1, f1, v0, and_self, if_true, if_false, sA2, nI_1, Nat.reduceEqDiff, true_and, and_true, false_and, and_false]
abbrev agF : List (Nat × Nat × Nat) := [(8, 0, 0), (8, 6, 0), (8, 23, 0), (8, 27, 0), (8, 30, 0), (8, 14, 0)]
abbrev agA : List (Nat × Nat × Nat) := [(8, 1, 0), (8, 2, 0), (8, 3, 0), (8, 4, 0), (8, 5, 0), (8, 24, 0), (8, 25, 0), (8, 26, 0), (8, 28, 0), (8, 29, 0), (8, 31, 0), (8, 32, 0)]
theorem again37_N (N : Nat) (hN : 30 < N) (hN1 : N = 1000) (s0 : Sto) : ∃ τ, f_X8_again_37_L2 N s0 0 = some τ ∧ FrE agF agA [] s0 τ ∧ ∀ i, i < 105 → snapM τ i = s0.2.1 8 36 0 i := by
  obtain ⟨s1, a1, c1, g1⟩ := ag37_2 (s0 := s0) 6 0 (by omega) N (by omega) s0 FrE.rfl' (fun q hq => absurd hq (by omega))
  rw [nI_0] at g1
  obtain ⟨s2, a2, c2, g2⟩ := ag37_61 (s0 := s1) 24 0 (by omega) N (by omega) s1 FrE.rfl' (fun q hq => absurd hq (by omega))
  rw [nI_0] at g2
  obtain ⟨s3, a3, c3, g3⟩ := ag37_87 (s0 := s2) 5 0 (by omega) N (by omega) s2 FrE.rfl' (fun q hq => absurd hq (by omega))
  rw [nI_0] at g3
  obtain ⟨s4, a4, c4, g4⟩ := ag37_136 (s0 := s3) 10 0 (by omega) N (by omega) s3 FrE.rfl' (fun q hq => absurd hq (by omega))
  rw [nI_0] at g4
  obtain ⟨s5, a5, c5, g5⟩ := ag37_174 (s0 := s4) 8 0 (by omega) N (by omega) s4 FrE.rfl' (fun q hq => absurd hq (by omega))
  rw [nI_0] at g5
  rw [hN1] at g1 g2 g3 g4 g5 ⊢
  rw [g1, g2, g3, g4, g5]
  have k1 : s1.2.1 8 36 0 = s0.2.1 8 36 0 := a1.2.1 8 36 0 (by decide)
  have k2 : s2.2.1 8 36 0 = s0.2.1 8 36 0 := (a2.2.1 8 36 0 (by decide)).trans k1
  have k3 : s3.2.1 8 36 0 = s0.2.1 8 36 0 := (a3.2.1 8 36 0 (by decide)).trans k2
  have k4 : s4.2.1 8 36 0 = s0.2.1 8 36 0 := (a4.2.1 8 36 0 (by decide)).trans k3
  have k5 : s5.2.1 8 36 0 = s0.2.1 8 36 0 := (a5.2.1 8 36 0 (by decide)).trans k4
  refine ⟨sF (sF (sF (sF (sF (sF (s5) 8 0 0 (s0.2.1 8 36 0 99)) 8 6 0 (s0.2.1 8 36 0 100)) 8 23 0 (s0.2.1 8 36 0 101)) 8 27 0 (s0.2.1 8 36 0 102)) 8 30 0 (s0.2.1 8 36 0 103)) 8 14 0 (s0.2.1 8 36 0 104), ?_, ?_, ?_⟩
  · unfold f_X8_again_37_B174 nm
    rw [if_pos (show (8 : Int32) ≤ nI 8 by decide)]
    simp only [show (0 : Int32) ≤ 99 ∧ (99 : Int32) < 105 by decide, show (0 : Int32) ≤ 100 ∧ (100 : Int32) < 105 by decide, show (0 : Int32) ≤ 101 ∧ (101 : Int32) < 105 by decide, show (0 : Int32) ≤ 102 ∧ (102 : Int32) < 105 by decide, show (0 : Int32) ≤ 103 ∧ (103 : Int32) < 105 by decide, show (0 : Int32) ≤ 104 ∧ (104 : Int32) < 105 by decide, show Int32.toNatClampNeg 99 = 99 by decide, show Int32.toNatClampNeg 100 = 100 by decide, show Int32.toNatClampNeg 101 = 101 by decide, show Int32.toNatClampNeg 102 = 102 by decide, show Int32.toNatClampNeg 103 = 103 by decide, show Int32.toNatClampNeg 104 = 104 by decide, and_self, if_true, sF2, k5]
  · have m1 : FrE agF agA [] s0 s1 := a1.mono (by decide) (by decide) (by decide)
    have m2 : FrE agF agA [] s0 s2 := m1.trans (a2.mono (by decide) (by decide) (by decide))
    have m3 : FrE agF agA [] s0 s3 := m2.trans (a3.mono (by decide) (by decide) (by decide))
    have m4 : FrE agF agA [] s0 s4 := m3.trans (a4.mono (by decide) (by decide) (by decide))
    have m5 : FrE agF agA [] s0 s5 := m4.trans (a5.mono (by decide) (by decide) (by decide))
    exact ((((((m5.sF (by decide)).sF (by decide)).sF (by decide)).sF (by decide)).sF (by decide)).sF (by decide))
  · intro i hi
    unfold snapM
    simp only [sF1, sF2, and_self, if_true, if_false, Nat.reduceEqDiff, true_and, and_true, false_and, and_false]
    by_cases h0 : i < 6
    · rw [if_pos (by omega)]
      have hv := (c1 (i - 0) (by omega))
      have hv := hv.1
      rw [show i - 0 = i by omega] at hv
      have u5 := a5.2.1 8 1 0 (by decide)
      have u4 := a4.2.1 8 1 0 (by decide)
      have u3 := a3.2.1 8 1 0 (by decide)
      have u2 := a2.2.1 8 1 0 (by decide)
      rw [u5, u4, u3, u2, hv]
    by_cases h6 : i < 12
    · rw [if_neg (by omega), if_pos (by omega)]
      have hv := (c1 (i - 6) (by omega))
      have hv := hv.2.1
      rw [show 6 + (i - 6) = i by omega] at hv
      have u5 := a5.2.1 8 2 0 (by decide)
      have u4 := a4.2.1 8 2 0 (by decide)
      have u3 := a3.2.1 8 2 0 (by decide)
      have u2 := a2.2.1 8 2 0 (by decide)
      rw [u5, u4, u3, u2, hv]
    by_cases h12 : i < 18
    · rw [if_neg (by omega), if_neg (by omega), if_pos (by omega)]
      have hv := (c1 (i - 12) (by omega))
      have hv := hv.2.2.1
      rw [show 12 + (i - 12) = i by omega] at hv
      have u5 := a5.2.1 8 3 0 (by decide)
      have u4 := a4.2.1 8 3 0 (by decide)
      have u3 := a3.2.1 8 3 0 (by decide)
      have u2 := a2.2.1 8 3 0 (by decide)
      rw [u5, u4, u3, u2, hv]
    by_cases h18 : i < 24
    · rw [if_neg (by omega), if_neg (by omega), if_neg (by omega), if_pos (by omega)]
      have hv := (c1 (i - 18) (by omega))
      have hv := hv.2.2.2
      rw [show 18 + (i - 18) = i by omega] at hv
      have u5 := a5.2.1 8 4 0 (by decide)
      have u4 := a4.2.1 8 4 0 (by decide)
      have u3 := a3.2.1 8 4 0 (by decide)
      have u2 := a2.2.1 8 4 0 (by decide)
      rw [u5, u4, u3, u2, hv]
    by_cases h24 : i < 48
    · rw [if_neg (by omega), if_neg (by omega), if_neg (by omega), if_neg (by omega), if_pos (by omega)]
      have hv := (c2 (i - 24) (by omega))
      rw [show 24 + (i - 24) = i by omega] at hv
      have u5 := a5.2.1 8 5 0 (by decide)
      have u4 := a4.2.1 8 5 0 (by decide)
      have u3 := a3.2.1 8 5 0 (by decide)
      rw [u5, u4, u3, hv, k1]
    by_cases h48 : i < 53
    · rw [if_neg (by omega), if_neg (by omega), if_neg (by omega), if_neg (by omega), if_neg (by omega), if_pos (by omega)]
      have hv := (c3 (i - 48) (by omega))
      have hv := hv.1
      rw [show 48 + (i - 48) = i by omega] at hv
      have u5 := a5.2.1 8 24 0 (by decide)
      have u4 := a4.2.1 8 24 0 (by decide)
      rw [u5, u4, hv, k2]
    by_cases h53 : i < 58
    · rw [if_neg (by omega), if_neg (by omega), if_neg (by omega), if_neg (by omega), if_neg (by omega), if_neg (by omega), if_pos (by omega)]
      have hv := (c3 (i - 53) (by omega))
      have hv := hv.2.1
      rw [show 53 + (i - 53) = i by omega] at hv
      have u5 := a5.2.1 8 25 0 (by decide)
      have u4 := a4.2.1 8 25 0 (by decide)
      rw [u5, u4, hv, k2]
    by_cases h58 : i < 63
    · rw [if_neg (by omega), if_neg (by omega), if_neg (by omega), if_neg (by omega), if_neg (by omega), if_neg (by omega), if_neg (by omega), if_pos (by omega)]
      have hv := (c3 (i - 58) (by omega))
      have hv := hv.2.2
      rw [show 58 + (i - 58) = i by omega] at hv
      have u5 := a5.2.1 8 26 0 (by decide)
      have u4 := a4.2.1 8 26 0 (by decide)
      rw [u5, u4, hv, k2]
    by_cases h63 : i < 73
    · rw [if_neg (by omega), if_neg (by omega), if_neg (by omega), if_neg (by omega), if_neg (by omega), if_neg (by omega), if_neg (by omega), if_neg (by omega), if_pos (by omega)]
      have hv := (c4 (i - 63) (by omega))
      have hv := hv.1
      rw [show 63 + (i - 63) = i by omega] at hv
      have u5 := a5.2.1 8 28 0 (by decide)
      rw [u5, hv, k3]
    by_cases h73 : i < 83
    · rw [if_neg (by omega), if_neg (by omega), if_neg (by omega), if_neg (by omega), if_neg (by omega), if_neg (by omega), if_neg (by omega), if_neg (by omega), if_neg (by omega), if_pos (by omega)]
      have hv := (c4 (i - 73) (by omega))
      have hv := hv.2
      rw [show 73 + (i - 73) = i by omega] at hv
      have u5 := a5.2.1 8 29 0 (by decide)
      rw [u5, hv, k3]
    by_cases h83 : i < 91
    · rw [if_neg (by omega), if_neg (by omega), if_neg (by omega), if_neg (by omega), if_neg (by omega), if_neg (by omega), if_neg (by omega), if_neg (by omega), if_neg (by omega), if_neg (by omega), if_pos (by omega)]
      have hv := (c5 (i - 83) (by omega))
      have hv := hv.1
      rw [show 83 + (i - 83) = i by omega] at hv
      rw [hv, k4]
    by_cases h91 : i < 99
    · rw [if_neg (by omega), if_neg (by omega), if_neg (by omega), if_neg (by omega), if_neg (by omega), if_neg (by omega), if_neg (by omega), if_neg (by omega), if_neg (by omega), if_neg (by omega), if_neg (by omega), if_pos (by omega)]
      have hv := (c5 (i - 91) (by omega))
      have hv := hv.2
      rw [show 91 + (i - 91) = i by omega] at hv
      rw [hv, k4]
    have hcs : i = 99 ∨ i = 100 ∨ i = 101 ∨ i = 102 ∨ i = 103 ∨ i = 104 := by omega
    rcases hcs with rfl | rfl | rfl | rfl | rfl | rfl <;> simp
theorem again37_eq (s0 : Sto) : ∃ τ, f_X8_again_37 s0 = some τ ∧ FrE agF agA [] s0 τ ∧ ∀ i, i < 105 → snapM τ i = s0.2.1 8 36 0 i := again37_N 1000 (by decide) rfl s0
theorem kp38_2 {s0 : Sto} : ∀ (d j : Nat), j + d = 6 → ∀ n, d < n → ∀ s, FrE [] [(8, 37, 0)] [] s0 s → (∀ i, ¬ ((0 ≤ i ∧ i < 6) ∨ (6 ≤ i ∧ i < 12) ∨ (12 ≤ i ∧ i < 18) ∨ (18 ≤ i ∧ i < 24)) → s.2.1 8 37 0 i = s0.2.1 8 37 0 i) → (∀ q, q < j → s.2.1 8 37 0 (q) = s0.2.1 8 1 0 q ∧ s.2.1 8 37 0 (6 + q) = s0.2.1 8 2 0 q ∧ s.2.1 8 37 0 (12 + q) = s0.2.1 8 3 0 q ∧ s.2.1 8 37 0 (18 + q) = s0.2.1 8 4 0 q) → ∃ τ, FrE [] [(8, 37, 0)] [] s0 τ ∧ (∀ i, ¬ ((0 ≤ i ∧ i < 6) ∨ (6 ≤ i ∧ i < 12) ∨ (12 ≤ i ∧ i < 18) ∨ (18 ≤ i ∧ i < 24)) → τ.2.1 8 37 0 i = s0.2.1 8 37 0 i) ∧ (∀ q, q < 6 → τ.2.1 8 37 0 (q) = s0.2.1 8 1 0 q ∧ τ.2.1 8 37 0 (6 + q) = s0.2.1 8 2 0 q ∧ τ.2.1 8 37 0 (12 + q) = s0.2.1 8 3 0 q ∧ τ.2.1 8 37 0 (18 + q) = s0.2.1 8 4 0 q) ∧ f_X8_keep_38_L2 n s (nI j) = f_X8_keep_38_L61 1000 τ 0 := by
  intro d
  induction d with
  | zero =>
    intro j hj n hn s he ho hq
    obtain ⟨n, rfl⟩ : ∃ q, n = q + 1 := ⟨n - 1, by omega⟩
    have hj2 : j = 6 := by omega
    subst hj2
    refine ⟨s, he, ho, hq, ?_⟩
    show f_X8_keep_38_B2 _ s (nI 6) = _
    unfold f_X8_keep_38_B2
    rw [if_pos (show (6 : Int32) ≤ nI 6 by decide)]
  | succ d ih =>
    intro j hj n hn s he ho hq
    obtain ⟨n, rfl⟩ : ∃ q, n = q + 1 := ⟨n - 1, by omega⟩
    have b0 : ¬ (6 : Int32) ≤ nI j := nI_ge (a := j) (b := 6) (by omega) (by decide)
    have b1 : (0 : Int32) ≤ nI j ∧ nI j < 6 := nI_r (N := 6) (by omega) (by decide)
    have c0 : (nI j).toNatClampNeg = j := nI_clamp (by omega)
    have d0 : (0 : Int32) ≤ nI j ∧ nI j < 105 := nI_r (N := 105) (by omega) (by decide)
    have e1 : (6 : Int32) + nI j = nI (6 + j) := nI_addL rfl
    have d1 : (0 : Int32) ≤ nI (6 + j) ∧ nI (6 + j) < 105 := nI_r (N := 105) (by omega) (by decide)
    have f1 : (nI (6 + j)).toNatClampNeg = 6 + j := nI_clamp (by omega)
    have e2 : (12 : Int32) + nI j = nI (12 + j) := nI_addL rfl
    have d2 : (0 : Int32) ≤ nI (12 + j) ∧ nI (12 + j) < 105 := nI_r (N := 105) (by omega) (by decide)
    have f2 : (nI (12 + j)).toNatClampNeg = 12 + j := nI_clamp (by omega)
    have e3 : (18 : Int32) + nI j = nI (18 + j) := nI_addL rfl
    have d3 : (0 : Int32) ≤ nI (18 + j) ∧ nI (18 + j) < 105 := nI_r (N := 105) (by omega) (by decide)
    have f3 : (nI (18 + j)).toNatClampNeg = 18 + j := nI_clamp (by omega)
    have v0 : s.2.1 8 1 0 = s0.2.1 8 1 0 := he.2.1 8 1 0 (by decide)
    have v1 : s.2.1 8 2 0 = s0.2.1 8 2 0 := he.2.1 8 2 0 (by decide)
    have v2 : s.2.1 8 3 0 = s0.2.1 8 3 0 := he.2.1 8 3 0 (by decide)
    have v3 : s.2.1 8 4 0 = s0.2.1 8 4 0 := he.2.1 8 4 0 (by decide)
    obtain ⟨τ, t1, t2, t3, t4⟩ := ih (j + 1) (by omega) n (by omega) (sA s 8 37 0 (upd (upd (upd (upd (s.2.1 8 37 0) (j) (s0.2.1 8 1 0 j)) (6 + j) (s0.2.1 8 2 0 j)) (12 + j) (s0.2.1 8 3 0 j)) (18 + j) (s0.2.1 8 4 0 j))) (he.sA (by decide)) (by
      intro i hi
      rw [sA_at]
      have := ho i hi
      simp only [upd_at]
      grind) (by
      intro q hq2
      rw [sA_at]
      by_cases hqj : q = j
      · subst hqj
        simp only [upd_at]
        refine ⟨?_, ?_, ?_, ?_⟩
        · rw [if_neg (by omega), if_neg (by omega), if_neg (by omega), if_pos trivial]
        · rw [if_neg (by omega), if_neg (by omega), if_pos trivial]
        · rw [if_neg (by omega), if_pos trivial]
        · rw [if_pos trivial]
      · have hv := hq q (by omega)
        simp only [upd_at]
        refine ⟨?_, ?_, ?_, ?_⟩
        · rw [if_neg (by omega), if_neg (by omega), if_neg (by omega), if_neg (by omega)]; exact hv.1
        · rw [if_neg (by omega), if_neg (by omega), if_neg (by omega), if_neg (by omega)]; exact hv.2.1
        · rw [if_neg (by omega), if_neg (by omega), if_neg (by omega), if_neg (by omega)]; exact hv.2.2.1
        · rw [if_neg (by omega), if_neg (by omega), if_neg (by omega), if_neg (by omega)]; exact hv.2.2.2)
    refine ⟨τ, t1, t2, t3, ?_⟩
    rw [← t4]
    show f_X8_keep_38_B2 _ s (nI j) = _
    unfold f_X8_keep_38_B2 nm nmI
    simp only [b0, b1, c0, d0, e1, d1, f1, e2, d2, f2, e3, d3, f3, v0, v1, v2, v3, and_self, if_true, if_false, sA2, sA_sA, nI_1, Nat.reduceEqDiff, true_and, and_true, false_and, and_false]
theorem kp38_61 {s0 : Sto} : ∀ (d j : Nat), j + d = 24 → ∀ n, d < n → ∀ s, FrE [] [(8, 37, 0)] [] s0 s → (∀ i, ¬ ((24 ≤ i ∧ i < 48)) → s.2.1 8 37 0 i = s0.2.1 8 37 0 i) → (∀ q, q < j → s.2.1 8 37 0 (24 + q) = s0.2.1 8 5 0 q) → ∃ τ, FrE [] [(8, 37, 0)] [] s0 τ ∧ (∀ i, ¬ ((24 ≤ i ∧ i < 48)) → τ.2.1 8 37 0 i = s0.2.1 8 37 0 i) ∧ (∀ q, q < 24 → τ.2.1 8 37 0 (24 + q) = s0.2.1 8 5 0 q) ∧ f_X8_keep_38_L61 n s (nI j) = f_X8_keep_38_L87 1000 τ 0 := by
  intro d
  induction d with
  | zero =>
    intro j hj n hn s he ho hq
    obtain ⟨n, rfl⟩ : ∃ q, n = q + 1 := ⟨n - 1, by omega⟩
    have hj2 : j = 24 := by omega
    subst hj2
    refine ⟨s, he, ho, hq, ?_⟩
    show f_X8_keep_38_B61 _ s (nI 24) = _
    unfold f_X8_keep_38_B61
    rw [if_pos (show (24 : Int32) ≤ nI 24 by decide)]
  | succ d ih =>
    intro j hj n hn s he ho hq
    obtain ⟨n, rfl⟩ : ∃ q, n = q + 1 := ⟨n - 1, by omega⟩
    have b0 : ¬ (24 : Int32) ≤ nI j := nI_ge (a := j) (b := 24) (by omega) (by decide)
    have b1 : (0 : Int32) ≤ nI j ∧ nI j < 24 := nI_r (N := 24) (by omega) (by decide)
    have c0 : (nI j).toNatClampNeg = j := nI_clamp (by omega)
    have e0 : (24 : Int32) + nI j = nI (24 + j) := nI_addL rfl
    have d0 : (0 : Int32) ≤ nI (24 + j) ∧ nI (24 + j) < 105 := nI_r (N := 105) (by omega) (by decide)
    have f0 : (nI (24 + j)).toNatClampNeg = 24 + j := nI_clamp (by omega)
    have v0 : s.2.1 8 5 0 = s0.2.1 8 5 0 := he.2.1 8 5 0 (by decide)
    obtain ⟨τ, t1, t2, t3, t4⟩ := ih (j + 1) (by omega) n (by omega) (sA s 8 37 0 (upd (s.2.1 8 37 0) (24 + j) (s0.2.1 8 5 0 j))) (he.sA (by decide)) (by
      intro i hi
      rw [sA_at]
      have := ho i hi
      simp only [upd_at]
      grind) (by
      intro q hq2
      rw [sA_at]
      by_cases hqj : q = j
      · subst hqj
        simp only [upd_at]
        rw [if_pos trivial]
      · have hv := hq q (by omega)
        rw [upd_at, if_neg (by omega)]; exact hv)
    refine ⟨τ, t1, t2, t3, ?_⟩
    rw [← t4]
    show f_X8_keep_38_B61 _ s (nI j) = _
    unfold f_X8_keep_38_B61 nm nmI
    simp only [b0, b1, c0, e0, d0, f0, v0, and_self, if_true, if_false, sA2, sA_sA, nI_1, Nat.reduceEqDiff, true_and, and_true, false_and, and_false]
theorem kp38_87 {s0 : Sto} : ∀ (d j : Nat), j + d = 5 → ∀ n, d < n → ∀ s, FrE [] [(8, 37, 0)] [] s0 s → (∀ i, ¬ ((48 ≤ i ∧ i < 53) ∨ (53 ≤ i ∧ i < 58) ∨ (58 ≤ i ∧ i < 63)) → s.2.1 8 37 0 i = s0.2.1 8 37 0 i) → (∀ q, q < j → s.2.1 8 37 0 (48 + q) = s0.2.1 8 24 0 q ∧ s.2.1 8 37 0 (53 + q) = s0.2.1 8 25 0 q ∧ s.2.1 8 37 0 (58 + q) = s0.2.1 8 26 0 q) → ∃ τ, FrE [] [(8, 37, 0)] [] s0 τ ∧ (∀ i, ¬ ((48 ≤ i ∧ i < 53) ∨ (53 ≤ i ∧ i < 58) ∨ (58 ≤ i ∧ i < 63)) → τ.2.1 8 37 0 i = s0.2.1 8 37 0 i) ∧ (∀ q, q < 5 → τ.2.1 8 37 0 (48 + q) = s0.2.1 8 24 0 q ∧ τ.2.1 8 37 0 (53 + q) = s0.2.1 8 25 0 q ∧ τ.2.1 8 37 0 (58 + q) = s0.2.1 8 26 0 q) ∧ f_X8_keep_38_L87 n s (nI j) = f_X8_keep_38_L136 1000 τ 0 := by
  intro d
  induction d with
  | zero =>
    intro j hj n hn s he ho hq
    obtain ⟨n, rfl⟩ : ∃ q, n = q + 1 := ⟨n - 1, by omega⟩
    have hj2 : j = 5 := by omega
    subst hj2
    refine ⟨s, he, ho, hq, ?_⟩
    show f_X8_keep_38_B87 _ s (nI 5) = _
    unfold f_X8_keep_38_B87
    rw [if_pos (show (5 : Int32) ≤ nI 5 by decide)]
  | succ d ih =>
    intro j hj n hn s he ho hq
    obtain ⟨n, rfl⟩ : ∃ q, n = q + 1 := ⟨n - 1, by omega⟩
    have b0 : ¬ (5 : Int32) ≤ nI j := nI_ge (a := j) (b := 5) (by omega) (by decide)
    have b1 : (0 : Int32) ≤ nI j ∧ nI j < 5 := nI_r (N := 5) (by omega) (by decide)
    have c0 : (nI j).toNatClampNeg = j := nI_clamp (by omega)
    have e0 : (48 : Int32) + nI j = nI (48 + j) := nI_addL rfl
    have d0 : (0 : Int32) ≤ nI (48 + j) ∧ nI (48 + j) < 105 := nI_r (N := 105) (by omega) (by decide)
    have f0 : (nI (48 + j)).toNatClampNeg = 48 + j := nI_clamp (by omega)
    have e1 : (53 : Int32) + nI j = nI (53 + j) := nI_addL rfl
    have d1 : (0 : Int32) ≤ nI (53 + j) ∧ nI (53 + j) < 105 := nI_r (N := 105) (by omega) (by decide)
    have f1 : (nI (53 + j)).toNatClampNeg = 53 + j := nI_clamp (by omega)
    have e2 : (58 : Int32) + nI j = nI (58 + j) := nI_addL rfl
    have d2 : (0 : Int32) ≤ nI (58 + j) ∧ nI (58 + j) < 105 := nI_r (N := 105) (by omega) (by decide)
    have f2 : (nI (58 + j)).toNatClampNeg = 58 + j := nI_clamp (by omega)
    have v0 : s.2.1 8 24 0 = s0.2.1 8 24 0 := he.2.1 8 24 0 (by decide)
    have v1 : s.2.1 8 25 0 = s0.2.1 8 25 0 := he.2.1 8 25 0 (by decide)
    have v2 : s.2.1 8 26 0 = s0.2.1 8 26 0 := he.2.1 8 26 0 (by decide)
    obtain ⟨τ, t1, t2, t3, t4⟩ := ih (j + 1) (by omega) n (by omega) (sA s 8 37 0 (upd (upd (upd (s.2.1 8 37 0) (48 + j) (s0.2.1 8 24 0 j)) (53 + j) (s0.2.1 8 25 0 j)) (58 + j) (s0.2.1 8 26 0 j))) (he.sA (by decide)) (by
      intro i hi
      rw [sA_at]
      have := ho i hi
      simp only [upd_at]
      grind) (by
      intro q hq2
      rw [sA_at]
      by_cases hqj : q = j
      · subst hqj
        simp only [upd_at]
        refine ⟨?_, ?_, ?_⟩
        · rw [if_neg (by omega), if_neg (by omega), if_pos trivial]
        · rw [if_neg (by omega), if_pos trivial]
        · rw [if_pos trivial]
      · have hv := hq q (by omega)
        simp only [upd_at]
        refine ⟨?_, ?_, ?_⟩
        · rw [if_neg (by omega), if_neg (by omega), if_neg (by omega)]; exact hv.1
        · rw [if_neg (by omega), if_neg (by omega), if_neg (by omega)]; exact hv.2.1
        · rw [if_neg (by omega), if_neg (by omega), if_neg (by omega)]; exact hv.2.2)
    refine ⟨τ, t1, t2, t3, ?_⟩
    rw [← t4]
    show f_X8_keep_38_B87 _ s (nI j) = _
    unfold f_X8_keep_38_B87 nm nmI
    simp only [b0, b1, c0, e0, d0, f0, e1, d1, f1, e2, d2, f2, v0, v1, v2, and_self, if_true, if_false, sA2, sA_sA, nI_1, Nat.reduceEqDiff, true_and, and_true, false_and, and_false]
theorem kp38_136 {s0 : Sto} : ∀ (d j : Nat), j + d = 10 → ∀ n, d < n → ∀ s, FrE [] [(8, 37, 0)] [] s0 s → (∀ i, ¬ ((63 ≤ i ∧ i < 73) ∨ (73 ≤ i ∧ i < 83)) → s.2.1 8 37 0 i = s0.2.1 8 37 0 i) → (∀ q, q < j → s.2.1 8 37 0 (63 + q) = s0.2.1 8 28 0 q ∧ s.2.1 8 37 0 (73 + q) = s0.2.1 8 29 0 q) → ∃ τ, FrE [] [(8, 37, 0)] [] s0 τ ∧ (∀ i, ¬ ((63 ≤ i ∧ i < 73) ∨ (73 ≤ i ∧ i < 83)) → τ.2.1 8 37 0 i = s0.2.1 8 37 0 i) ∧ (∀ q, q < 10 → τ.2.1 8 37 0 (63 + q) = s0.2.1 8 28 0 q ∧ τ.2.1 8 37 0 (73 + q) = s0.2.1 8 29 0 q) ∧ f_X8_keep_38_L136 n s (nI j) = f_X8_keep_38_L174 1000 τ 0 := by
  intro d
  induction d with
  | zero =>
    intro j hj n hn s he ho hq
    obtain ⟨n, rfl⟩ : ∃ q, n = q + 1 := ⟨n - 1, by omega⟩
    have hj2 : j = 10 := by omega
    subst hj2
    refine ⟨s, he, ho, hq, ?_⟩
    show f_X8_keep_38_B136 _ s (nI 10) = _
    unfold f_X8_keep_38_B136
    rw [if_pos (show (10 : Int32) ≤ nI 10 by decide)]
  | succ d ih =>
    intro j hj n hn s he ho hq
    obtain ⟨n, rfl⟩ : ∃ q, n = q + 1 := ⟨n - 1, by omega⟩
    have b0 : ¬ (10 : Int32) ≤ nI j := nI_ge (a := j) (b := 10) (by omega) (by decide)
    have b1 : (0 : Int32) ≤ nI j ∧ nI j < 10 := nI_r (N := 10) (by omega) (by decide)
    have c0 : (nI j).toNatClampNeg = j := nI_clamp (by omega)
    have e0 : (63 : Int32) + nI j = nI (63 + j) := nI_addL rfl
    have d0 : (0 : Int32) ≤ nI (63 + j) ∧ nI (63 + j) < 105 := nI_r (N := 105) (by omega) (by decide)
    have f0 : (nI (63 + j)).toNatClampNeg = 63 + j := nI_clamp (by omega)
    have e1 : (73 : Int32) + nI j = nI (73 + j) := nI_addL rfl
    have d1 : (0 : Int32) ≤ nI (73 + j) ∧ nI (73 + j) < 105 := nI_r (N := 105) (by omega) (by decide)
    have f1 : (nI (73 + j)).toNatClampNeg = 73 + j := nI_clamp (by omega)
    have v0 : s.2.1 8 28 0 = s0.2.1 8 28 0 := he.2.1 8 28 0 (by decide)
    have v1 : s.2.1 8 29 0 = s0.2.1 8 29 0 := he.2.1 8 29 0 (by decide)
    obtain ⟨τ, t1, t2, t3, t4⟩ := ih (j + 1) (by omega) n (by omega) (sA s 8 37 0 (upd (upd (s.2.1 8 37 0) (63 + j) (s0.2.1 8 28 0 j)) (73 + j) (s0.2.1 8 29 0 j))) (he.sA (by decide)) (by
      intro i hi
      rw [sA_at]
      have := ho i hi
      simp only [upd_at]
      grind) (by
      intro q hq2
      rw [sA_at]
      by_cases hqj : q = j
      · subst hqj
        simp only [upd_at]
        refine ⟨?_, ?_⟩
        · rw [if_neg (by omega), if_pos trivial]
        · rw [if_pos trivial]
      · have hv := hq q (by omega)
        simp only [upd_at]
        refine ⟨?_, ?_⟩
        · rw [if_neg (by omega), if_neg (by omega)]; exact hv.1
        · rw [if_neg (by omega), if_neg (by omega)]; exact hv.2)
    refine ⟨τ, t1, t2, t3, ?_⟩
    rw [← t4]
    show f_X8_keep_38_B136 _ s (nI j) = _
    unfold f_X8_keep_38_B136 nm nmI
    simp only [b0, b1, c0, e0, d0, f0, e1, d1, f1, v0, v1, and_self, if_true, if_false, sA2, sA_sA, nI_1, Nat.reduceEqDiff, true_and, and_true, false_and, and_false]
theorem kp38_174 {s0 : Sto} : ∀ (d j : Nat), j + d = 8 → ∀ n, d < n → ∀ s, FrE [] [(8, 37, 0)] [] s0 s → (∀ i, ¬ ((83 ≤ i ∧ i < 91) ∨ (91 ≤ i ∧ i < 99)) → s.2.1 8 37 0 i = s0.2.1 8 37 0 i) → (∀ q, q < j → s.2.1 8 37 0 (83 + q) = s0.2.1 8 31 0 q ∧ s.2.1 8 37 0 (91 + q) = s0.2.1 8 32 0 q) → ∃ τ, FrE [] [(8, 37, 0)] [] s0 τ ∧ (∀ i, ¬ ((83 ≤ i ∧ i < 91) ∨ (91 ≤ i ∧ i < 99)) → τ.2.1 8 37 0 i = s0.2.1 8 37 0 i) ∧ (∀ q, q < 8 → τ.2.1 8 37 0 (83 + q) = s0.2.1 8 31 0 q ∧ τ.2.1 8 37 0 (91 + q) = s0.2.1 8 32 0 q) ∧ f_X8_keep_38_L174 n s (nI j) = f_X8_keep_38_B174 (fun _ _ => none) τ (nI 8) := by
  intro d
  induction d with
  | zero =>
    intro j hj n hn s he ho hq
    obtain ⟨n, rfl⟩ : ∃ q, n = q + 1 := ⟨n - 1, by omega⟩
    have hj2 : j = 8 := by omega
    subst hj2
    refine ⟨s, he, ho, hq, ?_⟩
    show f_X8_keep_38_B174 _ s (nI 8) = _
    unfold f_X8_keep_38_B174
    rw [if_pos (show (8 : Int32) ≤ nI 8 by decide), if_pos (show (8 : Int32) ≤ nI 8 by decide)]
  | succ d ih =>
    intro j hj n hn s he ho hq
    obtain ⟨n, rfl⟩ : ∃ q, n = q + 1 := ⟨n - 1, by omega⟩
    have b0 : ¬ (8 : Int32) ≤ nI j := nI_ge (a := j) (b := 8) (by omega) (by decide)
    have b1 : (0 : Int32) ≤ nI j ∧ nI j < 8 := nI_r (N := 8) (by omega) (by decide)
    have c0 : (nI j).toNatClampNeg = j := nI_clamp (by omega)
    have e0 : (83 : Int32) + nI j = nI (83 + j) := nI_addL rfl
    have d0 : (0 : Int32) ≤ nI (83 + j) ∧ nI (83 + j) < 105 := nI_r (N := 105) (by omega) (by decide)
    have f0 : (nI (83 + j)).toNatClampNeg = 83 + j := nI_clamp (by omega)
    have e1 : (91 : Int32) + nI j = nI (91 + j) := nI_addL rfl
    have d1 : (0 : Int32) ≤ nI (91 + j) ∧ nI (91 + j) < 105 := nI_r (N := 105) (by omega) (by decide)
    have f1 : (nI (91 + j)).toNatClampNeg = 91 + j := nI_clamp (by omega)
    have v0 : s.2.1 8 31 0 = s0.2.1 8 31 0 := he.2.1 8 31 0 (by decide)
    have v1 : s.2.1 8 32 0 = s0.2.1 8 32 0 := he.2.1 8 32 0 (by decide)
    obtain ⟨τ, t1, t2, t3, t4⟩ := ih (j + 1) (by omega) n (by omega) (sA s 8 37 0 (upd (upd (s.2.1 8 37 0) (83 + j) (s0.2.1 8 31 0 j)) (91 + j) (s0.2.1 8 32 0 j))) (he.sA (by decide)) (by
      intro i hi
      rw [sA_at]
      have := ho i hi
      simp only [upd_at]
      grind) (by
      intro q hq2
      rw [sA_at]
      by_cases hqj : q = j
      · subst hqj
        simp only [upd_at]
        refine ⟨?_, ?_⟩
        · rw [if_neg (by omega), if_pos trivial]
        · rw [if_pos trivial]
      · have hv := hq q (by omega)
        simp only [upd_at]
        refine ⟨?_, ?_⟩
        · rw [if_neg (by omega), if_neg (by omega)]; exact hv.1
        · rw [if_neg (by omega), if_neg (by omega)]; exact hv.2)
    refine ⟨τ, t1, t2, t3, ?_⟩
    rw [← t4]
    show f_X8_keep_38_B174 _ s (nI j) = _
    unfold f_X8_keep_38_B174 nm nmI
    simp only [b0, b1, c0, e0, d0, f0, e1, d1, f1, v0, v1, and_self, if_true, if_false, sA2, sA_sA, nI_1, Nat.reduceEqDiff, true_and, and_true, false_and, and_false]
theorem keep38_N (N : Nat) (hN : 30 < N) (hN1 : N = 1000) (s0 : Sto) : ∃ τ, f_X8_keep_38_L2 N s0 0 = some τ ∧ FrE [] [(8, 37, 0)] [] s0 τ ∧ ∀ i, i < 105 → τ.2.1 8 37 0 i = snapM s0 i := by
  obtain ⟨s1, a1, b1, c1, g1⟩ := kp38_2 (s0 := s0) 6 0 (by omega) N (by omega) s0 FrE.rfl' (fun _ _ => rfl) (fun q hq => absurd hq (by omega))
  rw [nI_0] at g1
  obtain ⟨s2, a2, b2, c2, g2⟩ := kp38_61 (s0 := s1) 24 0 (by omega) N (by omega) s1 FrE.rfl' (fun _ _ => rfl) (fun q hq => absurd hq (by omega))
  rw [nI_0] at g2
  obtain ⟨s3, a3, b3, c3, g3⟩ := kp38_87 (s0 := s2) 5 0 (by omega) N (by omega) s2 FrE.rfl' (fun _ _ => rfl) (fun q hq => absurd hq (by omega))
  rw [nI_0] at g3
  obtain ⟨s4, a4, b4, c4, g4⟩ := kp38_136 (s0 := s3) 10 0 (by omega) N (by omega) s3 FrE.rfl' (fun _ _ => rfl) (fun q hq => absurd hq (by omega))
  rw [nI_0] at g4
  obtain ⟨s5, a5, b5, c5, g5⟩ := kp38_174 (s0 := s4) 8 0 (by omega) N (by omega) s4 FrE.rfl' (fun _ _ => rfl) (fun q hq => absurd hq (by omega))
  rw [nI_0] at g5
  rw [hN1] at g1 g2 g3 g4 g5 ⊢
  rw [g1, g2, g3, g4, g5]
  have e2 := a1.trans a2
  have e3 := e2.trans a3
  have e4 := e3.trans a4
  have e5 := e4.trans a5
  refine ⟨sA s5 8 37 0 (upd (upd (upd (upd (upd (upd (s5.2.1 8 37 0) 99 (s0.1 8 0 0)) 100 (s0.1 8 6 0)) 101 (s0.1 8 23 0)) 102 (s0.1 8 27 0)) 103 (s0.1 8 30 0)) 104 (s0.1 8 14 0)), ?_, e5.sA (by decide), ?_⟩
  · unfold f_X8_keep_38_B174 nm
    have w99 : s5.1 8 0 0 = s0.1 8 0 0 := e5.1 8 0 0 (by decide)
    have w100 : s5.1 8 6 0 = s0.1 8 6 0 := e5.1 8 6 0 (by decide)
    have w101 : s5.1 8 23 0 = s0.1 8 23 0 := e5.1 8 23 0 (by decide)
    have w102 : s5.1 8 27 0 = s0.1 8 27 0 := e5.1 8 27 0 (by decide)
    have w103 : s5.1 8 30 0 = s0.1 8 30 0 := e5.1 8 30 0 (by decide)
    have w104 : s5.1 8 14 0 = s0.1 8 14 0 := e5.1 8 14 0 (by decide)
    have z1 : ∀ x : Nat, x < 105 → (0 : Int32) ≤ nI x ∧ nI x < 105 := fun x hx => nI_r (N := 105) hx (by decide)
    rw [if_pos (show (8 : Int32) ≤ nI 8 by decide)]
    simp only [show (0 : Int32) ≤ 99 ∧ (99 : Int32) < 105 by decide, show (0 : Int32) ≤ 100 ∧ (100 : Int32) < 105 by decide, show (0 : Int32) ≤ 101 ∧ (101 : Int32) < 105 by decide, show (0 : Int32) ≤ 102 ∧ (102 : Int32) < 105 by decide, show (0 : Int32) ≤ 103 ∧ (103 : Int32) < 105 by decide, show (0 : Int32) ≤ 104 ∧ (104 : Int32) < 105 by decide, show Int32.toNatClampNeg 99 = 99 by decide, show Int32.toNatClampNeg 100 = 100 by decide, show Int32.toNatClampNeg 101 = 101 by decide, show Int32.toNatClampNeg 102 = 102 by decide, show Int32.toNatClampNeg 103 = 103 by decide, show Int32.toNatClampNeg 104 = 104 by decide, and_self, if_true, sA1, sA2, sA_sA, w99, w100, w101, w102, w103, w104]
  · intro i hi
    rw [sA_at]
    simp only [upd_at]
    unfold snapM
    by_cases h0 : i < 6
    · have hv := (c1 (i - 0) (by omega))
      have hv := hv.1
      rw [show i - 0 = i by omega] at hv
      have u2 := b2 i (by omega)
      have u3 := b3 i (by omega)
      have u4 := b4 i (by omega)
      have u5 := b5 i (by omega)
      rw [if_neg (by omega), if_neg (by omega), if_neg (by omega), if_neg (by omega), if_neg (by omega), if_neg (by omega)]
      rw [u5, u4, u3, u2, hv]
      rw [if_pos (by omega)]
    by_cases h6 : i < 12
    · have hv := (c1 (i - 6) (by omega))
      have hv := hv.2.1
      rw [show 6 + (i - 6) = i by omega] at hv
      have u2 := b2 i (by omega)
      have u3 := b3 i (by omega)
      have u4 := b4 i (by omega)
      have u5 := b5 i (by omega)
      rw [if_neg (by omega), if_neg (by omega), if_neg (by omega), if_neg (by omega), if_neg (by omega), if_neg (by omega)]
      rw [u5, u4, u3, u2, hv]
      rw [if_neg (by omega), if_pos (by omega)]
    by_cases h12 : i < 18
    · have hv := (c1 (i - 12) (by omega))
      have hv := hv.2.2.1
      rw [show 12 + (i - 12) = i by omega] at hv
      have u2 := b2 i (by omega)
      have u3 := b3 i (by omega)
      have u4 := b4 i (by omega)
      have u5 := b5 i (by omega)
      rw [if_neg (by omega), if_neg (by omega), if_neg (by omega), if_neg (by omega), if_neg (by omega), if_neg (by omega)]
      rw [u5, u4, u3, u2, hv]
      rw [if_neg (by omega), if_neg (by omega), if_pos (by omega)]
    by_cases h18 : i < 24
    · have hv := (c1 (i - 18) (by omega))
      have hv := hv.2.2.2
      rw [show 18 + (i - 18) = i by omega] at hv
      have u2 := b2 i (by omega)
      have u3 := b3 i (by omega)
      have u4 := b4 i (by omega)
      have u5 := b5 i (by omega)
      rw [if_neg (by omega), if_neg (by omega), if_neg (by omega), if_neg (by omega), if_neg (by omega), if_neg (by omega)]
      rw [u5, u4, u3, u2, hv]
      rw [if_neg (by omega), if_neg (by omega), if_neg (by omega), if_pos (by omega)]
    by_cases h24 : i < 48
    · have hv := (c2 (i - 24) (by omega))
      rw [show 24 + (i - 24) = i by omega] at hv
      have u3 := b3 i (by omega)
      have u4 := b4 i (by omega)
      have u5 := b5 i (by omega)
      have w := a1.2.1 8 5 0 (by decide)
      rw [if_neg (by omega), if_neg (by omega), if_neg (by omega), if_neg (by omega), if_neg (by omega), if_neg (by omega)]
      rw [u5, u4, u3, hv, w]
      rw [if_neg (by omega), if_neg (by omega), if_neg (by omega), if_neg (by omega), if_pos (by omega)]
    by_cases h48 : i < 53
    · have hv := (c3 (i - 48) (by omega))
      have hv := hv.1
      rw [show 48 + (i - 48) = i by omega] at hv
      have u4 := b4 i (by omega)
      have u5 := b5 i (by omega)
      have w := e2.2.1 8 24 0 (by decide)
      rw [if_neg (by omega), if_neg (by omega), if_neg (by omega), if_neg (by omega), if_neg (by omega), if_neg (by omega)]
      rw [u5, u4, hv, w]
      rw [if_neg (by omega), if_neg (by omega), if_neg (by omega), if_neg (by omega), if_neg (by omega), if_pos (by omega)]
    by_cases h53 : i < 58
    · have hv := (c3 (i - 53) (by omega))
      have hv := hv.2.1
      rw [show 53 + (i - 53) = i by omega] at hv
      have u4 := b4 i (by omega)
      have u5 := b5 i (by omega)
      have w := e2.2.1 8 25 0 (by decide)
      rw [if_neg (by omega), if_neg (by omega), if_neg (by omega), if_neg (by omega), if_neg (by omega), if_neg (by omega)]
      rw [u5, u4, hv, w]
      rw [if_neg (by omega), if_neg (by omega), if_neg (by omega), if_neg (by omega), if_neg (by omega), if_neg (by omega), if_pos (by omega)]
    by_cases h58 : i < 63
    · have hv := (c3 (i - 58) (by omega))
      have hv := hv.2.2
      rw [show 58 + (i - 58) = i by omega] at hv
      have u4 := b4 i (by omega)
      have u5 := b5 i (by omega)
      have w := e2.2.1 8 26 0 (by decide)
      rw [if_neg (by omega), if_neg (by omega), if_neg (by omega), if_neg (by omega), if_neg (by omega), if_neg (by omega)]
      rw [u5, u4, hv, w]
      rw [if_neg (by omega), if_neg (by omega), if_neg (by omega), if_neg (by omega), if_neg (by omega), if_neg (by omega), if_neg (by omega), if_pos (by omega)]
    by_cases h63 : i < 73
    · have hv := (c4 (i - 63) (by omega))
      have hv := hv.1
      rw [show 63 + (i - 63) = i by omega] at hv
      have u5 := b5 i (by omega)
      have w := e3.2.1 8 28 0 (by decide)
      rw [if_neg (by omega), if_neg (by omega), if_neg (by omega), if_neg (by omega), if_neg (by omega), if_neg (by omega)]
      rw [u5, hv, w]
      rw [if_neg (by omega), if_neg (by omega), if_neg (by omega), if_neg (by omega), if_neg (by omega), if_neg (by omega), if_neg (by omega), if_neg (by omega), if_pos (by omega)]
    by_cases h73 : i < 83
    · have hv := (c4 (i - 73) (by omega))
      have hv := hv.2
      rw [show 73 + (i - 73) = i by omega] at hv
      have u5 := b5 i (by omega)
      have w := e3.2.1 8 29 0 (by decide)
      rw [if_neg (by omega), if_neg (by omega), if_neg (by omega), if_neg (by omega), if_neg (by omega), if_neg (by omega)]
      rw [u5, hv, w]
      rw [if_neg (by omega), if_neg (by omega), if_neg (by omega), if_neg (by omega), if_neg (by omega), if_neg (by omega), if_neg (by omega), if_neg (by omega), if_neg (by omega), if_pos (by omega)]
    by_cases h83 : i < 91
    · have hv := (c5 (i - 83) (by omega))
      have hv := hv.1
      rw [show 83 + (i - 83) = i by omega] at hv
      have w := e4.2.1 8 31 0 (by decide)
      rw [if_neg (by omega), if_neg (by omega), if_neg (by omega), if_neg (by omega), if_neg (by omega), if_neg (by omega)]
      rw [hv, w]
      rw [if_neg (by omega), if_neg (by omega), if_neg (by omega), if_neg (by omega), if_neg (by omega), if_neg (by omega), if_neg (by omega), if_neg (by omega), if_neg (by omega), if_neg (by omega), if_pos (by omega)]
    by_cases h91 : i < 99
    · have hv := (c5 (i - 91) (by omega))
      have hv := hv.2
      rw [show 91 + (i - 91) = i by omega] at hv
      have w := e4.2.1 8 32 0 (by decide)
      rw [if_neg (by omega), if_neg (by omega), if_neg (by omega), if_neg (by omega), if_neg (by omega), if_neg (by omega)]
      rw [hv, w]
      rw [if_neg (by omega), if_neg (by omega), if_neg (by omega), if_neg (by omega), if_neg (by omega), if_neg (by omega), if_neg (by omega), if_neg (by omega), if_neg (by omega), if_neg (by omega), if_neg (by omega), if_pos (by omega)]
    have hcs : i = 99 ∨ i = 100 ∨ i = 101 ∨ i = 102 ∨ i = 103 ∨ i = 104 := by omega
    rcases hcs with rfl | rfl | rfl | rfl | rfl | rfl <;> simp
theorem keep38_eq (s0 : Sto) : ∃ τ, f_X8_keep_38 s0 = some τ ∧ FrE [] [(8, 37, 0)] [] s0 τ ∧ ∀ i, i < 105 → τ.2.1 8 37 0 i = snapM s0 i := keep38_N 1000 (by decide) rfl s0
theorem ag38_2 {s0 : Sto} : ∀ (d j : Nat), j + d = 6 → ∀ n, d < n → ∀ s, FrE [] [(8, 1, 0), (8, 2, 0), (8, 3, 0), (8, 4, 0)] [] s0 s → (∀ q, q < j → s.2.1 8 1 0 q = s0.2.1 8 37 0 (q) ∧ s.2.1 8 2 0 q = s0.2.1 8 37 0 (6 + q) ∧ s.2.1 8 3 0 q = s0.2.1 8 37 0 (12 + q) ∧ s.2.1 8 4 0 q = s0.2.1 8 37 0 (18 + q)) → ∃ τ, FrE [] [(8, 1, 0), (8, 2, 0), (8, 3, 0), (8, 4, 0)] [] s0 τ ∧ (∀ q, q < 6 → τ.2.1 8 1 0 q = s0.2.1 8 37 0 (q) ∧ τ.2.1 8 2 0 q = s0.2.1 8 37 0 (6 + q) ∧ τ.2.1 8 3 0 q = s0.2.1 8 37 0 (12 + q) ∧ τ.2.1 8 4 0 q = s0.2.1 8 37 0 (18 + q)) ∧ f_X8_again_38_L2 n s (nI j) = f_X8_again_38_L61 1000 τ 0 := by
  intro d
  induction d with
  | zero =>
    intro j hj n hn s he hq
    obtain ⟨n, rfl⟩ : ∃ q, n = q + 1 := ⟨n - 1, by omega⟩
    have hj2 : j = 6 := by omega
    subst hj2
    refine ⟨s, he, hq, ?_⟩
    show f_X8_again_38_B2 _ s (nI 6) = _
    unfold f_X8_again_38_B2
    rw [if_pos (show (6 : Int32) ≤ nI 6 by decide)]
  | succ d ih =>
    intro j hj n hn s he hq
    obtain ⟨n, rfl⟩ : ∃ q, n = q + 1 := ⟨n - 1, by omega⟩
    have b0 : ¬ (6 : Int32) ≤ nI j := nI_ge (a := j) (b := 6) (by omega) (by decide)
    have b1 : (0 : Int32) ≤ nI j ∧ nI j < 6 := nI_r (N := 6) (by omega) (by decide)
    have c0 : (nI j).toNatClampNeg = j := nI_clamp (by omega)
    have d0 : (0 : Int32) ≤ nI j ∧ nI j < 105 := nI_r (N := 105) (by omega) (by decide)
    have e1 : (6 : Int32) + nI j = nI (6 + j) := nI_addL rfl
    have d1 : (0 : Int32) ≤ nI (6 + j) ∧ nI (6 + j) < 105 := nI_r (N := 105) (by omega) (by decide)
    have f1 : (nI (6 + j)).toNatClampNeg = 6 + j := nI_clamp (by omega)
    have e2 : (12 : Int32) + nI j = nI (12 + j) := nI_addL rfl
    have d2 : (0 : Int32) ≤ nI (12 + j) ∧ nI (12 + j) < 105 := nI_r (N := 105) (by omega) (by decide)
    have f2 : (nI (12 + j)).toNatClampNeg = 12 + j := nI_clamp (by omega)
    have e3 : (18 : Int32) + nI j = nI (18 + j) := nI_addL rfl
    have d3 : (0 : Int32) ≤ nI (18 + j) ∧ nI (18 + j) < 105 := nI_r (N := 105) (by omega) (by decide)
    have f3 : (nI (18 + j)).toNatClampNeg = 18 + j := nI_clamp (by omega)
    have v0 : s.2.1 8 37 0 = s0.2.1 8 37 0 := he.2.1 8 37 0 (by decide)
    obtain ⟨τ, t1, t2, t3⟩ := ih (j + 1) (by omega) n (by omega) (sA (sA (sA (sA (s) 8 1 0 (upd (s.2.1 8 1 0) j (s0.2.1 8 37 0 (j)))) 8 2 0 (upd (s.2.1 8 2 0) j (s0.2.1 8 37 0 (6 + j)))) 8 3 0 (upd (s.2.1 8 3 0) j (s0.2.1 8 37 0 (12 + j)))) 8 4 0 (upd (s.2.1 8 4 0) j (s0.2.1 8 37 0 (18 + j)))) ((((he.sA (by decide)).sA (by decide)).sA (by decide)).sA (by decide)) (by
      intro q hq2
      have := hq q
      simp only [sA2, upd_at, and_self, if_true, if_false, Nat.reduceEqDiff, true_and, and_true, false_and, and_false]
      grind)
    refine ⟨τ, t1, t2, ?_⟩
    rw [← t3]
    show f_X8_again_38_B2 _ s (nI j) = _
    unfold f_X8_again_38_B2 nm nmI
    simp only [b0, b1, c0, d0, e1, d1, f1, e2, d2, f2, e3, d3, f3, v0, and_self, if_true, if_false, sA2, nI_1, Nat.reduceEqDiff, true_and, and_true, false_and, and_false]
theorem ag38_61 {s0 : Sto} : ∀ (d j : Nat), j + d = 24 → ∀ n, d < n → ∀ s, FrE [] [(8, 5, 0)] [] s0 s → (∀ q, q < j → s.2.1 8 5 0 q = s0.2.1 8 37 0 (24 + q)) → ∃ τ, FrE [] [(8, 5, 0)] [] s0 τ ∧ (∀ q, q < 24 → τ.2.1 8 5 0 q = s0.2.1 8 37 0 (24 + q)) ∧ f_X8_again_38_L61 n s (nI j) = f_X8_again_38_L87 1000 τ 0 := by
  intro d
  induction d with
  | zero =>
    intro j hj n hn s he hq
    obtain ⟨n, rfl⟩ : ∃ q, n = q + 1 := ⟨n - 1, by omega⟩
    have hj2 : j = 24 := by omega
    subst hj2
    refine ⟨s, he, hq, ?_⟩
    show f_X8_again_38_B61 _ s (nI 24) = _
    unfold f_X8_again_38_B61
    rw [if_pos (show (24 : Int32) ≤ nI 24 by decide)]
  | succ d ih =>
    intro j hj n hn s he hq
    obtain ⟨n, rfl⟩ : ∃ q, n = q + 1 := ⟨n - 1, by omega⟩
    have b0 : ¬ (24 : Int32) ≤ nI j := nI_ge (a := j) (b := 24) (by omega) (by decide)
    have b1 : (0 : Int32) ≤ nI j ∧ nI j < 24 := nI_r (N := 24) (by omega) (by decide)
    have c0 : (nI j).toNatClampNeg = j := nI_clamp (by omega)
    have e0 : (24 : Int32) + nI j = nI (24 + j) := nI_addL rfl
    have d0 : (0 : Int32) ≤ nI (24 + j) ∧ nI (24 + j) < 105 := nI_r (N := 105) (by omega) (by decide)
    have f0 : (nI (24 + j)).toNatClampNeg = 24 + j := nI_clamp (by omega)
    have v0 : s.2.1 8 37 0 = s0.2.1 8 37 0 := he.2.1 8 37 0 (by decide)
    obtain ⟨τ, t1, t2, t3⟩ := ih (j + 1) (by omega) n (by omega) (sA (s) 8 5 0 (upd (s.2.1 8 5 0) j (s0.2.1 8 37 0 (24 + j)))) (he.sA (by decide)) (by
      intro q hq2
      have := hq q
      simp only [sA2, upd_at, and_self, if_true, if_false, Nat.reduceEqDiff, true_and, and_true, false_and, and_false]
      grind)
    refine ⟨τ, t1, t2, ?_⟩
    rw [← t3]
    show f_X8_again_38_B61 _ s (nI j) = _
    unfold f_X8_again_38_B61 nm nmI
    simp only [b0, b1, c0, e0, d0, f0, v0, and_self, if_true, if_false, sA2, nI_1, Nat.reduceEqDiff, true_and, and_true, false_and, and_false]
theorem ag38_87 {s0 : Sto} : ∀ (d j : Nat), j + d = 5 → ∀ n, d < n → ∀ s, FrE [] [(8, 24, 0), (8, 25, 0), (8, 26, 0)] [] s0 s → (∀ q, q < j → s.2.1 8 24 0 q = s0.2.1 8 37 0 (48 + q) ∧ s.2.1 8 25 0 q = s0.2.1 8 37 0 (53 + q) ∧ s.2.1 8 26 0 q = s0.2.1 8 37 0 (58 + q)) → ∃ τ, FrE [] [(8, 24, 0), (8, 25, 0), (8, 26, 0)] [] s0 τ ∧ (∀ q, q < 5 → τ.2.1 8 24 0 q = s0.2.1 8 37 0 (48 + q) ∧ τ.2.1 8 25 0 q = s0.2.1 8 37 0 (53 + q) ∧ τ.2.1 8 26 0 q = s0.2.1 8 37 0 (58 + q)) ∧ f_X8_again_38_L87 n s (nI j) = f_X8_again_38_L136 1000 τ 0 := by
  intro d
  induction d with
  | zero =>
    intro j hj n hn s he hq
    obtain ⟨n, rfl⟩ : ∃ q, n = q + 1 := ⟨n - 1, by omega⟩
    have hj2 : j = 5 := by omega
    subst hj2
    refine ⟨s, he, hq, ?_⟩
    show f_X8_again_38_B87 _ s (nI 5) = _
    unfold f_X8_again_38_B87
    rw [if_pos (show (5 : Int32) ≤ nI 5 by decide)]
  | succ d ih =>
    intro j hj n hn s he hq
    obtain ⟨n, rfl⟩ : ∃ q, n = q + 1 := ⟨n - 1, by omega⟩
    have b0 : ¬ (5 : Int32) ≤ nI j := nI_ge (a := j) (b := 5) (by omega) (by decide)
    have b1 : (0 : Int32) ≤ nI j ∧ nI j < 5 := nI_r (N := 5) (by omega) (by decide)
    have c0 : (nI j).toNatClampNeg = j := nI_clamp (by omega)
    have e0 : (48 : Int32) + nI j = nI (48 + j) := nI_addL rfl
    have d0 : (0 : Int32) ≤ nI (48 + j) ∧ nI (48 + j) < 105 := nI_r (N := 105) (by omega) (by decide)
    have f0 : (nI (48 + j)).toNatClampNeg = 48 + j := nI_clamp (by omega)
    have e1 : (53 : Int32) + nI j = nI (53 + j) := nI_addL rfl
    have d1 : (0 : Int32) ≤ nI (53 + j) ∧ nI (53 + j) < 105 := nI_r (N := 105) (by omega) (by decide)
    have f1 : (nI (53 + j)).toNatClampNeg = 53 + j := nI_clamp (by omega)
    have e2 : (58 : Int32) + nI j = nI (58 + j) := nI_addL rfl
    have d2 : (0 : Int32) ≤ nI (58 + j) ∧ nI (58 + j) < 105 := nI_r (N := 105) (by omega) (by decide)
    have f2 : (nI (58 + j)).toNatClampNeg = 58 + j := nI_clamp (by omega)
    have v0 : s.2.1 8 37 0 = s0.2.1 8 37 0 := he.2.1 8 37 0 (by decide)
    obtain ⟨τ, t1, t2, t3⟩ := ih (j + 1) (by omega) n (by omega) (sA (sA (sA (s) 8 24 0 (upd (s.2.1 8 24 0) j (s0.2.1 8 37 0 (48 + j)))) 8 25 0 (upd (s.2.1 8 25 0) j (s0.2.1 8 37 0 (53 + j)))) 8 26 0 (upd (s.2.1 8 26 0) j (s0.2.1 8 37 0 (58 + j)))) (((he.sA (by decide)).sA (by decide)).sA (by decide)) (by
      intro q hq2
      have := hq q
      simp only [sA2, upd_at, and_self, if_true, if_false, Nat.reduceEqDiff, true_and, and_true, false_and, and_false]
      grind)
    refine ⟨τ, t1, t2, ?_⟩
    rw [← t3]
    show f_X8_again_38_B87 _ s (nI j) = _
    unfold f_X8_again_38_B87 nm nmI
    simp only [b0, b1, c0, e0, d0, f0, e1, d1, f1, e2, d2, f2, v0, and_self, if_true, if_false, sA2, nI_1, Nat.reduceEqDiff, true_and, and_true, false_and, and_false]
theorem ag38_136 {s0 : Sto} : ∀ (d j : Nat), j + d = 10 → ∀ n, d < n → ∀ s, FrE [] [(8, 28, 0), (8, 29, 0)] [] s0 s → (∀ q, q < j → s.2.1 8 28 0 q = s0.2.1 8 37 0 (63 + q) ∧ s.2.1 8 29 0 q = s0.2.1 8 37 0 (73 + q)) → ∃ τ, FrE [] [(8, 28, 0), (8, 29, 0)] [] s0 τ ∧ (∀ q, q < 10 → τ.2.1 8 28 0 q = s0.2.1 8 37 0 (63 + q) ∧ τ.2.1 8 29 0 q = s0.2.1 8 37 0 (73 + q)) ∧ f_X8_again_38_L136 n s (nI j) = f_X8_again_38_L174 1000 τ 0 := by
  intro d
  induction d with
  | zero =>
    intro j hj n hn s he hq
    obtain ⟨n, rfl⟩ : ∃ q, n = q + 1 := ⟨n - 1, by omega⟩
    have hj2 : j = 10 := by omega
    subst hj2
    refine ⟨s, he, hq, ?_⟩
    show f_X8_again_38_B136 _ s (nI 10) = _
    unfold f_X8_again_38_B136
    rw [if_pos (show (10 : Int32) ≤ nI 10 by decide)]
  | succ d ih =>
    intro j hj n hn s he hq
    obtain ⟨n, rfl⟩ : ∃ q, n = q + 1 := ⟨n - 1, by omega⟩
    have b0 : ¬ (10 : Int32) ≤ nI j := nI_ge (a := j) (b := 10) (by omega) (by decide)
    have b1 : (0 : Int32) ≤ nI j ∧ nI j < 10 := nI_r (N := 10) (by omega) (by decide)
    have c0 : (nI j).toNatClampNeg = j := nI_clamp (by omega)
    have e0 : (63 : Int32) + nI j = nI (63 + j) := nI_addL rfl
    have d0 : (0 : Int32) ≤ nI (63 + j) ∧ nI (63 + j) < 105 := nI_r (N := 105) (by omega) (by decide)
    have f0 : (nI (63 + j)).toNatClampNeg = 63 + j := nI_clamp (by omega)
    have e1 : (73 : Int32) + nI j = nI (73 + j) := nI_addL rfl
    have d1 : (0 : Int32) ≤ nI (73 + j) ∧ nI (73 + j) < 105 := nI_r (N := 105) (by omega) (by decide)
    have f1 : (nI (73 + j)).toNatClampNeg = 73 + j := nI_clamp (by omega)
    have v0 : s.2.1 8 37 0 = s0.2.1 8 37 0 := he.2.1 8 37 0 (by decide)
    obtain ⟨τ, t1, t2, t3⟩ := ih (j + 1) (by omega) n (by omega) (sA (sA (s) 8 28 0 (upd (s.2.1 8 28 0) j (s0.2.1 8 37 0 (63 + j)))) 8 29 0 (upd (s.2.1 8 29 0) j (s0.2.1 8 37 0 (73 + j)))) ((he.sA (by decide)).sA (by decide)) (by
      intro q hq2
      have := hq q
      simp only [sA2, upd_at, and_self, if_true, if_false, Nat.reduceEqDiff, true_and, and_true, false_and, and_false]
      grind)
    refine ⟨τ, t1, t2, ?_⟩
    rw [← t3]
    show f_X8_again_38_B136 _ s (nI j) = _
    unfold f_X8_again_38_B136 nm nmI
    simp only [b0, b1, c0, e0, d0, f0, e1, d1, f1, v0, and_self, if_true, if_false, sA2, nI_1, Nat.reduceEqDiff, true_and, and_true, false_and, and_false]
theorem ag38_174 {s0 : Sto} : ∀ (d j : Nat), j + d = 8 → ∀ n, d < n → ∀ s, FrE [] [(8, 31, 0), (8, 32, 0)] [] s0 s → (∀ q, q < j → s.2.1 8 31 0 q = s0.2.1 8 37 0 (83 + q) ∧ s.2.1 8 32 0 q = s0.2.1 8 37 0 (91 + q)) → ∃ τ, FrE [] [(8, 31, 0), (8, 32, 0)] [] s0 τ ∧ (∀ q, q < 8 → τ.2.1 8 31 0 q = s0.2.1 8 37 0 (83 + q) ∧ τ.2.1 8 32 0 q = s0.2.1 8 37 0 (91 + q)) ∧ f_X8_again_38_L174 n s (nI j) = f_X8_again_38_B174 (fun _ _ => none) τ (nI 8) := by
  intro d
  induction d with
  | zero =>
    intro j hj n hn s he hq
    obtain ⟨n, rfl⟩ : ∃ q, n = q + 1 := ⟨n - 1, by omega⟩
    have hj2 : j = 8 := by omega
    subst hj2
    refine ⟨s, he, hq, ?_⟩
    show f_X8_again_38_B174 _ s (nI 8) = _
    unfold f_X8_again_38_B174
    rw [if_pos (show (8 : Int32) ≤ nI 8 by decide), if_pos (show (8 : Int32) ≤ nI 8 by decide)]
  | succ d ih =>
    intro j hj n hn s he hq
    obtain ⟨n, rfl⟩ : ∃ q, n = q + 1 := ⟨n - 1, by omega⟩
    have b0 : ¬ (8 : Int32) ≤ nI j := nI_ge (a := j) (b := 8) (by omega) (by decide)
    have b1 : (0 : Int32) ≤ nI j ∧ nI j < 8 := nI_r (N := 8) (by omega) (by decide)
    have c0 : (nI j).toNatClampNeg = j := nI_clamp (by omega)
    have e0 : (83 : Int32) + nI j = nI (83 + j) := nI_addL rfl
    have d0 : (0 : Int32) ≤ nI (83 + j) ∧ nI (83 + j) < 105 := nI_r (N := 105) (by omega) (by decide)
    have f0 : (nI (83 + j)).toNatClampNeg = 83 + j := nI_clamp (by omega)
    have e1 : (91 : Int32) + nI j = nI (91 + j) := nI_addL rfl
    have d1 : (0 : Int32) ≤ nI (91 + j) ∧ nI (91 + j) < 105 := nI_r (N := 105) (by omega) (by decide)
    have f1 : (nI (91 + j)).toNatClampNeg = 91 + j := nI_clamp (by omega)
    have v0 : s.2.1 8 37 0 = s0.2.1 8 37 0 := he.2.1 8 37 0 (by decide)
    obtain ⟨τ, t1, t2, t3⟩ := ih (j + 1) (by omega) n (by omega) (sA (sA (s) 8 31 0 (upd (s.2.1 8 31 0) j (s0.2.1 8 37 0 (83 + j)))) 8 32 0 (upd (s.2.1 8 32 0) j (s0.2.1 8 37 0 (91 + j)))) ((he.sA (by decide)).sA (by decide)) (by
      intro q hq2
      have := hq q
      simp only [sA2, upd_at, and_self, if_true, if_false, Nat.reduceEqDiff, true_and, and_true, false_and, and_false]
      grind)
    refine ⟨τ, t1, t2, ?_⟩
    rw [← t3]
    show f_X8_again_38_B174 _ s (nI j) = _
    unfold f_X8_again_38_B174 nm nmI
    simp only [b0, b1, c0, e0, d0, f0, e1, d1, f1, v0, and_self, if_true, if_false, sA2, nI_1, Nat.reduceEqDiff, true_and, and_true, false_and, and_false]
theorem again38_N (N : Nat) (hN : 30 < N) (hN1 : N = 1000) (s0 : Sto) : ∃ τ, f_X8_again_38_L2 N s0 0 = some τ ∧ FrE agF agA [] s0 τ ∧ ∀ i, i < 105 → snapM τ i = s0.2.1 8 37 0 i := by
  obtain ⟨s1, a1, c1, g1⟩ := ag38_2 (s0 := s0) 6 0 (by omega) N (by omega) s0 FrE.rfl' (fun q hq => absurd hq (by omega))
  rw [nI_0] at g1
  obtain ⟨s2, a2, c2, g2⟩ := ag38_61 (s0 := s1) 24 0 (by omega) N (by omega) s1 FrE.rfl' (fun q hq => absurd hq (by omega))
  rw [nI_0] at g2
  obtain ⟨s3, a3, c3, g3⟩ := ag38_87 (s0 := s2) 5 0 (by omega) N (by omega) s2 FrE.rfl' (fun q hq => absurd hq (by omega))
  rw [nI_0] at g3
  obtain ⟨s4, a4, c4, g4⟩ := ag38_136 (s0 := s3) 10 0 (by omega) N (by omega) s3 FrE.rfl' (fun q hq => absurd hq (by omega))
  rw [nI_0] at g4
  obtain ⟨s5, a5, c5, g5⟩ := ag38_174 (s0 := s4) 8 0 (by omega) N (by omega) s4 FrE.rfl' (fun q hq => absurd hq (by omega))
  rw [nI_0] at g5
  rw [hN1] at g1 g2 g3 g4 g5 ⊢
  rw [g1, g2, g3, g4, g5]
  have k1 : s1.2.1 8 37 0 = s0.2.1 8 37 0 := a1.2.1 8 37 0 (by decide)
  have k2 : s2.2.1 8 37 0 = s0.2.1 8 37 0 := (a2.2.1 8 37 0 (by decide)).trans k1
  have k3 : s3.2.1 8 37 0 = s0.2.1 8 37 0 := (a3.2.1 8 37 0 (by decide)).trans k2
  have k4 : s4.2.1 8 37 0 = s0.2.1 8 37 0 := (a4.2.1 8 37 0 (by decide)).trans k3
  have k5 : s5.2.1 8 37 0 = s0.2.1 8 37 0 := (a5.2.1 8 37 0 (by decide)).trans k4
  refine ⟨sF (sF (sF (sF (sF (sF (s5) 8 0 0 (s0.2.1 8 37 0 99)) 8 6 0 (s0.2.1 8 37 0 100)) 8 23 0 (s0.2.1 8 37 0 101)) 8 27 0 (s0.2.1 8 37 0 102)) 8 30 0 (s0.2.1 8 37 0 103)) 8 14 0 (s0.2.1 8 37 0 104), ?_, ?_, ?_⟩
  · unfold f_X8_again_38_B174 nm
    rw [if_pos (show (8 : Int32) ≤ nI 8 by decide)]
    simp only [show (0 : Int32) ≤ 99 ∧ (99 : Int32) < 105 by decide, show (0 : Int32) ≤ 100 ∧ (100 : Int32) < 105 by decide, show (0 : Int32) ≤ 101 ∧ (101 : Int32) < 105 by decide, show (0 : Int32) ≤ 102 ∧ (102 : Int32) < 105 by decide, show (0 : Int32) ≤ 103 ∧ (103 : Int32) < 105 by decide, show (0 : Int32) ≤ 104 ∧ (104 : Int32) < 105 by decide, show Int32.toNatClampNeg 99 = 99 by decide, show Int32.toNatClampNeg 100 = 100 by decide, show Int32.toNatClampNeg 101 = 101 by decide, show Int32.toNatClampNeg 102 = 102 by decide, show Int32.toNatClampNeg 103 = 103 by decide, show Int32.toNatClampNeg 104 = 104 by decide, and_self, if_true, sF2, k5]
  · have m1 : FrE agF agA [] s0 s1 := a1.mono (by decide) (by decide) (by decide)
    have m2 : FrE agF agA [] s0 s2 := m1.trans (a2.mono (by decide) (by decide) (by decide))
    have m3 : FrE agF agA [] s0 s3 := m2.trans (a3.mono (by decide) (by decide) (by decide))
    have m4 : FrE agF agA [] s0 s4 := m3.trans (a4.mono (by decide) (by decide) (by decide))
    have m5 : FrE agF agA [] s0 s5 := m4.trans (a5.mono (by decide) (by decide) (by decide))
    exact ((((((m5.sF (by decide)).sF (by decide)).sF (by decide)).sF (by decide)).sF (by decide)).sF (by decide))
  · intro i hi
    unfold snapM
    simp only [sF1, sF2, and_self, if_true, if_false, Nat.reduceEqDiff, true_and, and_true, false_and, and_false]
    by_cases h0 : i < 6
    · rw [if_pos (by omega)]
      have hv := (c1 (i - 0) (by omega))
      have hv := hv.1
      rw [show i - 0 = i by omega] at hv
      have u5 := a5.2.1 8 1 0 (by decide)
      have u4 := a4.2.1 8 1 0 (by decide)
      have u3 := a3.2.1 8 1 0 (by decide)
      have u2 := a2.2.1 8 1 0 (by decide)
      rw [u5, u4, u3, u2, hv]
    by_cases h6 : i < 12
    · rw [if_neg (by omega), if_pos (by omega)]
      have hv := (c1 (i - 6) (by omega))
      have hv := hv.2.1
      rw [show 6 + (i - 6) = i by omega] at hv
      have u5 := a5.2.1 8 2 0 (by decide)
      have u4 := a4.2.1 8 2 0 (by decide)
      have u3 := a3.2.1 8 2 0 (by decide)
      have u2 := a2.2.1 8 2 0 (by decide)
      rw [u5, u4, u3, u2, hv]
    by_cases h12 : i < 18
    · rw [if_neg (by omega), if_neg (by omega), if_pos (by omega)]
      have hv := (c1 (i - 12) (by omega))
      have hv := hv.2.2.1
      rw [show 12 + (i - 12) = i by omega] at hv
      have u5 := a5.2.1 8 3 0 (by decide)
      have u4 := a4.2.1 8 3 0 (by decide)
      have u3 := a3.2.1 8 3 0 (by decide)
      have u2 := a2.2.1 8 3 0 (by decide)
      rw [u5, u4, u3, u2, hv]
    by_cases h18 : i < 24
    · rw [if_neg (by omega), if_neg (by omega), if_neg (by omega), if_pos (by omega)]
      have hv := (c1 (i - 18) (by omega))
      have hv := hv.2.2.2
      rw [show 18 + (i - 18) = i by omega] at hv
      have u5 := a5.2.1 8 4 0 (by decide)
      have u4 := a4.2.1 8 4 0 (by decide)
      have u3 := a3.2.1 8 4 0 (by decide)
      have u2 := a2.2.1 8 4 0 (by decide)
      rw [u5, u4, u3, u2, hv]
    by_cases h24 : i < 48
    · rw [if_neg (by omega), if_neg (by omega), if_neg (by omega), if_neg (by omega), if_pos (by omega)]
      have hv := (c2 (i - 24) (by omega))
      rw [show 24 + (i - 24) = i by omega] at hv
      have u5 := a5.2.1 8 5 0 (by decide)
      have u4 := a4.2.1 8 5 0 (by decide)
      have u3 := a3.2.1 8 5 0 (by decide)
      rw [u5, u4, u3, hv, k1]
    by_cases h48 : i < 53
    · rw [if_neg (by omega), if_neg (by omega), if_neg (by omega), if_neg (by omega), if_neg (by omega), if_pos (by omega)]
      have hv := (c3 (i - 48) (by omega))
      have hv := hv.1
      rw [show 48 + (i - 48) = i by omega] at hv
      have u5 := a5.2.1 8 24 0 (by decide)
      have u4 := a4.2.1 8 24 0 (by decide)
      rw [u5, u4, hv, k2]
    by_cases h53 : i < 58
    · rw [if_neg (by omega), if_neg (by omega), if_neg (by omega), if_neg (by omega), if_neg (by omega), if_neg (by omega), if_pos (by omega)]
      have hv := (c3 (i - 53) (by omega))
      have hv := hv.2.1
      rw [show 53 + (i - 53) = i by omega] at hv
      have u5 := a5.2.1 8 25 0 (by decide)
      have u4 := a4.2.1 8 25 0 (by decide)
      rw [u5, u4, hv, k2]
    by_cases h58 : i < 63
    · rw [if_neg (by omega), if_neg (by omega), if_neg (by omega), if_neg (by omega), if_neg (by omega), if_neg (by omega), if_neg (by omega), if_pos (by omega)]
      have hv := (c3 (i - 58) (by omega))
      have hv := hv.2.2
      rw [show 58 + (i - 58) = i by omega] at hv
      have u5 := a5.2.1 8 26 0 (by decide)
      have u4 := a4.2.1 8 26 0 (by decide)
      rw [u5, u4, hv, k2]
    by_cases h63 : i < 73
    · rw [if_neg (by omega), if_neg (by omega), if_neg (by omega), if_neg (by omega), if_neg (by omega), if_neg (by omega), if_neg (by omega), if_neg (by omega), if_pos (by omega)]
      have hv := (c4 (i - 63) (by omega))
      have hv := hv.1
      rw [show 63 + (i - 63) = i by omega] at hv
      have u5 := a5.2.1 8 28 0 (by decide)
      rw [u5, hv, k3]
    by_cases h73 : i < 83
    · rw [if_neg (by omega), if_neg (by omega), if_neg (by omega), if_neg (by omega), if_neg (by omega), if_neg (by omega), if_neg (by omega), if_neg (by omega), if_neg (by omega), if_pos (by omega)]
      have hv := (c4 (i - 73) (by omega))
      have hv := hv.2
      rw [show 73 + (i - 73) = i by omega] at hv
      have u5 := a5.2.1 8 29 0 (by decide)
      rw [u5, hv, k3]
    by_cases h83 : i < 91
    · rw [if_neg (by omega), if_neg (by omega), if_neg (by omega), if_neg (by omega), if_neg (by omega), if_neg (by omega), if_neg (by omega), if_neg (by omega), if_neg (by omega), if_neg (by omega), if_pos (by omega)]
      have hv := (c5 (i - 83) (by omega))
      have hv := hv.1
      rw [show 83 + (i - 83) = i by omega] at hv
      rw [hv, k4]
    by_cases h91 : i < 99
    · rw [if_neg (by omega), if_neg (by omega), if_neg (by omega), if_neg (by omega), if_neg (by omega), if_neg (by omega), if_neg (by omega), if_neg (by omega), if_neg (by omega), if_neg (by omega), if_neg (by omega), if_pos (by omega)]
      have hv := (c5 (i - 91) (by omega))
      have hv := hv.2
      rw [show 91 + (i - 91) = i by omega] at hv
      rw [hv, k4]
    have hcs : i = 99 ∨ i = 100 ∨ i = 101 ∨ i = 102 ∨ i = 103 ∨ i = 104 := by omega
    rcases hcs with rfl | rfl | rfl | rfl | rfl | rfl <;> simp
theorem again38_eq (s0 : Sto) : ∃ τ, f_X8_again_38 s0 = some τ ∧ FrE agF agA [] s0 τ ∧ ∀ i, i < 105 → snapM τ i = s0.2.1 8 37 0 i := again38_N 1000 (by decide) rfl s0
