theorem Rest_snap {σ s : Sto} (R : Rest σ s) : FrE agF amA [] σ s ∧ ∀ i, i < 105 → snapM s i = snapM σ i := ⟨R.1, R.2.1⟩
theorem by_step {σ : Sto} (h : Inv σ) (x n w : Int32) : ∃ r σ1 σ2, f_X7_by σ x n w = some (r, σ1) ∧ f_X8_by σ1 x n w = some (r, σ2) ∧ Inv σ2 := by
  obtain ⟨wm, sn, k, T, B⟩ := base_of h
  have hT := B.2.2.1
  have hT8 := B.2.2.2.1
  have hT6 := B.2.2.2.2.1
  have hTb : 0 ≤ nI T ∧ nI T ≤ 6 := ⟨nI_n0 (by omega), (nI_leI (a := T) (b := 6) (by omega) (by decide)).mpr hT⟩
  have hone : ∀ y, f_X8_isOne σ y = some (if 0 ≤ y ∧ y < nI T then 1 else 0) := fun y => by
    rw [isOne_le (by rw [hT8]; exact hTb.1) (by rw [hT8]; exact hTb.2), hT8]
  unfold f_X7_by
  simp only [isUpTo_eq, isThing_eq, Option.bind_some, hT6]
  by_cases hx : 0 ≤ x ∧ x < nI T
  · by_cases hw : 0 ≤ w ∧ w ≤ 1
    · by_cases hn : 0 ≤ n ∧ n ≤ 30
      · obtain ⟨p, hp6, rfl⟩ := i32_range (N := 6) (by decide) hx.1 (by have := hx.2; grind)
        have hpT : p < T := (nI_ltI (by omega) (by omega)).mp hx.2
        obtain ⟨N, hN, rfl⟩ := i32_range (N := 31) (by decide) hn.1 (by have := hn.2; grind)
        by_cases h0 : w = 0
        · obtain ⟨σ1, c1, c2⟩ := worthsOut_eq (N := N) B hp6 (by omega) FrE.rfl'
          obtain ⟨σ2, m1, R⟩ := by8_eq (MB_of (Base_ak B c2)) hpT (show N ≤ 30 by omega) w hw
          refine ⟨nI (cntN (fun i => ow wm sn σ p N 0 (nI i)) 100), σ1, σ2, ?_, ?_, ask_step h c2 R.1 R.2.1⟩
          · simp only [hx, hw, hn, and_self, if_true, h10, if_false, h0, c1, Option.bind_some, show (0 : Int32) ≤ 0 ∧ (0 : Int32) ≤ 1 by decide]
          · rw [m1, if_pos h0]
            simp only [ow_ak c2]
        · obtain ⟨σ1, c1, c2⟩ := gwo_eq (N := N) B hp6 (by omega) FrE.rfl'
          obtain ⟨σ2, m1, R⟩ := by8_eq (MB_of (Base_ak B c2)) hpT (show N ≤ 30 by omega) w hw
          refine ⟨lastN (fun i => ow wm sn σ p N 0 (nI i)) 100, σ1, σ2, ?_, ?_, ask_step h c2 R.1 R.2.1⟩
          · simp only [hx, hw, hn, and_self, if_true, h10, if_false, h0, c1, Option.bind_some]
          · rw [m1, if_neg h0]
            simp only [ow_ak c2]
      · refine ⟨-2, σ, σ, by simp only [hx, hw, hn, and_self, if_true, h10, if_false], ?_, h⟩
        unfold f_X8_by
        simp only [hone, within_eq, Option.bind_some, hx, hw, hn, and_self, if_true, h10, if_false]
    · refine ⟨-1, σ, σ, by simp only [hx, hw, and_self, if_true, h10, if_false], ?_, h⟩
      unfold f_X8_by
      simp only [hone, within_eq, Option.bind_some, hx, hw, and_self, if_true, h10, if_false]
  · refine ⟨-1, σ, σ, by simp only [hx, if_true, if_false], ?_, h⟩
    unfold f_X8_by
    simp only [hone, Option.bind_some, hx, if_true, if_false]
theorem odds_step {σ : Sto} (h : Inv σ) (x n w : Int32) : ∃ r σ1 σ2, f_X7_odds σ x n w = some (r, σ1) ∧ f_X8_odds σ1 x n w = some (r, σ2) ∧ Inv σ2 := by
  obtain ⟨wm, sn, k, T, B⟩ := base_of h
  have hT := B.2.2.1
  have hT8 := B.2.2.2.1
  have hT6 := B.2.2.2.2.1
  have hTb : 0 ≤ nI T ∧ nI T ≤ 6 := ⟨nI_n0 (by omega), (nI_leI (a := T) (b := 6) (by omega) (by decide)).mpr hT⟩
  have hone : ∀ y, f_X8_isOne σ y = some (if 0 ≤ y ∧ y < nI T then 1 else 0) := fun y => by
    rw [isOne_le (by rw [hT8]; exact hTb.1) (by rw [hT8]; exact hTb.2), hT8]
  unfold f_X7_odds
  simp only [isUpTo_eq, isThing_eq, Option.bind_some, hT6]
  by_cases hx : 0 ≤ x ∧ x < nI T
  · by_cases hn : 0 ≤ n ∧ n ≤ 30
    · by_cases hw : 0 ≤ w ∧ w ≤ 1
      · obtain ⟨p, hp6, rfl⟩ := i32_range (N := 6) (by decide) hx.1 (by have := hx.2; grind)
        have hpT : p < T := (nI_ltI (by omega) (by omega)).mp hx.2
        obtain ⟨N, hN, rfl⟩ := i32_range (N := 31) (by decide) hn.1 (by have := hn.2; grind)
        obtain ⟨σ1, c1, c2⟩ := worthsOut_eq (N := N) B hp6 (by omega) FrE.rfl'
        have B1 := Base_ak B c2
        obtain ⟨σ2, m1, R⟩ := by8_eq (MB_of B1) hpT (show N ≤ 30 by omega) 0 (by decide)
        have hc : (fun i => ow wm sn σ1 p N 0 (nI i)) = (fun i => ow wm sn σ p N 0 (nI i)) := funext fun i => ow_ak c2
        rw [hc, if_pos rfl] at m1
        have hcl := cntN_le (fun i => ow wm sn σ p N 0 (nI i)) 100
        generalize cntN (fun i => ow wm sn σ p N 0 (nI i)) 100 = a at c1 m1 hcl
        have e100 : (100 : Int32) = nI 100 := rfl
        refine ⟨Int32.toInt64 (if w = 0 then nI (a / Nat.gcd a 100) else nI (100 / Nat.gcd a 100)), σ1, σ2, ?_, ?_, ask_step h c2 R.1 R.2.1⟩
        · simp only [hx, hw, hn, and_self, if_true, h10, if_false, c1, Option.bind_some]
          rw [e100, partOf_eq w (by omega) (Nat.le_refl _) (by decide)]
          simp only [Option.bind_some]
        · unfold f_X8_odds
          rw [isOne_le (by rw [B1.2.2.2.1]; exact hTb.1) (by rw [B1.2.2.2.1]; exact hTb.2), B1.2.2.2.1]
          simp only [within_eq, Option.bind_some, hx, hw, hn, and_self, if_true, h10, if_false, m1]
          rw [e100, part_eq w (by omega) (Nat.le_refl _) (by decide)]
          simp only [Option.bind_some]
      · refine ⟨(-9223372036854775808 : Int64), σ, σ, by simp only [hx, hw, hn, and_self, if_true, h10, if_false], ?_, h⟩
        unfold f_X8_odds
        simp only [hone, within_eq, Option.bind_some, hx, hw, hn, and_self, if_true, h10, if_false]
    · refine ⟨(-9223372036854775808 : Int64), σ, σ, by simp only [hx, hn, and_self, if_true, h10, if_false], ?_, h⟩
      unfold f_X8_odds
      simp only [hone, within_eq, Option.bind_some, hx, hn, and_self, if_true, h10, if_false]
  · refine ⟨(-9223372036854775808 : Int64), σ, σ, by simp only [hx, if_true, if_false], ?_, h⟩
    unfold f_X8_odds
    simp only [hone, Option.bind_some, hx, if_true, if_false]
-- LESS, KEPT
/-- what is tried for x: WORTH x less, DEPTH x more -/
def lessO (wm : (Nat → Int32) → Int32) (sn : Int32) (σ : Sto) (p N : Nat) (i : Nat) : Bool := ow wm sn σ p N 0 (if σ.2.1 8 3 0 p - nI i < 0 then 0 else σ.2.1 8 3 0 p - nI i)
def moreO (wm : (Nat → Int32) → Int32) (sn : Int32) (σ : Sto) (p N : Nat) (i : Nat) : Bool := !ow wm sn σ p N 1 (if 99 < σ.2.1 8 4 0 p + nI i then 99 else σ.2.1 8 4 0 p + nI i)
theorem lessO_ak {σ s : Sto} {wm : (Nat → Int32) → Int32} {sn : Int32} {p N : Nat} (e : FrE akF akA [] σ s) : lessO wm sn s p N = lessO wm sn σ p N := by
  funext i
  unfold lessO
  rw [ow_ak e, e.2.1 8 3 0 (by decide)]
theorem moreO_ak {σ s : Sto} {wm : (Nat → Int32) → Int32} {sn : Int32} {p N : Nat} (e : FrE akF akA [] σ s) : moreO wm sn s p N = moreO wm sn σ p N := by
  funext i
  unfold moreO
  rw [ow_ak e, e.2.1 8 4 0 (by decide)]
theorem less_L {σ : Sto} {wm : (Nat → Int32) → Int32} {sn : Int32} {k T p N : Nat} (B : Base σ wm sn k T) (hp : p < 6) (hN : N ≤ 60) : ∀ (d j : Nat), j + d = 100 → ∀ n, d < n → ∀ s, FrE akF akA [] σ s → ∃ s', f_X7_less_L16 n s (nI p) (nI N) (σ.2.1 8 3 0 p) (nI j) = some (leastN (lessO wm sn σ p N) d j, s') ∧ FrE akF akA [] σ s' := by
  intro d
  induction d with
  | zero =>
    intro j hj n hn s e
    obtain ⟨n, rfl⟩ : ∃ q, n = q + 1 := ⟨n - 1, by omega⟩
    have hj2 : j = 100 := by omega
    subst hj2
    refine ⟨s, ?_, e⟩
    show f_X7_less_B16 _ s _ _ _ _ = _
    unfold f_X7_less_B16
    rw [if_pos (by decide)]
    rfl
  | succ d ih =>
    intro j hj n hn s e
    obtain ⟨n, rfl⟩ : ∃ q, n = q + 1 := ⟨n - 1, by omega⟩
    obtain ⟨s1, h1, e1⟩ := trial7 (N := N) 0 (if σ.2.1 8 3 0 p - nI j < 0 then 0 else σ.2.1 8 3 0 p - nI j) B e hp hN
    have hno : ¬ (99 : Int32) < nI j := nI_nlt (a := 99) (b := j) (by omega) (by decide)
    by_cases ho : lessO wm sn σ p N j = true
    · refine ⟨s1, ?_, e1⟩
      show f_X7_less_B16 _ s _ _ _ _ = _
      unfold f_X7_less_B16
      rw [if_neg hno, max_eq]
      simp only [Option.bind_some, h1]
      have ho2 := ho
      unfold lessO at ho2
      simp only [ho2, leastN, ho, if_true, h10, if_false]
    · obtain ⟨s2, h2, e2⟩ := ih (j + 1) (by omega) n (by omega) s1 e1
      refine ⟨s2, ?_, e2⟩
      show f_X7_less_B16 _ s _ _ _ _ = _
      unfold f_X7_less_B16
      rw [if_neg hno, max_eq]
      simp only [Option.bind_some, h1]
      have ho2 := ho
      unfold lessO at ho2
      simp only [ho2, leastN, ho, if_true, if_false, nmI, nI_1, Bool.false_eq_true]
      exact h2
theorem more_L {σ : Sto} {wm : (Nat → Int32) → Int32} {sn : Int32} {k T p N : Nat} (B : Base σ wm sn k T) (hp : p < 6) (hN : N ≤ 60) : ∀ (d j : Nat), j + d = 100 → ∀ n, d < n → ∀ s, FrE akF akA [] σ s → ∃ s', f_X7_moreToKeep_L16 n s (nI p) (nI N) (σ.2.1 8 4 0 p) (nI j) = some (leastN (moreO wm sn σ p N) d j, s') ∧ FrE akF akA [] σ s' := by
  intro d
  induction d with
  | zero =>
    intro j hj n hn s e
    obtain ⟨n, rfl⟩ : ∃ q, n = q + 1 := ⟨n - 1, by omega⟩
    have hj2 : j = 100 := by omega
    subst hj2
    refine ⟨s, ?_, e⟩
    show f_X7_moreToKeep_B16 _ s _ _ _ _ = _
    unfold f_X7_moreToKeep_B16
    rw [if_pos (by decide)]
    rfl
  | succ d ih =>
    intro j hj n hn s e
    obtain ⟨n, rfl⟩ : ∃ q, n = q + 1 := ⟨n - 1, by omega⟩
    obtain ⟨s1, h1, e1⟩ := trial7 (N := N) 1 (if 99 < σ.2.1 8 4 0 p + nI j then 99 else σ.2.1 8 4 0 p + nI j) B e hp hN
    have hno : ¬ (99 : Int32) < nI j := nI_nlt (a := 99) (b := j) (by omega) (by decide)
    by_cases ho : moreO wm sn σ p N j = true
    · refine ⟨s1, ?_, e1⟩
      show f_X7_moreToKeep_B16 _ s _ _ _ _ = _
      unfold f_X7_moreToKeep_B16
      rw [if_neg hno, min_eq]
      simp only [Option.bind_some, h1]
      have ho2 := ho
      unfold moreO at ho2
      simp only [Bool.not_eq_true'] at ho2
      simp only [ho2, leastN, ho, if_true, h10, if_false, Bool.false_eq_true]
    · obtain ⟨s2, h2, e2⟩ := ih (j + 1) (by omega) n (by omega) s1 e1
      refine ⟨s2, ?_, e2⟩
      show f_X7_moreToKeep_B16 _ s _ _ _ _ = _
      unfold f_X7_moreToKeep_B16
      rw [if_neg hno, min_eq]
      simp only [Option.bind_some, h1]
      have ho2 := ho
      unfold moreO at ho2
      simp only [Bool.not_eq_true', Bool.not_eq_false] at ho2
      simp only [ho2, leastN, ho, if_true, h10, if_false, nmI, nI_1, Bool.false_eq_true]
      exact h2
theorem need8_L {σ : Sto} {wm : (Nat → Int32) → Int32} {sn : Int32} {k T p N : Nat} (B : MB σ wm sn k T) (hp : p < T) (hN : N ≤ 60) (x3 : Int32) (hww : 0 ≤ σ.2.1 8 3 0 p ∧ σ.2.1 8 3 0 p ≤ 99) : ∀ (j d : Nat), j + d = 100 → ∀ n, j < n → ∀ s, Rest σ s → ∃ s', f_X8_need_L48 n s (nI p) (nI N) x3 (leastN (if x3 = 0 then lessO wm sn σ p N else moreO wm sn σ p N) d j) (nI j + (-1 : Int32)) = some (leastN (if x3 = 0 then lessO wm sn σ p N else moreO wm sn σ p N) 100 0, s') ∧ Rest σ s' := by
  have hT := B.2.2.1
  intro j
  induction j with
  | zero =>
    intro d hd n hn s R
    obtain ⟨n, rfl⟩ : ∃ q, n = q + 1 := ⟨n - 1, by omega⟩
    have hd2 : d = 100 := by omega
    subst hd2
    refine ⟨s, ?_, R⟩
    show f_X8_need_B48 _ s _ _ _ _ _ = _
    unfold f_X8_need_B48
    rw [if_pos (by decide)]
  | succ j ih =>
    intro d hd n hn s R
    obtain ⟨n, rfl⟩ : ∃ q, n = q + 1 := ⟨n - 1, by omega⟩
    have a1 : (0 : Int32) ≤ nI p ∧ nI p < 6 := nI_r (N := 6) (by omega) (by decide)
    have hc : (nI p).toNatClampNeg = p := nI_clamp (by omega)
    have hjb := nI_r (s := j) (N := 100) (by omega) (by decide)
    have hj100 : nI j < 100 := hjb.2
    have hj0 := hjb.1
    rw [nI_m1]
    obtain ⟨-, -, f3⟩ := Rest_f B R
    have hd4 := (f3 p (by omega)).2
    have hw3 : s.2.1 8 3 0 p = σ.2.1 8 3 0 p := by
      have := R.2.1 (12 + p) (by omega)
      rwa [snap_worth s (by omega), snap_worth σ (by omega)] at this
    have hdb := B.2.2.2.2.2 p (by omega)
    by_cases h0 : x3 = 0
    · obtain ⟨s1, s2, h1, h2, R2⟩ := trial8 (N := N) B R hp hN 0 (if σ.2.1 8 3 0 p - nI j < 0 then 0 else σ.2.1 8 3 0 p - nI j) (fun h => absurd h (by decide))
      obtain ⟨s3, h3, R3⟩ := ih (d + 1) (by omega) n (by omega) s2 R2
      refine ⟨s3, ?_, R3⟩
      rw [← h3]
      have hal : alS 0 = 3 := rfl
      rw [hal] at h1
      have hmx : (if (0 : Int32) < σ.2.1 8 3 0 p - nI j then σ.2.1 8 3 0 p - nI j else 0) = (if σ.2.1 8 3 0 p - nI j < 0 then 0 else σ.2.1 8 3 0 p - nI j) := by grind
      show f_X8_need_B48 _ s _ _ _ _ _ = _
      unfold f_X8_need_B48 f_X8_need_L99 f_X8_need_L114 f_X8_need_L121
      rw [if_neg (nI_pos (by omega))]
      simp only [h0, if_true, a1, and_self, hc, hw3, max_eq, Option.bind_some, nm, hmx, h1]
      by_cases ho : lessO wm sn σ p N j = true
      · have ho2 := ho
        unfold lessO at ho2
        simp only [ho2, if_true, h2, Option.bind_some, nmI, leastN, ho]
      · have ho2 := ho
        unfold lessO at ho2
        simp only [ho2, if_true, if_false, Bool.false_eq_true, show ¬ (0 : Int32) = 1 by decide, h2, Option.bind_some, nmI, leastN, ho]
    · obtain ⟨s1, s2, h1, h2, R2⟩ := trial8 (N := N) B R hp hN 1 (if 99 < σ.2.1 8 4 0 p + nI j then 99 else σ.2.1 8 4 0 p + nI j) (fun _ => by grind)
      obtain ⟨s3, h3, R3⟩ := ih (d + 1) (by omega) n (by omega) s2 R2
      refine ⟨s3, ?_, R3⟩
      rw [← h3]
      have hal : alS 1 = 4 := rfl
      rw [hal] at h1
      have hmx : (if σ.2.1 8 4 0 p + nI j < 99 then σ.2.1 8 4 0 p + nI j else 99) = (if 99 < σ.2.1 8 4 0 p + nI j then 99 else σ.2.1 8 4 0 p + nI j) := by grind
      show f_X8_need_B48 _ s _ _ _ _ _ = _
      unfold f_X8_need_B48 f_X8_need_L99 f_X8_need_L114 f_X8_need_L121
      rw [if_neg (nI_pos (by omega))]
      simp only [h0, if_false, if_true, a1, and_self, hc, hd4, min_eq, Option.bind_some, nm, hmx, h1]
      by_cases ho : moreO wm sn σ p N j = true
      · have ho2 := ho
        unfold moreO at ho2
        simp only [Bool.not_eq_true'] at ho2
        simp only [ho2, if_true, if_false, Bool.false_eq_true, h2, Option.bind_some, nmI, leastN, ho]
      · have ho2 := ho
        unfold moreO at ho2
        simp only [Bool.not_eq_true', Bool.not_eq_false] at ho2
        simp only [ho2, if_true, h10, if_false, h2, Option.bind_some, nmI, leastN, ho, Bool.false_eq_true]
theorem need_step {σ : Sto} (h : Inv σ) (x n w : Int32) : ∃ r σ1 σ2, f_X7_need σ x n w = some (r, σ1) ∧ f_X8_need σ1 x n w = some (r, σ2) ∧ Inv σ2 := by
  obtain ⟨wm, sn, k, T, B⟩ := base_of h
  have hT := B.2.2.1
  have hT8 := B.2.2.2.1
  have hT6 := B.2.2.2.2.1
  have hTb : 0 ≤ nI T ∧ nI T ≤ 6 := ⟨nI_n0 (by omega), (nI_leI (a := T) (b := 6) (by omega) (by decide)).mpr hT⟩
  have hone : ∀ s, s.1 8 0 0 = nI T → ∀ y, f_X8_isOne s y = some (if 0 ≤ y ∧ y < nI T then 1 else 0) := fun s hs y => by
    rw [isOne_le (by rw [hs]; exact hTb.1) (by rw [hs]; exact hTb.2), hs]
  unfold f_X7_need
  simp only [isUpTo_eq, isThing_eq, Option.bind_some, hT6]
  by_cases hx : 0 ≤ x ∧ x < nI T
  · by_cases hw : 0 ≤ w ∧ w ≤ 1
    · by_cases hn : 0 ≤ n ∧ n ≤ 30
      · obtain ⟨p, hp6, rfl⟩ := i32_range (N := 6) (by decide) hx.1 (by have := hx.2; grind)
        have hpT : p < T := (nI_ltI (by omega) (by omega)).mp hx.2
        obtain ⟨N, hN, rfl⟩ := i32_range (N := 31) (by decide) hn.1 (by have := hn.2; grind)
        obtain ⟨-, -, -, ⟨t3, t4, t5⟩, ⟨d3, -⟩, -⟩ := h.1.1 p hp6
        have a1 : (0 : Int32) ≤ nI p ∧ nI p < 6 := nI_r (N := 6) hp6 (by decide)
        have hc : (nI p).toNatClampNeg = p := nI_clamp (by omega)
        obtain ⟨σ1, c1, c2⟩ : ∃ σ1, (if w = 0 then f_X7_less σ (nI p) (nI N) else f_X7_moreToKeep σ (nI p) (nI N)) = some (leastN (if w = 0 then lessO wm sn σ p N else moreO wm sn σ p N) 100 0, σ1) ∧ FrE akF akA [] σ σ1 := by
          have key : ∀ M, 100 < M → ∃ σ1, (if w = 0 then f_X7_less_L16 M σ (nI p) (nI N) (σ.2.1 8 3 0 p) 0 else f_X7_moreToKeep_L16 M σ (nI p) (nI N) (σ.2.1 8 4 0 p) 0) = some (leastN (if w = 0 then lessO wm sn σ p N else moreO wm sn σ p N) 100 0, σ1) ∧ FrE akF akA [] σ σ1 := by
            intro M hM
            by_cases h0 : w = 0
            · have g := less_L (N := N) B hp6 (by omega) 100 0 rfl M (by omega) σ FrE.rfl'
              rw [nI_0] at g
              simp only [if_pos h0]
              exact g
            · have g := more_L (N := N) B hp6 (by omega) 100 0 rfl M (by omega) σ FrE.rfl'
              rw [nI_0] at g
              simp only [if_neg h0]
              exact g
          unfold f_X7_less f_X7_moreToKeep
          rw [if_pos a1, if_pos a1, hc, Nat.mul_zero, Nat.zero_add, t3, d3]
          exact key 1000 (by decide)
        have B1 := Base_ak B c2
        have hw3 : σ1.2.1 8 3 0 = σ.2.1 8 3 0 := c2.2.1 8 3 0 (by decide)
        obtain ⟨s0, k1, R0⟩ := Rest_0 (MB_of B1)
        obtain ⟨σ2, m1, R⟩ : ∃ σ2, f_X8_need_L48 1000 s0 (nI p) (nI N) w (-5) 99 = some (leastN (if w = 0 then lessO wm sn σ p N else moreO wm sn σ p N) 100 0, σ2) ∧ Rest σ1 σ2 := by
          have key : ∀ M, 100 < M → ∃ σ2, f_X8_need_L48 M s0 (nI p) (nI N) w (-5) 99 = some (leastN (if w = 0 then lessO wm sn σ p N else moreO wm sn σ p N) 100 0, σ2) ∧ Rest σ1 σ2 := by
            intro M hM
            have g := need8_L (N := N) (MB_of B1) hpT (by omega) w (by rw [hw3]; exact ⟨t4, t5⟩) 100 0 rfl M (by omega) s0 R0
            rw [show nI 100 + (-1 : Int32) = 99 by decide, lessO_ak c2, moreO_ak c2] at g
            have h5 : leastN (if w = 0 then lessO wm sn σ p N else moreO wm sn σ p N) 0 100 = -5 := rfl
            rw [h5] at g
            exact g
          exact key 1000 (by decide)
        refine ⟨leastN (if w = 0 then lessO wm sn σ p N else moreO wm sn σ p N) 100 0, σ1, σ2, ?_, ?_, ask_step h c2 R.1 R.2.1⟩
        · by_cases h0 : w = 0
          · rw [if_pos h0] at c1
            simp only [hx, hw, hn, and_self, if_true, h10, if_false, c1, Option.bind_some, if_pos h0]
          · rw [if_neg h0] at c1
            simp only [hx, hw, hn, and_self, if_true, h10, if_false, c1, Option.bind_some, if_neg h0]
        · unfold f_X8_need
          simp only [hone σ1 B1.2.2.2.1, within_eq, Option.bind_some, hx, hw, hn, and_self, if_true, h10, if_false, k1]
          exact m1
      · refine ⟨-2, σ, σ, by simp only [hx, hw, hn, and_self, if_true, h10, if_false], ?_, h⟩
        unfold f_X8_need
        simp only [hone σ hT8, within_eq, Option.bind_some, hx, hw, hn, and_self, if_true, h10, if_false]
    · refine ⟨-1, σ, σ, by simp only [hx, hw, and_self, if_true, h10, if_false], ?_, h⟩
      unfold f_X8_need
      simp only [hone σ hT8, within_eq, Option.bind_some, hx, hw, and_self, if_true, h10, if_false]
  · refine ⟨-1, σ, σ, by simp only [hx, if_true, if_false], ?_, h⟩
    unfold f_X8_need
    simp only [hone σ hT8, Option.bind_some, hx, if_true, if_false]
