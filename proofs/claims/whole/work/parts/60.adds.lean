-- CALLS THAT ADD: thing, feed, see, plan, book
theorem tb_L {i : Nat} : ∀ (d j : Nat) (s : Sto), j + d = 4 → ∀ n, d < n → f_X5_begin_L24 n s i (nI j) = some (sA s 5 5 i (fun q => if j ≤ q ∧ q < 4 then 0 else s.2.1 5 5 i q)) := by
  intro d
  induction d with
  | zero =>
    intro j s hj n hn
    obtain ⟨n, rfl⟩ : ∃ q, n = q + 1 := ⟨n - 1, by omega⟩
    have hj2 : j = 4 := by omega
    subst hj2
    show f_X5_begin_B24 _ s i (nI 4) = _
    unfold f_X5_begin_B24
    rw [if_pos (by decide), sA_id]
    funext q
    rw [if_neg (by omega)]
  | succ d ih =>
    intro j s hj n hn
    obtain ⟨n, rfl⟩ : ∃ q, n = q + 1 := ⟨n - 1, by omega⟩
    have a1 : (0 : Int32) ≤ nI j ∧ nI j < 4 := nI_r (N := 4) (by omega) (by decide)
    show f_X5_begin_B24 _ s i (nI j) = _
    unfold f_X5_begin_B24
    rw [if_neg (show ¬ (4 : Int32) ≤ nI j from nI_ge (a := j) (b := 4) (by omega) (by decide)), if_pos a1, nI_clamp (by omega)]
    simp only [nm, nmI, nI_1]
    rw [ih (j + 1) _ (by omega) n (by omega), sA_sA]
    congr 2
    funext q
    rw [sA_at, upd_at]
    by_cases h1 : q = j
    · subst h1
      rw [if_neg (by omega), if_pos rfl, if_pos (by omega)]
    · rw [if_neg h1]
      by_cases h2 : j + 1 ≤ q ∧ q < 4
      · rw [if_pos h2, if_pos (by omega)]
      · rw [if_neg h2, if_neg (by omega)]
theorem begin5_N (N : Nat) (hN : 10 < N) (σ : Sto) (i : Nat) (a b c d : Int32) : (nm (sF σ 5 1 i a) fun s1 => nm (sF s1 5 2 i b) fun s2 => nm (sF s2 5 3 i c) fun s3 => nm (sF s3 5 4 i d) fun s4 => f_X5_begin_L24 N s4 i 0) = some (sA (sF (sF (sF (sF σ 5 1 i a) 5 2 i b) 5 3 i c) 5 4 i d) 5 5 i (fun q => if q < 4 then 0 else σ.2.1 5 5 i q)) := by
  have h := tb_L (i := i) 4 0 (sF (sF (sF (sF σ 5 1 i a) 5 2 i b) 5 3 i c) 5 4 i d) rfl N (by omega)
  rw [nI_0] at h
  simp only [nm]
  rw [h]
  simp only [Nat.zero_le, true_and, sF2]
theorem begin5 (σ : Sto) (i : Nat) (a b c d : Int32) : f_X5_begin σ i a b c d = some (sA (sF (sF (sF (sF σ 5 1 i a) 5 2 i b) 5 3 i c) 5 4 i d) 5 5 i (fun q => if q < 4 then 0 else σ.2.1 5 5 i q)) := begin5_N 1000 (by decide) σ i a b c d
theorem th_L {T : Nat} (hT : T < 6) : ∀ (d j : Nat) (s : Sto), s.1 8 0 0 = nI T → j + d = 4 → ∀ n, d < n → f_X8_thing_L102 n s (nI j) = some (nI T, sF (sA s 8 5 0 (fun q => if 4 * T + j ≤ q ∧ q < 4 * T + 4 then 0 else s.2.1 8 5 0 q)) 8 0 0 (nI (T + 1))) := by
  intro d
  induction d with
  | zero =>
    intro j s h8 hj n hn
    obtain ⟨n, rfl⟩ : ∃ q, n = q + 1 := ⟨n - 1, by omega⟩
    have hj2 : j = 4 := by omega
    subst hj2
    show f_X8_thing_B102 _ s (nI 4) = _
    unfold f_X8_thing_B102
    rw [if_pos (by decide), h8, sA_id]
    · simp only [nm, nI_1]
    · funext q
      rw [if_neg (by omega)]
  | succ d ih =>
    intro j s h8 hj n hn
    obtain ⟨n, rfl⟩ : ∃ q, n = q + 1 := ⟨n - 1, by omega⟩
    obtain ⟨g1, g2, g3, g4⟩ := row_ix hT (show j < 4 by omega)
    show f_X8_thing_B102 _ s (nI j) = _
    unfold f_X8_thing_B102
    rw [if_neg (show ¬ (4 : Int32) ≤ nI j from nI_ge (a := j) (b := 4) (by omega) (by decide)), h8, g1, if_pos ⟨g2, g3⟩, g4]
    simp only [nm, nmI, nI_1]
    rw [ih (j + 1) _ (by rw [sA1, h8]) (by omega) n (by omega), sA_sA]
    congr 4
    funext q
    rw [sA_at, upd_at]
    by_cases h1 : q = 4 * T + j
    · subst h1
      rw [if_neg (by omega), if_pos rfl, if_pos (by omega)]
    · rw [if_neg h1]
      by_cases h2 : 4 * T + (j + 1) ≤ q ∧ q < 4 * T + 4
      · rw [if_pos h2, if_pos (by omega)]
      · rw [if_neg h2, if_neg (by omega)]
theorem th_tail (N : Nat) (hN : 10 < N) {s0 : Sto} {T : Nat} (x1 x2 x3 x4 : Int32) (hT : T < 6) (h8 : s0.1 8 0 0 = nI T) : (if 0 ≤ (s0.1 8 0 0) ∧ (s0.1 8 0 0) < 6 then nm (sA s0 8 1 0 (upd (s0.2.1 8 1 0) (Int32.toNatClampNeg (s0.1 8 0 0)) x1)) fun s12 => (if 0 ≤ (s12.1 8 0 0) ∧ (s12.1 8 0 0) < 6 then nm (sA s12 8 2 0 (upd (s12.2.1 8 2 0) (Int32.toNatClampNeg (s12.1 8 0 0)) x2)) fun s15 => (if 0 ≤ (s15.1 8 0 0) ∧ (s15.1 8 0 0) < 6 then nm (sA s15 8 3 0 (upd (s15.2.1 8 3 0) (Int32.toNatClampNeg (s15.1 8 0 0)) x3)) fun s18 => (if 0 ≤ (s18.1 8 0 0) ∧ (s18.1 8 0 0) < 6 then nm (sA s18 8 4 0 (upd (s18.2.1 8 4 0) (Int32.toNatClampNeg (s18.1 8 0 0)) x4)) fun s21 => f_X8_thing_L102 N s21 0 else none) else none) else none) else none) = some (nI T, sF (sA (sA (sA (sA (sA s0 8 1 0 (upd (s0.2.1 8 1 0) T x1)) 8 2 0 (upd (s0.2.1 8 2 0) T x2)) 8 3 0 (upd (s0.2.1 8 3 0) T x3)) 8 4 0 (upd (s0.2.1 8 4 0) T x4)) 8 5 0 (fun q => if 4 * T ≤ q ∧ q < 4 * T + 4 then 0 else s0.2.1 8 5 0 q)) 8 0 0 (nI (T + 1))) := by
  have a1 : (0 : Int32) ≤ nI T ∧ nI T < 6 := nI_r (N := 6) hT (by decide)
  have a2 : (nI T).toNatClampNeg = T := nI_clamp (by omega)
  have g := fun s hs => th_L hT 4 0 s hs rfl N (by omega)
  simp only [nI_0, Nat.add_zero] at g
  simp only [nm, sA1, h8, if_pos a1, a2, sA2, Nat.reduceEqDiff, and_true, true_and, false_and, and_false, if_false]
  rw [g _ (by simp only [sA1]; exact h8)]
  simp only [sA2, Nat.reduceEqDiff, and_true, true_and, false_and, and_false, if_false]
abbrev thF : List (Nat × Nat × Nat) := [(5, 1, 0), (5, 2, 0), (5, 3, 0), (5, 4, 0), (6, 1, 0), (8, 0, 0)]
abbrev thA : List (Nat × Nat × Nat) := [(5, 5, 0), (8, 1, 0), (8, 2, 0), (8, 3, 0), (8, 4, 0), (8, 5, 0)]
theorem thing_step {σ : Sto} (h : Inv σ) (a b c d : Int32) : ∃ r σ1 σ2, f_X7_thing σ a b c d = some (r, σ1) ∧ f_X8_thing σ1 a b c d = some (r, σ2) ∧ Inv σ2 := by
  obtain ⟨wm, sn, k, T, B⟩ := base_of h
  have hT := B.2.2.1
  have hT8 := B.2.2.2.1
  have hT6 := B.2.2.2.2.1
  unfold f_X7_thing
  simp only [isUpTo_eq, Option.bind_some, hT6, nmI]
  by_cases ha : 0 ≤ a ∧ a ≤ 6
  · by_cases hb : 0 ≤ b ∧ b ≤ 9
    · by_cases hc : 0 ≤ c ∧ c ≤ 99
      · by_cases hd : 0 ≤ d ∧ d ≤ 99
        · by_cases h6 : T = 6
          · refine ⟨-4, σ, σ, ?_, ?_, h⟩
            · simp only [ha, hb, hc, hd, and_self, if_true, h10, if_false, h6, show ¬ nI 6 < 6 by decide]
            · unfold f_X8_thing
              simp only [within_eq, Option.bind_some, ha, hb, hc, hd, and_self, if_true, h10, if_false, hT8, h6, show nI 6 = (6 : Int32) by decide]
          · have hlt : T < 6 := by omega
            have a1 : (0 : Int32) ≤ nI T ∧ nI T < 6 := nI_r (N := 6) hlt (by decide)
            have a2 : (nI T).toNatClampNeg = T := nI_clamp (by omega)
            have hg := grp5a hlt
            have hne6 : ¬ nI T = 6 := by
              intro hh
              have := (nI_eq (a := T) (b := 6) (by omega) (by decide)).mp hh
              omega
            let s1 : Sto := sF (sA (sF (sF (sF (sF σ 5 1 T a) 5 2 T b) 5 3 T c) 5 4 T d) 5 5 T (fun q => if q < 4 then 0 else σ.2.1 5 5 T q)) 6 1 0 (nI (T + 1))
            let s2 : Sto := sA (sA (sA (sA s1 8 1 0 (upd (σ.2.1 8 1 0) T a)) 8 2 0 (upd (σ.2.1 8 2 0) T b)) 8 3 0 (upd (σ.2.1 8 3 0) T c)) 8 4 0 (upd (σ.2.1 8 4 0) T d)
            let s3 : Sto := sF (sA s2 8 5 0 (fun q => if 4 * T ≤ q ∧ q < 4 * T + 4 then 0 else σ.2.1 8 5 0 q)) 8 0 0 (nI (T + 1))
            have e : FrE thF thA [] σ s3 := ((((((((((((FrE.rfl'.sF (by rw [hg]; decide)).sF (by rw [hg]; decide)).sF (by rw [hg]; decide)).sF (by rw [hg]; decide)).sA (by rw [hg]; decide)).sF (by decide)).sA (by decide)).sA (by decide)).sA (by decide)).sA (by decide)).sA (by decide)).sF (by decide))
            have e80 : s3.1 8 0 0 = nI (T + 1) := by show (sF _ 8 0 0 _).1 8 0 0 = _; rw [sF_at]
            have e61 : s3.1 6 1 0 = nI (T + 1) := by simp [s3, s2, s1, sF1, sA1]
            have hle1 : nI T ≤ nI (T + 1) := nI_le (by omega) (by omega)
            refine ⟨nI T, s1, s3, ?_, ?_, ?_⟩
            · simp only [ha, hb, hc, hd, and_self, if_true, h10, if_false, a1, a2, Nat.mul_zero, Nat.zero_add, begin5, Option.bind_some, nm]
              have : (sA (sF (sF (sF (sF σ 5 1 T a) 5 2 T b) 5 3 T c) 5 4 T d) 5 5 T (fun q => if q < 4 then 0 else σ.2.1 5 5 T q)).1 6 1 0 = nI T := by simp [sA1, sF1, hT6]
              rw [this, nI_1]
            · have g1 : s1.1 8 0 0 = nI T := by simp [s1, sF1, sA1, hT8]
              have g := th_tail 1000 (by decide) a b c d hlt g1
              unfold f_X8_thing
              rw [within_eq, within_eq, within_eq, within_eq, if_pos ha, if_pos hb, if_pos hc, if_pos hd, Option.bind_some, if_neg h10, Option.bind_some, if_neg h10, Option.bind_some, if_neg h10, Option.bind_some, if_neg h10, if_neg (show ¬ s1.1 8 0 0 = 6 by rw [g1]; exact hne6)]
              refine Eq.trans g ?_
              simp [s3, s2, s1, sF2, sA2]
            · obtain ⟨⟨h1, h2, h3, h4, h5⟩, i1, i2, i3, i4, i5, i6⟩ := h
              refine ⟨⟨?_, ?_, Ws_fr h3 e (by decide) (by decide), ?_, ?_⟩, I_tx_fr i1 e (by decide) (by decide), I_ac_fr i2 e (by decide) (by decide), I_tp_fr i3 e (by decide) (by decide) (by decide), Im_fr i4 e (by decide) (by decide), Pc_fr i5 e (by decide), Ps_fr i6 e (by decide) (by decide)⟩
              · intro q hq
                obtain ⟨t0, t1, t2, t3, t4, t5⟩ := h1 q hq
                by_cases hqT : q = T
                · subst hqT
                  refine ⟨?_, ?_, ?_, ?_, ?_, fun j hj => ?_⟩
                  · simp [s3, s2, s1, sF1, sA1, sF2, sA2, t0]
                  · simp [s3, s2, s1, sF1, sA1, sF2, sA2, upd_at]; exact ha
                  · simp [s3, s2, s1, sF1, sA1, sF2, sA2, upd_at]; exact hb
                  · simp [s3, s2, s1, sF1, sA1, sF2, sA2, upd_at]; exact hc
                  · simp [s3, s2, s1, sF1, sA1, sF2, sA2, upd_at]; exact hd
                  · simp [s3, s2, s1, sF1, sA1, sF2, sA2, hj]
                · have hTq : ¬ T = q := fun hh => hqT hh.symm
                  refine ⟨?_, ?_, ?_, ?_, ?_, fun j hj => ?_⟩
                  · simp [s3, s2, s1, sF1, sA1, sF2, sA2, t0]
                  · simp [s3, s2, s1, sF1, sA1, sF2, sA2, upd_at, hqT]; exact t1
                  · simp [s3, s2, s1, sF1, sA1, sF2, sA2, upd_at, hqT]; exact t2
                  · simp [s3, s2, s1, sF1, sA1, sF2, sA2, upd_at, hqT]; exact t3
                  · simp [s3, s2, s1, sF1, sA1, sF2, sA2, upd_at, hqT]; exact t4
                  · have hn : ¬ (4 * T ≤ 4 * q + j ∧ 4 * q + j < 4 * T + 4) := by omega
                    have t5j := t5 j hj
                    simp only [s3, s2, s1, sF1, sA1, sF2, sA2, hqT, and_false, if_false, true_and, and_true, if_true, false_and, Nat.reduceEqDiff, hn]
                    exact t5j
              · unfold Wn
                obtain ⟨n1, n2, n3⟩ := h2
                rw [e61, e80, e.1 6 2 0 (by decide), e.1 8 6 0 (by decide), e.1 6 3 0 (by decide), e.1 8 14 0 (by decide), e.1 7 7 0 (by decide)]
                exact ⟨⟨rfl, nI_n0 (by omega), (nI_leI (a := T + 1) (b := 6) (by omega) (by decide)).mpr (by omega)⟩, n2, n3⟩
              · unfold Wp at h4 ⊢
                rw [e80, e.1 2 0 1 (by decide), e.1 2 4 1 (by decide), e.1 8 27 0 (by decide), e.2.1 2 1 1 (by decide), e.2.1 2 2 1 (by decide), e.2.1 8 28 0 (by decide), e.2.1 8 29 0 (by decide)]
                rw [hT8] at h4
                refine ⟨h4.1, fun j hj hj2 => ?_⟩
                obtain ⟨r1, r2, r3, r4⟩ := h4.2 j hj hj2
                refine ⟨r1, r2, r3, fun hh => ?_⟩
                have := r4 hh
                grind
              · unfold Wb at h5 ⊢
                rw [e80, e.1 2 0 2 (by decide), e.1 2 4 2 (by decide), e.1 8 30 0 (by decide), e.2.1 2 1 2 (by decide), e.2.1 2 2 2 (by decide), e.2.1 8 31 0 (by decide), e.2.1 8 32 0 (by decide)]
                rw [hT8] at h5
                refine ⟨h5.1, fun j hj hj2 => ?_⟩
                obtain ⟨⟨r1, r2, r3⟩, r4⟩ := h5.2 j hj hj2
                refine ⟨⟨r1, r2, ?_⟩, r4⟩
                grind
        · refine ⟨-2, σ, σ, by simp only [ha, hb, hc, hd, and_self, if_true, h10, if_false], ?_, h⟩
          unfold f_X8_thing
          simp only [within_eq, Option.bind_some, ha, hb, hc, hd, and_self, if_true, h10, if_false]
      · refine ⟨-2, σ, σ, by simp only [ha, hb, hc, and_self, if_true, h10, if_false], ?_, h⟩
        unfold f_X8_thing
        simp only [within_eq, Option.bind_some, ha, hb, hc, and_self, if_true, h10, if_false]
    · refine ⟨-2, σ, σ, by simp only [ha, hb, and_self, if_true, h10, if_false], ?_, h⟩
      unfold f_X8_thing
      simp only [within_eq, Option.bind_some, ha, hb, and_self, if_true, h10, if_false]
  · refine ⟨-1, σ, σ, by simp only [ha, if_true, if_false], ?_, h⟩
    unfold f_X8_thing
    simp only [within_eq, Option.bind_some, ha, if_true, if_false]
set_option maxRecDepth 10000 in
theorem byte_all : ∀ n, n < 128 → vp_nar .byte (Int8.toInt32 (Int32.toInt8 (nI n))) = nI n := by decide +kernel
theorem feed_step {σ : Sto} (h : Inv σ) (x : Int32) : ∃ r σ1 σ2, f_X7_feed σ x = some (r, σ1) ∧ f_X8_feed σ1 x = some (r, σ2) ∧ Inv σ2 := by
  obtain ⟨⟨x1, x2, x3⟩, xr⟩ := h.2.1
  obtain ⟨L, hL, hLe⟩ := i32_range (N := 101) (x := σ.1 8 7 0) (by decide) x2 (by grind)
  rw [hLe] at x1
  unfold f_X7_feed f_X4_add
  simp only [isUpTo_eq, Option.bind_some, x1]
  by_cases hx : 0 ≤ x ∧ x ≤ 127
  · obtain ⟨n, hn, rfl⟩ := i32_range (N := 128) (by decide) hx.1 (by have := hx.2; grind)
    by_cases h100 : L = 100
    · refine ⟨-4, σ, σ, ?_, ?_, h⟩
      · simp only [hx, and_self, if_true, h10, if_false, h100, show ¬ nI 100 < 100 by decide]
      · unfold f_X8_feed
        simp only [within_eq, Option.bind_some, hx, and_self, if_true, h10, if_false, hLe, h100, show nI 100 = (100 : Int32) by decide]
    · have a1 : (0 : Int32) ≤ nI L ∧ nI L < 100 := nI_r (N := 100) (by omega) (by decide)
      have a2 : ¬ (100 : Int32) ≤ nI L := nI_ge (a := L) (b := 100) (by omega) (by decide)
      have a3 : (nI L).toNatClampNeg = L := nI_clamp (by omega)
      have a4 : ¬ nI L = 100 := by
        intro hh
        have := (nI_eq (a := L) (b := 100) (by omega) (by decide)).mp hh
        omega
      let s1 : Sto := sF (sA σ 4 0 0 (upd (σ.2.1 4 0 0) L (nI n))) 4 1 0 (nI (L + 1))
      let s2 : Sto := sA (sF s1 8 7 0 (nI (L + 1))) 8 8 0 (upd (σ.2.1 8 8 0) L (nI n))
      have e : FrE [(4, 1, 0), (8, 7, 0)] [(4, 0, 0), (8, 8, 0)] [] σ s2 := (((FrE.rfl'.sA (by decide)).sF (by decide)).sF (by decide)).sA (by decide)
      refine ⟨nI (L + 1), s1, s2, ?_, ?_, ?_⟩
      · simp only [hx, and_self, if_true, h10, if_false, a1, a2, a3, nm, byte_all n hn, sA1, x1, nI_1, Option.bind_some, sF_at]
        rfl
      · unfold f_X8_feed
        have g1 : s1.1 8 7 0 = nI L := by simp [s1, sF1, sA1, hLe]
        have g2 : s1.2.1 8 8 0 = σ.2.1 8 8 0 := by simp [s1, sF2, sA2]
        simp only [within_eq, Option.bind_some, hx, and_self, if_true, h10, if_false, g1, a4, a1, a3, nm, nI_1, sF2, g2]
        rw [sA1, sF_at]
      · obtain ⟨⟨h1, h2, h3, h4, h5⟩, i1, i2, i3, i4, i5, i6⟩ := h
        refine ⟨⟨Wt_fr h1 e (by decide) (by decide), Wn_fr h2 e (by decide), Ws_fr h3 e (by decide) (by decide), Wp_fr h4 e (by decide) (by decide), Wb_fr h5 e (by decide) (by decide)⟩, ?_, I_ac_fr i2 e (by decide) (by decide), I_tp_fr i3 e (by decide) (by decide) (by decide), Im_fr i4 e (by decide) (by decide), Pc_fr i5 e (by decide), Ps_fr i6 e (by decide) (by decide)⟩
        have g1 : s2.1 4 1 0 = nI (L + 1) := by simp [s2, s1, sF1, sA1]
        have g2 : s2.1 8 7 0 = nI (L + 1) := by simp [s2, s1, sF1, sA1]
        have g3 : s2.2.1 4 0 0 = upd (σ.2.1 4 0 0) L (nI n) := by simp [s2, s1, sF2, sA2]
        have g4 : s2.2.1 8 8 0 = upd (σ.2.1 8 8 0) L (nI n) := by simp [s2, s1, sF2, sA2]
        unfold I_tx
        rw [g1, g2, g3, g4]
        refine ⟨⟨rfl, nI_n0 (by omega), (nI_leI (a := L + 1) (b := 100) (by omega) (by decide)).mpr (by omega)⟩, fun j hj hj2 => ?_⟩
        rw [nI_toInt (by omega)] at hj2
        rw [upd_at, upd_at]
        by_cases hjL : j = L
        · rw [if_pos hjL, if_pos hjL]
          exact ⟨rfl, hx.1, hx.2⟩
        · rw [if_neg hjL, if_neg hjL]
          exact xr j hj (by rw [hLe, nI_toInt (by omega)]; omega)
  · refine ⟨-2, σ, σ, by simp only [hx, if_true, if_false], ?_, h⟩
    unfold f_X8_feed
    simp only [within_eq, Option.bind_some, hx, if_true, if_false]
theorem add2 {σ : Sto} {i j m : Nat} {a b c : Int32} (hs : σ.1 2 4 i = nI j) (hm : σ.1 2 0 i = nI m) (hj : j < m) (hm10 : m ≤ 10) : f_X2_add σ i a b c = some (nI (j + 1), sF (sA (sA (sA σ 2 1 i (upd (σ.2.1 2 1 i) j a)) 2 2 i (upd (σ.2.1 2 2 i) j b)) 2 3 i (upd (σ.2.1 2 3 i) j c)) 2 4 i (nI (j + 1))) := by
  have a1 : (0 : Int32) ≤ nI j ∧ nI j < 10 := nI_r (N := 10) (by omega) (by decide)
  have a2 : nI j < nI m := nI_lt hj (by omega)
  unfold f_X2_add
  simp only [hs, hm, a2, if_true, a1, and_self, nm, sA1, sA2, nI_clamp (show j < 2 ^ 31 by omega), nI_1, Nat.reduceEqDiff, false_and, and_false, if_false]
  rw [sF_at]
theorem add2_full {σ : Sto} {i m : Nat} {a b c : Int32} (hs : σ.1 2 4 i = nI m) (hm : σ.1 2 0 i = nI m) : f_X2_add σ i a b c = some (-4, σ) := by
  unfold f_X2_add
  rw [hs, hm, if_neg (by grind)]
