-- FRACTIONS: partOf (the class), part (the reference); mean
theorem nI_z {n : Nat} (h : n < 2 ^ 31) : nI n = 0 ↔ n = 0 := by
  have := nI_eq (a := n) (b := 0) h (by decide)
  rwa [nI_0] at this
theorem partOf_L {a b c : Nat} (ha : a < 2 ^ 31) (hb : b < 2 ^ 31) (hb1 : 1 ≤ b) (hc : c < 2 ^ 31) : ∀ (d : Nat), Nat.gcd a b ≤ d → d ≤ b → ∀ n, d < n → f_X7_partOf_L13 n (nI a) (nI b) (nI c) (nI d) = some (nI (c / Nat.gcd a b)) := by
  have hg1 : 0 < Nat.gcd a b := Nat.gcd_pos_of_pos_right a (by omega)
  intro d
  induction d with
  | zero => intro h; omega
  | succ d ih =>
    intro hgd hdb n hn
    obtain ⟨n, rfl⟩ : ∃ q, n = q + 1 := ⟨n - 1, by omega⟩
    show f_X7_partOf_B13 _ (nI a) (nI b) (nI c) (nI (d + 1)) = _
    unfold f_X7_partOf_B13
    by_cases h1 : d = 0
    · subst h1
      rw [if_pos (by decide)]
      have : Nat.gcd a b = 1 := by omega
      rw [this, Nat.div_one]
    · have hle : ¬ nI (d + 1) ≤ 1 := nI_ge (a := 1) (b := d + 1) (by omega) (by omega)
      have hnz : ¬ nI (d + 1) = 0 := by rw [nI_z (by omega)]; omega
      have za := nI_z (n := a % (d + 1)) (by have := Nat.mod_lt a (show 0 < d + 1 by omega); omega)
      have zb := nI_z (n := b % (d + 1)) (by have := Nat.mod_lt b (show 0 < d + 1 by omega); omega)
      rw [if_neg hle, if_pos hnz, nI_mod ha (by omega)]
      have hstep : ¬ (d + 1 = Nat.gcd a b) → f_X7_partOf_L13 n (nI a) (nI b) (nI c) (nI d) = some (nI (c / Nat.gcd a b)) := fun hne => ih (by omega) (by omega) n (by omega)
      by_cases ha0 : a % (d + 1) = 0
      · rw [if_pos (za.mpr ha0), if_pos hnz, nI_mod hb (by omega)]
        by_cases hb0 : b % (d + 1) = 0
        · rw [if_pos (zb.mpr hb0), if_pos hnz, nI_div hc (by omega)]
          have hdv : (d + 1) ∣ Nat.gcd a b := Nat.dvd_gcd (Nat.dvd_of_mod_eq_zero ha0) (Nat.dvd_of_mod_eq_zero hb0)
          have hle2 := Nat.le_of_dvd hg1 hdv
          have he : Nat.gcd a b = d + 1 := by omega
          rw [he]
        · rw [if_neg (fun q => hb0 (zb.mp q))]
          simp only [nmI, nI_m1]
          exact hstep (fun he => hb0 (by rw [he]; exact Nat.mod_eq_zero_of_dvd (Nat.gcd_dvd_right a b)))
      · rw [if_neg (fun q => ha0 (za.mp q))]
        simp only [nmI, nI_m1]
        exact hstep (fun he => ha0 (by rw [he]; exact Nat.mod_eq_zero_of_dvd (Nat.gcd_dvd_left a b)))
theorem partOf_eq {a b : Nat} (x : Int32) (ha : a < 2 ^ 31) (hb : b ≤ 100) (hb1 : 1 ≤ b) : f_X7_partOf (nI a) (nI b) x = some (if x = 0 then nI (a / Nat.gcd a b) else nI (b / Nat.gcd a b)) := by
  have hgb : Nat.gcd a b ≤ b := Nat.gcd_le_right a (by omega)
  have key : ∀ N, 100 < N → ∀ c, c < 2 ^ 31 → f_X7_partOf_L13 N (nI a) (nI b) (nI c) (nI b) = some (nI (c / Nat.gcd a b)) := fun N hN c hc => partOf_L ha (by omega) hb1 hc b hgb (Nat.le_refl _) N (by omega)
  unfold f_X7_partOf
  by_cases h0 : x = 0
  · rw [if_pos h0, if_pos h0]
    exact key 1000 (by decide) a ha
  · rw [if_neg h0, if_neg h0]
    exact key 1000 (by decide) b (by omega)
theorem part_L {a b : Nat} (x2 : Int32) (ha : a < 2 ^ 31) (hb : b < 2 ^ 31) : ∀ (y x : Nat), y < 2 ^ 31 → x < 2 ^ 31 → 0 < Nat.gcd x y → ∀ n, y < n → f_X8_part_L5 n (nI a) (nI b) x2 (nI x) (nI y) = some (Int32.toInt64 (if x2 = 0 then nI (a / Nat.gcd x y) else nI (b / Nat.gcd x y))) := by
  intro y
  induction y using Nat.strongRecOn with
  | _ y ih =>
    intro x hy hx hg n hn
    obtain ⟨n, rfl⟩ : ∃ q, n = q + 1 := ⟨n - 1, by omega⟩
    show f_X8_part_B5 _ (nI a) (nI b) x2 (nI x) (nI y) = _
    unfold f_X8_part_B5
    have zy := nI_z hy
    by_cases h0 : y = 0
    · subst h0
      rw [Nat.gcd_zero_right] at hg ⊢
      have hxz : ¬ nI x = 0 := by rw [nI_z hx]; omega
      rw [if_pos (zy.mpr rfl), if_pos hxz, if_pos hxz, nI_div ha hx, nI_div hb hx]
      by_cases h2 : x2 = 0
      · rw [if_pos h2, if_pos h2]
      · rw [if_neg h2, if_neg h2]
    · have hlt : x % y < y := Nat.mod_lt x (by omega)
      have hge : Nat.gcd y (x % y) = Nat.gcd x y := by
        rw [Nat.gcd_comm x y, Nat.gcd_rec y x, Nat.gcd_comm]
      rw [if_neg (fun q => h0 (zy.mp q)), if_pos (fun q => h0 (zy.mp q)), nI_mod hx hy]
      simp only [nmI]
      rw [ih (x % y) hlt y (by omega) hy (by rw [hge]; exact hg) n (by omega), hge]
theorem part_eq {a b : Nat} (x2 : Int32) (ha : a < 2 ^ 31) (hb : b ≤ 100) (hb1 : 1 ≤ b) : f_X8_part (nI a) (nI b) x2 = some (Int32.toInt64 (if x2 = 0 then nI (a / Nat.gcd a b) else nI (b / Nat.gcd a b))) := by
  have key : ∀ N, 100 < N → f_X8_part_L5 N (nI a) (nI b) x2 (nI a) (nI b) = some (Int32.toInt64 (if x2 = 0 then nI (a / Nat.gcd a b) else nI (b / Nat.gcd a b))) := fun N hN => part_L x2 ha (by omega) b a (by omega) ha (Nat.gcd_pos_of_pos_right a (by omega)) N (by omega)
  exact key 1000 (by decide)
theorem sumN_nI {D : Nat → Int32} (h : ∀ q, 0 ≤ D q ∧ D q ≤ 99) : ∀ T, ∃ a, a ≤ 99 * T ∧ sumN D T = nI a
  | 0 => ⟨0, by omega, rfl⟩
  | T + 1 => by
    obtain ⟨a, h1, h2⟩ := sumN_nI h T
    obtain ⟨b, h3, h4⟩ := i32_range (N := 100) (x := D T) (by decide) (h T).1 (by have := (h T).2; grind)
    refine ⟨a + b, by omega, ?_⟩
    unfold sumN
    rw [h2, h4, nI_add]
theorem Dp_bd {wm : (Nat → Int32) → Int32} {sn : Int32} {σ : Sto} {N p : Nat} (h : 0 ≤ σ.2.1 8 4 0 p ∧ σ.2.1 8 4 0 p ≤ 99) : 0 ≤ Dp wm sn σ N p ∧ Dp wm sn σ N p ≤ 99 := dN_bd h N
theorem mean8 {σ : Sto} {wm : (Nat → Int32) → Int32} {sn : Int32} {k T N a : Nat} (B : MB σ wm sn k T) (hN : N ≤ 60) (hT1 : 1 ≤ T) (x2 : Int32) (ha : a < 1000) (hs : sumN (Dp wm sn σ N) T = nI a) : ∃ s0 τ, f_X8_keep_38 σ = some s0 ∧ f_X8_mean_L40 1000 s0 (nI N) x2 0 = some (Int32.toInt64 (if x2 = 0 then nI (a / Nat.gcd a T) else nI (T / Nat.gcd a T)), τ) ∧ FrE agF amA [] σ τ ∧ (∀ i, i < 105 → snapM τ i = snapM σ i) := by
  obtain ⟨s0, k1, B0, k3, k4, k5, -⟩ := keep_B B
  have hT := B.2.2.1
  have key : ∀ M, 60 < M → ∃ τ, f_X8_mean_L40 M s0 (nI N) x2 0 = some (Int32.toInt64 (if x2 = 0 then nI (a / Nat.gcd a T) else nI (T / Nat.gcd a T)), τ) ∧ FrE agF amA [] σ τ ∧ (∀ i, i < 105 → snapM τ i = snapM σ i) := by
    intro M hM
    obtain ⟨s, g, h⟩ := wl_mean x2 B0 hN N 0 (by omega) M (by omega) s0 Gw_0
    rw [nI_0] at h
    obtain ⟨τ, t1, t2, t3⟩ := again_B (k3.trans (Gw_am g)) (fun i hi => by rw [Gw_ahead g, k5 i hi])
    refine ⟨τ, ?_, t2, t3⟩
    rw [h]
    unfold f_X8_mean_B40
    have hle : nI N ≤ nI N := by grind
    have h99 : τ.1 8 0 0 = nI T := by
      have := t3 99 (by omega)
      rw [snap_things, snap_things] at this
      rw [this, B.2.2.2.1]
    rw [if_pos hle, allDepth_eq (T := T) (by rw [g.1.1 8 0 0 (by decide)]; exact B0.2.2.2.1) hT]
    simp only [Option.bind_some, t1]
    rw [sumN_c T (fun q hq => (Gw_d g hT hq).trans (k4 N q)), hs, h99, part_eq x2 (by omega) (by omega) hT1]
    rfl
  obtain ⟨τ, t1, t2⟩ := key 1000 (by decide)
  exact ⟨s0, τ, k1, t1, t2⟩
theorem mean_step {σ : Sto} (h : Inv σ) (n x : Int32) : ∃ r σ1 σ2, f_X7_mean σ n x = some (r, σ1) ∧ f_X8_mean σ1 n x = some (r, σ2) ∧ Inv σ2 := by
  obtain ⟨wm, sn, k, T, B⟩ := base_of h
  have hT := B.2.2.1
  have hT8 := B.2.2.2.1
  have hT6 := B.2.2.2.2.1
  unfold f_X7_mean f_X8_mean
  simp only [isUpTo_eq, within_eq, Option.bind_some]
  by_cases hn : 0 ≤ n ∧ n ≤ 60
  · by_cases hx : 0 ≤ x ∧ x ≤ 1
    · by_cases h0 : T = 0
      · refine ⟨(-9223372036854775808 : Int64), σ, σ, ?_, ?_, h⟩
        · simp only [hn, hx, and_self, if_true, h10, if_false, hT6, h0, nI_0]
        · simp only [hn, hx, and_self, if_true, h10, if_false, hT8, h0, nI_0]
      · have hz : ¬ nI T = 0 := by rw [nI_z (by omega)]; exact h0
        obtain ⟨N, hN, rfl⟩ := i32_range (N := 61) (by decide) hn.1 (by have := hn.2; grind)
        obtain ⟨σ1, c1, c2⟩ := depthOfAll_eq (N := N) B (by omega) FrE.rfl'
        have hD : ∀ q, Dp wm sn σ1 N q = Dp wm sn σ N q := fun q => Dp_fr c2 (by decide) (by decide) (by decide) (by decide) (by decide) (by decide)
        obtain ⟨a, ha, hsum⟩ : ∃ a, a ≤ 99 * T ∧ sumN (Dp wm sn σ N) T = nI a := by
          have e : sumN (Dp wm sn σ N) T = sumN (fun q => if q < 6 then Dp wm sn σ N q else 0) T := sumN_c T (fun q hq => by rw [if_pos (by omega)])
          rw [e]
          refine sumN_nI (fun q => ?_) T
          split
          · rename_i hq
            exact Dp_bd (B.2.2.2.2.2.2.2 q hq).2.2
          · decide
        obtain ⟨s0, σ2, m0, m1, m2, m3⟩ := mean8 (a := a) (MB_of (Base_ak B c2)) (show N ≤ 60 by omega) (by omega) x (by omega) (by rw [← hsum]; exact sumN_c T (fun q _ => hD q))
        refine ⟨Int32.toInt64 (if x = 0 then nI (a / Nat.gcd a T) else nI (T / Nat.gcd a T)), σ1, σ2, ?_, ?_, ask_step h c2 m2 m3⟩
        · simp only [hn, hx, and_self, if_true, h10, if_false, hT6, hz, c1, Option.bind_some]
          rw [hsum, (Base_f B c2).2.2.1, partOf_eq x (by omega) (by omega) (by omega)]
          rfl
        · simp only [hn, hx, and_self, if_true, h10, if_false, (Base_ak B c2).2.2.2.1, hz, m0, Option.bind_some]
          exact m1
    · exact ⟨(-9223372036854775808 : Int64), σ, σ, by simp only [hn, hx, and_self, if_true, h10, if_false], by simp only [hn, hx, and_self, if_true, h10, if_false], h⟩
  · exact ⟨(-9223372036854775808 : Int64), σ, σ, by simp only [hn, and_self, if_true, h10, if_false], by simp only [hn, and_self, if_true, h10, if_false], h⟩
