-- the tapes alone have changed
theorem Wn_T {σ σ' : Sto} (h : Wn σ) (f : ∀ c k i, c ≠ 3 → σ'.1 c k i = σ.1 c k i) (a : ∀ c k i, ¬ (c = 8 ∧ (k = 40 ∨ k = 41)) → σ'.2.1 c k i = σ.2.1 c k i) : Wn σ' := by
  unfold Wn at *
  rw [f 6 1 (0) (by decide)]
  rw [f 6 2 (0) (by decide)]
  rw [f 6 3 (0) (by decide)]
  rw [f 8 0 (0) (by decide)]
  rw [f 8 6 (0) (by decide)]
  rw [f 8 14 (0) (by decide)]
  rw [f 7 7 (0) (by decide)]
  exact h
theorem Ws_T {σ σ' : Sto} (h : Ws σ) (f : ∀ c k i, c ≠ 3 → σ'.1 c k i = σ.1 c k i) (a : ∀ c k i, ¬ (c = 8 ∧ (k = 40 ∨ k = 41)) → σ'.2.1 c k i = σ.2.1 c k i) : Ws σ' := by
  unfold Ws at *
  rw [f 2 0 (0) (by decide)]
  rw [f 2 4 (0) (by decide)]
  rw [f 8 23 (0) (by decide)]
  rw [a 2 1 (0) (by decide)]
  rw [a 2 2 (0) (by decide)]
  rw [a 2 3 (0) (by decide)]
  rw [a 8 24 (0) (by decide)]
  rw [a 8 25 (0) (by decide)]
  rw [a 8 26 (0) (by decide)]
  exact h
theorem Wp_T {σ σ' : Sto} (h : Wp σ) (f : ∀ c k i, c ≠ 3 → σ'.1 c k i = σ.1 c k i) (a : ∀ c k i, ¬ (c = 8 ∧ (k = 40 ∨ k = 41)) → σ'.2.1 c k i = σ.2.1 c k i) : Wp σ' := by
  unfold Wp at *
  rw [f 2 0 (1) (by decide)]
  rw [f 2 4 (1) (by decide)]
  rw [f 8 27 (0) (by decide)]
  rw [f 8 0 (0) (by decide)]
  rw [a 2 1 (1) (by decide)]
  rw [a 2 2 (1) (by decide)]
  rw [a 8 28 (0) (by decide)]
  rw [a 8 29 (0) (by decide)]
  exact h
theorem Wb_T {σ σ' : Sto} (h : Wb σ) (f : ∀ c k i, c ≠ 3 → σ'.1 c k i = σ.1 c k i) (a : ∀ c k i, ¬ (c = 8 ∧ (k = 40 ∨ k = 41)) → σ'.2.1 c k i = σ.2.1 c k i) : Wb σ' := by
  unfold Wb at *
  rw [f 2 0 (2) (by decide)]
  rw [f 2 4 (2) (by decide)]
  rw [f 8 30 (0) (by decide)]
  rw [f 8 0 (0) (by decide)]
  rw [a 2 1 (2) (by decide)]
  rw [a 2 2 (2) (by decide)]
  rw [a 8 31 (0) (by decide)]
  rw [a 8 32 (0) (by decide)]
  exact h
theorem I_tx_T {σ σ' : Sto} (h : I_tx σ) (f : ∀ c k i, c ≠ 3 → σ'.1 c k i = σ.1 c k i) (a : ∀ c k i, ¬ (c = 8 ∧ (k = 40 ∨ k = 41)) → σ'.2.1 c k i = σ.2.1 c k i) : I_tx σ' := by
  unfold I_tx at *
  rw [f 4 1 (0) (by decide)]
  rw [f 8 7 (0) (by decide)]
  rw [a 4 0 (0) (by decide)]
  rw [a 8 8 (0) (by decide)]
  exact h
theorem I_ac_T {σ σ' : Sto} (h : I_ac σ) (f : ∀ c k i, c ≠ 3 → σ'.1 c k i = σ.1 c k i) (a : ∀ c k i, ¬ (c = 8 ∧ (k = 40 ∨ k = 41)) → σ'.2.1 c k i = σ.2.1 c k i) : I_ac σ' := by
  unfold I_ac at *
  rw [f 0 1 (0) (by decide)]
  rw [f 8 33 (0) (by decide)]
  rw [a 0 0 (0) (by decide)]
  rw [a 8 34 (0) (by decide)]
  exact h
theorem Pc_T {σ σ' : Sto} (h : Pc σ) (f : ∀ c k i, c ≠ 3 → σ'.1 c k i = σ.1 c k i) (a : ∀ c k i, ¬ (c = 8 ∧ (k = 40 ∨ k = 41)) → σ'.2.1 c k i = σ.2.1 c k i) : Pc σ' := by
  unfold Pc at *
  rw [f 7 7 (0) (by decide)]
  rw [f 8 13 (0) (by decide)]
  rw [f 8 21 (0) (by decide)]
  exact h
theorem Wt_T {σ σ' : Sto} (h : Wt σ) (f : ∀ c k i, c ≠ 3 → σ'.1 c k i = σ.1 c k i) (a : ∀ c k i, ¬ (c = 8 ∧ (k = 40 ∨ k = 41)) → σ'.2.1 c k i = σ.2.1 c k i) : Wt σ' := by
  intro p hp
  have g := grp5a hp
  rw [f 5 0 (p) (by decide), f 5 1 (p) (by decide), f 5 2 (p) (by decide), f 5 3 (p) (by decide), f 5 4 (p) (by decide), a 5 5 (p) (by decide), a 8 1 (0) (by decide), a 8 2 (0) (by decide), a 8 3 (0) (by decide), a 8 4 (0) (by decide), a 8 5 (0) (by decide)]
  exact h p hp
theorem RW1_T {σ σ' : Sto} {s : Nat → Int32} (h : RW σ 1 s) (f : ∀ c k i, c ≠ 3 → σ'.1 c k i = σ.1 c k i) (a : ∀ c k i, ¬ (c = 8 ∧ (k = 40 ∨ k = 41)) → σ'.2.1 c k i = σ.2.1 c k i) : RW σ' 1 s := by
  obtain ⟨h1, h2, h3, h4, h5⟩ := h
  refine ⟨?_, ?_, ?_, ?_, ?_⟩
  · intro p hp
    have g : grp 5 (6 * 1 + p) = 1 := grp5b hp
    rw [f 5 0 (6 * 1 + p) (by decide), f 5 1 (6 * 1 + p) (by decide), f 5 2 (6 * 1 + p) (by decide), f 5 3 (6 * 1 + p) (by decide), f 5 4 (6 * 1 + p) (by decide), a 5 5 (6 * 1 + p) (by decide)]
    exact h1 p hp
  · unfold RWn at *
    rw [f 6 1 (1) (by decide), f 6 2 (1) (by decide), f 6 3 (1) (by decide), f 7 7 (0) (by decide)]
    exact h2
  · unfold RWs at *
    rw [f 2 0 (3 * 1) (by decide), f 2 4 (3 * 1) (by decide), a 2 1 (3 * 1) (by decide), a 2 2 (3 * 1) (by decide), a 2 3 (3 * 1) (by decide)]
    exact h3
  · unfold RWp at *
    rw [f 2 0 (3 * 1 + 1) (by decide), f 2 4 (3 * 1 + 1) (by decide), a 2 1 (3 * 1 + 1) (by decide), a 2 2 (3 * 1 + 1) (by decide)]
    exact h4
  · unfold RWb at *
    rw [f 2 0 (3 * 1 + 2) (by decide), f 2 4 (3 * 1 + 2) (by decide), a 2 1 (3 * 1 + 2) (by decide), a 2 2 (3 * 1 + 2) (by decide)]
    exact h5
theorem Im_T {σ σ' : Sto} (h : Im σ) (f : ∀ c k i, c ≠ 3 → σ'.1 c k i = σ.1 c k i) (a : ∀ c k i, ¬ (c = 8 ∧ (k = 40 ∨ k = 41)) → σ'.2.1 c k i = σ.2.1 c k i) : Im σ' := by
  unfold Im at *
  rw [f 7 2 (0) (by decide), f 8 35 (0) (by decide), a 8 36 (0) (by decide)]
  rw [f 2 0 3 (by decide), f 2 0 4 (by decide), f 2 0 5 (by decide)]
  refine ⟨h.1, ?_, h.2.2⟩
  rcases h.2.1 with h2 | h2
  · exact Or.inl h2
  · exact Or.inr ⟨h2.1, RW1_T h2.2 f a⟩
theorem RP_T {σ σ' : Sto} {k : Nat} (h : RP σ k) (f : ∀ c k i, c ≠ 3 → σ'.1 c k i = σ.1 c k i) (a : ∀ c k i, ¬ (c = 8 ∧ (k = 40 ∨ k = 41)) → σ'.2.1 c k i = σ.2.1 c k i) : RP σ' k := by
  unfold RP at *
  rw [f 1 3 (k) (by decide), f 1 4 (k) (by decide), f 8 21 (0) (by decide), a 1 0 (k) (by decide), a 1 1 (k) (by decide), a 1 2 (k) (by decide)]
  rw [a 8 15 (0) (by decide), a 8 16 (0) (by decide), a 8 17 (0) (by decide), a 8 18 (0) (by decide), a 8 19 (0) (by decide), a 8 20 (0) (by decide)]
  exact h
theorem Ps_T {σ σ' : Sto} (h : Ps σ) (f : ∀ c k i, c ≠ 3 → σ'.1 c k i = σ.1 c k i) (a : ∀ c k i, ¬ (c = 8 ∧ (k = 40 ∨ k = 41)) → σ'.2.1 c k i = σ.2.1 c k i) : Ps σ' := by
  refine ⟨?_, fun k hk => ?_⟩
  · rw [f 1 3 (6) (by decide), f 1 4 (6) (by decide)]
    exact h.1
  · rw [f 8 13 (0) (by decide)] at hk
    exact RP_T (h.2 k hk) f a
theorem Inv_T {σ τ : Sto} (h : Inv σ) (t : I_tp τ) (e : eqT σ τ) : Inv τ := by
  obtain ⟨⟨h1, h2, h3, h4, h5⟩, i1, i2, i3, i4, i5, i6⟩ := h
  obtain ⟨f, a, -⟩ := e
  exact ⟨⟨Wt_T h1 f a, Wn_T h2 f a, Ws_T h3 f a, Wp_T h4 f a, Wb_T h5 f a⟩, I_tx_T i1 f a, I_ac_T i2 f a, t, Im_T i4 f a, Pc_T i5 f a, Ps_T i6 f a⟩
theorem tape_Q {σ : Sto} (h : Inv σ) (t s l : Int32) : ∃ r σ1 σ2, f_X7_tape σ t s l = some (r, σ1) ∧ f_X8_tape σ1 t s l = some (r, σ2) ∧ Inv σ2 := by
  obtain ⟨r, σ1, σ2, h1, h2, h3, h4⟩ := tape_step h.2.2.2.1 t s l
  exact ⟨r, σ1, σ2, h1, h2, Inv_T h h3 h4⟩
theorem item_Q {σ : Sto} (h : Inv σ) (t i : Int32) (v : Int64) : ∃ r σ1 σ2, f_X7_item σ t i v = some (r, σ1) ∧ f_X8_item σ1 t i v = some (r, σ2) ∧ Inv σ2 := by
  obtain ⟨r, σ1, σ2, h1, h2, h3, h4⟩ := item_step h.2.2.2.1 t i v
  exact ⟨r, σ1, σ2, h1, h2, Inv_T h h3 h4⟩
theorem count_Q {σ : Sto} (h : Inv σ) (x : Int32) : ∃ r, f_X7_count σ x = some r ∧ f_X8_count σ x = some r := by
  obtain ⟨w, i1, i2, i3, i4, i5, i6⟩ := h
  obtain ⟨h1, h2, h3, h4, h5⟩ := W0_of.mpr w
  exact count_eq h2 h3 h4 h5 i1 i2 i5.1
theorem taken_Q {σ : Sto} (h : Inv σ) (x y : Int32) : ∃ r, f_X7_taken σ x y = some r ∧ f_X8_taken σ x y = some r := by
  obtain ⟨h1, h2, -⟩ := W0_of.mpr h.1
  exact taken_eq h1 h2 x y
theorem looked_Q {σ : Sto} (h : Inv σ) : ∃ r, f_X7_looked σ = some r ∧ f_X8_looked σ = some r := by
  obtain ⟨h1, h2, h3, h4, h5⟩ := W0_of.mpr h.1
  exact looked_eq h1 h2 h5
theorem trace_Q {σ : Sto} (h : Inv σ) (x : Int32) : ∃ r, f_X7_trace σ x = some r ∧ f_X8_trace σ x = some r := trace_eq h.2.2.1 x
theorem read_Q {σ : Sto} (h : Inv σ) (x y : Int32) : ∃ r, f_X7_read σ x y = some r ∧ f_X8_read σ x y = some r := read_eq h.2.2.2.1 x y
-- JUDGED
theorem nI_lc {a b c : Nat} (ha : a < 2 ^ 31) (hb : b < 2 ^ 31) (hc : c < 2 ^ 31) : (lg_cmp (Int32.toInt64 (nI a) + Int32.toInt64 (nI b)) (Int32.toInt64 (nI c)) < 0 ↔ a + b < c) ∧ (0 < lg_cmp (Int32.toInt64 (nI a) + Int32.toInt64 (nI b)) (Int32.toInt64 (nI c)) ↔ c < a + b) ∧ (lg_cmp (Int32.toInt64 (nI a) + Int32.toInt64 (nI b)) (Int32.toInt64 (nI c)) ≤ 0 ↔ a + b ≤ c) := by
  have e1 : (lN (a + b)).toInt = ((a + b : Nat) : Int) := lg_ofNat_toInt (by omega)
  have e2 : (lN c).toInt = (c : Int) := lg_ofNat_toInt (by omega)
  rw [lg_cmp_lt, lg_cmp_gt, lg_cmp_le, nI_l ha, nI_l hb, nI_l hc, lN_add, Int64.lt_iff_toInt_lt, Int64.lt_iff_toInt_lt, Int64.le_iff_toInt_le, e1, e2]
  omega
theorem judge_L {σ : Sto} {t T : Nat} {x : Int32} (h : Inv σ) (ht : t < 6) (hT : T ≤ 6) (hT8 : σ.1 8 0 0 = nI T) (hT6 : σ.1 6 1 0 = nI T) (hx : 0 ≤ x) : ∀ (d j : Nat), j + d = T → ∀ n m, d < n → d < m → ∃ r, f_X7_judge_L38 σ n x t (nI j) = some r ∧ f_X8_judge_L35 σ m (nI t) x (nI j) = some r := by
  obtain ⟨⟨p1, p2, p3⟩, ⟨p4, p5, p6⟩, p7, p8⟩ := h.2.2.2.1 t ht
  intro d
  induction d with
  | zero =>
    intro j hj n m hn hm
    obtain ⟨n, rfl⟩ : ∃ q, n = q + 1 := ⟨n - 1, by omega⟩
    obtain ⟨m, rfl⟩ : ∃ q, m = q + 1 := ⟨m - 1, by omega⟩
    have hle : nI T ≤ nI j := by rw [show j = T by omega]; grind
    refine ⟨-5, ?_, ?_⟩
    · show f_X7_judge_B38 σ _ x t (nI j) = _
      unfold f_X7_judge_B38
      rw [hT6, if_pos hle]
    · show f_X8_judge_B35 σ _ (nI t) x (nI j) = _
      unfold f_X8_judge_B35
      rw [hT8, if_pos hle]
  | succ d ih =>
    intro j hj n m hn hm
    obtain ⟨n, rfl⟩ : ∃ q, n = q + 1 := ⟨n - 1, by omega⟩
    obtain ⟨m, rfl⟩ : ∃ q, m = q + 1 := ⟨m - 1, by omega⟩
    obtain ⟨r, r1, r2⟩ := ih (j + 1) (by omega) n m (by omega) (by omega)
    have hnl : ¬ nI T ≤ nI j := nI_ge (by omega) (by omega)
    have b1 : (0 : Int32) ≤ nI t ∧ nI t < 6 := nI_r (N := 6) ht (by decide)
    have b2 : (0 : Int32) ≤ nI j ∧ nI j < 6 := nI_r (N := 6) (by omega) (by decide)
    have b3 : (nI t).toNatClampNeg = t := nI_clamp (by omega)
    have b4 : (nI j).toNatClampNeg = j := nI_clamp (by omega)
    obtain ⟨L, hL, hLe⟩ := i32_range (N := 61) (x := σ.2.1 8 41 0 t) (by decide) p5 (by grind)
    rw [hLe] at p4
    have e1 : f_X7_judge_L38 σ (n + 1) x t (nI j) = f_X7_judge_B38 σ (f_X7_judge_L38 σ n) x t (nI j) := rfl
    have e2 : f_X8_judge_L35 σ (m + 1) (nI t) x (nI j) = f_X8_judge_B35 σ (f_X8_judge_L35 σ m) (nI t) x (nI j) := rfl
    have hxn : ¬ x < 0 := by grind
    obtain ⟨xi, hxi, hxe⟩ := nI_of hxn
    obtain ⟨l1, -, -⟩ := nI_lc (a := xi) (b := j) (c := L) hxi (by omega) (by omega)
    rw [e1, e2]
    unfold f_X7_judge_B38 f_X8_judge_B35
    simp only [hT6, hT8, hnl, if_false, nmI, hasPlace_eq, Option.bind_some, p4, b1, b2, and_self, if_true, b3, b4, hLe, hxn]
    have hLb := nI_r (s := L) (N := 61) (by omega) (by decide)
    by_cases hin : xi + j < L
    · have hsum : x + nI j = nI (xi + j) := by rw [hxe, nI_add]
      have c1 : (0 : Int32) ≤ nI (xi + j) ∧ nI (xi + j) < nI L ∧ nI (xi + j) < 60 := ⟨nI_n0 (by omega), nI_lt hin (by omega), nI_lt (a := xi + j) (b := 60) (by omega) (by decide)⟩
      have c2 : (0 : Int32) ≤ nI (xi + j) ∧ nI (xi + j) < 60 := ⟨c1.1, c1.2.2⟩
      have hs : ¬ σ.2.1 8 40 0 t = -1 := by
        intro hs
        have := p7 hs
        rw [hLe] at this
        have := (nI_z (by omega)).mp this
        omega
      have hidx : ((60 : Int32) * nI t + x) + nI j = nI (60 * t + (xi + j)) := by
        rw [hxe, show (60 : Int32) = nI 60 from rfl, nI_mulN, nI_add, nI_add]
        congr 1
        omega
      have c3 : (0 : Int32) ≤ nI (60 * t + (xi + j)) ∧ nI (60 * t + (xi + j)) < 360 := nI_r (N := 360) (by omega) (by decide)
      have hlt : lg_cmp (Int32.toInt64 x + Int32.toInt64 (nI j)) (Int32.toInt64 (nI L)) < 0 := by rw [hxe]; exact l1.mpr hin
      obtain ⟨-, -, -, -, ⟨d1, -⟩, -⟩ := h.1.1 j (by omega)
      have hp8 := p8 (xi + j) (by omega)
      simp only [hsum, c1, c2, and_self, if_true, h10, if_false, nI_clamp (show xi + j < 2 ^ 31 by omega), Nat.mul_zero, Nat.zero_add, d1, hs, hlt, hidx, c3, nI_clamp (show 60 * t + (xi + j) < 2 ^ 31 by omega), hp8, nI_1]
      by_cases hq : lg_cmp (σ.2.2.1 8 42 0 (60 * t + (xi + j))) (Int32.toInt64 (σ.2.1 8 4 0 j)) = 0
      · exact ⟨r, by rw [if_pos hq, r1], by rw [if_pos hq, r2]⟩
      · exact ⟨nI j, by rw [if_neg hq], by rw [if_neg hq]⟩
    · have hno : ¬ (0 ≤ x + nI j ∧ x + nI j < nI L ∧ x + nI j < 60) := by
        by_cases hx100 : x < 100
        · have hx1 : xi < 100 := by
            rw [hxe] at hx100
            exact (nI_ltI (a := xi) (b := 100) hxi (by decide)).mp hx100
          rw [hxe, nI_add]
          intro hh
          exact hin ((nI_ltI (by omega) (by omega)).mp hh.2.1)
        · have hj6 : nI j < 6 := b2.2
          have hj0 := b2.1
          intro hh
          have h1 := hh.1
          have h2 := hh.2.2
          grind
      have hlt : ¬ lg_cmp (Int32.toInt64 x + Int32.toInt64 (nI j)) (Int32.toInt64 (nI L)) < 0 := by rw [hxe]; exact fun q => hin (l1.mp q)
      refine ⟨100 + nI j, by rw [if_neg hno, if_pos rfl], ?_⟩
      by_cases hs : σ.2.1 8 40 0 t = -1
      · rw [if_pos hs]
      · rw [if_neg hs, if_neg hlt]
theorem judge_neg {σ : Sto} {t T : Nat} {x : Int32} (h : Inv σ) (ht : t < 6) (hT : T ≤ 6) (hT8 : σ.1 8 0 0 = nI T) (hT6 : σ.1 6 1 0 = nI T) (hx : x < 0) (n m : Nat) : ∃ r, f_X7_judge_L38 σ (n + 1) x t 0 = some r ∧ f_X8_judge_L35 σ (m + 1) (nI t) x 0 = some r := by
  have e1 : f_X7_judge_L38 σ (n + 1) x t 0 = f_X7_judge_B38 σ (f_X7_judge_L38 σ n) x t 0 := rfl
  have e2 : f_X8_judge_L35 σ (m + 1) (nI t) x 0 = f_X8_judge_B35 σ (f_X8_judge_L35 σ m) (nI t) x 0 := rfl
  have b1 : (0 : Int32) ≤ nI t ∧ nI t < 6 := nI_r (N := 6) ht (by decide)
  rw [e1, e2]
  unfold f_X7_judge_B38 f_X8_judge_B35
  rw [hT6, hT8]
  by_cases h0 : nI T ≤ 0
  · exact ⟨-5, by rw [if_pos h0], by rw [if_pos h0]⟩
  · refine ⟨100 + 0, ?_, ?_⟩
    · have hno : ¬ (0 ≤ x + 0 ∧ x + 0 < σ.1 3 2 t ∧ x + 0 < 60) := by intro hh; have := hh.1; grind
      rw [if_neg h0]
      simp only [nmI, hasPlace_eq, Option.bind_some]
      rw [if_neg hno, if_pos rfl]
    · rw [if_neg h0, if_pos b1]
      by_cases hs : σ.2.1 8 40 0 (nI t).toNatClampNeg = -1
      · rw [if_pos hs]
      · rw [if_neg hs, if_pos hx]
theorem judge_Q {σ : Sto} (h : Inv σ) (t x : Int32) : ∃ r, f_X7_judge σ t x = some r ∧ f_X8_judge σ t x = some r := by
  obtain ⟨wm, sn, k, T, B⟩ := base_of h
  have hT := B.2.2.1
  have hT8 := B.2.2.2.1
  have hT6 := B.2.2.2.2.1
  unfold f_X7_judge f_X8_judge
  rw [isTape_eq, within_eq]
  by_cases ht : 0 ≤ t ∧ t ≤ 5
  · obtain ⟨n, hn, rfl⟩ := i32_range (N := 6) (by decide) ht.1 (by have := ht.2; grind)
    have b1 : (0 : Int32) ≤ nI n ∧ nI n < 6 := nI_r (N := 6) hn (by decide)
    have b3 : (nI n).toNatClampNeg = n := nI_clamp (by omega)
    obtain ⟨r, r1, r2⟩ := (fun (key : ∀ M, 10 < M → ∃ r, f_X7_judge_L38 σ M x n 0 = some r ∧ f_X8_judge_L35 σ M (nI n) x 0 = some r) => key 1000 (by decide)) (fun M hM => by
      by_cases hx : 0 ≤ x
      · have g := judge_L h hn hT hT8 hT6 hx T 0 (by omega) M M (by omega) (by omega)
        rw [nI_0] at g
        exact g
      · obtain ⟨q, rfl⟩ : ∃ q, M = q + 1 := ⟨M - 1, by omega⟩
        exact judge_neg h hn hT hT8 hT6 (by grind) q q)
    obtain ⟨⟨p1, p2, p3⟩, -⟩ := h.2.2.2.1 n hn
    rw [if_pos ht]
    simp only [Option.bind_some, h10, if_false, b1, and_self, if_true, b3, p1]
    by_cases s1 : σ.2.1 8 40 0 n = -1
    · exact ⟨r, by rw [if_pos s1, r1], by rw [if_pos s1, r2]⟩
    · by_cases s2 : σ.2.1 8 40 0 n = 0
      · exact ⟨r, by rw [if_neg s1, if_pos s2, r1], by rw [if_neg s1, if_pos s2, r2]⟩
      · exact ⟨-12, by rw [if_neg s1, if_neg s2], by rw [if_neg s1, if_neg s2]⟩
  · rw [if_neg ht]
    exact ⟨-1, rfl, rfl⟩
-- shift
theorem places_eq (σ : Sto) (t : Nat) (i n : Int32) : f_X3_hasPlaces σ t i n = some (if 0 ≤ i ∧ 0 ≤ n ∧ n ≤ σ.1 3 2 t ∧ i ≤ σ.1 3 2 t - n then 1 else 0) := by
  unfold f_X3_hasPlaces
  by_cases h1 : i < 0
  · rw [if_pos h1, if_neg (by intro hh; have := hh.1; grind)]
  · rw [if_neg h1]
    by_cases h2 : n < 0
    · rw [if_pos h2, if_neg (by intro hh; have := hh.2.1; grind)]
    · rw [if_neg h2]
      by_cases h3 : σ.1 3 2 t < n
      · rw [if_pos h3, if_neg (by intro hh; have := hh.2.2.1; grind)]
      · rw [if_neg h3]
        by_cases h4 : σ.1 3 2 t - n < i
        · rw [if_pos h4, if_neg (by intro hh; have := hh.2.2.2; grind)]
        · rw [if_neg h4, if_pos ⟨by grind, by grind, by grind, by grind⟩]
theorem sL_at (σ : Sto) (c k i : Nat) (f : Nat → Int64) : (sL σ c k i f).2.2.1 c k i = f := by simp [sL3]
theorem lupd (f : Nat → Int64) (k j : Nat) (x : Int64) : vp_updL f k x j = if j = k then x else f j := rfl
theorem sh_ix {t a k : Nat} (ht : t < 6) (hak : a + k < 60) : ((60 : Int32) * nI t + nI a) + nI k = nI (60 * t + a + k) ∧ ((0 : Int32) ≤ nI (60 * t + a + k) ∧ nI (60 * t + a + k) < 360) ∧ (nI (60 * t + a + k)).toNatClampNeg = 60 * t + a + k := by
  refine ⟨?_, nI_r (N := 360) (by omega) (by decide), nI_clamp (by omega)⟩
  rw [show (60 : Int32) = nI 60 from rfl, nI_mulN, nI_add, nI_add]
theorem up_L {s0 : Sto} {t i o j n : Nat} (ht : t < 6) (ho : o < 6) (hi : i + n ≤ 60) (hj : j + n ≤ 60) (hov : t ≠ o ∨ j ≤ i) : ∀ (d k : Nat), k + d = n → ∀ N, d < N → ∀ s, s = sL s0 8 42 0 (fun q => if 60 * o + j ≤ q ∧ q < 60 * o + j + k then s0.2.2.1 8 42 0 (60 * t + i + (q - (60 * o + j))) else s0.2.2.1 8 42 0 q) → f_X8_shift_L170 N s (nI t) (nI i) (nI o) (nI j) (nI n) (nI k) = some (nI n, sL s0 8 42 0 (fun q => if 60 * o + j ≤ q ∧ q < 60 * o + j + n then s0.2.2.1 8 42 0 (60 * t + i + (q - (60 * o + j))) else s0.2.2.1 8 42 0 q)) := by
  intro d
  induction d with
  | zero =>
    intro k hk N hN s hs
    obtain ⟨N, rfl⟩ : ∃ q, N = q + 1 := ⟨N - 1, by omega⟩
    have hk2 : k = n := by omega
    subst hk2
    show f_X8_shift_B170 _ s _ _ _ _ _ _ = _
    unfold f_X8_shift_B170
    rw [if_pos (by grind), hs]
  | succ d ih =>
    intro k hk N hN s hs
    obtain ⟨N, rfl⟩ : ∃ q, N = q + 1 := ⟨N - 1, by omega⟩
    obtain ⟨g1, g2, g3⟩ := sh_ix ht (show i + k < 60 by omega)
    obtain ⟨k1, k2, k3⟩ := sh_ix ho (show j + k < 60 by omega)
    show f_X8_shift_B170 _ s _ _ _ _ _ _ = _
    unfold f_X8_shift_B170
    rw [if_neg (nI_ge (by omega) (by omega)), g1, if_pos g2, k1, if_pos k2, g3, k3]
    simp only [nm, nmI, nI_1]
    apply ih (k + 1) (by omega) N (by omega)
    rw [hs, sL_at, sL_sL]
    congr 1
    funext q
    rw [lupd]
    by_cases hq : q = 60 * o + j + k
    · subst hq
      rw [if_pos rfl, if_neg (by omega), if_pos (by omega), show 60 * o + j + k - (60 * o + j) = k by omega]
    · rw [if_neg hq]
      by_cases h2 : 60 * o + j ≤ q ∧ q < 60 * o + j + k
      · rw [if_pos h2, if_pos (by omega)]
      · rw [if_neg h2, if_neg (by omega)]
theorem down_L {s0 : Sto} {t i o j n : Nat} (ht : t < 6) (ho : o < 6) (hi : i + n ≤ 60) (hj : j + n ≤ 60) (hov : t = o ∧ i < j) : ∀ (k : Nat), k ≤ n → ∀ N, k < N → ∀ s, s = sL s0 8 42 0 (fun q => if 60 * o + j + k ≤ q ∧ q < 60 * o + j + n then s0.2.2.1 8 42 0 (60 * t + i + (q - (60 * o + j))) else s0.2.2.1 8 42 0 q) → f_X8_shift_L124 N s (nI t) (nI i) (nI o) (nI j) (nI n) (nI k + (-1 : Int32)) = some (nI n, sL s0 8 42 0 (fun q => if 60 * o + j ≤ q ∧ q < 60 * o + j + n then s0.2.2.1 8 42 0 (60 * t + i + (q - (60 * o + j))) else s0.2.2.1 8 42 0 q)) := by
  intro k
  induction k with
  | zero =>
    intro hk N hN s hs
    obtain ⟨N, rfl⟩ : ∃ q, N = q + 1 := ⟨N - 1, by omega⟩
    show f_X8_shift_B124 _ s _ _ _ _ _ _ = _
    unfold f_X8_shift_B124
    rw [if_pos (by decide), hs]
    simp only [Nat.add_zero]
  | succ k ih =>
    intro hk N hN s hs
    obtain ⟨N, rfl⟩ : ∃ q, N = q + 1 := ⟨N - 1, by omega⟩
    obtain ⟨g1, g2, g3⟩ := sh_ix ht (show i + k < 60 by omega)
    obtain ⟨k1, k2, k3⟩ := sh_ix ho (show j + k < 60 by omega)
    rw [nI_m1]
    show f_X8_shift_B124 _ s _ _ _ _ _ _ = _
    unfold f_X8_shift_B124
    rw [if_neg (nI_pos (by omega)), g1, if_pos g2, k1, if_pos k2, g3, k3]
    simp only [nm, nmI]
    apply ih (by omega) N (by omega)
    rw [hs, sL_at, sL_sL]
    congr 1
    funext q
    rw [lupd]
    by_cases hq : q = 60 * o + j + k
    · subst hq
      rw [if_pos rfl, if_neg (by omega), if_pos (by omega), show 60 * o + j + k - (60 * o + j) = k by omega]
    · rw [if_neg hq]
      by_cases h2 : 60 * o + j + (k + 1) ≤ q ∧ q < 60 * o + j + n
      · rw [if_pos h2, if_pos (by omega)]
      · rw [if_neg h2, if_neg (by omega)]
theorem shift_N (M : Nat) (hM : 70 < M) {s0 : Sto} {t i o j n : Nat} (ht : t < 6) (ho : o < 6) (hi : i + n ≤ 60) (hj : j + n ≤ 60) : (if nI t = nI o then (if nI j ≤ nI i then f_X8_shift_L170 M s0 (nI t) (nI i) (nI o) (nI j) (nI n) 0 else nmI (nI n - 1) fun v34 => f_X8_shift_L124 M s0 (nI t) (nI i) (nI o) (nI j) (nI n) v34) else f_X8_shift_L170 M s0 (nI t) (nI i) (nI o) (nI j) (nI n) 0) = some (nI n, sL s0 8 42 0 (fun q => if 60 * o + j ≤ q ∧ q < 60 * o + j + n then s0.2.2.1 8 42 0 (60 * t + i + (q - (60 * o + j))) else s0.2.2.1 8 42 0 q)) := by
  have hup : t ≠ o ∨ j ≤ i → f_X8_shift_L170 M s0 (nI t) (nI i) (nI o) (nI j) (nI n) 0 = some (nI n, sL s0 8 42 0 (fun q => if 60 * o + j ≤ q ∧ q < 60 * o + j + n then s0.2.2.1 8 42 0 (60 * t + i + (q - (60 * o + j))) else s0.2.2.1 8 42 0 q)) := by
    intro hov
    have g := up_L (s0 := s0) ht ho hi hj hov n 0 (by omega) M (by omega) s0 (by
      rw [sL_id]
      funext q
      rw [if_neg (by omega)])
    rw [nI_0] at g
    exact g
  by_cases e1 : nI t = nI o
  · have hto := (nI_eq (by omega) (by omega)).mp e1
    rw [if_pos e1]
    by_cases e2 : nI j ≤ nI i
    · rw [if_pos e2]
      exact hup (Or.inr ((nI_leI (by omega) (by omega)).mp e2))
    · rw [if_neg e2]
      have hij : i < j := by
        have := not_congr (nI_leI (a := j) (b := i) (by omega) (by omega))
        have := this.mp e2
        omega
      have g := down_L (s0 := s0) ht ho hi hj ⟨hto, hij⟩ n (Nat.le_refl _) M (by omega) s0 (by
        rw [sL_id]
        funext q
        rw [if_neg (by omega)])
      have hm : nI n - 1 = nI n + (-1 : Int32) := by grind
      simp only [nmI]
      rw [hm]
      exact g
  · rw [if_neg e1]
    exact hup (Or.inl (fun q => e1 (by rw [q])))
theorem shift_step {σ : Sto} (h : Inv σ) (t i o j n : Int32) : ∃ r σ1 σ2, f_X7_shift σ t i o j n = some (r, σ1) ∧ f_X8_shift σ1 t i o j n = some (r, σ2) ∧ Inv σ2 := by
  unfold f_X7_shift
  simp only [isTape_eq, Option.bind_some]
  by_cases ht : 0 ≤ t ∧ t ≤ 5
  · by_cases ho : 0 ≤ o ∧ o ≤ 5
    · obtain ⟨tn, htn, rfl⟩ := i32_range (N := 6) (by decide) ht.1 (by have := ht.2; grind)
      obtain ⟨on, hon, rfl⟩ := i32_range (N := 6) (by decide) ho.1 (by have := ho.2; grind)
      have b1 : (0 : Int32) ≤ nI tn ∧ nI tn < 6 := nI_r (N := 6) htn (by decide)
      have b2 : (0 : Int32) ≤ nI on ∧ nI on < 6 := nI_r (N := 6) hon (by decide)
      have b3 : (nI tn).toNatClampNeg = tn := nI_clamp (by omega)
      have b4 : (nI on).toNatClampNeg = on := nI_clamp (by omega)
      have hI := h.2.2.2.1
      obtain ⟨⟨p1, p2, p3⟩, ⟨p4, p5, p6⟩, p7, p8⟩ := hI tn htn
      obtain ⟨⟨q1, q2, q3⟩, ⟨q4, q5, q6⟩, q7, q8⟩ := hI on hon
      by_cases s1 : σ.2.1 8 40 0 tn = -1
      · refine ⟨-11, σ, σ, by simp only [ht, ho, b1, b2, b3, b4, and_self, if_true, h10, if_false, p1, s1], ?_, h⟩
        unfold f_X8_shift
        simp only [isTape8_eq, Option.bind_some, ht, ho, b1, b2, b3, b4, and_self, if_true, h10, if_false, s1, show (-1 : Int32) < 0 by decide]
      · have s1' : ¬ σ.2.1 8 40 0 tn < 0 := by grind
        by_cases s2 : σ.2.1 8 40 0 on = -1
        · refine ⟨-11, σ, σ, by simp only [ht, ho, b1, b2, b3, b4, and_self, if_true, h10, if_false, p1, q1, s1, s2], ?_, h⟩
          unfold f_X8_shift
          simp only [isTape8_eq, Option.bind_some, ht, ho, b1, b2, b3, b4, and_self, if_true, h10, if_false, s1', s2, show ¬ (0 : Int32) ≤ -1 by decide]
        · have s2' : 0 ≤ σ.2.1 8 40 0 on := by grind
          by_cases s3 : σ.2.1 8 40 0 tn = σ.2.1 8 40 0 on
          · by_cases hpl : (0 ≤ n ∧ 0 ≤ i ∧ 0 ≤ j) ∧ (n ≤ σ.2.1 8 41 0 tn ∧ i ≤ σ.2.1 8 41 0 tn - n) ∧ (n ≤ σ.2.1 8 41 0 on ∧ j ≤ σ.2.1 8 41 0 on - n)
            · obtain ⟨⟨k1, k2, k3⟩, ⟨k4, k5⟩, k6, k7⟩ := hpl
              obtain ⟨L1, hL1, hL1e⟩ := i32_range (N := 61) (x := σ.2.1 8 41 0 tn) (by decide) p5 (by grind)
              obtain ⟨L2, hL2, hL2e⟩ := i32_range (N := 61) (x := σ.2.1 8 41 0 on) (by decide) q5 (by grind)
              rw [hL1e] at k4 k5
              rw [hL2e] at k6 k7
              have hL1b := nI_r (s := L1) (N := 61) hL1 (by decide)
              have hL1c : nI L1 < 61 := hL1b.2
              have hL2b := nI_r (s := L2) (N := 61) hL2 (by decide)
              have hL2c : nI L2 < 61 := hL2b.2
              obtain ⟨nn, hnn, rfl⟩ := i32_range (x := n) (N := 61) (by decide) k1 (by grind)
              have hnL1 : nn ≤ L1 := (nI_leI (by omega) (by omega)).mp k4
              have hnL2 : nn ≤ L2 := (nI_leI (by omega) (by omega)).mp k6
              rw [nI_sub hnL1] at k5
              rw [nI_sub hnL2] at k7
              have hd1 := nI_r (s := L1 - nn) (N := 61) (by omega) (by decide)
              have hd1c : nI (L1 - nn) < 61 := hd1.2
              have hd2 := nI_r (s := L2 - nn) (N := 61) (by omega) (by decide)
              have hd2c : nI (L2 - nn) < 61 := hd2.2
              obtain ⟨ii, hii, rfl⟩ := i32_range (x := i) (N := 61) (by decide) k2 (by grind)
              obtain ⟨jj, hjj, rfl⟩ := i32_range (x := j) (N := 61) (by decide) k3 (by grind)
              have hi1 : ii ≤ L1 - nn := (nI_leI (by omega) (by omega)).mp k5
              have hj1 : jj ≤ L2 - nn := (nI_leI (by omega) (by omega)).mp k7
              have hcp1 : 0 ≤ nI ii ∧ 0 ≤ nI nn ∧ nI nn ≤ σ.1 3 2 tn ∧ nI ii ≤ σ.1 3 2 tn - nI nn := by
                rw [p4, hL1e, nI_sub hnL1]; exact ⟨k2, k1, k4, k5⟩
              have hcp2 : 0 ≤ nI jj ∧ 0 ≤ nI nn ∧ nI nn ≤ σ.1 3 2 on ∧ nI jj ≤ σ.1 3 2 on - nI nn := by
                rw [q4, hL2e, nI_sub hnL2]; exact ⟨k3, k1, k6, k7⟩
              have hii : (nI ii).toNatClampNeg = ii := nI_clamp (by omega)
              have hjj : (nI jj).toNatClampNeg = jj := nI_clamp (by omega)
              have hnn' : (nI nn).toNatClampNeg = nn := nI_clamp (by omega)
              have hac : acok (nI ii) (nI jj) (nI nn) 60 := ⟨⟨nI_pos (by omega), nI_pos (by omega), nI_pos (by omega)⟩, by rw [hii, hnn']; omega, by rw [hjj, hnn']; omega⟩
              have g42 : (sL σ 3 0 on (va_cpy (σ.2.2.1 3 0 tn) (σ.2.2.1 3 0 on) ii jj nn)).2.2.1 8 42 0 = σ.2.2.1 8 42 0 := by simp [sL3]
              have l1 : ¬ 0 < lg_cmp (Int32.toInt64 (nI ii) + Int32.toInt64 (nI nn)) (Int32.toInt64 (nI L1)) := fun q => by
                have := (nI_lc (a := ii) (b := nn) (c := L1) (by omega) (by omega) (by omega)).2.1.mp q
                omega
              have l2 : lg_cmp (Int32.toInt64 (nI jj) + Int32.toInt64 (nI nn)) (Int32.toInt64 (nI L2)) ≤ 0 := (nI_lc (a := jj) (b := nn) (c := L2) (by omega) (by omega) (by omega)).2.2.mpr (by omega)
              refine ⟨nI nn, sL σ 3 0 on (va_cpy (σ.2.2.1 3 0 tn) (σ.2.2.1 3 0 on) ii jj nn), sL (sL σ 3 0 on (va_cpy (σ.2.2.1 3 0 tn) (σ.2.2.1 3 0 on) ii jj nn)) 8 42 0 (fun q => if 60 * on + jj ≤ q ∧ q < 60 * on + jj + nn then σ.2.2.1 8 42 0 (60 * tn + ii + (q - (60 * on + jj))) else σ.2.2.1 8 42 0 q), ?_, ?_, ?_⟩
              · rw [if_pos ht, if_neg h10, if_pos ho, if_neg h10, if_pos b1, if_pos b2, b3, b4, p1, q1, if_neg s1, if_neg s2, if_pos s3, places_eq, if_pos hcp1, Option.bind_some, if_neg h10, places_eq, if_pos hcp2, Option.bind_some, if_neg h10, if_pos hac, hii, hjj, hnn']
                rfl
              · have g := shift_N 1000 (by decide) (s0 := sL σ 3 0 on (va_cpy (σ.2.2.1 3 0 tn) (σ.2.2.1 3 0 on) ii jj nn)) (t := tn) (i := ii) (o := on) (j := jj) (n := nn) htn hon (by omega) (by omega)
                rw [g42] at g
                rw [← g]
                unfold f_X8_shift
                simp only [isTape8_eq, Option.bind_some, sL2]
                rw [if_pos ht, if_neg h10, if_pos ho, if_neg h10]
                simp only [if_pos b1, if_pos b2, b3, b4, if_neg s1', if_pos s2', if_pos s3, if_neg (nI_pos (show nn < 2 ^ 31 by omega)), if_neg (nI_pos (show ii < 2 ^ 31 by omega)), if_neg (nI_pos (show jj < 2 ^ 31 by omega)), hL1e, hL2e, if_neg l1, if_pos l2]
              · have e : FrE [] [] [(3, 0, 0), (8, 42, 0)] σ (sL (sL σ 3 0 on (va_cpy (σ.2.2.1 3 0 tn) (σ.2.2.1 3 0 on) ii jj nn)) 8 42 0 (fun q => if 60 * on + jj ≤ q ∧ q < 60 * on + jj + nn then σ.2.2.1 8 42 0 (60 * tn + ii + (q - (60 * on + jj))) else σ.2.2.1 8 42 0 q)) := (FrE.rfl'.sL (by simp [grp])).sL (by decide)
                obtain ⟨⟨h1, h2, h3, h4, h5⟩, i1, i2, i3, i4, i5, i6⟩ := h
                refine ⟨⟨Wt_fr h1 e (by decide) (by decide), Wn_fr h2 e (by decide), Ws_fr h3 e (by decide) (by decide), Wp_fr h4 e (by decide) (by decide), Wb_fr h5 e (by decide) (by decide)⟩, I_tx_fr i1 e (by decide) (by decide), I_ac_fr i2 e (by decide) (by decide), ?_, Im_fr i4 e (by decide) (by decide), Pc_fr i5 e (by decide), Ps_fr i6 e (by decide) (by decide)⟩
                intro m hm
                obtain ⟨m1, m2, m3, m4⟩ := i3 m hm
                refine ⟨m1, m2, m3, fun q hq => ?_⟩
                rw [sL_at, sL3]
                simp only [show ¬ ((3 : Nat) = 8) by decide, false_and, if_false]
                rw [sL3]
                by_cases hmo : m = on
                · subst hmo
                  rw [if_pos ⟨rfl, rfl, rfl⟩]
                  unfold va_cpy
                  by_cases hin : jj ≤ q ∧ q < jj + nn
                  · rw [if_pos hin, if_pos (by omega), p8 (ii + (q - jj)) (by omega), show 60 * tn + (ii + (q - jj)) = 60 * tn + ii + (60 * m + q - (60 * m + jj)) by omega]
                  · rw [if_neg hin, if_neg (by omega)]
                    exact m4 q hq
                · rw [if_neg (fun hh => hmo hh.2.2), if_neg (by omega)]
                  exact m4 q hq
            · have hcl : f_X7_shift σ (nI tn) i (nI on) j n = some (-13, σ) := by
                unfold f_X7_shift
                rw [isTape_eq, if_pos ht, Option.bind_some, if_neg h10, isTape_eq, if_pos ho, Option.bind_some, if_neg h10, if_pos b1, if_pos b2, b3, b4, p1, q1, if_neg s1, if_neg s2, if_pos s3, places_eq]
                by_cases c1 : 0 ≤ i ∧ 0 ≤ n ∧ n ≤ σ.1 3 2 tn ∧ i ≤ σ.1 3 2 tn - n
                · rw [if_pos c1, Option.bind_some, if_neg h10, places_eq]
                  by_cases c2 : 0 ≤ j ∧ 0 ≤ n ∧ n ≤ σ.1 3 2 on ∧ j ≤ σ.1 3 2 on - n
                  · rw [p4] at c1
                    rw [q4] at c2
                    exact absurd ⟨⟨c1.2.1, c1.1, c2.1⟩, c1.2.2, c2.2.2⟩ hpl
                  · rw [if_neg c2]; rfl
                · rw [if_neg c1]; rfl
              unfold f_X7_shift at hcl
              simp only [isTape_eq, Option.bind_some] at hcl
              refine ⟨-13, σ, σ, hcl, ?_, h⟩
              unfold f_X8_shift
              simp only [isTape8_eq, Option.bind_some]
              rw [if_pos ht, if_neg h10, if_pos ho, if_neg h10]
              simp only [if_pos b1, if_pos b2, b3, b4, if_neg s1', if_pos s2', if_pos s3]
              by_cases n0 : n < 0
              · rw [if_pos n0]
              · rw [if_neg n0]
                by_cases i0 : i < 0
                · rw [if_pos i0]
                · rw [if_neg i0]
                  by_cases j0 : j < 0
                  · rw [if_pos j0]
                  · rw [if_neg j0]
                    obtain ⟨L1, hL1, hL1e⟩ := i32_range (N := 61) (x := σ.2.1 8 41 0 tn) (by decide) p5 (by grind)
                    obtain ⟨L2, hL2, hL2e⟩ := i32_range (N := 61) (x := σ.2.1 8 41 0 on) (by decide) q5 (by grind)
                    obtain ⟨nn, hnn, rfl⟩ := nI_of n0
                    obtain ⟨ii, hii, rfl⟩ := nI_of i0
                    obtain ⟨jj, hjj, rfl⟩ := nI_of j0
                    obtain ⟨-, l1, -⟩ := nI_lc (a := ii) (b := nn) (c := L1) hii hnn (by omega)
                    obtain ⟨-, -, l2⟩ := nI_lc (a := jj) (b := nn) (c := L2) hjj hnn (by omega)
                    rw [hL1e, hL2e] at hpl ⊢
                    by_cases z1 : L1 < ii + nn
                    · rw [if_pos (l1.mpr z1)]
                    · rw [if_neg (fun q => z1 (l1.mp q))]
                      by_cases z2 : jj + nn ≤ L2
                      · exact absurd ⟨⟨nI_n0 hnn, nI_n0 hii, nI_n0 hjj⟩, ⟨(nI_leI (by omega) (by omega)).mpr (by omega), by rw [nI_sub (by omega)]; exact (nI_leI (by omega) (by omega)).mpr (by omega)⟩, (nI_leI (by omega) (by omega)).mpr (by omega), by rw [nI_sub (by omega)]; exact (nI_leI (by omega) (by omega)).mpr (by omega)⟩ hpl
                      · rw [if_neg (fun q => z2 (l2.mp q))]
          · refine ⟨-12, σ, σ, by simp only [ht, ho, b1, b2, b3, b4, and_self, if_true, h10, if_false, p1, q1, s1, s2, s3], ?_, h⟩
            unfold f_X8_shift
            simp only [isTape8_eq, Option.bind_some, ht, ho, b1, b2, b3, b4, and_self, if_true, h10, if_false, s1', s2', s3]
    · refine ⟨-1, σ, σ, by simp only [ht, ho, and_self, if_true, h10, if_false], ?_, h⟩
      unfold f_X8_shift
      simp only [isTape8_eq, Option.bind_some, ht, ho, and_self, if_true, h10, if_false]
  · refine ⟨-1, σ, σ, by simp only [ht, if_true, if_false], ?_, h⟩
    unfold f_X8_shift
    simp only [isTape8_eq, Option.bind_some, ht, if_true, if_false]
