-- BOTH PARSERS STEP BY STEP
abbrev cpF : List (Nat × Nat × Nat) := [(4, 2, 0), (4, 3, 0), (1, 3, 0), (1, 4, 0)]
abbrev cpA : List (Nat × Nat × Nat) := [(1, 0, 0), (1, 1, 0), (1, 2, 0)]
abbrev mpF : List (Nat × Nat × Nat) := [(8, 9, 0), (8, 10, 0), (8, 11, 0), (8, 12, 0), (8, 21, 0)]
abbrev mpA : List (Nat × Nat × Nat) := [(8, 20, 0)]
def TX (s0 t0 : Sto) (Ln : Nat) (tx : Nat → Int32) : Prop := Ln ≤ 100 ∧ s0.1 4 1 0 = nI Ln ∧ t0.1 8 7 0 = nI Ln ∧ ∀ j, j < Ln → s0.2.1 4 0 0 j = tx j ∧ t0.2.1 8 8 0 j = tx j ∧ 0 ≤ tx j ∧ tx j ≤ 127
def QCp (s0 s : Sto) (k a : Nat) : Prop := FrE cpF cpA [] s0 s ∧ s.2.2.2 = k ∧ (∀ k', k' ≠ k → ∀ c, s.1 1 c k' = s0.1 1 c k' ∧ s.2.1 1 c k' = s0.2.1 1 c k') ∧ s.1 4 2 0 = nI a
def QMp (t0 t : Sto) (a : Nat) : Prop := FrE mpF mpA [] t0 t ∧ t.1 8 9 0 = nI a
def EQp (s0 t0 s t : Sto) (k S0 c0 Ln a : Nat) (ow : Int32) (cs : List Int32) : Prop :=
  QCp s0 s k a ∧ QMp t0 t a ∧ t.1 8 12 0 = ow ∧ s.1 1 3 k = nI (S0 + cs.length) ∧ t.1 8 21 0 = nI (c0 + cs.length) ∧ (∀ j, j < S0 → ∀ c, s.2.1 1 c k j = s0.2.1 1 c k j) ∧ (∀ j, j < c0 → t.2.1 8 20 0 j = t0.2.1 8 20 0 j) ∧ (∀ (j : Nat) (h : j < cs.length), StR (s.2.1 1 0 k (S0 + j)) (s.2.1 1 1 k (S0 + j)) (s.2.1 1 2 k (S0 + j)) cs[j] ∧ t.2.1 8 20 0 (c0 + j) = cs[j]) ∧ (S0 + cs.length ≤ a ∧ c0 + cs.length ≤ 500 + a ∧ a ≤ Ln) ∧ s.1 1 4 k = s0.1 1 4 k
theorem EQp_mv {s0 t0 s t s' t' : Sto} {k S0 c0 Ln a a' : Nat} {ow ow' : Int32} {cs : List Int32} (E : EQp s0 t0 s t k S0 c0 Ln a ow cs) (e1 : FrE [(4, 2, 0), (4, 3, 0)] [] [] s s') (h1 : s'.2.2.2 = s.2.2.2) (e2 : FrE [(8, 9, 0), (8, 10, 0), (8, 11, 0), (8, 12, 0)] [] [] t t') (a1 : s'.1 4 2 0 = nI a') (a2 : t'.1 8 9 0 = nI a') (hw : t'.1 8 12 0 = ow') (ha : a ≤ a') (ha' : a' ≤ Ln) : EQp s0 t0 s' t' k S0 c0 Ln a' ow' cs := by
  obtain ⟨⟨q1, q2, q3, q4⟩, ⟨m1, m2⟩, x1, x2, x3, x4, x5, x6, ⟨x7, x8, x9⟩, x10⟩ := E
  have f1 : ∀ c i, s'.1 1 c i = s.1 1 c i := fun c i => e1.1 1 c i (by simp)
  have f2 : ∀ c i, s'.2.1 1 c i = s.2.1 1 c i := fun c i => e1.2.1 1 c i (by simp)
  have g1 : t'.1 8 21 0 = t.1 8 21 0 := e2.1 8 21 0 (by decide)
  have g2 : t'.2.1 8 20 0 = t.2.1 8 20 0 := e2.2.1 8 20 0 (by simp)
  refine ⟨⟨q1.trans (e1.mono (by decide) (by decide) (by decide)), by rw [h1, q2], fun k' hk c => by rw [f1, f2]; exact q3 k' hk c, a1⟩, ⟨m1.trans (e2.mono (by decide) (by decide) (by decide)), a2⟩, hw, by rw [f1, x2], by rw [g1, x3], fun j hj c => by rw [f2]; exact x4 j hj c, fun j hj => by rw [g2]; exact x5 j hj, fun j hj => by rw [f2, f2, f2, g2]; exact x6 j hj, ⟨by omega, by omega, ha'⟩, by rw [f1]; exact x10⟩
theorem tk1 {s0 t0 s t : Sto} {k S0 c0 Ln a : Nat} {ow c : Int32} {cs : List Int32} {tx : Nat → Int32} (T : TX s0 t0 Ln tx) (E : EQp s0 t0 s t k S0 c0 Ln a ow cs) (h : a < Ln ∧ tx a = c) : ∃ s' t', f_X4_take s c = some (1, s') ∧ f_X8_is t c = some (1, t') ∧ EQp s0 t0 s' t' k S0 c0 Ln (a + 1) ow cs := by
  have E' := E
  obtain ⟨T1, T2, T3, T4⟩ := T
  obtain ⟨⟨q1, q2, q3, q4⟩, ⟨m1, m2⟩, x1, -⟩ := E
  obtain ⟨r1, r2, -⟩ := T4 a h.1
  have b1 : (0 : Int32) ≤ nI a ∧ nI a < 100 := nI_r (N := 100) (by omega) (by decide)
  have b2 : (nI a).toNatClampNeg = a := nI_clamp (by omega)
  have b3 : ¬ nI Ln ≤ nI a := nI_ge h.1 (by omega)
  have b4 : ¬ nI a = nI Ln := fun q => by have := (nI_eq (by omega) (by omega)).mp q; omega
  refine ⟨sF s 4 2 0 (nI (a + 1)), sF t 8 9 0 (nI (a + 1)), ?_, ?_, EQp_mv E' (FrE.rfl'.sF (by decide)) rfl (FrE.rfl'.sF (by decide)) (sF_at _ _ _ _ _) (sF_at _ _ _ _ _) (by rw [sF_ne (by decide)]; exact x1) (by omega) h.1⟩
  · unfold f_X4_take
    rw [q1.1 4 1 0 (by decide), T2, q4, if_neg b3, if_pos b1, b2, q1.2.1 4 0 0 (by decide), r1, if_pos h.2, nI_1]
    rfl
  · unfold f_X8_is
    rw [m1.1 8 7 0 (by decide), T3, m2, if_neg b4, if_pos b1, b2, m1.2.1 8 8 0 (by decide), r2, if_pos h.2, nI_1]
    rfl
theorem tk0 {s0 t0 s t : Sto} {k S0 c0 Ln a : Nat} {ow c : Int32} {cs : List Int32} {tx : Nat → Int32} (T : TX s0 t0 Ln tx) (E : EQp s0 t0 s t k S0 c0 Ln a ow cs) (h : ¬ (a < Ln ∧ tx a = c)) : f_X4_take s c = some (0, s) ∧ f_X8_is t c = some (0, t) := by
  obtain ⟨T1, T2, T3, T4⟩ := T
  obtain ⟨⟨q1, q2, q3, q4⟩, ⟨m1, m2⟩, x1, -, -, -, -, -, ⟨-, -, x9⟩, -⟩ := E
  unfold f_X4_take f_X8_is
  rw [q1.1 4 1 0 (by decide), T2, q4, m1.1 8 7 0 (by decide), T3, m2]
  by_cases hl : a < Ln
  · obtain ⟨r1, r2, -⟩ := T4 a hl
    have b1 : (0 : Int32) ≤ nI a ∧ nI a < 100 := nI_r (N := 100) (by omega) (by decide)
    have b2 : (nI a).toNatClampNeg = a := nI_clamp (by omega)
    have b3 : ¬ nI Ln ≤ nI a := nI_ge hl (by omega)
    have b4 : ¬ nI a = nI Ln := fun q => by have := (nI_eq (by omega) (by omega)).mp q; omega
    have h2 : ¬ tx a = c := fun q => h ⟨hl, q⟩
    rw [if_neg b3, if_pos b1, if_neg b4, if_pos b1, b2, q1.2.1 4 0 0 (by decide), m1.2.1 8 8 0 (by decide), r1, r2, if_neg h2, if_neg h2]
    exact ⟨rfl, rfl⟩
  · have : a = Ln := by omega
    subst this
    rw [if_pos (show nI a ≤ nI a by grind), if_pos rfl]
    exact ⟨rfl, rfl⟩
theorem emit {s0 t0 s t : Sto} {k S0 c0 Ln a : Nat} {ow st lt nb c : Int32} {cs : List Int32} (hLn : Ln ≤ 100) (E : EQp s0 t0 s t k S0 c0 Ln a ow cs) (h1 : S0 + cs.length + 1 ≤ a) (h2 : c0 + cs.length + 1 ≤ 500 + a) (hst : StR st lt nb c) : ∃ s' t', f_X1_add s k st lt nb = some s' ∧ f_X8_codes t c = some (1, t') ∧ EQp s0 t0 s' t' k S0 c0 Ln a ow (cs ++ [c]) := by
  obtain ⟨⟨q1, q2, q3, q4⟩, ⟨m1, m2⟩, x1, x2, x3, x4, x5, x6, ⟨x7, x8, x9⟩, x10⟩ := E
  have b1 : (0 : Int32) ≤ nI (S0 + cs.length) ∧ nI (S0 + cs.length) < 100 := nI_r (N := 100) (by omega) (by decide)
  have b2 : (nI (S0 + cs.length)).toNatClampNeg = S0 + cs.length := nI_clamp (by omega)
  have b3 : ¬ (100 : Int32) ≤ nI (S0 + cs.length) := nI_ge (a := S0 + cs.length) (b := 100) (by omega) (by decide)
  have b4 : (0 : Int32) ≤ nI (c0 + cs.length) ∧ nI (c0 + cs.length) < 800 := nI_r (N := 800) (by omega) (by decide)
  have b5 : (nI (c0 + cs.length)).toNatClampNeg = c0 + cs.length := nI_clamp (by omega)
  have hl : (cs ++ [c]).length = cs.length + 1 := by simp
  refine ⟨sF (sA (sA (sA s 1 0 k (upd (s.2.1 1 0 k) (S0 + cs.length) st)) 1 1 k (upd (s.2.1 1 1 k) (S0 + cs.length) lt)) 1 2 k (upd (s.2.1 1 2 k) (S0 + cs.length) nb)) 1 3 k (nI (S0 + cs.length + 1)), sA (sF t 8 21 0 (nI (c0 + cs.length + 1))) 8 20 0 (upd (t.2.1 8 20 0) (c0 + cs.length) c), ?_, ?_, ?_⟩
  · unfold f_X1_add
    simp only [x2, b3, if_false, b1, and_self, if_true, b2, nm, sA1, sA2, nI_1, Nat.reduceEqDiff, false_and, and_false]
  · unfold f_X8_codes
    simp only [x3, b4, and_self, if_true, b5, nm, sF2, nI_1]
  · refine ⟨⟨((((q1.sA (c := 1) (k := 0) (i := k) (show (1, 0, 0) ∈ cpA by decide)).sA (c := 1) (k := 1) (i := k) (show (1, 1, 0) ∈ cpA by decide)).sA (c := 1) (k := 2) (i := k) (show (1, 2, 0) ∈ cpA by decide)).sF (c := 1) (k := 3) (i := k) (show (1, 3, 0) ∈ cpF by decide)), q2, fun k' hk c' => ?_, ?_⟩, ⟨(m1.sF (by decide)).sA (by decide), ?_⟩, ?_, ?_, ?_, fun j hj c' => ?_, fun j hj => ?_, fun j hj => ?_, ⟨by rw [hl]; omega, by rw [hl]; omega, x9⟩, ?_⟩
    · simp only [sF1, sF2, sA1, sA2, hk, and_false, if_false]
      exact q3 k' hk c'
    · simp [sF1, sA1, q4]
    · simp [sF1, sA1, m2]
    · simp [sF1, sA1, x1]
    · rw [sF_at, hl]; rfl
    · rw [sA1, sF_at, hl]; rfl
    · simp only [sF2, sA2]
      have hj2 : ¬ j = S0 + cs.length := by omega
      have := x4 j hj c'
      by_cases h0 : c' = 2
      · subst h0
        simp [upd_at, hj2]; exact this
      · by_cases h1 : c' = 1
        · subst h1
          simp [upd_at, hj2]; exact this
        · by_cases h3 : c' = 0
          · subst h3
            simp [upd_at, hj2]; exact this
          · simp [h0, h1, h3]; exact this
    · rw [sA_at, upd_at, if_neg (by omega)]
      exact x5 j hj
    · rw [hl] at hj
      simp only [sF2, sA2, Nat.reduceEqDiff, and_true, true_and, false_and, and_false, and_self, if_true, if_false, upd_at]
      by_cases hj2 : j = cs.length
      · subst hj2
        simp only [if_true, List.getElem_concat_length]
        exact ⟨hst, trivial⟩
      · have hj3 : j < cs.length := by omega
        have e1 : ¬ S0 + j = S0 + cs.length := by omega
        have e2 : ¬ c0 + j = c0 + cs.length := by omega
        simp only [e1, e2, if_false, List.getElem_append_left hj3]
        exact x6 j hj3
    · simp [sF1, sA1]
      exact x10
-- a number of one digit or two
theorem num_L {s0 t0 : Sto} {k S0 c0 Ln a : Nat} {ow : Int32} {cs : List Int32} {tx : Nat → Int32} (T : TX s0 t0 Ln tx) : ∀ (d j : Nat), j + d = 2 → ∀ n m, d < n → d < m → ∀ s t v, EQp s0 t0 s t k S0 c0 Ln (a + j) ow cs → s.1 4 3 0 = nI v → t.1 8 10 0 = nI v → t.1 8 11 0 = nI j → v < 10 ^ j → ∃ r s' t' j' v', f_X4_takeNumber_L10 n s (nI a) = some (r, s') ∧ f_X8_isNumber_L10 m t = some (r, t') ∧ EQp s0 t0 s' t' k S0 c0 Ln (a + j') ow cs ∧ s'.1 4 3 0 = nI v' ∧ t'.1 8 10 0 = nI v' ∧ v' < 100 ∧ r = (if j' = 0 then 0 else 1) := by
  have T' := T
  obtain ⟨T1, T2, T3, T4⟩ := T
  intro d
  induction d with
  | zero =>
    intro j hj n m hn hm s t v E hv1 hv2 hd hvb
    obtain ⟨n, rfl⟩ : ∃ q, n = q + 1 := ⟨n - 1, by omega⟩
    obtain ⟨m, rfl⟩ : ∃ q, m = q + 1 := ⟨m - 1, by omega⟩
    have hj2 : j = 2 := by omega
    subst hj2
    have E' := E
    obtain ⟨⟨q1, q2, q3, q4⟩, ⟨m1, m2⟩, x1, x2, x3, x4, x5, x6, ⟨x7, x8, x9⟩, x10⟩ := E
    refine ⟨1, s, t, 2, v, ?_, ?_, E', hv1, hv2, by simpa using hvb, by simp⟩
    · show f_X4_takeNumber_B10 _ s (nI a) = _
      unfold f_X4_takeNumber_B10 f_X4_takeNumber_L96
      have c1 : ¬ nI (a + 2) ≤ nI a := nI_ge (by omega) (by omega)
      have c2 : nI a + 2 = nI (a + 2) := by rw [show (2 : Int32) = nI 2 from rfl, nI_add]
      rw [q4, c2, if_neg c1]
      have hle : nI (a + 2) ≤ nI (a + 2) := by grind
      rw [if_pos hle]
      split <;> rfl
    · show f_X8_isNumber_B10 _ t = _
      unfold f_X8_isNumber_B10 f_X8_isNumber_L72
      rw [hd, if_pos (by decide), if_neg (by decide)]
  | succ d ih =>
    intro j hj n m hn hm s t v E hv1 hv2 hd hvb
    obtain ⟨n, rfl⟩ : ∃ q, n = q + 1 := ⟨n - 1, by omega⟩
    obtain ⟨m, rfl⟩ : ∃ q, m = q + 1 := ⟨m - 1, by omega⟩
    have E' := E
    obtain ⟨⟨q1, q2, q3, q4⟩, ⟨m1, m2⟩, x1, x2, x3, x4, x5, x6, ⟨x7, x8, x9⟩, x10⟩ := E
    have hvb2 : v < 10 := by
      have : j = 0 ∨ j = 1 := by omega
      rcases this with rfl | rfl <;> simp at hvb <;> omega
    have e7 : f_X4_takeNumber_L10 (n + 1) s (nI a) = f_X4_takeNumber_B10 (f_X4_takeNumber_L10 n) s (nI a) := rfl
    have e8 : f_X8_isNumber_L10 (m + 1) t = f_X8_isNumber_B10 (f_X8_isNumber_L10 m) t := rfl
    have hj2 : ¬ (2 : Int32) ≤ nI j := nI_ge (a := j) (b := 2) (by omega) (by decide)
    have c2 : nI a + 2 = nI (a + 2) := by rw [show (2 : Int32) = nI 2 from rfl, nI_add]
    have c3 : ¬ nI (a + 2) ≤ nI (a + j) := nI_ge (by omega) (by omega)
    have hstop7 : f_X4_takeNumber_L96 s (nI a) = some ((if j = 0 then 0 else 1), s) := by
      unfold f_X4_takeNumber_L96
      rw [q4]
      by_cases h0 : j = 0
      · subst h0
        rw [if_pos (by rw [Nat.add_zero]; grind), if_pos rfl]
      · rw [if_neg (nI_ge (by omega) (by omega)), if_neg h0]
    have hstop8 : f_X8_isNumber_L72 t = some ((if j = 0 then 0 else 1), t) := by
      unfold f_X8_isNumber_L72
      rw [hd]
      by_cases h0 : j = 0
      · subst h0
        rw [if_pos (by decide), if_pos rfl]
      · rw [if_neg (nI_nle (by omega) (by omega)), if_neg h0]
    have hstop : ∀ (g7 : f_X4_takeNumber_B10 (f_X4_takeNumber_L10 n) s (nI a) = f_X4_takeNumber_L96 s (nI a)) (g8 : f_X8_isNumber_B10 (f_X8_isNumber_L10 m) t = f_X8_isNumber_L72 t), ∃ r s' t' j' v', f_X4_takeNumber_L10 (n + 1) s (nI a) = some (r, s') ∧ f_X8_isNumber_L10 (m + 1) t = some (r, t') ∧ EQp s0 t0 s' t' k S0 c0 Ln (a + j') ow cs ∧ s'.1 4 3 0 = nI v' ∧ t'.1 8 10 0 = nI v' ∧ v' < 100 ∧ r = (if j' = 0 then 0 else 1) := by
      intro g7 g8
      exact ⟨_, s, t, j, v, by rw [e7, g7, hstop7], by rw [e8, g8, hstop8], E', hv1, hv2, by omega, rfl⟩
    by_cases hl : a + j < Ln
    · obtain ⟨r1, r2, r3, r4⟩ := T4 (a + j) hl
      have b1 : (0 : Int32) ≤ nI (a + j) ∧ nI (a + j) < 100 := nI_r (N := 100) (by omega) (by decide)
      have b2 : (nI (a + j)).toNatClampNeg = a + j := nI_clamp (by omega)
      have b3 : ¬ nI Ln ≤ nI (a + j) := nI_ge hl (by omega)
      obtain ⟨ch, hch, hce⟩ := i32_range (N := 128) (x := tx (a + j)) (by decide) r3 (by grind)
      have d1 : nI ch < 48 ↔ ch < 48 := nI_ltI (a := ch) (b := 48) (by omega) (by decide)
      have d2 : (57 : Int32) < nI ch ↔ 57 < ch := nI_ltI (a := 57) (b := ch) (by decide) (by omega)
      have f7 : f_X4_takeNumber_B10 (f_X4_takeNumber_L10 n) s (nI a) = if ch < 48 then f_X4_takeNumber_L96 s (nI a) else if 57 < ch then f_X4_takeNumber_L96 s (nI a) else f_X4_takeNumber_L10 n (sF (sF s 4 3 0 (nI (10 * v + (ch - 48)))) 4 2 0 (nI (a + j + 1))) (nI a) := by
        unfold f_X4_takeNumber_B10
        rw [q1.1 4 1 0 (by decide), T2, q4, if_neg b3, c2, if_neg c3]
        simp only [if_pos b1, b2, q1.2.1 4 0 0 (by decide), r1, hce, d1, d2, nm, hv1]
        by_cases h48 : ch < 48
        · rw [if_pos h48, if_pos h48]
        · rw [if_neg h48, if_neg h48]
          by_cases h57 : 57 < ch
          · rw [if_pos h57, if_pos h57]
          · rw [if_neg h57, if_neg h57]
            have e10 : (10 : Int32) * nI v + nI ch - 48 = nI (10 * v + (ch - 48)) := by
              rw [show (10 : Int32) = nI 10 from rfl, show (48 : Int32) = nI 48 from rfl, nI_mulN, nI_add, nI_sub (by omega)]
              congr 1
              omega
            rw [e10, sF_ne (by decide), q4, nI_1]
      have f8 : f_X8_isNumber_B10 (f_X8_isNumber_L10 m) t = if ch < 48 then f_X8_isNumber_L72 t else if 57 < ch then f_X8_isNumber_L72 t else f_X8_isNumber_L10 m (sF (sF (sF t 8 10 0 (nI (10 * v + (ch - 48)))) 8 9 0 (nI (a + j + 1))) 8 11 0 (nI (j + 1))) := by
        unfold f_X8_isNumber_B10 f_X8_isDigit
        rw [hd, if_neg hj2, m1.1 8 7 0 (by decide), T3, m2, if_neg b3]
        simp only [if_pos b1, b2, m1.2.1 8 8 0 (by decide), r2, hce, d1, d2, nm, hv2]
        by_cases h48 : ch < 48
        · rw [if_pos h48, if_pos h48]
          simp only [Option.bind_some, if_true]
        · rw [if_neg h48, if_neg h48]
          by_cases h57 : 57 < ch
          · rw [if_pos h57, if_pos h57]
            simp only [Option.bind_some, if_true]
          · rw [if_neg h57, if_neg h57]
            have e10 : (10 : Int32) * nI v + nI ch - 48 = nI (10 * v + (ch - 48)) := by
              rw [show (10 : Int32) = nI 10 from rfl, show (48 : Int32) = nI 48 from rfl, nI_mulN, nI_add, nI_sub (by omega)]
              congr 1
              omega
            simp only [Option.bind_some, h10, if_false]
            rw [e10, sF_ne (by decide), m2, nI_1, sF_ne (by decide), sF_ne (by decide), hd, nI_1]
      by_cases h48 : ch < 48
      · exact hstop (by rw [f7, if_pos h48]) (by rw [f8, if_pos h48])
      · by_cases h57 : 57 < ch
        · exact hstop (by rw [f7, if_neg h48, if_pos h57]) (by rw [f8, if_neg h48, if_pos h57])
        · rw [e7, e8, f7, f8, if_neg h48, if_neg h57, if_neg h48, if_neg h57]
          have hE : EQp s0 t0 (sF (sF s 4 3 0 (nI (10 * v + (ch - 48)))) 4 2 0 (nI (a + j + 1))) (sF (sF (sF t 8 10 0 (nI (10 * v + (ch - 48)))) 8 9 0 (nI (a + j + 1))) 8 11 0 (nI (j + 1))) k S0 c0 Ln (a + (j + 1)) ow cs := EQp_mv E' ((FrE.rfl'.sF (by decide)).sF (by decide)) rfl (((FrE.rfl'.sF (by decide)).sF (by decide)).sF (by decide)) (by rw [sF_at]; rfl) (by rw [sF_ne (by decide), sF_at]; rfl) (by rw [sF_ne (by decide), sF_ne (by decide), sF_ne (by decide)]; exact x1) (by omega) (by omega)
          exact ih (j + 1) (by omega) n m (by omega) (by omega) _ _ (10 * v + (ch - 48)) hE (by rw [sF_ne (by decide), sF_at]) (by rw [sF_ne (by decide), sF_ne (by decide), sF_at]) (by rw [sF_at]) (by
            have : j = 0 ∨ j = 1 := by omega
            rcases this with rfl | rfl
            · simp at hvb ⊢; omega
            · simp at hvb ⊢; omega)
    · have hle : nI Ln ≤ nI (a + j) := by rw [show Ln = a + j by omega]; grind
      refine hstop ?_ ?_
      · unfold f_X4_takeNumber_B10
        rw [q1.1 4 1 0 (by decide), T2, q4, if_pos hle]
      · unfold f_X8_isNumber_B10 f_X8_isDigit
        rw [hd, if_neg hj2, m1.1 8 7 0 (by decide), T3, m2, if_pos hle]
        rfl
theorem num_eq {s0 t0 s t : Sto} {k S0 c0 Ln a : Nat} {ow : Int32} {cs : List Int32} {tx : Nat → Int32} (T : TX s0 t0 Ln tx) (E : EQp s0 t0 s t k S0 c0 Ln a ow cs) : ∃ r s' t' j' v', f_X4_takeNumber s = some (r, s') ∧ f_X8_isNumber t = some (r, t') ∧ EQp s0 t0 s' t' k S0 c0 Ln (a + j') ow cs ∧ s'.1 4 3 0 = nI v' ∧ t'.1 8 10 0 = nI v' ∧ v' < 100 ∧ r = (if j' = 0 then 0 else 1) := by
  obtain ⟨⟨-, -, -, q4⟩, ⟨-, m2⟩, x1, -, -, -, -, -, ⟨-, -, x9⟩, -⟩ := id E
  have hE : EQp s0 t0 (sF s 4 3 0 0) (sF (sF t 8 10 0 0) 8 11 0 0) k S0 c0 Ln (a + 0) ow cs := EQp_mv E (FrE.rfl'.sF (by decide)) rfl ((FrE.rfl'.sF (by decide)).sF (by decide)) (by rw [sF_ne (by decide)]; exact q4) (by rw [sF_ne (by decide), sF_ne (by decide)]; exact m2) (by rw [sF_ne (by decide), sF_ne (by decide)]; exact x1) (by omega) (by omega)
  have key := (fun (key : ∀ M, 5 < M → ∃ r s' t' j' v', f_X4_takeNumber_L10 M (sF s 4 3 0 0) (nI a) = some (r, s') ∧ f_X8_isNumber_L10 M (sF (sF t 8 10 0 0) 8 11 0 0) = some (r, t') ∧ EQp s0 t0 s' t' k S0 c0 Ln (a + j') ow cs ∧ s'.1 4 3 0 = nI v' ∧ t'.1 8 10 0 = nI v' ∧ v' < 100 ∧ r = (if j' = 0 then 0 else 1)) => key 1000 (by decide)) (fun M hM => num_L T 2 0 rfl M M (by omega) (by omega) _ _ 0 hE (by rw [sF_at]; rfl) (by rw [sF_ne (by decide), sF_at]; rfl) (by rw [sF_at]; rfl) (by simp))
  obtain ⟨r, s', t', j', v', g1, g2, g3⟩ := key
  refine ⟨r, s', t', j', v', ?_, ?_, g3⟩
  · unfold f_X4_takeNumber
    simp only [nm, nmI]
    rw [q4]
    exact g1
  · unfold f_X8_isNumber
    simp only [nm]
    exact g2
def lix (n : Nat) : Int32 := if n = 112 then 0 else if n = 107 then 1 else if n = 118 then 2 else if n = 119 then 3 else if n = 100 then 4 else if n = 109 then 5 else -1
def six (n : Nat) : Int32 := if n = 60 then 0 else if n = 61 then 1 else if n = 62 then 2 else -1
set_option maxRecDepth 100000 in
theorem ixA : ∀ n, n < 128 → f_J0_indexOf_0f7a4 3 (UInt32.toInt32 (Int32.toUInt32 (nI n) % 65536)) = some (lix n) := by decide +kernel
set_option maxRecDepth 100000 in
theorem ixB : ∀ n, n < 128 → f_J0_indexOf_0f7a4 3 (nI n) = some (lix n) := by decide +kernel
set_option maxRecDepth 100000 in
theorem ixC : ∀ n, n < 128 → f_J0_indexOf_0f7a4 4 (nI n) = some (six n) := by decide +kernel
