-- THE TEXT OF A PASS, CLAUSE BY CLAUSE
theorem CL_adv {s0 t0 s t : Sto} {k c0 Ln a i : Nat} {C : Nat → List Int32} {P : Nat → Nat} (L : CL s0 t0 s t k c0 Ln a i C P) (hl : a < Ln) : CL s0 t0 (sF s 4 2 0 (nI (a + 1))) (sF t 8 9 0 (nI (a + 1))) k c0 Ln (a + 1) i C P := by
  obtain ⟨W, hP0, hsz, hPa, hPm, ⟨cc, hcc, hc1, hc2⟩, hsn, hR⟩ := L
  have W' : WK s0 t0 (sF s 4 2 0 (nI (a + 1))) (sF t 8 9 0 (nI (a + 1))) k c0 Ln (a + 1) :=
    W.step (c1 := c0) ⟨FrE.rfl'.sF (by decide), W.1, fun k' hk' c => ⟨sF_ne (by omega), rfl⟩, sF_at _ _ _ _ _⟩ ⟨FrE.rfl'.sF (by decide), sF_at _ _ _ _ _⟩ (Nat.le_refl _) (fun _ _ => rfl) hl
  refine ⟨W', hP0, by rw [sF_ne (by omega)]; exact hsz, by omega, hPm, ⟨cc, by rw [sF_ne (by decide)]; exact hcc, hc1, by omega⟩, by rw [sF_ne (by omega)]; exact hsn, fun i' hi' => ?_⟩
  rw [sF_ne (σ := t) (by decide)]
  exact hR i' hi'
def fin8 (t : Sto) (k i : Nat) : Sto := sF (sF (sA (sF t 8 7 0 0) 8 15 0 (upd (t.2.1 8 15 0) k (nI i))) 8 14 0 (nI k)) 8 13 0 (nI (k + 1))
theorem end0 {t : Sto} {was x : Int32} {m : Nat} : f_X8_col_L29 (m + 1) t was x 0 0 = some ((-10 : Int32) - t.1 8 9 0, sF (sF t 8 7 0 0) 8 21 0 was) := by
  show f_X8_col_B29 _ t was x 0 0 = _
  unfold f_X8_col_B29
  rw [if_pos rfl]
  unfold f_X8_col_L123
  simp only [nm, if_true]
  rw [sF_ne (by decide), sF_ne (by decide)]
theorem end1 {t : Sto} {was : Int32} {m k i : Nat} (hk : k < 6) (h : t.1 8 13 0 = nI k) : f_X8_col_L29 (m + 1) t was (nI i) 1 1 = some (nI k, fin8 t k i) := by
  have b1 : (0 : Int32) ≤ nI k ∧ nI k < 6 := nI_r (N := 6) (by omega) (by decide)
  have b2 : (nI k).toNatClampNeg = k := nI_clamp (by omega)
  show f_X8_col_B29 _ t was (nI i) 1 1 = _
  unfold f_X8_col_B29
  rw [if_neg h10, if_neg h10]
  unfold f_X8_col_L123
  have e : (sF t 8 7 0 0).1 8 13 0 = nI k := by rw [sF_ne (by decide), h]
  simp only [nm, h10, if_false, e, b1, and_self, if_true, b2]
  have e2 : ∀ f, (sA (sF t 8 7 0 0) 8 15 0 f).1 8 13 0 = nI k := fun f => by rw [sA1, e]
  simp only [e2]
  have e3 : ∀ f, (sF (sA (sF t 8 7 0 0) 8 15 0 f) 8 14 0 (nI k)).1 8 13 0 = nI k := fun f => by rw [sF_ne (by decide), e2]
  simp only [e3, nI_1]
  rfl
theorem col_loop {s0 t0 : Sto} {k c0 Ln : Nat} {tx : Nat → Int32} (hk : k < 6) (hc0 : c0 ≤ 500) (T : TX s0 t0 Ln tx) (h13 : t0.1 8 13 0 = nI k) (was : Int32) : ∀ (d i : Nat), i + d = 9 → ∀ n m, d < n → d + 1 < m → ∀ s t a C P, CL s0 t0 s t k c0 Ln a i C P → ∃ v rr s' t', f_X4_readInto_L20 n s (nI d) = some (v, s') ∧ f_X8_col_L29 m t was (nI i) 1 0 = some (rr, t') ∧ ((∃ a' t1, a' ≤ Ln ∧ v = nI a' ∧ rr = (-10 : Int32) - nI a' ∧ WK s0 t0 s' t1 k c0 Ln a' ∧ t' = sF (sF t1 8 7 0 0) 8 21 0 was) ∨ (∃ i' a' C' P' t1, v = -1 ∧ rr = nI k ∧ i' ≤ 10 ∧ CL s0 t0 s' t1 k c0 Ln a' i' C' P' ∧ t' = fin8 t1 k i')) := by
  intro d
  induction d using Nat.strongRecOn with
  | ind d ih =>
    intro i hi n m hn hm s t a C P L
    obtain ⟨n, rfl⟩ : ∃ q, n = q + 1 := ⟨n - 1, by omega⟩
    obtain ⟨m, rfl⟩ : ∃ q, m = q + 2 := ⟨m - 2, by omega⟩
    have T1 := T.1
    obtain ⟨r, s', t', a', o7, o8, W', hres⟩ := clause_sync hk (by omega) hc0 T L
    have ha' : a' ≤ Ln := W'.2.2.2.2.2.2.2.2
    have w42 : s'.1 4 2 0 = nI a' := W'.2.2.2.1
    have w89 : t'.1 8 9 0 = nI a' := W'.2.2.2.2.2.2.2.1
    have w13 : t'.1 8 13 0 = nI k := by rw [W'.2.2.2.2.1.1 8 13 0 (by decide), h13]
    have T' := TX_mv T W'
    have hd0 : ¬ nI d < (0 : Int32) := fun hh => by
      have := nI_n0 (n := d) (by omega)
      grind
    have h10i : ¬ (10 : Int32) ≤ nI i := nI_ge (a := i) (b := 10) (by omega) (by decide)
    have hx : (10 : Int32) * t.1 8 13 0 + nI i = nI (10 * k + i) := by
      rw [L.1.2.2.2.2.1.1 8 13 0 (by decide), h13, show (10 : Int32) = nI 10 from rfl, nI_mulN, nI_add]
    have e7 : f_X4_readInto_L20 (n + 1) s (nI d) = (if r = 0 then some (nI a', s') else if nI a' < nI Ln then (if nI d = 0 then some (nI a', s') else (f_X4_take s' 59).bind fun q10 => (if q10.1 = 0 then some (q10.2.1 4 2 0, q10.2) else f_X4_readInto_L20 n q10.2 (nI d + (-1 : Int32)))) else some ((-1 : Int32), s')) := by
      show f_X4_readInto_B20 _ s (nI d) = _
      unfold f_X4_readInto_B20
      rw [if_neg hd0, o7]
      simp only [Option.bind_some, nmI]
      rw [w42, T'.2.1]
    have e8 : f_X8_col_L29 (m + 2) t was (nI i) 1 0 = (if r = 0 then f_X8_col_L65 (f_X8_col_L29 (m + 1)) t' was (nI i) 0 0 else f_X8_col_L65 (f_X8_col_L29 (m + 1)) t' was (nI i) 0 1) := by
      show f_X8_col_B29 _ t was (nI i) 1 0 = _
      unfold f_X8_col_B29 f_X8_col_L64
      rw [if_neg h10, if_pos rfl, if_neg h10i, hx, o8]
      rfl
    have fail : ∀ (v : Option (Int32 × Sto)), v = some (nI a', s') → ∃ w rr s2 t2, v = some (w, s2) ∧ (some ((-10 : Int32) - t'.1 8 9 0, sF (sF t' 8 7 0 0) 8 21 0 was) : Option (Int32 × Sto)) = some (rr, t2) ∧ ((∃ a' t1, a' ≤ Ln ∧ w = nI a' ∧ rr = (-10 : Int32) - nI a' ∧ WK s0 t0 s2 t1 k c0 Ln a' ∧ t2 = sF (sF t1 8 7 0 0) 8 21 0 was) ∨ (∃ i' a' C' P' t1, w = -1 ∧ rr = nI k ∧ i' ≤ 10 ∧ CL s0 t0 s2 t1 k c0 Ln a' i' C' P' ∧ t2 = fin8 t1 k i')) := fun v hv =>
      ⟨nI a', (-10 : Int32) - t'.1 8 9 0, s', sF (sF t' 8 7 0 0) 8 21 0 was, hv, rfl, Or.inl ⟨a', t', ha', rfl, by rw [w89], W', rfl⟩⟩
    rw [e7, e8]
    rcases hres with rfl | ⟨rfl, C', P', L'⟩
    · rw [if_pos rfl, if_pos rfl]
      unfold f_X8_col_L65
      rw [if_pos rfl, end0]
      exact fail _ rfl
    · rw [if_neg h10, if_neg h10]
      unfold f_X8_col_L65
      rw [if_neg h10]
      simp only [nmI]
      rw [w89, T'.2.2.1, nI_1]
      unfold f_X8_col_L92
      by_cases hl : a' < Ln
      · rw [if_pos (nI_lt hl (by omega)), if_neg (show ¬ nI a' = nI Ln from fun hh => by have := (nI_eq (a := a') (b := Ln) (by omega) (by omega)).mp hh; omega), if_pos (show (0 : Int32) = 0 from rfl)]
        by_cases hd : d = 0
        · subst hd
          have hi9 : i = 9 := by omega
          subst hi9
          rw [if_pos (show nI 0 = (0 : Int32) from rfl), if_pos (show (10 : Int32) ≤ nI (9 + 1) by decide), end0]
          exact fail _ rfl
        · rw [if_neg (show ¬ nI d = (0 : Int32) from fun hh => hd ((nI_z (by omega)).mp hh)), if_neg (show ¬ (10 : Int32) ≤ nI (i + 1) from nI_ge (a := i + 1) (b := 10) (by omega) (by decide))]
          obtain ⟨_, hP0, hsz, hPa, hPm, ⟨cc, hcc, hc1, hc2⟩, hsn, hR⟩ := id L'
          have E0 : EQp s' t' s' t' k (P' (i + 1)) cc Ln a' (t'.1 8 12 0) [] := EQp_st W'.1 w42 w89 hsz hcc hPa (by omega) ha'
          by_cases h59 : a' < Ln ∧ tx a' = 59
          · obtain ⟨k7, k8, -⟩ := tk1' T' E0 h59
            rw [k7, k8]
            simp only [Option.bind_some, h10, if_false]
            obtain ⟨d, rfl⟩ : ∃ q, d = q + 1 := ⟨d - 1, by omega⟩
            rw [nI_m1]
            exact ih d (by omega) (i + 1) (by omega) n (m + 1) (by omega) (by omega) _ _ _ _ _ (CL_adv L' hl)
          · obtain ⟨k7, k8⟩ := tk0 T' E0 h59
            rw [k7, k8]
            simp only [Option.bind_some, if_true]
            rw [end0, w42]
            exact fail _ rfl
      · have : a' = Ln := by omega
        subst this
        rw [if_neg (show ¬ nI a' < nI a' by grind), if_pos rfl, if_neg h10, end1 hk w13]
        exact ⟨-1, nI k, s', fin8 t' k (i + 1), rfl, rfl, Or.inr ⟨i + 1, a', C', P', t', rfl, rfl, by omega, L', rfl⟩⟩
