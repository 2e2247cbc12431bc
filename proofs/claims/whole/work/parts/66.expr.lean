-- A TEST, F, T, E in both
def WFp (es : List Int32) (h : Nat) : Prop := ∀ d, d + h ≤ 30 → dp es d = some (d + 1)
def RSp (s0 t0 : Sto) (k S0 c0 Ln a : Nat) (ow : Int32) (h : Nat) (cs : List Int32) (o7 o8 : Option (Int32 × Sto)) : Prop := ∃ r s' t' a', o7 = some (r, s') ∧ o8 = some (r, t') ∧ ((r = 0 ∧ QCp s0 s' k a' ∧ QMp t0 t' a' ∧ a' ≤ Ln ∧ ∀ j, j < c0 → t'.2.1 8 20 0 j = t0.2.1 8 20 0 j) ∨ (r = 1 ∧ a < a' ∧ ∃ es, WFp es h ∧ es.length + a ≤ a' ∧ EQp s0 t0 s' t' k S0 c0 Ln a' ow (cs ++ es)))
theorem EQp_z {s0 t0 s t : Sto} {k S0 c0 Ln a : Nat} {ow : Int32} {cs : List Int32} (E : EQp s0 t0 s t k S0 c0 Ln a ow cs) : QCp s0 s k a ∧ QMp t0 t a ∧ a ≤ Ln ∧ ∀ j, j < c0 → t.2.1 8 20 0 j = t0.2.1 8 20 0 j := ⟨E.1, E.2.1, E.2.2.2.2.2.2.2.2.1.2.2, E.2.2.2.2.2.2.1⟩
theorem dp_app : ∀ (xs ys : List Int32) (d : Nat), dp (xs ++ ys) d = (dp xs d).bind (dp ys)
  | [], ys, d => rfl
  | c :: xs, ys, d => by
    show (if c = 0 then (if 1 ≤ d then dp (xs ++ ys) d else none) else if c = 1 ∨ c = 2 then (if 2 ≤ d then dp (xs ++ ys) (d - 1) else none) else (if d < 30 then dp (xs ++ ys) (d + 1) else none)) = Option.bind (if c = 0 then (if 1 ≤ d then dp xs d else none) else if c = 1 ∨ c = 2 then (if 2 ≤ d then dp xs (d - 1) else none) else (if d < 30 then dp xs (d + 1) else none)) (dp ys)
    rw [dp_app xs ys d, dp_app xs ys (d - 1), dp_app xs ys (d + 1)]
    by_cases h0 : c = 0
    · rw [if_pos h0, if_pos h0]
      by_cases h1 : 1 ≤ d
      · rw [if_pos h1, if_pos h1]
      · rw [if_neg h1, if_neg h1]; rfl
    · rw [if_neg h0, if_neg h0]
      by_cases h12 : c = 1 ∨ c = 2
      · rw [if_pos h12, if_pos h12]
        by_cases h1 : 2 ≤ d
        · rw [if_pos h1, if_pos h1]
        · rw [if_neg h1, if_neg h1]; rfl
      · rw [if_neg h12, if_neg h12]
        by_cases h1 : d < 30
        · rw [if_pos h1, if_pos h1]
        · rw [if_neg h1, if_neg h1]; rfl
theorem test_sync {s0 t0 s t : Sto} {k S0 c0 Ln a : Nat} {ow : Int32} {cs : List Int32} {tx : Nat → Int32} (hk : k < 8) (T : TX s0 t0 Ln tx) (E : EQp s0 t0 s t k S0 c0 Ln a ow cs) : RSp s0 t0 k S0 c0 Ln a ow 1 cs (f_X4_takeTest s) (f_X8_isTest t) := by
  have T' := T
  obtain ⟨T1, T2, T3, T4⟩ := T
  obtain ⟨⟨q1, q2, q3, q4⟩, ⟨m1, m2⟩, x1, x2, x3, x4, x5, x6, ⟨x7, x8, x9⟩, x10⟩ := id E
  have hfail : ∀ {s' t' : Sto} {a' : Nat} {ow' : Int32} (o7 o8 : Option (Int32 × Sto)), EQp s0 t0 s' t' k S0 c0 Ln a' ow' cs → o7 = some (0, s') → o8 = some (0, t') → RSp s0 t0 k S0 c0 Ln a ow 1 cs o7 o8 := by
    intro s' t' a' ow' o7 o8 E' h7 h8
    obtain ⟨z1, z2, z3⟩ := EQp_z E'
    exact ⟨0, s', t', a', h7, h8, Or.inl ⟨rfl, z1, z2, z3⟩⟩
  unfold f_X4_takeTest f_X8_isTest f_X8_isTest_L40
  rw [q1.1 4 1 0 (by decide), T2, q4, m1.1 8 7 0 (by decide), T3, m2]
  by_cases hl : a < Ln
  · obtain ⟨r1, r2, r3, r4⟩ := T4 a hl
    have b1 : (0 : Int32) ≤ nI a ∧ nI a < 100 := nI_r (N := 100) (by omega) (by decide)
    have b2 : (nI a).toNatClampNeg = a := nI_clamp (by omega)
    have b3 : ¬ nI Ln ≤ nI a := nI_ge hl (by omega)
    obtain ⟨ch, hch, hce⟩ := i32_range (N := 128) (x := tx a) (by decide) r3 (by grind)
    rw [if_neg b3, if_pos b1, if_neg b3]
    simp only [if_pos b1, b2, q1.2.1 4 0 0 (by decide), m1.2.1 8 8 0 (by decide), r1, r2, hce, ixA ch hch, ixB ch hch, Option.bind_some]
    by_cases hlet : 0 ≤ lix ch
    · have hch0 : ¬ nI ch ≤ 0 := nI_nle (by
        rcases Nat.eq_zero_or_pos ch with h | h
        · subst h
          exact absurd hlet (by decide)
        · exact h) (by omega)
      rw [if_neg hch0]
      obtain ⟨l, hl6, hle⟩ : ∃ l, l < 6 ∧ lix ch = nI l := by
        unfold lix at hlet ⊢
        repeat' split
        · exact ⟨0, by omega, rfl⟩
        · exact ⟨1, by omega, rfl⟩
        · exact ⟨2, by omega, rfl⟩
        · exact ⟨3, by omega, rfl⟩
        · exact ⟨4, by omega, rfl⟩
        · exact ⟨5, by omega, rfl⟩
        · rename_i h1 h2 h3 h4 h5 h6
          rw [if_neg h1, if_neg h2, if_neg h3, if_neg h4, if_neg h5, if_neg h6] at hlet
          exact absurd hlet (by decide)
      rw [hle]
      have hl0 : (0 : Int32) ≤ nI l := nI_n0 (by omega)
      have E1 : EQp s0 t0 (sF s 4 2 0 (nI (a + 1))) (sF t 8 9 0 (nI (a + 1))) k S0 c0 Ln (a + 1) ow cs := EQp_mv E (FrE.rfl'.sF (by decide)) rfl (FrE.rfl'.sF (by decide)) (sF_at _ _ _ _ _) (sF_at _ _ _ _ _) (by rw [sF_ne (by decide)]; exact x1) (by omega) (by omega)
      unfold f_X4_takeTest_L30 f_X8_isTest_L41 f_X8_isTest_L98
      simp only [if_pos hl0, nm, q4, m2, nI_1]
      have k1 : (sF s 4 2 0 (nI (a + 1))).1 4 1 0 = nI Ln := by rw [sF_ne (by decide), q1.1 4 1 0 (by decide), T2]
      have k2 : (sF s 4 2 0 (nI (a + 1))).1 4 2 0 = nI (a + 1) := sF_at _ _ _ _ _
      have k3 : (sF t 8 9 0 (nI (a + 1))).1 8 7 0 = nI Ln := by rw [sF_ne (by decide), m1.1 8 7 0 (by decide), T3]
      have k4 : (sF t 8 9 0 (nI (a + 1))).1 8 9 0 = nI (a + 1) := sF_at _ _ _ _ _
      have k5 : (sF s 4 2 0 (nI (a + 1))).2.1 4 0 0 = s0.2.1 4 0 0 := by rw [sF2, q1.2.1 4 0 0 (by decide)]
      have k6 : (sF t 8 9 0 (nI (a + 1))).2.1 8 8 0 = t0.2.1 8 8 0 := by rw [sF2, m1.2.1 8 8 0 (by decide)]
      rw [k1, k2, k3, k4]
      by_cases hl2 : a + 1 < Ln
      · obtain ⟨u1, u2, u3, u4⟩ := T4 (a + 1) hl2
        have d1 : (0 : Int32) ≤ nI (a + 1) ∧ nI (a + 1) < 100 := nI_r (N := 100) (by omega) (by decide)
        have d2 : (nI (a + 1)).toNatClampNeg = a + 1 := nI_clamp (by omega)
        have d3 : ¬ nI Ln ≤ nI (a + 1) := nI_ge hl2 (by omega)
        obtain ⟨c2, hc2, hc2e⟩ := i32_range (N := 128) (x := tx (a + 1)) (by decide) u3 (by grind)
        rw [if_neg d3, if_neg d3, if_pos d1, if_pos d1, k5, k6, d2, u1, u2, hc2e]
        have hn : ∀ z, z < 128 → (nI c2 = nI z ↔ c2 = z) := fun z hz => nI_eq (by omega) (by omega)
        by_cases hs : c2 = 60 ∨ c2 = 61 ∨ c2 = 62
        · obtain ⟨z, hz3, hze⟩ : ∃ z, z < 3 ∧ c2 = 60 + z := ⟨c2 - 60, by omega, by omega⟩
          have hsx : six c2 = nI z := by
            subst hze
            match z, hz3 with
            | 0, _ => rfl
            | 1, _ => rfl
            | 2, _ => rfl
          have hc0 : ¬ nI c2 ≤ 0 := nI_nle (by omega) (by omega)
          have hz0 : (0 : Int32) ≤ nI z := nI_n0 (by omega)
          rw [if_neg hc0, if_pos d1, ixC c2 hc2]
          simp only [Option.bind_some]
          have h71 : f_X4_takeTest_L71 (sF s 4 2 0 (nI (a + 1))) (nI l) (nI c2) = f_X4_takeTest_L92 (sF s 4 2 0 (nI (a + 1))) (nI l) (nI c2) := by
            unfold f_X4_takeTest_L71
            split
            · rfl
            · split
              · rfl
              · split
                · rfl
                · rename_i h1 h2 h3
                  exfalso
                  rcases hs with h | h | h
                  · exact h1 (by rw [h]; decide)
                  · exact h2 (by rw [h]; decide)
                  · exact h3 (by rw [h]; decide)
          have E2 : EQp s0 t0 (sF (sF s 4 2 0 (nI (a + 1))) 4 2 0 (nI (a + 2))) (sF (sF t 8 9 0 (nI (a + 1))) 8 9 0 (nI (a + 2))) k S0 c0 Ln (a + 2) ow cs := EQp_mv E1 (FrE.rfl'.sF (by decide)) rfl (FrE.rfl'.sF (by decide)) (sF_at _ _ _ _ _) (sF_at _ _ _ _ _) (by rw [sF_ne (by decide), sF_ne (by decide)]; exact x1) (by omega) (by omega)
          obtain ⟨r, s', t', j', v', n1, n2, n3, n4, n5, n6, n7⟩ := num_eq T' E2
          rw [h71, hsx]
          unfold f_X4_takeTest_L92 f_X8_isTest_L99
          simp only [if_pos hz0, nm]
          rw [k2, k4, nI_1]
          simp only [n1, n2, Option.bind_some]
          by_cases hj : j' = 0
          · rw [n7, if_pos hj]
            simp only [if_true]
            exact hfail _ _ n3 rfl rfl
          · rw [n7, if_neg hj]
            simp only [h10, if_false]
            have hq2 : s'.2.2.2 = k := n3.1.2.1
            have hcode : (((3 : Int32) + (300 * nI l)) + (100 * nI z)) + nI v' = nI (3 + 300 * l + 100 * z + v') := by
              rw [show (3 : Int32) = nI 3 from rfl, show (300 : Int32) = nI 300 from rfl, show (100 : Int32) = nI 100 from rfl, nI_mulN, nI_mulN, nI_add, nI_add, nI_add]
            have hst : StR (nI c2) (nI l) (nI v') (nI (3 + 300 * l + 100 * z + v')) := Or.inr (Or.inr (Or.inr ⟨l, z, v', hl6, hz3, n6, rfl, by rw [hze], rfl, rfl⟩))
            obtain ⟨s'', t'', g1, g2, g3⟩ := emit T1 n3 (by omega) (by omega) hst
            rw [hq2, if_pos hk, n4, g1, n5, hcode, g2]
            refine ⟨1, s'', t'', a + 2 + j', rfl, rfl, Or.inr ⟨rfl, by omega, [nI (3 + 300 * l + 100 * z + v')], ?_, by simp; omega, g3⟩⟩
            intro d hd
            obtain ⟨-, -, -, t4, t5, t6, t7⟩ := tst_ar l hl6 z hz3 v' n6
            unfold dp
            rw [if_neg t5, if_neg (fun hh => by rcases hh with hh | hh; exact t6 hh; exact t7 hh), if_pos (by omega)]
            rfl
        · have h71 : f_X4_takeTest_L71 (sF s 4 2 0 (nI (a + 1))) (nI l) (nI c2) = some (0, sF s 4 2 0 (nI (a + 1))) := by
            unfold f_X4_takeTest_L71
            rw [if_neg (show ¬ nI c2 = (60 : Int32) from fun hh => hs (Or.inl ((hn 60 (by omega)).mp hh))), if_neg (show ¬ nI c2 = (61 : Int32) from fun hh => hs (Or.inr (Or.inl ((hn 61 (by omega)).mp hh)))), if_neg (show ¬ nI c2 = (62 : Int32) from fun hh => hs (Or.inr (Or.inr ((hn 62 (by omega)).mp hh))))]
          have hsx : six c2 = -1 := by
            unfold six
            rw [if_neg (fun hh => hs (Or.inl hh)), if_neg (fun hh => hs (Or.inr (Or.inl hh))), if_neg (fun hh => hs (Or.inr (Or.inr hh)))]
          have h99 : f_X8_isTest_L99 (sF t 8 9 0 (nI (a + 1))) (nI l) (-1) = some (0, sF t 8 9 0 (nI (a + 1))) := by
            unfold f_X8_isTest_L99
            rw [if_neg (by decide)]
          rw [h71]
          by_cases hc0 : nI c2 ≤ 0
          · rw [if_pos hc0, h99]
            exact hfail _ _ E1 rfl rfl
          · rw [if_neg hc0, if_pos d1, ixC c2 hc2]
            simp only [Option.bind_some]
            rw [hsx, h99]
            exact hfail _ _ E1 rfl rfl
      · have hle2 : nI Ln ≤ nI (a + 1) := by rw [show Ln = a + 1 by omega]; grind
        rw [if_pos hle2, if_pos hle2]
        refine hfail (s' := sF s 4 2 0 (nI (a + 1))) (t' := sF t 8 9 0 (nI (a + 1))) _ _ E1 ?_ ?_
        · unfold f_X4_takeTest_L71
          rw [if_neg (by decide), if_neg (by decide), if_neg (by decide)]
        · unfold f_X8_isTest_L99
          rw [if_neg (by decide)]
    · have h41 : ∀ q, ¬ 0 ≤ q → f_X8_isTest_L41 t q = some (0, t) := fun q hq => by
        unfold f_X8_isTest_L41
        rw [if_neg hq]
      have h30 : f_X4_takeTest_L30 s (lix ch) = some (0, s) := by
        unfold f_X4_takeTest_L30
        rw [if_neg hlet]
      rw [h30, h41 _ hlet, h41 (-1) (by decide)]
      split
      · exact hfail _ _ E rfl rfl
      · exact hfail _ _ E rfl rfl
  · have hle : nI Ln ≤ nI a := by rw [show Ln = a by omega]; grind
    rw [if_pos hle, if_pos hle]
    refine hfail (s' := s) (t' := t) _ _ E ?_ ?_
    · unfold f_X4_takeTest_L30
      rw [if_neg (by decide)]
    · unfold f_X8_isTest_L41
      rw [if_neg (by decide)]
/-- F of both is in step at a level -/
def SyF (s0 t0 : Sto) (k S0 c0 Ln : Nat) (ow : Int32) (w h : Nat) (q7 : Sto → Int32 → Option (Int32 × Sto)) (q8 : Sto → Option (Int32 × Sto)) : Prop := ∀ s t a cs, EQp s0 t0 s t k S0 c0 Ln a ow cs → RSp s0 t0 k S0 c0 Ln a ow h cs (q7 s (nI w)) (q8 t)
def Kx (q8 : Sto → Option (Int32 × Sto)) (n2 : Nat) (x2 : Int32) (q1 : Int32 × Sto) : Option (Int32 × Sto) :=
  if x2 = 0 then (if q1.1 = 0 then some (0, q1.2) else f_X8_isE_L9 q8 n2 q1.2)
  else (if q1.1 = 0 then some (0, q1.2) else (f_X8_codes q1.2 2).bind fun q7 => (if q7.1 = 0 then some (0, q7.2) else f_X8_isE_L9 q8 n2 q7.2))
theorem sF_comm {σ : Sto} {c k i c' k' i' : Nat} {u v : Int32} (h : ¬ (c = c' ∧ k = k' ∧ i = i')) : sF (sF σ c k i u) c' k' i' v = sF (sF σ c' k' i' v) c k i u := by
  unfold sF
  refine Prod.ext ?_ rfl
  funext x y z
  show (if x = c' ∧ y = k' ∧ z = i' then v else if x = c ∧ y = k ∧ z = i then u else σ.1 x y z) = (if x = c ∧ y = k ∧ z = i then u else if x = c' ∧ y = k' ∧ z = i' then v else σ.1 x y z)
  by_cases h1 : x = c' ∧ y = k' ∧ z = i'
  · rw [if_pos h1]
    by_cases h2 : x = c ∧ y = k ∧ z = i
    · exact absurd ⟨h2.1.symm.trans h1.1, h2.2.1.symm.trans h1.2.1, h2.2.2.symm.trans h1.2.2⟩ h
    · rw [if_neg h2, if_pos h1]
  · rw [if_neg h1]
    by_cases h2 : x = c ∧ y = k ∧ z = i
    · rw [if_pos h2, if_pos h2]
    · rw [if_neg h2, if_neg h2, if_neg h1]
theorem add_mv {s : Sto} {k n : Nat} {y st lt nb : Int32} (h : s.1 1 3 k = nI n) (hn : n < 100) {s' : Sto} (g : f_X1_add s k st lt nb = some s') : f_X1_add (sF s 4 2 0 y) k st lt nb = some (sF s' 4 2 0 y) := by
  have b1 : (0 : Int32) ≤ nI n ∧ nI n < 100 := nI_r (N := 100) (by omega) (by decide)
  have b3 : ¬ (100 : Int32) ≤ nI n := nI_ge (a := n) (b := 100) (by omega) (by decide)
  unfold f_X1_add at g ⊢
  have h2 : (sF s 4 2 0 y).1 1 3 k = nI n := by rw [sF_ne (by omega), h]
  simp only [h, b3, if_false, b1, and_self, if_true, nm, sA1] at g
  simp only [h2, b3, if_false, b1, and_self, if_true, nm, sA1]
  rw [← Option.some.inj g]
  have hc := congrArg Prod.fst (sF_comm (σ := s) (c := 4) (k := 2) (i := 0) (c' := 1) (k' := 3) (i' := k) (u := y) (v := nI n + 1) (fun h => absurd h.1 (by decide)))
  exact congrArg some (Prod.ext hc rfl)
theorem tk1' {s0 t0 s t : Sto} {k S0 c0 Ln a : Nat} {ow c : Int32} {cs : List Int32} {tx : Nat → Int32} (T : TX s0 t0 Ln tx) (E : EQp s0 t0 s t k S0 c0 Ln a ow cs) (h : a < Ln ∧ tx a = c) : f_X4_take s c = some (1, sF s 4 2 0 (nI (a + 1))) ∧ f_X8_is t c = some (1, sF t 8 9 0 (nI (a + 1))) ∧ EQp s0 t0 (sF s 4 2 0 (nI (a + 1))) (sF t 8 9 0 (nI (a + 1))) k S0 c0 Ln (a + 1) ow cs := by
  have E' := E
  obtain ⟨T1, T2, T3, T4⟩ := T
  obtain ⟨⟨q1, q2, q3, q4⟩, ⟨m1, m2⟩, x1, -⟩ := E
  obtain ⟨r1, r2, -⟩ := T4 a h.1
  have b1 : (0 : Int32) ≤ nI a ∧ nI a < 100 := nI_r (N := 100) (by omega) (by decide)
  have b2 : (nI a).toNatClampNeg = a := nI_clamp (by omega)
  have b3 : ¬ nI Ln ≤ nI a := nI_ge h.1 (by omega)
  have b4 : ¬ nI a = nI Ln := fun q => by have := (nI_eq (by omega) (by omega)).mp q; omega
  refine ⟨?_, ?_, EQp_mv E' (FrE.rfl'.sF (by decide)) rfl (FrE.rfl'.sF (by decide)) (sF_at _ _ _ _ _) (sF_at _ _ _ _ _) (by rw [sF_ne (by decide)]; exact x1) (by omega) h.1⟩
  · unfold f_X4_take
    rw [q1.1 4 1 0 (by decide), T2, q4, if_neg b3, if_pos b1, b2, q1.2.1 4 0 0 (by decide), r1, if_pos h.2, nI_1]
    rfl
  · unfold f_X8_is
    rw [m1.1 8 7 0 (by decide), T3, m2, if_neg b4, if_pos b1, b2, m1.2.1 8 8 0 (by decide), r2, if_pos h.2, nI_1]
    rfl
theorem E_end {s0 t0 : Sto} {k S0 c0 Ln w h a a0 : Nat} {ow : Int32} {tx : Nat → Int32} {q7 : Sto → Int32 → Option (Int32 × Sto)} {q8 : Sto → Option (Int32 × Sto)} (hk : k < 8) (T : TX s0 t0 Ln tx) {cs es : List Int32} {n n1 n2 m : Nat} {x2 : Int32} (hm : (x2 = 0 ∧ m = 1) ∨ (x2 = 1 ∧ m = 2)) {s t : Sto} (hdp : ∀ d', d' + (h + 2) ≤ 30 → dp es d' = some (d' + m)) (E : EQp s0 t0 s t k S0 c0 Ln a ow (cs ++ es)) (hA : S0 + cs.length ≤ a0) (hB : c0 + cs.length ≤ 500 + a0) (hr : es.length + m + a0 ≤ a + 1) (ha : a0 < a) (hc : ¬ (a < Ln ∧ tx a = 38)) (hc2 : ¬ (a < Ln ∧ tx a = 124)) : RSp s0 t0 k S0 c0 Ln a0 ow (h + 2) cs (f_X4_takeEither_L12 q7 (n + 1) s (nI w) x2) ((f_X8_isT_L9 q8 (n1 + 1) t).bind (Kx q8 (n2 + 1) x2)) := by
  have T1 := T.1
  have e7 : f_X4_takeEither_L12 q7 (n + 1) s (nI w) x2 = f_X4_takeEither_L138 q7 s x2 := by
    obtain ⟨-, T2, T3, T4⟩ := T
    obtain ⟨⟨q1, q2, q3, q4⟩, -⟩ := id E
    show f_X4_takeEither_B12 q7 _ s (nI w) x2 = _
    unfold f_X4_takeEither_B12
    rw [q1.1 4 1 0 (by decide), T2, q4]
    by_cases hl : a < Ln
    · obtain ⟨r1, -⟩ := T4 a hl
      have b1 : (0 : Int32) ≤ nI a ∧ nI a < 100 := nI_r (N := 100) (by omega) (by decide)
      have b2 : (nI a).toNatClampNeg = a := nI_clamp (by omega)
      rw [if_neg (nI_ge hl (by omega)), if_pos b1, b2, q1.2.1 4 0 0 (by decide), r1, if_neg (fun q => hc ⟨hl, q⟩), if_pos b1, if_neg (fun q => hc2 ⟨hl, q⟩)]
    · have : Ln ≤ a := by omega
      rw [if_pos (nI_le this (by have := E.2.2.2.2.2.2.2.2.1.2.2; omega))]
  have e8 : f_X8_isT_L9 q8 (n1 + 1) t = some (1, t) := by
    show f_X8_isT_B9 q8 _ t = _
    unfold f_X8_isT_B9
    rw [(tk0 T E hc).2]
    rfl
  have e9 : ∀ {s' t' : Sto} {ds : List Int32}, EQp s0 t0 s' t' k S0 c0 Ln a ow ds → f_X8_isE_L9 q8 (n2 + 1) t' = some (1, t') := by
    intro s' t' ds E'
    show f_X8_isE_B9 q8 _ t' = _
    unfold f_X8_isE_B9
    rw [(tk0 T E' hc2).2]
    rfl
  rw [e7, e8]
  simp only [Option.bind_some]
  have hlen : (cs ++ es).length = cs.length + es.length := by simp
  rcases hm with ⟨rfl, rfl⟩ | ⟨rfl, rfl⟩
  · refine ⟨1, s, t, a, ?_, ?_, Or.inr ⟨rfl, ha, es, hdp, by omega, E⟩⟩
    · unfold f_X4_takeEither_L138
      rw [if_pos rfl]
    · unfold Kx
      rw [if_pos rfl, if_neg h10, e9 E]
  · obtain ⟨s', t', g1, g2, g3⟩ := emit (st := 124) (lt := 0) (nb := 0) (c := 2) T1 E (by omega) (by omega) (Or.inr (Or.inr (Or.inl ⟨rfl, rfl⟩)))
    have hq2 : s.2.2.2 = k := E.1.2.1
    refine ⟨1, s', t', a, ?_, ?_, Or.inr ⟨rfl, ha, es ++ [2], ?_, by simp; omega, by rw [← List.append_assoc]; exact g3⟩⟩
    · unfold f_X4_takeEither_L138
      rw [if_neg h10, hq2, if_pos hk, g1]
      rfl
    · unfold Kx
      rw [if_neg h10, if_neg h10, g2]
      simp only [Option.bind_some, h10, if_false]
      exact e9 g3
    · intro d' hd
      rw [dp_app, hdp d' hd]
      simp only [Option.bind_some]
      unfold dp
      rw [if_neg (by decide), if_pos (Or.inr rfl), if_pos (by omega)]
      rfl
theorem E_L {s0 t0 : Sto} {k S0 c0 Ln w h : Nat} {ow : Int32} {tx : Nat → Int32} {q7 : Sto → Int32 → Option (Int32 × Sto)} {q8 : Sto → Option (Int32 × Sto)} (hk : k < 8) (T : TX s0 t0 Ln tx) (hS : SyF s0 t0 k S0 c0 Ln ow w h q7 q8) (a0 : Nat) (cs : List Int32) (hA : S0 + cs.length ≤ a0) (hB : c0 + cs.length ≤ 500 + a0) : ∀ (d a : Nat), Ln - a ≤ d → a0 < a → ∀ n n1 n2, d < n → d < n1 → d < n2 → d < 1000 → ∀ (x2 : Int32) (m : Nat), (x2 = 0 ∧ m = 1) ∨ (x2 = 1 ∧ m = 2) → ∀ s t es, (∀ d', d' + (h + 2) ≤ 30 → dp es d' = some (d' + m)) → EQp s0 t0 s t k S0 c0 Ln a ow (cs ++ es) → es.length + m + a0 ≤ a + 1 → RSp s0 t0 k S0 c0 Ln a0 ow (h + 2) cs (f_X4_takeEither_L12 q7 n s (nI w) x2) ((f_X8_isT_L9 q8 n1 t).bind (Kx q8 n2 x2)) := by
  have T1 := T.1
  intro d
  induction d with
  | zero =>
    intro a had ha n n1 n2 hn hn1 hn2 _ x2 m hm s t es hdp E hr
    obtain ⟨n, rfl⟩ : ∃ q, n = q + 1 := ⟨n - 1, by omega⟩
    obtain ⟨n1, rfl⟩ : ∃ q, n1 = q + 1 := ⟨n1 - 1, by omega⟩
    obtain ⟨n2, rfl⟩ : ∃ q, n2 = q + 1 := ⟨n2 - 1, by omega⟩
    exact E_end hk T hm hdp E hA hB hr ha (fun hh => by omega) (fun hh => by omega)
  | succ d ih =>
    intro a had ha n n1 n2 hn hn1 hn2 hd1000 x2 m hm s t es hdp E hr
    obtain ⟨n, rfl⟩ : ∃ q, n = q + 1 := ⟨n - 1, by omega⟩
    obtain ⟨n1, rfl⟩ : ∃ q, n1 = q + 1 := ⟨n1 - 1, by omega⟩
    obtain ⟨n2, rfl⟩ : ∃ q, n2 = q + 1 := ⟨n2 - 1, by omega⟩
    have hm12 : m = 1 ∨ m = 2 := by
      rcases hm with ⟨-, h⟩ | ⟨-, h⟩
      · exact Or.inl h
      · exact Or.inr h
    have hlen : (cs ++ es).length = cs.length + es.length := by simp
    have hq2 : s.2.2.2 = k := E.1.2.1
    -- what the class does once a sign is taken
    have h51 : ∀ c : Int32, (c = 38 ∨ c = 124) → a < Ln → tx a = c → f_X4_takeEither_L12 q7 (n + 1) s (nI w) x2 = f_X4_takeEither_L51 q7 (f_X4_takeEither_L12 q7 n) s (nI w) x2 ∧ f_X4_takeEither_L51 q7 (f_X4_takeEither_L12 q7 n) s (nI w) x2 = (if c = 124 then (if x2 = 0 then f_X4_takeEither_L92 q7 (f_X4_takeEither_L12 q7 n) (sF s 4 2 0 (nI (a + 1))) (nI w) x2 c else (if k < 8 then (f_X1_add (sF s 4 2 0 (nI (a + 1))) k 124 0 0).bind fun q24 => f_X4_takeEither_L92 q7 (f_X4_takeEither_L12 q7 n) q24 (nI w) x2 c else none)) else f_X4_takeEither_L92 q7 (f_X4_takeEither_L12 q7 n) (sF s 4 2 0 (nI (a + 1))) (nI w) x2 c) := by
      intro c hc hl hce
      obtain ⟨-, T2, T3, T4⟩ := T
      obtain ⟨⟨q1, q2, q3, q4⟩, -⟩ := id E
      obtain ⟨r1, -⟩ := T4 a hl
      have b1 : (0 : Int32) ≤ nI a ∧ nI a < 100 := nI_r (N := 100) (by omega) (by decide)
      have b2 : (nI a).toNatClampNeg = a := nI_clamp (by omega)
      constructor
      · show f_X4_takeEither_B12 q7 _ s (nI w) x2 = _
        unfold f_X4_takeEither_B12
        rw [q1.1 4 1 0 (by decide), T2, q4, if_neg (nI_ge hl (by omega)), if_pos b1, b2, q1.2.1 4 0 0 (by decide), r1, hce]
        rcases hc with rfl | rfl
        · rw [if_pos rfl]
        · rw [if_neg (by decide), if_pos b1, if_pos rfl]
      · unfold f_X4_takeEither_L51
        rw [q4, if_pos b1, b2, q1.2.1 4 0 0 (by decide), r1, hce]
        simp only [nm, nmI, nI_1, sF2, q2]
    by_cases hc : a < Ln ∧ tx a = 38
    · obtain ⟨g7, g8, E1⟩ := tk1' T E hc
      obtain ⟨z1, z2⟩ := h51 38 (Or.inl rfl) hc.1 hc.2
      rw [z1, z2, if_neg (by decide)]
      have h92 : f_X4_takeEither_L92 q7 (f_X4_takeEither_L12 q7 n) (sF s 4 2 0 (nI (a + 1))) (nI w) x2 38 = f_X4_takeEither_L107 q7 (f_X4_takeEither_L12 q7 n) (sF s 4 2 0 (nI (a + 1))) (nI w) 38 x2 := by
        unfold f_X4_takeEither_L92 f_X4_takeEither_L102
        rcases hm with ⟨rfl, -⟩ | ⟨rfl, -⟩
        · rw [if_pos rfl, if_neg (by decide)]
        · rw [if_neg h10]
      have e8 : f_X8_isT_L9 q8 (n1 + 1) t = (q8 (sF t 8 9 0 (nI (a + 1)))).bind fun q5 => (if q5.1 = 0 then some (0, q5.2) else (f_X8_codes q5.2 1).bind fun q7 => (if q7.1 = 0 then some (0, q7.2) else f_X8_isT_L9 q8 n1 q7.2)) := by
        show f_X8_isT_B9 q8 _ t = _
        unfold f_X8_isT_B9
        rw [g8]
        rfl
      rw [h92, e8]
      unfold f_X4_takeEither_L107
      obtain ⟨r, s', t', a', o7, o8, hres⟩ := hS _ _ _ _ E1
      rw [o7, o8]
      simp only [Option.bind_some]
      rcases hres with ⟨rfl, z1, z2, z3⟩ | ⟨rfl, hlt, fs, hwf, hfl, E2⟩
      · rw [if_pos rfl, if_pos rfl]
        refine ⟨0, s', t', a', rfl, ?_, Or.inl ⟨rfl, z1, z2, z3⟩⟩
        simp only [Option.bind_some]
        unfold Kx
        rcases hm with ⟨rfl, -⟩ | ⟨rfl, -⟩
        · rw [if_pos rfl, if_pos rfl]
        · rw [if_neg h10, if_pos rfl]
      · rw [if_neg h10, if_neg h10, if_pos trivial]
        have hl2 : (cs ++ es ++ fs).length = cs.length + es.length + fs.length := by simp; omega
        obtain ⟨s'', t'', f1, f2, f3⟩ := emit (st := 38) (lt := 0) (nb := 0) (c := 1) T1 E2 (by omega) (by omega) (Or.inr (Or.inl ⟨rfl, rfl⟩))
        have hq2' : s'.2.2.2 = k := E2.1.2.1
        rw [hq2', if_pos hk, f1, f2]
        simp only [Option.bind_some, h10, if_false]
        have hE3 : EQp s0 t0 s'' t'' k S0 c0 Ln a' ow (cs ++ (es ++ fs ++ [1])) := by
          have : cs ++ (es ++ fs ++ [1]) = cs ++ es ++ fs ++ [1] := by simp
          rw [this]; exact f3
        exact ih a' (by omega) (by omega) n n1 (n2 + 1) (by omega) (by omega) (by omega) (by omega) x2 m hm s'' t'' (es ++ fs ++ [1]) (fun d' hd => by
          rw [dp_app, dp_app, hdp d' hd]
          simp only [Option.bind_some]
          rw [hwf (d' + m) (by omega)]
          simp only [Option.bind_some]
          unfold dp
          rw [if_neg (by decide), if_pos (Or.inl rfl), if_pos (by omega)]
          rfl) hE3 (by simp; omega)
    · by_cases hc2 : a < Ln ∧ tx a = 124
      · obtain ⟨z1, z2⟩ := h51 124 (Or.inr rfl) hc2.1 hc2.2
        rw [z1, z2, if_pos rfl]
        have e8 : f_X8_isT_L9 q8 (n1 + 1) t = some (1, t) := by
          show f_X8_isT_B9 q8 _ t = _
          unfold f_X8_isT_B9
          rw [(tk0 T E hc).2]
          rfl
        -- both go on alike behind the sign
        have tail : ∀ (sx ty : Sto) (gs : List Int32), EQp s0 t0 (sF sx 4 2 0 (nI (a + 1))) (sF ty 8 9 0 (nI (a + 1))) k S0 c0 Ln (a + 1) ow (cs ++ gs) → f_X8_is ty 124 = some (1, sF ty 8 9 0 (nI (a + 1))) → (∀ d', d' + (h + 2) ≤ 30 → dp gs d' = some (d' + 1)) → gs.length + a0 ≤ a → RSp s0 t0 k S0 c0 Ln a0 ow (h + 2) cs (f_X4_takeEither_L107 q7 (f_X4_takeEither_L12 q7 n) (sF sx 4 2 0 (nI (a + 1))) (nI w) 124 1) (f_X8_isE_L9 q8 (n2 + 1) ty) := by
          intro sx ty gs E1 his hgs hgl
          have e9 : f_X8_isE_L9 q8 (n2 + 1) ty = ((q8 (sF ty 8 9 0 (nI (a + 1)))).bind fun q1 => (if q1.1 = 0 then some (0, q1.2) else f_X8_isT_L9 q8 1000 q1.2)).bind (Kx q8 n2 1) := by
            show f_X8_isE_B9 q8 _ ty = _
            unfold f_X8_isE_B9
            rw [his]
            rfl
          rw [e9]
          unfold f_X4_takeEither_L107
          obtain ⟨r, s', t', a', o7, o8, hres⟩ := hS _ _ _ _ E1
          rw [o7, o8]
          simp only [Option.bind_some]
          rcases hres with ⟨rfl, z1, z2, z3⟩ | ⟨rfl, hlt, fs, hwf, hfl, E2⟩
          · rw [if_pos rfl, if_pos rfl]
            refine ⟨0, s', t', a', rfl, ?_, Or.inl ⟨rfl, z1, z2, z3⟩⟩
            simp only [Option.bind_some]
            unfold Kx
            rw [if_neg h10, if_pos rfl]
          · rw [if_neg h10, if_neg (by decide), if_neg h10]
            have hE3 : EQp s0 t0 s' t' k S0 c0 Ln a' ow (cs ++ (gs ++ fs)) := by
              rw [← List.append_assoc]; exact E2
            exact ih a' (by omega) (by omega) n 1000 n2 (by omega) (by omega) (by omega) (by omega) 1 2 (Or.inr ⟨rfl, rfl⟩) s' t' (gs ++ fs) (fun d' hd => by
              rw [dp_app, hgs d' hd]
              simp only [Option.bind_some]
              rw [hwf (d' + 1) (by omega)]) hE3 (by simp; omega)
        rw [e8]
        simp only [Option.bind_some]
        rcases hm with ⟨rfl, rfl⟩ | ⟨rfl, rfl⟩
        · rw [if_pos rfl]
          have h92 : f_X4_takeEither_L92 q7 (f_X4_takeEither_L12 q7 n) (sF s 4 2 0 (nI (a + 1))) (nI w) 0 124 = f_X4_takeEither_L107 q7 (f_X4_takeEither_L12 q7 n) (sF s 4 2 0 (nI (a + 1))) (nI w) 124 1 := by
            unfold f_X4_takeEither_L92 f_X4_takeEither_L102
            rw [if_pos rfl, if_pos rfl]
          have hK : Kx q8 (n2 + 1) 0 (1, t) = f_X8_isE_L9 q8 (n2 + 1) t := by
            unfold Kx
            rw [if_pos rfl, if_neg h10]
          rw [h92, hK]
          obtain ⟨-, g8, E1⟩ := tk1' T E hc2
          exact tail s t es E1 g8 hdp (by omega)
        · rw [if_neg h10, if_pos hk]
          obtain ⟨s', t', f1, f2, f3⟩ := emit (st := 124) (lt := 0) (nb := 0) (c := 2) T1 E (by omega) (by omega) (Or.inr (Or.inr (Or.inl ⟨rfl, rfl⟩)))
          have hsz := E.2.2.2.1
          rw [add_mv hsz (by omega) f1]
          simp only [Option.bind_some]
          have h92 : f_X4_takeEither_L92 q7 (f_X4_takeEither_L12 q7 n) (sF s' 4 2 0 (nI (a + 1))) (nI w) 1 124 = f_X4_takeEither_L107 q7 (f_X4_takeEither_L12 q7 n) (sF s' 4 2 0 (nI (a + 1))) (nI w) 124 1 := by
            unfold f_X4_takeEither_L92 f_X4_takeEither_L102
            rw [if_neg h10]
          have hK : Kx q8 (n2 + 1) 1 (1, t) = f_X8_isE_L9 q8 (n2 + 1) t' := by
            unfold Kx
            rw [if_neg h10, if_neg h10, f2]
            simp only [Option.bind_some, h10, if_false]
          rw [h92, hK]
          obtain ⟨-, g8, E1⟩ := tk1' T f3 hc2
          exact tail s' t' (es ++ [2]) (by rw [← List.append_assoc]; exact E1) g8 (fun d' hd => by
            rw [dp_app, hdp d' hd]
            simp only [Option.bind_some]
            unfold dp
            rw [if_neg (by decide), if_pos (Or.inr rfl), if_pos (by omega)]
            rfl) (by simp; omega)
      · exact E_end hk T hm hdp E hA hB hr ha hc hc2
theorem E_sync {s0 t0 : Sto} {k S0 c0 Ln w h : Nat} {ow : Int32} {tx : Nat → Int32} {q7 : Sto → Int32 → Option (Int32 × Sto)} {q8 : Sto → Option (Int32 × Sto)} (hk : k < 8) (T : TX s0 t0 Ln tx) (hS : SyF s0 t0 k S0 c0 Ln ow w h q7 q8) {s t : Sto} {a : Nat} {cs : List Int32} (E : EQp s0 t0 s t k S0 c0 Ln a ow cs) : RSp s0 t0 k S0 c0 Ln a ow (h + 2) cs (f_X4_takeEither q7 s (nI w)) (f_X8_isE q8 t) := by
  have T1 := T.1
  have hb := E.2.2.2.2.2.2.2.2.1
  unfold f_X4_takeEither f_X8_isE f_X8_isT
  obtain ⟨r, s', t', a', o7, o8, hres⟩ := hS _ _ _ _ E
  rw [o7, o8]
  simp only [Option.bind_some]
  rcases hres with ⟨rfl, z1, z2, z3⟩ | ⟨rfl, hlt, fs, hwf, hfl, E2⟩
  · rw [if_pos rfl, if_pos rfl]
    refine ⟨0, s', t', a', rfl, rfl, Or.inl ⟨rfl, z1, z2, z3⟩⟩
  · rw [if_neg h10, if_neg h10]
    have key := (fun (key : ∀ M, 200 < M → RSp s0 t0 k S0 c0 Ln a ow (h + 2) cs (f_X4_takeEither_L12 q7 M s' (nI w) 0) ((f_X8_isT_L9 q8 M t').bind (Kx q8 M 0))) => key 1000 (by decide)) (fun M hM => E_L hk T hS a cs hb.1 hb.2.1 100 a' (by omega) hlt M M M (by omega) (by omega) (by omega) (by omega) 0 1 (Or.inl ⟨rfl, rfl⟩) s' t' fs (fun d' hd => hwf d' (by omega)) E2 (by omega))
    have hKx : Kx q8 1000 0 = (fun q1 : Int32 × Sto => if q1.1 = 0 then some (0, q1.2) else f_X8_isE_L9 q8 1000 q1.2) := by
      funext q1
      unfold Kx
      rw [if_pos rfl]
    rw [hKx] at key
    exact key
