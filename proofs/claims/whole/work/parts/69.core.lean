-- A CLAUSE STEP BY STEP
theorem clause_core {s0 t0 s t : Sto} {k c0 Ln a i : Nat} {C : Nat → List Int32} {P : Nat → Nat} {tx : Nat → Int32} (hk : k < 6) (hi : i < 10) (hc0 : c0 ≤ 500) (T : TX s0 t0 Ln tx) (L : CL s0 t0 s t k c0 Ln a i C P) (wd : Nat) (y0 : Int32) (hwd : (wd = 0 ∧ y0 = 119) ∨ (wd = 1 ∧ y0 = 102) ∨ (wd = 2 ∧ y0 = 115)) : ∃ r s' t' a', f_X4_takeClause_L49 s y0 wd = some (r, s') ∧ f_X8_isClause_L69 t (nI (10 * k + i)) (nI wd) = some (r, t') ∧ WK s0 t0 s' t' k c0 Ln a' ∧ (r = 0 ∨ (r = 1 ∧ ∃ C' P', CL s0 t0 s' t' k c0 Ln a' (i + 1) C' P')) := by
  have L' := L
  obtain ⟨W, hP0, hsz, hPa, hPm, ⟨cc, hcc, hc1, hc2⟩, hsn, hR⟩ := L
  have T1 := T.1
  have T' := TX_mv T W
  have ha := W.2.2.2.2.2.2.2.2
  have E0 : EQp s t s t k (P i) cc Ln a (t.1 8 12 0) [] := EQp_st W.1 W.2.2.2.1 W.2.2.2.2.2.2.2.1 hsz hcc hPa (by omega) ha
  have hwd3 : wd < 3 := by
    rcases hwd with ⟨rfl, -⟩ | ⟨rfl, -⟩ | ⟨rfl, -⟩ <;> omega
  obtain ⟨r, s1, t1, a1, n1, n2, n3, n4, E1⟩ := word_eq T' E0 wd hwd3
  have e8 : f_X8_isClause_L69 t (nI (10 * k + i)) (nI wd) = f_X8_isClause_L115 t1 (nI (10 * k + i)) (nI wd) r := by
    unfold f_X8_isClause_L69
    rcases hwd with ⟨rfl, -⟩ | ⟨rfl, -⟩ | ⟨rfl, -⟩
    · rw [if_pos (by decide), n2]
      rfl
    · rw [if_neg (by decide), if_pos (by decide), n2]
      rfl
    · rw [if_neg (by decide), if_neg (by decide), if_pos (by decide), n2]
      simp only [Option.bind_some]
      rcases n3 with rfl | rfl
      · rw [if_pos rfl]
        rfl
      · rw [if_neg h10]
  rw [e8]
  unfold f_X4_takeClause_L49
  rw [n1]
  simp only [Option.bind_some]
  rcases n3 with rfl | rfl
  · rw [if_pos rfl]
    unfold f_X8_isClause_L115
    rw [if_pos rfl]
    obtain ⟨z1, z2, z3, z4⟩ := EQp_z E1
    exact ⟨0, s1, t1, a1, rfl, rfl, W.step z1 z2 hc1 z4 z3, Or.inl rfl⟩
  rw [if_neg h10]
  obtain ⟨r, s2, t2, j', v', m1, m2, E2, hv1, hv2, hv, hr⟩ := num_eq T' E1
  have ha2 := E2.2.2.2.2.2.2.2.2.1.2.2
  obtain ⟨z1, z2, z3, z4⟩ := EQp_z E2
  have W2 := W.step z1 z2 hc1 z4 z3
  rw [m1]
  simp only [Option.bind_some]
  by_cases hj : j' = 0
  · rw [if_pos hj] at hr
    subst hr
    rw [if_pos rfl]
    unfold f_X8_isClause_L115
    rw [if_neg h10, m2]
    simp only [Option.bind_some, if_true]
    exact ⟨0, s2, t2, a1 + j', rfl, rfl, W2, Or.inl rfl⟩
  rw [if_neg hj] at hr
  subst hr
  have hN : 10 * k + i < 61 := by omega
  have hq2 : s2.2.2.2 = k := E2.1.2.1
  have hk8 : k < 8 := by omega
  have g1 : s2.1 1 3 k = nI (P i) := E2.2.2.2.1
  have g2 : t2.1 8 21 0 = nI cc := E2.2.2.2.2.1
  have g3 : s2.1 1 4 k = s.1 1 4 k := E2.2.2.2.2.2.2.2.2.2
  have g4 : ∀ j, j < P i → ∀ c, s2.2.1 1 c k j = s.2.1 1 c k j := E2.2.2.2.2.2.1
  have g5 : ∀ c i', 16 ≤ c → c ≤ 19 → t2.2.1 8 c 0 i' = t.2.1 8 c 0 i' := fun c i' h1 h2 => by
    rw [z2.1.2.1 8 c 0 (fun hh => by simp at hh; omega)]
  have hv99 : (0 : Int32) ≤ nI v' ∧ nI v' ≤ 99 := ⟨nI_n0 (by omega), (nI_leI (a := v') (b := 99) (by omega) (by decide)).mpr (by omega)⟩
  rw [if_neg h10, L115_1 hN m2, hv2]
  by_cases hw2 : wd = 2
  · have hy : y0 = 115 := by
      rcases hwd with ⟨h, -⟩ | ⟨h, -⟩ | ⟨-, h⟩
      · omega
      · omega
      · exact h
    rw [if_pos hy, hq2, if_pos hk8, if_pos (show (2 : Int32) ≤ nI wd by rw [hw2]; decide), L184_1 hN, hv1]
    simp only [nm]
    have W3 : WK s0 t0 (sF s2 1 4 k (nI v')) (up8 19 (10 * k + i) ((cl3 t2 (10 * k + i) (nI wd) (nI v')).1 8 21 0 - (cl3 t2 (10 * k + i) (nI wd) (nI v')).2.1 8 18 0 (10 * k + i)) (cl3 t2 (10 * k + i) (nI wd) (nI v'))) k c0 Ln (a1 + j') := by
      have q : QCp s2 (sF s2 1 4 k (nI v')) k (a1 + j') := by
        refine ⟨FrE.rfl'.sF (show (1, 4, 0) ∈ cpF by decide), hq2, fun k' hk' c => ⟨sF_ne (fun hh => hk' hh.2.2), rfl⟩, ?_⟩
        rw [sF_ne (by omega)]
        exact z1.2.2.2
      have W4 : WK s0 t0 (sF s2 1 4 k (nI v')) t2 k c0 Ln (a1 + j') := W2.step q ⟨FrE.rfl', z2.2⟩ (Nat.le_refl c0) (fun _ _ => rfl) z3
      unfold cl3
      exact ((((W4.up8 (by omega) (by omega) (by omega)).up8 (by omega) (by omega) (by omega)).up8 (by omega) (by omega) (by omega)).f12).up8 (by omega) (by omega) (by omega)
    refine ⟨1, _, _, a1 + j', rfl, rfl, W3, Or.inr ⟨rfl, ?_⟩⟩
    have v16 : (cl3 t2 (10 * k + i) (nI wd) (nI v')).2.1 8 16 0 (10 * k + i) = nI wd := by
      unfold cl3
      rw [sF2, up8_A (by omega), up8_A (by omega), up8_at]
    have v17 : (cl3 t2 (10 * k + i) (nI wd) (nI v')).2.1 8 17 0 (10 * k + i) = nI v' := by
      unfold cl3
      rw [sF2, up8_A (by omega), up8_at]
    have v21 : (cl3 t2 (10 * k + i) (nI wd) (nI v')).1 8 21 0 = nI cc := by
      unfold cl3
      rw [sF_ne (by decide), up8_F, up8_F, up8_F, g2]
    refine CL_next L' W3 (fun c hc x hx => g4 x hx c) (fun c i' h1 h2 h3 => ?_) hcc v21 (Nat.le_refl cc) hc1 (by omega) (by omega) (fun j hj => ?_) [] (P i) (Nat.le_refl _) (by omega) ?_ ?_ ?_
    · rw [up8_A (by omega)]
      unfold cl3
      rw [sF2, up8_A (by omega), up8_A (by omega), up8_A (by omega)]
      exact g5 c _ h1 h2
    · rw [up8_A (by omega)]
      unfold cl3
      rw [sF2, up8_A (by omega), up8_A (by omega), up8_A (by omega)]
      exact z4 j hj
    · rw [sF_ne (by omega)]; exact g1
    · rw [sF_at, up8_A (by omega), up8_A (by omega), v16, v17, if_pos (by rw [hw2]; decide)]
    · have x16 : (up8 19 (10 * k + i) ((cl3 t2 (10 * k + i) (nI wd) (nI v')).1 8 21 0 - (cl3 t2 (10 * k + i) (nI wd) (nI v')).2.1 8 18 0 (10 * k + i)) (cl3 t2 (10 * k + i) (nI wd) (nI v'))).2.1 8 16 0 (10 * k + i) = 2 := by
        rw [up8_A (by omega), v16, hw2]; decide
      refine ⟨Or.inr (Or.inr x16), ?_, fun _ => ?_, fun hh => absurd x16 hh⟩
      · show 0 ≤ (up8 _ _ _ _).2.1 8 17 0 (10 * k + i) ∧ (up8 _ _ _ _).2.1 8 17 0 (10 * k + i) ≤ 99
        rw [up8_A (by omega), v17]; exact hv99
      · show (if i + 1 = i + 1 then P i else P (i + 1)) = (if i = i + 1 then P i else P i)
        rw [if_pos rfl, if_neg (by omega)]
  · have hw01 : (wd = 0 ∧ y0 = 119) ∨ (wd = 1 ∧ y0 = 102) := by
      rcases hwd with h | h | h
      · exact Or.inl h
      · exact Or.inr h
      · exact absurd h.1 hw2
    have e7 : ∃ y, (if y0 = 115 then (if s2.2.2.2 < 8 then nm (sF s2 1 4 s2.2.2.2 (s2.1 4 3 0)) fun s17 => some (1, s17) else none) else (if y0 = 119 then f_X4_takeClause_L104 s2 (s2.1 4 3 0) else f_X4_takeClause_L104 s2 (-(s2.1 4 3 0)))) = f_X4_takeClause_L104 s2 y ∧ y = (if nI wd = 0 then nI v' else - nI v') := by
      rcases hw01 with ⟨rfl, rfl⟩ | ⟨rfl, rfl⟩
      · refine ⟨nI v', ?_, ?_⟩
        · rw [if_neg (by decide), if_pos rfl, hv1]
        · rw [if_pos (by decide)]
      · refine ⟨- nI v', ?_, ?_⟩
        · rw [if_neg (by decide), if_neg (by decide), hv1]
        · rw [if_neg (by decide)]
    obtain ⟨y, e7, hy⟩ := e7
    rw [e7, if_neg (by rcases hw01 with ⟨rfl, -⟩ | ⟨rfl, -⟩ <;> decide)]
    have W3 : WK s0 t0 s2 (cl3 t2 (10 * k + i) (nI wd) (nI v')) k c0 Ln (a1 + j') := by
      unfold cl3
      exact (((W2.up8 (by omega) (by omega) (by omega)).up8 (by omega) (by omega) (by omega)).up8 (by omega) (by omega) (by omega)).f12
    have v16 : (cl3 t2 (10 * k + i) (nI wd) (nI v')).2.1 8 16 0 (10 * k + i) = nI wd := by
      unfold cl3
      rw [sF2, up8_A (by omega), up8_A (by omega), up8_at]
    have v17 : (cl3 t2 (10 * k + i) (nI wd) (nI v')).2.1 8 17 0 (10 * k + i) = nI v' := by
      unfold cl3
      rw [sF2, up8_A (by omega), up8_at]
    have v18 : (cl3 t2 (10 * k + i) (nI wd) (nI v')).2.1 8 18 0 (10 * k + i) = nI cc := by
      unfold cl3
      rw [sF2, up8_at, g2]
    have v21 : (cl3 t2 (10 * k + i) (nI wd) (nI v')).1 8 21 0 = nI cc := by
      unfold cl3
      rw [sF_ne (by decide), up8_F, up8_F, up8_F, g2]
    have v12 : (cl3 t2 (10 * k + i) (nI wd) (nI v')).1 8 12 0 = nI 0 := by
      unfold cl3
      rw [sF_at]
      rfl
    have v20 : ∀ j, j < cc → (cl3 t2 (10 * k + i) (nI wd) (nI v')).2.1 8 20 0 j = t.2.1 8 20 0 j := fun j hj => by
      unfold cl3
      rw [sF2, up8_A (by omega), up8_A (by omega), up8_A (by omega)]
      exact z4 j hj
    have vA : ∀ c i', 16 ≤ c → c ≤ 19 → i' < i → (cl3 t2 (10 * k + i) (nI wd) (nI v')).2.1 8 c 0 (10 * k + i') = t.2.1 8 c 0 (10 * k + i') := fun c i' h1 h2 h3 => by
      unfold cl3
      rw [sF2, up8_A (by omega), up8_A (by omega), up8_A (by omega)]
      exact g5 c _ h1 h2
    generalize hT3 : cl3 t2 (10 * k + i) (nI wd) (nI v') = t3 at W3 v16 v17 v18 v21 v12 v20 vA
    have T3 := TX_mv T W3
    have E3 : EQp s2 t3 s2 t3 k (P i) cc Ln (a1 + j') (nI 0) [] := by
      have := EQp_st W3.1 W3.2.2.2.1 W3.2.2.2.2.2.2.2.1 g1 v21 (show P i ≤ a1 + j' by omega) (show cc ≤ 500 + (a1 + j') by omega) ha2
      rw [v12] at this
      exact this
    unfold f_X4_takeClause_L104
    by_cases h32 : a1 + j' < Ln ∧ tx (a1 + j') = 32
    · obtain ⟨k7, k8, E4⟩ := tk1' T3 E3 h32
      rw [k7, k8]
      simp only [Option.bind_some, h10, if_false]
      obtain ⟨r, s5, t5, a5, o7, o8, hres⟩ := E_sync hk8 T3 (F_sync hk8 T3 4 0 rfl 12 12 (by omega) (by omega)) E4
      have o7' : f_X4_takeEither (f_X4_takePart 12) (sF s2 4 2 0 (nI (a1 + j' + 1))) 0 = some (r, s5) := o7
      rw [o7', o8]
      simp only [Option.bind_some]
      rcases hres with ⟨rfl, y1, y2, y3, y4⟩ | ⟨rfl, hlt, es, hwf, hfl, E5⟩
      · rw [if_pos rfl, if_pos rfl]
        exact ⟨0, s5, t5, a5, rfl, rfl, W3.step y1 y2 hc1 y4 y3, Or.inl rfl⟩
      · rw [if_neg h10, if_neg h10, L184_1 hN]
        obtain ⟨y1, y2, y3, y4⟩ := EQp_z E5
        have W5 := W3.step y1 y2 hc1 y4 y3
        have hq5 : s5.2.2.2 = k := y1.2.1
        have k1 : s5.1 1 3 k = nI (P i + es.length) := E5.2.2.2.1
        have k2 : t5.1 8 21 0 = nI (cc + es.length) := E5.2.2.2.2.1
        have k3 : t5.2.1 8 18 0 = t3.2.1 8 18 0 := y2.1.2.1 8 18 0 (by decide)
        have k16 : t5.2.1 8 16 0 = t3.2.1 8 16 0 := y2.1.2.1 8 16 0 (by decide)
        have k17 : t5.2.1 8 17 0 = t3.2.1 8 17 0 := y2.1.2.1 8 17 0 (by decide)
        have kst : ∀ (j : Nat) (h : j < es.length), StR (s5.2.1 1 0 k (P i + j)) (s5.2.1 1 1 k (P i + j)) (s5.2.1 1 2 k (P i + j)) es[j] ∧ t5.2.1 8 20 0 (cc + j) = es[j] := E5.2.2.2.2.2.2.2.1
        rw [hq5, if_pos hk8, add_at k1 (by omega), k2, k3, v18, nI_sub (by omega), show cc + es.length - cc = es.length by omega]
        simp only [Option.bind_some]
        obtain ⟨d1, d2, d3, d4⟩ := add3_v (s := s5) (k := k) (n := P i + es.length) (st := 59) (lt := 0) (nb := y)
        have W6 : WK s0 t0 (add3 s5 k (P i + es.length) 59 0 y) (up8 19 (10 * k + i) (nI es.length) t5) k c0 Ln a5 :=
          (W5.step (add3_Q hq5 y1.2.2.2) ⟨FrE.rfl', y2.2⟩ (Nat.le_refl c0) (fun _ _ => rfl) y3).up8 (by omega) (by omega) (by omega)
        refine ⟨1, _, _, a5, rfl, rfl, W6, Or.inr ⟨rfl, ?_⟩⟩
        have hcc5 : (up8 19 (10 * k + i) (nI es.length) t5).1 8 21 0 = nI (cc + es.length) := k2
        refine CL_next L' W6 (fun c hc x hx => ?_) (fun c i' h1 h2 h3 => ?_) hcc hcc5 (by omega) hc1 (by omega) (by omega) (fun j hj => ?_) es (P i + es.length + 1) (by omega) (by omega) d3 ?_ ?_
        · rw [add3_A hc (by omega), E5.2.2.2.2.2.1 x hx c]
          exact g4 x hx c
        · rw [up8_A (by omega), y2.1.2.1 8 c 0 (fun hh => by simp at hh; omega)]
          exact vA c i' h1 h2 h3
        · rw [up8_A (by omega), y4 j hj]
          exact v20 j hj
        · rw [d4, up8_A (by omega), k16, v16, if_neg (by rcases hw01 with ⟨rfl, -⟩ | ⟨rfl, -⟩ <;> decide), E5.2.2.2.2.2.2.2.2.2, g3]
        · have x16 : (up8 19 (10 * k + i) (nI es.length) t5).2.1 8 16 0 (10 * k + i) = nI wd := by
            rw [up8_A (by omega), k16, v16]
          have x17 : (up8 19 (10 * k + i) (nI es.length) t5).2.1 8 17 0 (10 * k + i) = nI v' := by
            rw [up8_A (by omega), k17, v17]
          have p1 : (fun x => if x = i + 1 then P i + es.length + 1 else P x) i = P i := if_neg (by omega)
          have p2 : (fun x => if x = i + 1 then P i + es.length + 1 else P x) (i + 1) = P i + es.length + 1 := if_pos rfl
          have p3 : (fun x => if x = i then es else C x) i = es := if_pos rfl
          unfold RCx
          rw [p1, p2, p3]
          refine ⟨?_, ?_, fun hh => ?_, fun _ => ⟨rfl, up8_at, ⟨cc, ?_, ?_, fun j hj => ?_⟩, d1, ?_, ?_⟩⟩
          · show (up8 19 (10 * k + i) (nI es.length) t5).2.1 8 16 0 (10 * k + i) = 0 ∨ (up8 19 (10 * k + i) (nI es.length) t5).2.1 8 16 0 (10 * k + i) = 1 ∨ (up8 19 (10 * k + i) (nI es.length) t5).2.1 8 16 0 (10 * k + i) = 2
            rw [x16]
            rcases hw01 with ⟨rfl, -⟩ | ⟨rfl, -⟩
            · exact Or.inl rfl
            · exact Or.inr (Or.inl rfl)
          · show 0 ≤ (up8 19 (10 * k + i) (nI es.length) t5).2.1 8 17 0 (10 * k + i) ∧ (up8 19 (10 * k + i) (nI es.length) t5).2.1 8 17 0 (10 * k + i) ≤ 99
            rw [x17]; exact hv99
          · exfalso
            have hh' : (up8 19 (10 * k + i) (nI es.length) t5).2.1 8 16 0 (10 * k + i) = 2 := hh
            rw [x16] at hh'
            rcases hw01 with ⟨rfl, -⟩ | ⟨rfl, -⟩
            · exact absurd hh' (by decide)
            · exact absurd hh' (by decide)
          · show (up8 19 (10 * k + i) (nI es.length) t5).2.1 8 18 0 (10 * k + i) = nI cc
            rw [up8_A (by omega), k3, v18]
          · rw [hcc5, nI_toInt (by omega)]
            omega
          · rw [up8_A (by omega), add3_A (by omega) (by omega), add3_A (by omega) (by omega), add3_A (by omega) (by omega)]
            exact ⟨(kst j hj).2, (kst j hj).1⟩
          · show _ = (if (up8 19 (10 * k + i) (nI es.length) t5).2.1 8 16 0 (10 * k + i) = 0 then (up8 19 (10 * k + i) (nI es.length) t5).2.1 8 17 0 (10 * k + i) else - (up8 19 (10 * k + i) (nI es.length) t5).2.1 8 17 0 (10 * k + i))
            rw [x16, x17, d2, hy]
          · exact hwf 0 (by omega)
    · obtain ⟨k7, k8⟩ := tk0 T3 E3 h32
      rw [k7, k8]
      simp only [Option.bind_some, if_true]
      exact ⟨0, s2, t3, a1 + j', rfl, rfl, W3, Or.inl rfl⟩
theorem clause_sync {s0 t0 s t : Sto} {k c0 Ln a i : Nat} {C : Nat → List Int32} {P : Nat → Nat} {tx : Nat → Int32} (hk : k < 6) (hi : i < 10) (hc0 : c0 ≤ 500) (T : TX s0 t0 Ln tx) (L : CL s0 t0 s t k c0 Ln a i C P) : ∃ r s' t' a', f_X4_takeClause s = some (r, s') ∧ f_X8_isClause t (nI (10 * k + i)) = some (r, t') ∧ WK s0 t0 s' t' k c0 Ln a' ∧ (r = 0 ∨ (r = 1 ∧ ∃ C' P', CL s0 t0 s' t' k c0 Ln a' (i + 1) C' P')) := by
  have core := fun wd y0 hwd => clause_core hk hi hc0 T L wd y0 hwd
  obtain ⟨W, hP0, hsz, hPa, hPm, ⟨cc, hcc, hc1, hc2⟩, hsn, hR⟩ := L
  have T1 := T.1
  have T' := TX_mv T W
  have ha := W.2.2.2.2.2.2.2.2
  have E0 : EQp s t s t k (P i) cc Ln a (t.1 8 12 0) [] := EQp_st W.1 W.2.2.2.1 W.2.2.2.2.2.2.2.1 hsz hcc hPa (by omega) ha
  have hno : ∀ y0 : Int32, ¬ (a < Ln ∧ tx a = 115) → f_X4_takeClause_L49 s y0 2 = some (0, s) := fun y0 hh => by
    unfold f_X4_takeClause_L49
    rw [word_s0 T' E0 hh]
    rfl
  have hno8 : f_X8_isClause_L69 t (nI (10 * k + i)) (-1) = some (0, t) := by
    unfold f_X8_isClause_L69 f_X8_isClause_L114 f_X8_isClause_L115
    rw [if_neg (by decide), if_neg (by decide), if_neg (by decide), if_pos rfl]
  have fails : ¬ (a < Ln ∧ tx a = 115) → ∀ (o7 o8 : Option (Int32 × Sto)), o7 = some (0, s) → o8 = some (0, t) → ∃ r s' t' a', o7 = some (r, s') ∧ o8 = some (r, t') ∧ WK s0 t0 s' t' k c0 Ln a' ∧ (r = 0 ∨ (r = 1 ∧ ∃ C' P', CL s0 t0 s' t' k c0 Ln a' (i + 1) C' P')) := fun _ o7 o8 h7 h8 => ⟨0, s, t, a, h7, h8, W, Or.inl rfl⟩
  obtain ⟨-, T2, T3, T4⟩ := T'
  unfold f_X4_takeClause f_X8_isClause
  rw [T2, T3, W.2.2.2.1, W.2.2.2.2.2.2.2.1]
  by_cases hl : a < Ln
  · obtain ⟨r1, r2, r3, r4⟩ := T4 a hl
    have b1 : (0 : Int32) ≤ nI a ∧ nI a < 100 := nI_r (N := 100) (by omega) (by decide)
    have b2 : (nI a).toNatClampNeg = a := nI_clamp (by omega)
    have b3 : ¬ nI Ln ≤ nI a := nI_ge hl (by omega)
    rw [if_neg b3, if_neg b3]
    simp only [if_pos b1, b2, r1, r2]
    unfold f_X4_takeClause_L24 f_X8_isClause_L68
    by_cases h1 : tx a = 119
    · rw [if_pos h1, if_pos h1, h1]
      exact core 0 119 (Or.inl ⟨rfl, rfl⟩)
    · rw [if_neg h1, if_neg h1]
      by_cases h2 : tx a = 102
      · rw [if_pos h2, if_pos h2, h2]
        exact core 1 102 (Or.inr (Or.inl ⟨rfl, rfl⟩))
      · rw [if_neg h2, if_neg h2]
        by_cases h3 : tx a = 115
        · rw [if_pos h3, h3]
          exact core 2 115 (Or.inr (Or.inr ⟨rfl, rfl⟩))
        · rw [if_neg h3]
          exact fails (fun hh => h3 hh.2) _ _ (hno _ (fun hh => h3 hh.2)) hno8
  · have hle : nI Ln ≤ nI a := nI_le (by omega) (by omega)
    rw [if_pos hle, if_pos hle]
    refine fails (fun hh => hl hh.1) _ _ ?_ hno8
    unfold f_X4_takeClause_L24
    rw [if_neg (by decide), if_neg (by decide)]
    exact hno 0 (fun hh => hl hh.1)
