def fxT (nu kd v w d wk : Int32) (l : Nat) : Int32 := if l = 0 then nu else if l = 1 then kd else if l = 2 then v else if l = 3 then w / 10 else if l = 4 then d / 10 else wk - wk / 10 * 10
def fxM (σ : Sto) (p : Nat) (wk : Int32) : Nat → Int32 := fxT (nI p) (σ.2.1 8 1 0 p) (σ.2.1 8 2 0 p) (σ.2.1 8 3 0 p) (σ.2.1 8 4 0 p) wk
theorem letterOf_eq {σ : Sto} {p l : Nat} {wk : Int32} (hp : p < 6) (hl : l < 6) : f_X8_letterOf σ (nI p) wk (nI l) = some (fxM σ p wk l) := by
  unfold f_X8_letterOf fxM fxT
  have a2 : (0 : Int32) ≤ nI p ∧ nI p < 6 := nI_r (N := 6) hp (by decide)
  rw [if_pos a2, if_pos a2, if_pos a2, if_pos a2, nI_clamp (by omega)]
  match l, hl with
  | 0, _ => rw [if_pos (by decide), if_pos rfl]
  | 1, _ => rw [if_neg (by decide), if_pos (by decide), if_neg (by decide), if_pos rfl]
  | 2, _ => rw [if_neg (by decide), if_neg (by decide), if_pos (by decide), if_neg (by decide), if_neg (by decide), if_pos rfl]
  | 3, _ => rw [if_neg (by decide), if_neg (by decide), if_neg (by decide), if_pos (by decide), if_neg (by decide), if_neg (by decide), if_neg (by decide), if_pos rfl]
  | 4, _ => rw [if_neg (by decide), if_neg (by decide), if_neg (by decide), if_neg (by decide), if_pos (by decide), if_neg (by decide), if_neg (by decide), if_neg (by decide), if_neg (by decide), if_pos rfl]
  | 5, _ => rw [if_neg (by decide), if_neg (by decide), if_neg (by decide), if_neg (by decide), if_neg (by decide), if_neg (by decide), if_neg (by decide), if_neg (by decide), if_neg (by decide), if_neg (by decide)]
theorem vb0 : vp_nar .boolean 0 = 0 := by decide
theorem vb1 : vp_nar .boolean 1 = 1 := by decide
theorem r22 (σ : Sto) (F : Nat → Int32) : (sA σ 8 22 0 F).2.1 8 22 0 = F := by simp [sA2]
theorem r22o (σ : Sto) (F : Nat → Int32) {k : Nat} (h : k ≠ 22) : (sA σ 8 22 0 F).2.1 8 k 0 = σ.2.1 8 k 0 := by simp [sA2, h]
theorem nI_m1 (n : Nat) : nI (n + 1) + (-1 : Int32) = nI n := by
  have := nI_pred n
  rw [← this]; grind
theorem fxM_22 (σ : Sto) (F : Nat → Int32) (p : Nat) (wk : Int32) : fxM (sA σ 8 22 0 F) p wk = fxM σ p wk := by
  unfold fxM
  rw [r22o σ F (by decide), r22o σ F (by decide), r22o σ F (by decide), r22o σ F (by decide)]
theorem t_step {σ : Sto} {p c b len s e : Nat} {wk cc : Int32} {F : Nat → Int32} {st : List Bool} {cs : List Int32} (hp : p < 6) (hc61 : c < 61) (h18 : σ.2.1 8 18 0 c = nI b) (h19 : σ.2.1 8 19 0 c = nI len) (hs : s < len) (h800 : b + len ≤ 800) (hcode : σ.2.1 8 20 0 (b + s) = cc) (hst : cc = 0 ∨ cc = 1 ∨ cc = 2 ∨ ∃ l s v : Nat, l < 6 ∧ s < 3 ∧ v < 100 ∧ cc = nI (3 + 300 * l + 100 * s + v)) (hb : Bs F st) (h30 : st.length ≤ 30) (hd : dp (cc :: cs) st.length = some e) : ∃ F', Bs F' (evC cc (fxM σ p wk) st) ∧ ∀ n, f_X8_isTrue_L11 (n + 1) (sA σ 8 22 0 F) (nI p) wk (nI c) (nI st.length) (nI (b + s)) = f_X8_isTrue_L11 n (sA σ 8 22 0 F') (nI p) wk (nI c) (nI (evC cc (fxM σ p wk) st).length) (nI (b + s + 1)) := by
  obtain ⟨hd1, hcase⟩ := dp_evC (fx := fxM σ p wk) hd
  have a1 : (0 : Int32) ≤ nI c ∧ nI c < 61 := nI_r (N := 61) hc61 (by decide)
  have a2 : (nI c).toNatClampNeg = c := nI_clamp (by omega)
  have a3 : ¬ nI b + nI len ≤ nI (b + s) := by rw [nI_add]; exact nI_ge (by omega) (by omega)
  have a4 : (0 : Int32) ≤ nI (b + s) ∧ nI (b + s) < 800 := nI_r (N := 800) (by omega) (by decide)
  have a5 : (nI (b + s)).toNatClampNeg = b + s := nI_clamp (by omega)
  have l03 : (0 : Int32) < 3 := by decide
  have l13 : (1 : Int32) < 3 := by decide
  have l23 : (2 : Int32) < 3 := by decide
  have l21 : ¬ (2 : Int32) = 1 := by decide
  have l20 : ¬ (2 : Int32) = 0 := by decide
  have l10 : ¬ (1 : Int32) = 0 := by decide
  have l30 : (0 : Int32) = 0 := rfl
  have hB : ∀ n, f_X8_isTrue_L11 (n + 1) (sA σ 8 22 0 F) (nI p) wk (nI c) (nI st.length) (nI (b + s)) = f_X8_isTrue_B11 (f_X8_isTrue_L11 n) (sA σ 8 22 0 F) (nI p) wk (nI c) (nI st.length) (nI (b + s)) := fun n => rfl
  rcases hst with rfl | rfl | rfl | ⟨l, z, v, hl, hz, hv, hc⟩
  · rcases hcase with ⟨-, b0, t, rfl⟩ | ⟨h, -⟩ | ⟨h, -⟩
    · have e1 : nI (b0 :: t).length - 1 = nI t.length := nI_pred _
      have e2 : (0 : Int32) ≤ nI t.length ∧ nI t.length < 110 := nI_r (N := 110) (by simp at h30; omega) (by decide)
      have e3 : (nI t.length).toNatClampNeg = t.length := nI_clamp (by simp at h30; omega)
      have hF := hb.1
      have hev : evC 0 (fxM σ p wk) (b0 :: t) = (!b0) :: t := by unfold evC; rw [if_pos rfl]
      rw [hev]
      refine ⟨upd F t.length (if (!b0) = true then 1 else 0), ⟨by rw [upd_at, if_pos rfl], Bs_upd (Nat.le_refl _) hb.2⟩, fun n => ?_⟩
      rw [hB]
      have hlen : ((!b0) :: t).length = (b0 :: t).length := rfl
      rw [hlen]
      unfold f_X8_isTrue_B11
      cases b0
      · simp only [nm, nmI, r22, r22o σ F (show (18 : Nat) ≠ 22 by decide), r22o σ F (show (19 : Nat) ≠ 22 by decide), r22o σ F (show (20 : Nat) ≠ 22 by decide), a1, a2, a3, a4, a5, and_self, if_true, if_false, h18, h19, hcode, sA_sA, vb0, vb1, nI_1, Option.bind_some, e1, e2, e3, hF, Bool.false_eq_true, Bool.and_true, Bool.and_false, Bool.or_true, Bool.or_false, Bool.true_or, Bool.false_or, Bool.not_true, Bool.not_false, h10, and_true, and_false, l03, l13, l23, l21, l10, l20, l30]
      · simp only [nm, nmI, r22, r22o σ F (show (18 : Nat) ≠ 22 by decide), r22o σ F (show (19 : Nat) ≠ 22 by decide), r22o σ F (show (20 : Nat) ≠ 22 by decide), a1, a2, a3, a4, a5, and_self, if_true, if_false, h18, h19, hcode, sA_sA, vb0, vb1, nI_1, Option.bind_some, e1, e2, e3, hF, Bool.false_eq_true, Bool.and_true, Bool.and_false, Bool.or_true, Bool.or_false, Bool.true_or, Bool.false_or, Bool.not_true, Bool.not_false, h10, and_true, and_false, l03, l13, l23, l21, l10, l20, l30]
    · rcases h with h | h <;> exact absurd h (by decide)
    · exact absurd rfl h
  · rcases hcase with ⟨h, -⟩ | ⟨-, b0, a0, t, rfl⟩ | ⟨-, h, -⟩
    · exact absurd h (by decide)
    · have e0 : nI (b0 :: a0 :: t).length + (-1 : Int32) = nI (t.length + 1) := nI_m1 _
      have e1 : nI (t.length + 1) - 1 = nI t.length := nI_pred _
      have hlt : t.length < 29 := by simp at h30; omega
      have e2 : (0 : Int32) ≤ nI t.length ∧ nI t.length < 110 := nI_r (N := 110) (by omega) (by decide)
      have e3 : (nI t.length).toNatClampNeg = t.length := nI_clamp (by omega)
      have e4 : (0 : Int32) ≤ nI (t.length + 1) ∧ nI (t.length + 1) < 110 := nI_r (N := 110) (by omega) (by decide)
      have e5 : (nI (t.length + 1)).toNatClampNeg = t.length + 1 := nI_clamp (by omega)
      have hF1 : F (t.length + 1) = (if b0 = true then 1 else 0) := hb.1
      have hF2 : F t.length = (if a0 = true then 1 else 0) := hb.2.1
      have hev : evC 1 (fxM σ p wk) (b0 :: a0 :: t) = (a0 && b0) :: t := by unfold evC; rw [if_neg (by decide), if_pos rfl]
      rw [hev]
      refine ⟨upd F t.length (if (a0 && b0) = true then 1 else 0), ⟨by rw [upd_at, if_pos rfl], Bs_upd (Nat.le_refl _) hb.2.2⟩, fun n => ?_⟩
      rw [hB]
      have hlen : ((a0 && b0) :: t).length = t.length + 1 := rfl
      rw [hlen]
      unfold f_X8_isTrue_B11
      cases a0 <;> cases b0
      · simp only [nm, nmI, r22, r22o σ F (show (18 : Nat) ≠ 22 by decide), r22o σ F (show (19 : Nat) ≠ 22 by decide), r22o σ F (show (20 : Nat) ≠ 22 by decide), a1, a2, a3, a4, a5, and_self, if_true, if_false, h18, h19, hcode, sA_sA, vb0, vb1, nI_1, Option.bind_some, e0, e1, e2, e3, e4, e5, hF1, hF2, Bool.false_eq_true, Bool.and_true, Bool.and_false, Bool.or_true, Bool.or_false, Bool.true_or, Bool.false_or, Bool.not_true, Bool.not_false, h10, and_true, and_false, l03, l13, l23, l21, l10, l20, l30]
      · simp only [nm, nmI, r22, r22o σ F (show (18 : Nat) ≠ 22 by decide), r22o σ F (show (19 : Nat) ≠ 22 by decide), r22o σ F (show (20 : Nat) ≠ 22 by decide), a1, a2, a3, a4, a5, and_self, if_true, if_false, h18, h19, hcode, sA_sA, vb0, vb1, nI_1, Option.bind_some, e0, e1, e2, e3, e4, e5, hF1, hF2, Bool.false_eq_true, Bool.and_true, Bool.and_false, Bool.or_true, Bool.or_false, Bool.true_or, Bool.false_or, Bool.not_true, Bool.not_false, h10, and_true, and_false, l03, l13, l23, l21, l10, l20, l30]
      · simp only [nm, nmI, r22, r22o σ F (show (18 : Nat) ≠ 22 by decide), r22o σ F (show (19 : Nat) ≠ 22 by decide), r22o σ F (show (20 : Nat) ≠ 22 by decide), a1, a2, a3, a4, a5, and_self, if_true, if_false, h18, h19, hcode, sA_sA, vb0, vb1, nI_1, Option.bind_some, e0, e1, e2, e3, e4, e5, hF1, hF2, Bool.false_eq_true, Bool.and_true, Bool.and_false, Bool.or_true, Bool.or_false, Bool.true_or, Bool.false_or, Bool.not_true, Bool.not_false, h10, and_true, and_false, l03, l13, l23, l21, l10, l20, l30]
      · simp only [nm, nmI, r22, r22o σ F (show (18 : Nat) ≠ 22 by decide), r22o σ F (show (19 : Nat) ≠ 22 by decide), r22o σ F (show (20 : Nat) ≠ 22 by decide), a1, a2, a3, a4, a5, and_self, if_true, if_false, h18, h19, hcode, sA_sA, vb0, vb1, nI_1, Option.bind_some, e0, e1, e2, e3, e4, e5, hF1, hF2, Bool.false_eq_true, Bool.and_true, Bool.and_false, Bool.or_true, Bool.or_false, Bool.true_or, Bool.false_or, Bool.not_true, Bool.not_false, h10, and_true, and_false, l03, l13, l23, l21, l10, l20, l30]
    · exact absurd rfl h
  · rcases hcase with ⟨h, -⟩ | ⟨-, b0, a0, t, rfl⟩ | ⟨-, -, h, -⟩
    · exact absurd h (by decide)
    · have e0 : nI (b0 :: a0 :: t).length + (-1 : Int32) = nI (t.length + 1) := nI_m1 _
      have e1 : nI (t.length + 1) - 1 = nI t.length := nI_pred _
      have hlt : t.length < 29 := by simp at h30; omega
      have e2 : (0 : Int32) ≤ nI t.length ∧ nI t.length < 110 := nI_r (N := 110) (by omega) (by decide)
      have e3 : (nI t.length).toNatClampNeg = t.length := nI_clamp (by omega)
      have e4 : (0 : Int32) ≤ nI (t.length + 1) ∧ nI (t.length + 1) < 110 := nI_r (N := 110) (by omega) (by decide)
      have e5 : (nI (t.length + 1)).toNatClampNeg = t.length + 1 := nI_clamp (by omega)
      have hF1 : F (t.length + 1) = (if b0 = true then 1 else 0) := hb.1
      have hF2 : F t.length = (if a0 = true then 1 else 0) := hb.2.1
      have hev : evC 2 (fxM σ p wk) (b0 :: a0 :: t) = (a0 || b0) :: t := by unfold evC; rw [if_neg (by decide), if_neg (by decide), if_pos rfl]
      rw [hev]
      refine ⟨upd F t.length (if (a0 || b0) = true then 1 else 0), ⟨by rw [upd_at, if_pos rfl], Bs_upd (Nat.le_refl _) hb.2.2⟩, fun n => ?_⟩
      rw [hB]
      have hlen : ((a0 || b0) :: t).length = t.length + 1 := rfl
      rw [hlen]
      unfold f_X8_isTrue_B11
      cases a0 <;> cases b0
      · simp only [nm, nmI, r22, r22o σ F (show (18 : Nat) ≠ 22 by decide), r22o σ F (show (19 : Nat) ≠ 22 by decide), r22o σ F (show (20 : Nat) ≠ 22 by decide), a1, a2, a3, a4, a5, and_self, if_true, if_false, h18, h19, hcode, sA_sA, vb0, vb1, nI_1, Option.bind_some, e0, e1, e2, e3, e4, e5, hF1, hF2, Bool.false_eq_true, Bool.and_true, Bool.and_false, Bool.or_true, Bool.or_false, Bool.true_or, Bool.false_or, Bool.not_true, Bool.not_false, h10, and_true, and_false, l03, l13, l23, l21, l10, l20, l30]
      · simp only [nm, nmI, r22, r22o σ F (show (18 : Nat) ≠ 22 by decide), r22o σ F (show (19 : Nat) ≠ 22 by decide), r22o σ F (show (20 : Nat) ≠ 22 by decide), a1, a2, a3, a4, a5, and_self, if_true, if_false, h18, h19, hcode, sA_sA, vb0, vb1, nI_1, Option.bind_some, e0, e1, e2, e3, e4, e5, hF1, hF2, Bool.false_eq_true, Bool.and_true, Bool.and_false, Bool.or_true, Bool.or_false, Bool.true_or, Bool.false_or, Bool.not_true, Bool.not_false, h10, and_true, and_false, l03, l13, l23, l21, l10, l20, l30]
      · simp only [nm, nmI, r22, r22o σ F (show (18 : Nat) ≠ 22 by decide), r22o σ F (show (19 : Nat) ≠ 22 by decide), r22o σ F (show (20 : Nat) ≠ 22 by decide), a1, a2, a3, a4, a5, and_self, if_true, if_false, h18, h19, hcode, sA_sA, vb0, vb1, nI_1, Option.bind_some, e0, e1, e2, e3, e4, e5, hF1, hF2, Bool.false_eq_true, Bool.and_true, Bool.and_false, Bool.or_true, Bool.or_false, Bool.true_or, Bool.false_or, Bool.not_true, Bool.not_false, h10, and_true, and_false, l03, l13, l23, l21, l10, l20, l30]
      · simp only [nm, nmI, r22, r22o σ F (show (18 : Nat) ≠ 22 by decide), r22o σ F (show (19 : Nat) ≠ 22 by decide), r22o σ F (show (20 : Nat) ≠ 22 by decide), a1, a2, a3, a4, a5, and_self, if_true, if_false, h18, h19, hcode, sA_sA, vb0, vb1, nI_1, Option.bind_some, e0, e1, e2, e3, e4, e5, hF1, hF2, Bool.false_eq_true, Bool.and_true, Bool.and_false, Bool.or_true, Bool.or_false, Bool.true_or, Bool.false_or, Bool.not_true, Bool.not_false, h10, and_true, and_false, l03, l13, l23, l21, l10, l20, l30]
    · exact absurd rfl h
  · obtain ⟨t1, t2, t3, t4, t5, t6, t7⟩ := tst_ar l hl z hz v hv
    rw [← hc] at t1 t2 t3 t4 t5 t6 t7
    rcases hcase with ⟨h, -⟩ | ⟨h, -⟩ | ⟨-, -, -, h29⟩
    · exact absurd h t5
    · rcases h with h | h
      · exact absurd h t6
      · exact absurd h t7
    · have hev : evC cc (fxM σ p wk) st = tst cc (fxM σ p wk) :: st := by
        unfold evC
        rw [if_neg t5, if_neg t6, if_neg t7]
      have htst : tst cc (fxM σ p wk) = (if nI z = 0 then decide (fxM σ p wk l < nI v) else if nI z = 1 then decide (fxM σ p wk l = nI v) else decide (nI v < fxM σ p wk l)) := by
        unfold tst
        rw [t1, t2, t3, nI_clamp (by omega)]
      rw [hev]
      refine ⟨upd F st.length (if tst cc (fxM σ p wk) = true then 1 else 0), ⟨by rw [upd_at, if_pos rfl], Bs_upd (Nat.le_refl _) hb⟩, fun n => ?_⟩
      have a6 : (0 : Int32) ≤ nI st.length ∧ nI st.length < 110 := nI_r (N := 110) (by omega) (by decide)
      have a7 : (nI st.length).toNatClampNeg = st.length := nI_clamp (by omega)
      have hlen : (tst cc (fxM σ p wk) :: st).length = st.length + 1 := rfl
      rw [hB, hlen, htst]
      unfold f_X8_isTrue_B11
      simp only [nm, nmI, r22, r22o σ F (show (18 : Nat) ≠ 22 by decide), r22o σ F (show (19 : Nat) ≠ 22 by decide), r22o σ F (show (20 : Nat) ≠ 22 by decide), a1, a2, a3, a4, a5, and_self, if_true, if_false, h18, h19, hcode, sA_sA, vb0, vb1, nI_1, Option.bind_some, t4, t1, t2, t3, letterOf_eq hp hl, fxM_22, a6, a7]
      by_cases z0 : nI z = 0
      · by_cases q : nI v ≤ fxM σ p wk l
        · have q2 : ¬ fxM σ p wk l < nI v := by grind
          simp only [z0, if_true, q, q2, decide_false, Bool.false_eq_true, if_false]
        · have q2 : fxM σ p wk l < nI v := by grind
          simp only [z0, if_true, q, q2, decide_true, if_false]
      · by_cases z1 : nI z = 1
        · have z2 : ¬ (1 : Int32) = 0 := by decide
          by_cases q : fxM σ p wk l = nI v
          · simp only [z1, z2, if_true, q, decide_true, if_false]
          · simp only [z1, z2, if_true, q, decide_false, Bool.false_eq_true, if_false]
        · by_cases q : fxM σ p wk l ≤ nI v
          · have q2 : ¬ nI v < fxM σ p wk l := by grind
            simp only [z0, z1, q, q2, decide_false, Bool.false_eq_true, if_false, if_true]
          · have q2 : nI v < fxM σ p wk l := by grind
            simp only [z0, z1, q, q2, decide_true, if_false, if_true]
theorem t_codes {σ : Sto} {p c b len : Nat} {wk : Int32} (hp : p < 6) (hc61 : c < 61) (h18 : σ.2.1 8 18 0 c = nI b) (h19 : σ.2.1 8 19 0 c = nI len) (h800 : b + len ≤ 800) : ∀ (cs : List Int32) (s e : Nat) (F : Nat → Int32) (st : List Bool), (∀ (j : Nat) (h : j < cs.length), σ.2.1 8 20 0 (b + s + j) = cs[j] ∧ (cs[j] = 0 ∨ cs[j] = 1 ∨ cs[j] = 2 ∨ ∃ l s v : Nat, l < 6 ∧ s < 3 ∧ v < 100 ∧ cs[j] = nI (3 + 300 * l + 100 * s + v))) → Bs F st → st.length ≤ 30 → dp cs st.length = some e → s + cs.length ≤ len → ∃ F', Bs F' (evs (fxM σ p wk) cs st) ∧ (evs (fxM σ p wk) cs st).length = e ∧ ∀ n, f_X8_isTrue_L11 (n + cs.length) (sA σ 8 22 0 F) (nI p) wk (nI c) (nI st.length) (nI (b + s)) = f_X8_isTrue_L11 n (sA σ 8 22 0 F') (nI p) wk (nI c) (nI (evs (fxM σ p wk) cs st).length) (nI (b + s + cs.length)) := by
  intro cs
  induction cs with
  | nil =>
    intro s e F st _ hb _ hd _
    exact ⟨F, hb, by simpa [dp, evs] using hd, fun n => rfl⟩
  | cons cc cs ih =>
    intro s e F st hc hb h30 hd hle
    simp at hle
    have hc0 : σ.2.1 8 20 0 (b + s) = cc ∧ (cc = 0 ∨ cc = 1 ∨ cc = 2 ∨ ∃ l s v : Nat, l < 6 ∧ s < 3 ∧ v < 100 ∧ cc = nI (3 + 300 * l + 100 * s + v)) := hc 0 (by simp)
    obtain ⟨F1, b1, g1⟩ := t_step (wk := wk) (cs := cs) hp hc61 h18 h19 (show s < len by omega) h800 hc0.1 hc0.2 hb h30 hd
    have hd1 := (dp_evC (fx := fxM σ p wk) hd).1
    have h30' : (evC cc (fxM σ p wk) st).length ≤ 30 := by
      have hcase := (dp_evC (fx := fxM σ p wk) hd).2
      unfold evC
      rcases hcase with ⟨rfl, b, t, rfl⟩ | ⟨h, b, a, t, rfl⟩ | ⟨n0, n1, n2, h⟩
      · simp at h30 ⊢; omega
      · rw [if_neg (by rcases h with rfl | rfl <;> decide)]
        rcases h with rfl | rfl
        · simp at h30 ⊢; omega
        · rw [if_neg (by decide)]; simp at h30 ⊢; omega
      · rw [if_neg n0, if_neg n1, if_neg n2]; simp; omega
    obtain ⟨F2, b2, l2, g2⟩ := ih (s + 1) e F1 (evC cc (fxM σ p wk) st) (fun j h => by
      have := hc (j + 1) (by simp; omega)
      rw [show b + s + (j + 1) = b + (s + 1) + j by omega] at this
      simpa using this) b1 h30' hd1 (by omega)
    refine ⟨F2, b2, l2, fun n => ?_⟩
    rw [show n + (cc :: cs).length = (n + cs.length) + 1 by simp; omega, g1, show b + s + 1 = b + (s + 1) by omega, g2]
    congr 2
    simp
    omega
theorem StR_c {st lt nb c : Int32} (h : StR st lt nb c) : c = 0 ∨ c = 1 ∨ c = 2 ∨ ∃ l s v : Nat, l < 6 ∧ s < 3 ∧ v < 100 ∧ c = nI (3 + 300 * l + 100 * s + v) := by
  rcases h with ⟨h, -⟩ | ⟨h, -⟩ | ⟨h, -⟩ | ⟨l, s, v, h1, h2, h3, h4, -⟩
  · exact Or.inl h
  · exact Or.inr (Or.inl h)
  · exact Or.inr (Or.inr (Or.inl h))
  · exact Or.inr (Or.inr (Or.inr ⟨l, s, v, h1, h2, h3, h4⟩))
theorem isTrue_eq {σ : Sto} {k m i p : Nat} {C : Nat → List Int32} {P : Nat → Nat} {wk : Int32} (h : RPk σ k m C P) (hPm : ∀ j, j ≤ m → P j ≤ P m) (hcd : (σ.1 8 21 0).toInt ≤ 600) (hk : k < 6) (hp : p < 6) (hi : i < m) (hw : ¬ σ.2.1 8 16 0 (10 * k + i) = 2) (F : Nat → Int32) : ∃ F', f_X8_isTrue (sA σ 8 22 0 F) (nI p) wk (nI (10 * k + i)) = some ((if (evs (fxM σ p wk) (C i) []).head? = some true then 1 else 0), sA σ 8 22 0 F') := by
  obtain ⟨hm, -, hP0, hsz, hP, -, hR⟩ := h
  obtain ⟨-, -, -, hp1⟩ := hR i hi
  obtain ⟨hPi, hle, ⟨b, hbe, hb2, hco⟩, h59, hnb, hdp⟩ := hp1 hw
  dsimp only at hbe hle
  have hPi1 := hPm (i + 1) (by omega)
  have hb3 : b + (C i).length ≤ 600 := by omega
  obtain ⟨F2, b2, l2, g2⟩ := t_codes (wk := wk) (c := 10 * k + i) hp (by omega) hbe hle (by omega) (C i) 0 1 F [] (fun j hj => ⟨(hco j hj).1, StR_c (hco j hj).2⟩) trivial (by simp) hdp (by omega)
  obtain ⟨bb, hbb⟩ : ∃ bb, evs (fxM σ p wk) (C i) [] = [bb] := by
    match hq : evs (fxM σ p wk) (C i) [], l2 with
    | [x], _ => exact ⟨x, rfl⟩
  have hN : ∀ N, 100 < N → f_X8_isTrue_L11 N (sA σ 8 22 0 F) (nI p) wk (nI (10 * k + i)) 0 (nI b) = some ((if (evs (fxM σ p wk) (C i) []).head? = some true then 1 else 0), sA σ 8 22 0 F2) := by
    intro N hN
    have h2 := g2 (N - (C i).length)
    rw [show N - (C i).length + (C i).length = N by omega] at h2
    have h3 : nI ([] : List Bool).length = 0 := rfl
    rw [h3, show b + 0 = b by omega] at h2
    rw [h2, hbb]
    obtain ⟨n, hn⟩ : ∃ n, N - (C i).length = n + 1 := ⟨N - (C i).length - 1, by omega⟩
    rw [hn]
    show f_X8_isTrue_B11 _ (sA σ 8 22 0 F2) (nI p) wk (nI (10 * k + i)) _ (nI (b + (C i).length)) = _
    unfold f_X8_isTrue_B11
    have a1 : (0 : Int32) ≤ nI (10 * k + i) ∧ nI (10 * k + i) < 61 := nI_r (N := 61) (by omega) (by decide)
    rw [hbb] at b2
    have hF : F2 0 = (if bb = true then 1 else 0) := b2.1
    rw [if_pos a1, if_pos a1, r22o σ F2 (by decide), r22o σ F2 (by decide), nI_clamp (by omega), hbe, hle, if_pos (by rw [nI_add]; grind), if_pos (by decide), r22, show (Int32.toNatClampNeg 0) = 0 by decide, hF]
    cases bb <;> simp
  refine ⟨F2, ?_⟩
  unfold f_X8_isTrue
  simp only [nmI]
  have a1 : (0 : Int32) ≤ nI (10 * k + i) ∧ nI (10 * k + i) < 61 := nI_r (N := 61) (by omega) (by decide)
  rw [if_pos a1, nI_clamp (by omega), r22o σ F (by decide), hbe]
  exact hN 1000 (by decide)
theorem sum_L {σ : Sto} {k m p : Nat} {C : Nat → List Int32} {P : Nat → Nat} {wk : Int32} (h : RPk σ k m C P) (hPm : ∀ j, j ≤ m → P j ≤ P m) (hcd : (σ.1 8 21 0).toInt ≤ 600) (hh : σ.1 8 14 0 = nI k) (hk : k < 6) (hp : p < 6) : ∀ (d i : Nat), i + d = m → ∀ n, d < n → ∀ (F : Nat → Int32) (acc : Int32), ∃ F', f_X8_sum_L16 n (sA σ 8 22 0 F) (nI p) wk acc (nI i) = some (acc + wsP (fxM σ p wk) (fun i => σ.2.1 8 16 0 (10 * k + i)) (fun i => σ.2.1 8 17 0 (10 * k + i)) C d i, sA σ 8 22 0 F') := by
  have hm10 := h.1
  have hcl := h.2.1
  have hk1 : ¬ nI k = (-1 : Int32) := by
    have := nI_n0 (n := k) (by omega); grind
  have hk6 : (0 : Int32) ≤ nI k ∧ nI k < 6 := nI_r (N := 6) hk (by decide)
  intro d
  induction d with
  | zero =>
    intro i hi n hn F acc
    obtain ⟨n, rfl⟩ : ∃ q, n = q + 1 := ⟨n - 1, by omega⟩
    refine ⟨F, ?_⟩
    show f_X8_sum_B16 _ (sA σ 8 22 0 F) (nI p) wk acc (nI i) = _
    unfold f_X8_sum_B16
    rw [sA1, hh, if_neg hk1, if_pos hk6, nI_clamp (by omega), r22o σ F (by decide), hcl, if_pos (by rw [show i = m by omega]; grind)]
    unfold wsP
    congr 2
    grind
  | succ d ih =>
    intro i hi n hn F acc
    obtain ⟨n, rfl⟩ : ∃ q, n = q + 1 := ⟨n - 1, by omega⟩
    have e1 : (10 : Int32) * nI k + nI i = nI (10 * k + i) := by
      rw [show (10 : Int32) = nI 10 from rfl, nI_mulN, nI_add]
    have e2 : (0 : Int32) ≤ nI (10 * k + i) ∧ nI (10 * k + i) < 61 := nI_r (N := 61) (by omega) (by decide)
    have e3 : (nI (10 * k + i)).toNatClampNeg = 10 * k + i := nI_clamp (by omega)
    have e4 : ¬ nI m ≤ nI i := nI_ge (by omega) (by omega)
    obtain ⟨hwd, -, -, -⟩ := h.2.2.2.2.2.2 i (by omega)
    dsimp only at hwd
    have hun : ∀ R, f_X8_sum_B16 (f_X8_sum_L16 n) (sA σ 8 22 0 F) (nI p) wk acc (nI i) = R → f_X8_sum_L16 (n + 1) (sA σ 8 22 0 F) (nI p) wk acc (nI i) = R := fun R hR => hR
    have hrest : ∀ F1 acc1, ∃ F', f_X8_sum_L16 n (sA σ 8 22 0 F1) (nI p) wk acc1 (nI (i + 1)) = some (acc1 + wsP (fxM σ p wk) (fun i => σ.2.1 8 16 0 (10 * k + i)) (fun i => σ.2.1 8 17 0 (10 * k + i)) C d (i + 1), sA σ 8 22 0 F') := fun F1 acc1 => ih (i + 1) (by omega) n (by omega) F1 acc1
    by_cases h2 : σ.2.1 8 16 0 (10 * k + i) = 2
    · obtain ⟨F', hF'⟩ := hrest F acc
      refine ⟨F', hun _ ?_⟩
      unfold f_X8_sum_B16
      rw [sA1, hh, if_neg hk1, if_pos hk6, nI_clamp (by omega), r22o σ F (by decide), hcl, if_neg e4, e1]
      simp only [nmI]
      rw [if_pos e2, r22o σ F (by decide), e3, h2, if_pos (by decide), nI_1, hF']
      rw [wsP_s, if_pos h2]
      congr 2
      grind
    · obtain ⟨F1, hF1⟩ := isTrue_eq (wk := wk) h hPm hcd hk hp (show i < m by omega) h2 F
      have h22 : ¬ (2 : Int32) ≤ σ.2.1 8 16 0 (10 * k + i) := by
        rcases hwd with q | q | q
        · rw [q]; decide
        · rw [q]; decide
        · exact absurd q h2
      by_cases hev : (evs (fxM σ p wk) (C i) []).head? = some true
      · by_cases hw0 : σ.2.1 8 16 0 (10 * k + i) = 0
        · obtain ⟨F', hF'⟩ := hrest F1 (acc + σ.2.1 8 17 0 (10 * k + i))
          refine ⟨F', hun _ ?_⟩
          unfold f_X8_sum_B16
          rw [sA1, hh, if_neg hk1, if_pos hk6, nI_clamp (by omega), r22o σ F (by decide), hcl, if_neg e4, e1]
          simp only [nmI]
          rw [if_pos e2, r22o σ F (by decide), e3, if_neg h22, hF1, if_pos hev]
          simp only [Option.bind_some]
          rw [if_neg h10, if_pos e2, r22o σ F1 (by decide), hw0, if_pos rfl, if_pos e2, r22o σ F1 (by decide), nI_1, hF']
          rw [wsP_s, if_neg h2, if_pos hev, if_pos hw0]
          congr 2
          grind
        · obtain ⟨F', hF'⟩ := hrest F1 (acc + (- σ.2.1 8 17 0 (10 * k + i)))
          refine ⟨F', hun _ ?_⟩
          unfold f_X8_sum_B16
          rw [sA1, hh, if_neg hk1, if_pos hk6, nI_clamp (by omega), r22o σ F (by decide), hcl, if_neg e4, e1]
          simp only [nmI]
          rw [if_pos e2, r22o σ F (by decide), e3, if_neg h22, hF1, if_pos hev]
          simp only [Option.bind_some]
          rw [if_neg h10, if_pos e2, r22o σ F1 (by decide), if_neg hw0, if_pos e2, r22o σ F1 (by decide), nI_1, hF']
          rw [wsP_s, if_neg h2, if_pos hev, if_neg hw0]
          congr 2
          grind
      · obtain ⟨F', hF'⟩ := hrest F1 acc
        refine ⟨F', hun _ ?_⟩
        unfold f_X8_sum_B16
        rw [sA1, hh, if_neg hk1, if_pos hk6, nI_clamp (by omega), r22o σ F (by decide), hcl, if_neg e4, e1]
        simp only [nmI]
        rw [if_pos e2, r22o σ F (by decide), e3, if_neg h22, hF1, if_neg hev]
        simp only [Option.bind_some, eq_self, if_true, nI_1]
        rw [hF']
        rw [wsP_s, if_neg h2, if_neg hev]
        congr 2
        grind
theorem snow_L {σ : Sto} {k m : Nat} {C : Nat → List Int32} {P : Nat → Nat} (h : RPk σ k m C P) (hh : σ.1 8 14 0 = nI k) (hk : k < 6) : ∀ (d i : Nat), i + d = m → ∀ n, d < n → f_X8_snow_L4 σ n (snN (fun i => σ.2.1 8 16 0 (10 * k + i)) (fun i => σ.2.1 8 17 0 (10 * k + i)) i) (nI i) = some (snN (fun i => σ.2.1 8 16 0 (10 * k + i)) (fun i => σ.2.1 8 17 0 (10 * k + i)) m) := by
  have hm10 := h.1
  have hcl := h.2.1
  have hk1 : ¬ nI k = (-1 : Int32) := by
    have := nI_n0 (n := k) (by omega); grind
  have hk6 : (0 : Int32) ≤ nI k ∧ nI k < 6 := nI_r (N := 6) hk (by decide)
  intro d
  induction d with
  | zero =>
    intro i hi n hn
    obtain ⟨n, rfl⟩ : ∃ q, n = q + 1 := ⟨n - 1, by omega⟩
    have hi2 : i = m := by omega
    subst hi2
    show f_X8_snow_B4 σ _ _ (nI i) = _
    unfold f_X8_snow_B4
    rw [hh, if_neg hk1, if_pos hk6, nI_clamp (by omega), hcl, if_pos (by grind)]
  | succ d ih =>
    intro i hi n hn
    obtain ⟨n, rfl⟩ : ∃ q, n = q + 1 := ⟨n - 1, by omega⟩
    have e1 : (10 : Int32) * nI k + nI i = nI (10 * k + i) := by
      rw [show (10 : Int32) = nI 10 from rfl, nI_mulN, nI_add]
    have e2 : (0 : Int32) ≤ nI (10 * k + i) ∧ nI (10 * k + i) < 61 := nI_r (N := 61) (by omega) (by decide)
    have e3 : (nI (10 * k + i)).toNatClampNeg = 10 * k + i := nI_clamp (by omega)
    have e4 : ¬ nI m ≤ nI i := nI_ge (by omega) (by omega)
    have ih' := ih (i + 1) (by omega) n (by omega)
    show f_X8_snow_B4 σ _ _ (nI i) = _
    unfold f_X8_snow_B4
    simp only [nmI]
    rw [hh, if_neg hk1, if_pos hk6, nI_clamp (by omega), hcl, if_neg e4, e1, if_pos e2, if_pos e2, e3, nI_1]
    by_cases h2 : σ.2.1 8 16 0 (10 * k + i) = 2
    · rw [if_pos h2, ← ih']
      congr 1
      simp [snN, h2]
    · rw [if_neg h2, ← ih']
      congr 1
      simp [snN, h2]
