-- THE CLASS'S warmth, THE REFERENCE'S isTrue, sum, snow
theorem wsP_s (fx : Nat → Int32) (wd nu : Nat → Int32) (C : Nat → List Int32) (d i : Nat) : wsP fx wd nu C (d + 1) i = (if wd i = 2 then 0 else if (evs fx (C i) []).head? = some true then (if wd i = 0 then nu i else - nu i) else 0) + wsP fx wd nu C d (i + 1) := rfl
theorem nI_r {s N : Nat} (h : s < N) (hN : N < 2 ^ 31) : (0 : Int32) ≤ nI s ∧ nI s < nI N := ⟨nI_n0 (by omega), nI_lt h hN⟩
theorem w_in {σ : Sto} {k i1 s n : Nat} {acc found : Int32} {R : Option Int32} (hs : nI s < σ.1 1 3 k) (h1 : s < 100) (h : ∀ y0, (∀ l, σ.2.1 1 1 k s = nI l → l < 6 → y0 = σ.2.1 5 6 i1 l) → f_X1_warmth_L45 σ (f_X1_warmth_L7 σ n) k i1 acc found (nI s) y0 = R) : f_X1_warmth_L7 σ (n + 1) k i1 acc found (nI s) = R := by
  show f_X1_warmth_B7 σ _ k i1 acc found (nI s) = R
  unfold f_X1_warmth_B7
  have a1 : ¬ σ.1 1 3 k ≤ nI s := by grind
  have a2 : (0 : Int32) ≤ nI s ∧ nI s < 100 := nI_r (N := 100) h1 (by decide)
  rw [if_neg a1, if_pos a2, nI_clamp (by omega)]
  simp only [nmI]
  by_cases v0 : σ.2.1 1 1 k s < 0
  · rw [if_pos v0]
    exact h 0 (fun l hl h6 => by rw [hl] at v0; exact absurd v0 (nI_pos (by omega)))
  · rw [if_neg v0]
    by_cases v6 : (6 : Int32) ≤ σ.2.1 1 1 k s
    · rw [if_pos v6]
      exact h 0 (fun l hl h6 => by
        rw [hl] at v6
        exact absurd v6 (nI_ge (a := l) (b := 6) h6 (by decide)))
    · rw [if_neg v6, if_pos ⟨by grind, by grind⟩]
      exact h _ (fun l hl h6 => by rw [hl, nI_clamp (by omega)])
theorem w45_not {σ : Sto} {K : Nat → Nat → Int32 → Int32 → Int32 → Option Int32} {k i1 s : Nat} {acc found y0 : Int32} (h : σ.2.1 1 0 k s = 33) (h1 : s < 100) : f_X1_warmth_L45 σ K k i1 acc found (nI s) y0 = K k i1 acc (found ^^^ 1) (nI (s + 1)) := by
  unfold f_X1_warmth_L45
  simp only [nmI]
  have a2 : (0 : Int32) ≤ nI s ∧ nI s < 100 := nI_r (N := 100) h1 (by decide)
  rw [if_pos a2, nI_clamp (by omega), h, if_pos rfl, nI_1]
theorem w45_and {σ : Sto} {K : Nat → Nat → Int32 → Int32 → Int32 → Option Int32} {k i1 s : Nat} {acc found y0 : Int32} (h : σ.2.1 1 0 k s = 38) (h1 : s < 100) : f_X1_warmth_L45 σ K k i1 acc found (nI s) y0 = K k i1 acc ((found >>> (1 &&& 31)) &&& (found ||| (-2 : Int32))) (nI (s + 1)) := by
  unfold f_X1_warmth_L45
  simp only [nmI]
  have a2 : (0 : Int32) ≤ nI s ∧ nI s < 100 := nI_r (N := 100) h1 (by decide)
  rw [if_pos a2, nI_clamp (by omega), h, if_neg (by decide), if_pos rfl, nI_1]
theorem w45_or {σ : Sto} {K : Nat → Nat → Int32 → Int32 → Int32 → Option Int32} {k i1 s : Nat} {acc found y0 : Int32} (h : σ.2.1 1 0 k s = 124) (h1 : s < 100) : f_X1_warmth_L45 σ K k i1 acc found (nI s) y0 = K k i1 acc ((found >>> (1 &&& 31)) ||| (found &&& 1)) (nI (s + 1)) := by
  unfold f_X1_warmth_L45
  simp only [nmI]
  have a2 : (0 : Int32) ≤ nI s ∧ nI s < 100 := nI_r (N := 100) h1 (by decide)
  rw [if_pos a2, nI_clamp (by omega), h, if_neg (by decide), if_neg (by decide), if_neg (by decide), if_neg (by decide), if_neg (by decide), if_pos rfl, nI_1]
theorem w45_tst {σ : Sto} {K : Nat → Nat → Int32 → Int32 → Int32 → Option Int32} {k i1 s z : Nat} {acc found y0 : Int32} (hz : z < 3) (h : σ.2.1 1 0 k s = nI (60 + z)) (h1 : s < 100) : f_X1_warmth_L45 σ K k i1 acc found (nI s) y0 = K k i1 acc ((found <<< (1 &&& 31)) ||| (if (if nI z = 0 then decide (y0 < σ.2.1 1 2 k s) else if nI z = 1 then decide (y0 = σ.2.1 1 2 k s) else decide (σ.2.1 1 2 k s < y0)) = true then 1 else 0)) (nI (s + 1)) := by
  unfold f_X1_warmth_L45
  simp only [nmI]
  have a2 : (0 : Int32) ≤ nI s ∧ nI s < 100 := nI_r (N := 100) h1 (by decide)
  simp only [if_pos a2]
  rw [nI_clamp (by omega)]
  match z, hz with
  | 0, _ =>
    rw [h.trans (show nI (60 + 0) = (60 : Int32) by decide), if_neg (show ¬ (60 : Int32) = 33 by decide), if_neg (show ¬ (60 : Int32) = 38 by decide), if_pos rfl, if_pos (show nI 0 = (0 : Int32) by decide), nI_1]
    by_cases q : σ.2.1 1 2 k s ≤ y0
    · rw [if_pos q, if_neg (by grind)]
    · rw [if_neg q, if_pos (by grind)]
  | 1, _ =>
    rw [h.trans (show nI (60 + 1) = (61 : Int32) by decide), if_neg (show ¬ (61 : Int32) = 33 by decide), if_neg (show ¬ (61 : Int32) = 38 by decide), if_neg (show ¬ (61 : Int32) = 60 by decide), if_pos rfl, if_neg (show ¬ nI 1 = (0 : Int32) by decide), if_pos (show nI 1 = (1 : Int32) by decide), nI_1]
    by_cases q : y0 = σ.2.1 1 2 k s
    · rw [if_pos q, if_pos (by grind)]
    · rw [if_neg q, if_neg (by grind)]
  | 2, _ =>
    rw [h.trans (show nI (60 + 2) = (62 : Int32) by decide), if_neg (show ¬ (62 : Int32) = 33 by decide), if_neg (show ¬ (62 : Int32) = 38 by decide), if_neg (show ¬ (62 : Int32) = 60 by decide), if_neg (show ¬ (62 : Int32) = 61 by decide), if_pos rfl, if_neg (show ¬ nI 2 = (0 : Int32) by decide), if_neg (show ¬ nI 2 = (1 : Int32) by decide), nI_1]
    by_cases q : y0 ≤ σ.2.1 1 2 k s
    · rw [if_pos q, if_neg (by grind)]
    · rw [if_neg q, if_pos (by grind)]
theorem w45_end {σ : Sto} {K : Nat → Nat → Int32 → Int32 → Int32 → Option Int32} {k i1 s : Nat} {acc found y0 : Int32} {b : Bool} {t : List Bool} (hb : Bt found (b :: t)) (h : σ.2.1 1 0 k s = 59) (h1 : s < 100) : f_X1_warmth_L45 σ K k i1 acc found (nI s) y0 = K k i1 (acc + (if b = true then σ.2.1 1 2 k s else 0)) 0 (nI (s + 1)) := by
  unfold f_X1_warmth_L45
  simp only [nmI]
  have a2 : (0 : Int32) ≤ nI s ∧ nI s < 100 := nI_r (N := 100) h1 (by decide)
  simp only [if_pos a2]
  rw [nI_clamp (by omega), h, if_neg (by decide), if_neg (by decide), if_neg (by decide), if_neg (by decide), if_neg (by decide), if_neg (by decide), Bt_low hb, nI_1]
  cases b
  · rw [if_neg (by decide)]; rfl
  · rw [if_pos (by decide)]; rfl
theorem w_step {σ : Sto} {k i1 s e : Nat} {found c : Int32} {fx : Nat → Int32} {st : List Bool} {cs : List Int32} (hc : StR (σ.2.1 1 0 k s) (σ.2.1 1 1 k s) (σ.2.1 1 2 k s) c) (hs : nI s < σ.1 1 3 k) (h1 : s < 100) (hf : ∀ l, l < 6 → σ.2.1 5 6 i1 l = fx l) (hb : Bt found st) (h30 : st.length ≤ 30) (hd : dp (c :: cs) st.length = some e) : ∃ found', Bt found' (evC c fx st) ∧ ∀ n acc, f_X1_warmth_L7 σ (n + 1) k i1 acc found (nI s) = f_X1_warmth_L7 σ n k i1 acc found' (nI (s + 1)) := by
  obtain ⟨hd1, hcase⟩ := dp_evC (fx := fx) hd
  rcases hc with ⟨rfl, hst⟩ | ⟨rfl, hst⟩ | ⟨rfl, hst⟩ | ⟨l, z, v, hl, hz, hv, hc, hst, hlt, hnb⟩
  · rcases hcase with ⟨-, b, t, rfl⟩ | ⟨h, -⟩ | ⟨h, -⟩
    · refine ⟨found ^^^ 1, ?_, fun n acc => w_in hs h1 (fun y0 _ => w45_not hst h1)⟩
      unfold evC
      rw [if_pos rfl]
      exact Bt_not hb (by simp at h30; omega)
    · rcases h with h | h <;> exact absurd h (by decide)
    · exact absurd rfl h
  · rcases hcase with ⟨h, -⟩ | ⟨-, b, a, t, rfl⟩ | ⟨-, h, -⟩
    · exact absurd h (by decide)
    · refine ⟨_, ?_, fun n acc => w_in hs h1 (fun y0 _ => w45_and hst h1)⟩
      unfold evC
      rw [if_neg (by decide), if_pos rfl]
      exact Bt_and hb (by simp at h30; omega)
    · exact absurd rfl h
  · rcases hcase with ⟨h, -⟩ | ⟨-, b, a, t, rfl⟩ | ⟨-, -, h, -⟩
    · exact absurd h (by decide)
    · refine ⟨_, ?_, fun n acc => w_in hs h1 (fun y0 _ => w45_or hst h1)⟩
      unfold evC
      rw [if_neg (by decide), if_neg (by decide), if_pos rfl]
      exact Bt_or hb (by simp at h30; omega)
    · exact absurd rfl h
  · obtain ⟨t1, t2, t3, t4, t5, t6, t7⟩ := tst_ar l hl z hz v hv
    rw [← hc] at t1 t2 t3 t4 t5 t6 t7
    rcases hcase with ⟨h, -⟩ | ⟨h, -⟩ | ⟨-, -, -, h29⟩
    · exact absurd h t5
    · rcases h with h | h
      · exact absurd h t6
      · exact absurd h t7
    · have hev : evC c fx st = tst c fx :: st := by
        unfold evC
        rw [if_neg t5, if_neg t6, if_neg t7]
      have htst : tst c fx = (if nI z = 0 then decide (fx l < nI v) else if nI z = 1 then decide (fx l = nI v) else decide (nI v < fx l)) := by
        unfold tst
        rw [t1, t2, t3, nI_clamp (by omega)]
      rw [hev, htst]
      refine ⟨_, Bt_push hb h29 _, fun n acc => w_in hs h1 (fun y0 hy => ?_)⟩
      rw [w45_tst hz hst h1, hnb, hy l hlt hl, hf l hl]
theorem w_codes {σ : Sto} {k i1 M : Nat} {fx : Nat → Int32} (hsz : σ.1 1 3 k = nI M) (hM : M ≤ 100) (hf : ∀ l, l < 6 → σ.2.1 5 6 i1 l = fx l) : ∀ (cs : List Int32) (s e : Nat) (found : Int32) (st : List Bool), (∀ (j : Nat) (h : j < cs.length), StR (σ.2.1 1 0 k (s + j)) (σ.2.1 1 1 k (s + j)) (σ.2.1 1 2 k (s + j)) cs[j]) → Bt found st → st.length ≤ 30 → dp cs st.length = some e → s + cs.length ≤ M → ∃ found', Bt found' (evs fx cs st) ∧ (evs fx cs st).length = e ∧ ∀ n acc, f_X1_warmth_L7 σ (n + cs.length) k i1 acc found (nI s) = f_X1_warmth_L7 σ n k i1 acc found' (nI (s + cs.length)) := by
  intro cs
  induction cs with
  | nil =>
    intro s e found st _ hb _ hd _
    refine ⟨found, hb, ?_, fun n acc => rfl⟩
    simpa [dp, evs] using hd
  | cons c cs ih =>
    intro s e found st hc hb h30 hd hle
    simp at hle
    have hs : nI s < σ.1 1 3 k := by rw [hsz]; exact nI_lt (by omega) (by omega)
    obtain ⟨f1, b1, g1⟩ := w_step (cs := cs) (i1 := i1) (by have := hc 0 (by simp); simpa using this) hs (by omega) hf hb h30 hd
    have hd1 := (dp_evC (fx := fx) hd).1
    have h30' : (evC c fx st).length ≤ 30 := by
      have hcase := (dp_evC (fx := fx) hd).2
      unfold evC
      rcases hcase with ⟨rfl, b, t, rfl⟩ | ⟨h, b, a, t, rfl⟩ | ⟨n0, n1, n2, h⟩
      · simp at h30 ⊢; omega
      · rw [if_neg (by rcases h with rfl | rfl <;> decide)]
        rcases h with rfl | rfl
        · simp at h30 ⊢; omega
        · rw [if_neg (by decide)]; simp at h30 ⊢; omega
      · rw [if_neg n0, if_neg n1, if_neg n2]; simp; omega
    obtain ⟨f2, b2, l2, g2⟩ := ih (s + 1) e f1 (evC c fx st) (fun j h => by
      have := hc (j + 1) (by simp; omega)
      rw [show s + (j + 1) = s + 1 + j by omega] at this
      simpa using this) b1 h30' hd1 (by omega)
    refine ⟨f2, b2, l2, fun n acc => ?_⟩
    rw [show n + (c :: cs).length = (n + cs.length) + 1 by simp; omega, g1, g2]
    congr 2
    simp
    omega
def RPk (σ : Sto) (k m : Nat) (C : Nat → List Int32) (P : Nat → Nat) : Prop := m ≤ 10 ∧ σ.2.1 8 15 0 k = nI m ∧ P 0 = 0 ∧ σ.1 1 3 k = nI (P m) ∧ P m ≤ 100 ∧ σ.1 1 4 k = snN (fun i => σ.2.1 8 16 0 (10 * k + i)) (fun i => σ.2.1 8 17 0 (10 * k + i)) m ∧ ∀ i : Nat, i < m → RCx (σ.2.1 1 0 k) (σ.2.1 1 1 k) (σ.2.1 1 2 k) (fun i => σ.2.1 8 16 0 (10 * k + i)) (fun i => σ.2.1 8 17 0 (10 * k + i)) (fun i => σ.2.1 8 18 0 (10 * k + i)) (fun i => σ.2.1 8 19 0 (10 * k + i)) (σ.2.1 8 20 0) (σ.1 8 21 0) C P i
theorem RP_of {σ : Sto} {k : Nat} (h : RP σ k) : ∃ m C P, RPk σ k m C P := by
  obtain ⟨m, C, P, h1, h2, h3, h4, h5, h6, h7⟩ := h
  exact ⟨m, C, P, h1, h2, h3, h4, h5, h6, h7⟩
theorem w_clauses {σ : Sto} {k i1 m : Nat} {C : Nat → List Int32} {P : Nat → Nat} {fx : Nat → Int32} (h : RPk σ k m C P) (hf : ∀ l, l < 6 → σ.2.1 5 6 i1 l = fx l) : ∀ (d i : Nat), i + d = m → P i ≤ P m ∧ ∀ n acc, f_X1_warmth_L7 σ (n + 1 + (P m - P i)) k i1 acc 0 (nI (P i)) = some (acc + wsP fx (fun i => σ.2.1 8 16 0 (10 * k + i)) (fun i => σ.2.1 8 17 0 (10 * k + i)) C d i) := by
  obtain ⟨hm, -, hP0, hsz, hP, -, hR⟩ := h
  intro d
  induction d with
  | zero =>
    intro i hi
    have : i = m := by omega
    subst this
    refine ⟨Nat.le_refl _, fun n acc => ?_⟩
    rw [Nat.sub_self]
    show f_X1_warmth_B7 σ _ k i1 acc 0 (nI (P i)) = _
    unfold f_X1_warmth_B7
    rw [hsz, if_pos (by grind)]
    simp [wsP]
  | succ d ih =>
    intro i hi
    obtain ⟨ih1, ih2⟩ := ih (i + 1) (by omega)
    obtain ⟨hw, hn, hp2, hp1⟩ := hR i (by omega)
    by_cases h2 : σ.2.1 8 16 0 (10 * k + i) = 2
    · have hp := hp2 h2
      rw [hp] at ih1 ih2
      refine ⟨ih1, fun n acc => ?_⟩
      rw [ih2, wsP_s, if_pos h2, Int32.zero_add]
    · obtain ⟨hp, hle, ⟨b, hbe, hcd, hco⟩, h59, hnb, hdp⟩ := hp1 h2
      refine ⟨by omega, fun n acc => ?_⟩
      obtain ⟨f2, b2, l2, g2⟩ := w_codes hsz hP hf (C i) (P i) 1 0 [] (fun j hj => (hco j hj).2) (Bt_nil 0) (by simp) hdp (by omega)
      obtain ⟨bb, hbb⟩ : ∃ bb, evs fx (C i) [] = [bb] := by
        match hq : evs fx (C i) [], l2 with
        | [x], _ => exact ⟨x, rfl⟩
      rw [show n + 1 + (P m - P i) = (n + 1 + (P m - P (i + 1))) + 1 + (C i).length by omega, g2]
      rw [hbb] at b2
      rw [w_in (R := some (acc + wsP fx (fun i => σ.2.1 8 16 0 (10 * k + i)) (fun i => σ.2.1 8 17 0 (10 * k + i)) C (d + 1) i)) (by rw [hsz]; exact nI_lt (by omega) (by omega)) (by omega)]
      intro y0 _
      rw [w45_end b2 h59 (by omega), show P i + (C i).length + 1 = P (i + 1) by omega, ih2]
      have hws : wsP fx (fun i => σ.2.1 8 16 0 (10 * k + i)) (fun i => σ.2.1 8 17 0 (10 * k + i)) C (d + 1) i = (if bb = true then σ.2.1 1 2 k (P i + (C i).length) else 0) + wsP fx (fun i => σ.2.1 8 16 0 (10 * k + i)) (fun i => σ.2.1 8 17 0 (10 * k + i)) C d (i + 1) := by
        show (if σ.2.1 8 16 0 (10 * k + i) = 2 then 0 else if (evs fx (C i) []).head? = some true then (if σ.2.1 8 16 0 (10 * k + i) = 0 then σ.2.1 8 17 0 (10 * k + i) else - σ.2.1 8 17 0 (10 * k + i)) else 0) + _ = _
        rw [if_neg h2, hbb, hnb]
        cases bb <;> simp
      rw [hws]
      congr 1
      grind
theorem warmth_eq {σ : Sto} {k i1 m : Nat} {C : Nat → List Int32} {P : Nat → Nat} {fx : Nat → Int32} (h : RPk σ k m C P) (hf : ∀ l, l < 6 → σ.2.1 5 6 i1 l = fx l) : f_X1_warmth σ k i1 = some (wsP fx (fun i => σ.2.1 8 16 0 (10 * k + i)) (fun i => σ.2.1 8 17 0 (10 * k + i)) C m 0) := by
  have h1 : ∀ N, 100 < N → f_X1_warmth_L7 σ N k i1 0 0 0 = some (wsP fx (fun i => σ.2.1 8 16 0 (10 * k + i)) (fun i => σ.2.1 8 17 0 (10 * k + i)) C m 0) := by
    intro N hN
    have h2 := (w_clauses h hf m 0 (by omega)).2 (N - 1 - P m) 0
    have hP0 := h.2.2.1
    have hP := h.2.2.2.2.1
    rw [hP0, show N - 1 - P m + 1 + (P m - 0) = N by omega, nI_0] at h2
    rw [h2]
    congr 1
    grind
  exact h1 1000 (by decide)
