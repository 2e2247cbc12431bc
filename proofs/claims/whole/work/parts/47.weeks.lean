-- WEEKS OF A THING (the class), OF ALL (the reference)
def clp (n : Int32) : Int32 := if (0 : Int32) < (if n < 99 then n else 99) then (if n < 99 then n else 99) else 0
theorem held_clp (n : Int32) : f_X8_held n = some (clp n) := held_eq n
theorem clp_bd (n : Int32) : 0 ≤ clp n ∧ clp n ≤ 99 := by unfold clp; grind
theorem clp_self {e : Int32} (h : 0 ≤ e ∧ e ≤ 99) : (if e = 0 then 0 else clp (e + 0)) = e := by
  rw [Int32.add_zero]
  unfold clp
  grind
theorem sA_at (σ : Sto) (c k i : Nat) (f : Nat → Int32) : (sA σ c k i f).2.1 c k i = f := by simp [sA2]
theorem sF_at (σ : Sto) (c k i : Nat) (v : Int32) : (sF σ c k i v).1 c k i = v := by simp [sF1]
def go (wm : (Nat → Int32) → Int32) (sn : Int32) (t : Th) (wk d : Int32) : Int32 := if d = 0 then 0 else if clp (d - mlt wm t d wk) = 0 then 0 else clp (clp (d - mlt wm t d wk) + (if wk - wk / 5 * 5 = 0 then sn else 0))
theorem go_bd (wm : (Nat → Int32) → Int32) (sn : Int32) (t : Th) (wk d : Int32) : 0 ≤ go wm sn t wk d ∧ go wm sn t wk d ≤ 99 := by
  unfold go
  split
  · decide
  · split
    · decide
    · exact clp_bd _
def dN (wm : (Nat → Int32) → Int32) (sn : Int32) (t : Th) (wk d : Int32) : Nat → Int32
  | 0 => d
  | n + 1 => go wm sn t (wk + nI n) (dN wm sn t wk d n)
theorem dN_bd {wm : (Nat → Int32) → Int32} {sn : Int32} {t : Th} {wk d : Int32} (h : 0 ≤ d ∧ d ≤ 99) : ∀ n, 0 ≤ dN wm sn t wk d n ∧ dN wm sn t wk d n ≤ 99
  | 0 => h
  | _ + 1 => go_bd _ _ _ _ _
theorem go_fix {wm : (Nat → Int32) → Int32} {sn : Int32} {t : Th} {wk : Int32} : go wm sn t wk 0 = 0 := by unfold go; rw [if_pos rfl]
theorem fre_f {σ : Sto} {c k i : Nat} {v : Int32} : FrE [(c, k, grp c i)] [] [] σ (sF σ c k i v) := FrE.rfl'.sF (List.mem_singleton.mpr rfl)
theorem PH_5f {σ : Sto} {wm : (Nat → Int32) → Int32} {sn : Int32} {k i q : Nat} {v : Int32} (h : PH σ wm sn k) : PH (sF σ 5 q i v) wm sn k := by
  refine PH_fr h fre_f ?_ (by simp)
  intro x hx
  simp at hx
  subst hx
  simp
theorem snowOn_eq {σ : Sto} {i : Nat} {e sn : Int32} (he : σ.1 5 4 i = e) (hb : 0 ≤ e ∧ e ≤ 99) (hs : 0 ≤ sn ∧ sn ≤ 99) : f_X5_snowOn σ i sn = some (sF σ 5 4 i (if e = 0 then 0 else clp (e + sn))) := by
  unfold f_X5_snowOn f_X5_isOut
  rw [he, min_eq]
  by_cases h0 : e = 0
  · rw [if_pos h0, if_pos h0]
    simp only [Option.bind_some, h10, if_false]
    rw [sF_id _ _ _ _ _ (by rw [he, h0])]
  · rw [if_neg h0, if_neg h0]
    simp only [Option.bind_some, if_true, nm]
    congr 2
    unfold clp
    grind
theorem sA_sF (σ : Sto) (c k i c' k' i' : Nat) (f : Nat → Int32) (v : Int32) : sA (sF σ c' k' i' v) c k i f = sF (sA σ c k i f) c' k' i' v := rfl
theorem goWeek_eq {σ : Sto} {wm : (Nat → Int32) → Int32} {sn wk : Int32} {k i : Nat} (h : PH σ wm sn k) (hs : 0 ≤ sn ∧ sn ≤ 99) (h0 : 0 ≤ wk) (h1 : wk ≤ 20000) : ∃ F, f_X5_goWeek σ i wk k = some (sF (sA σ 5 6 i F) 5 4 i (go wm sn (tC σ i) wk (σ.1 5 4 i))) := by
  unfold f_X5_goWeek f_X5_isOut
  by_cases hd : σ.1 5 4 i = 0
  · refine ⟨σ.2.1 5 6 i, ?_⟩
    rw [if_pos hd]
    simp only [Option.bind_some, h10, if_false]
    rw [hd, go_fix, sA_id _ _ _ _ _ rfl, sF_id _ _ _ _ _ hd.symm]
  · obtain ⟨F, hF⟩ := meltIn_eq (i := i) h h0 h1
    refine ⟨F, ?_⟩
    rw [if_neg hd, hF]
    simp only [Option.bind_some, if_true, min_eq, max_eq, nm]
    have hc : (if (0 : Int32) < (if σ.1 5 4 i - mlt wm (tC σ i) (σ.1 5 4 i) wk < 99 then σ.1 5 4 i - mlt wm (tC σ i) (σ.1 5 4 i) wk else 99) then (if σ.1 5 4 i - mlt wm (tC σ i) (σ.1 5 4 i) wk < 99 then σ.1 5 4 i - mlt wm (tC σ i) (σ.1 5 4 i) wk else 99) else 0) = clp (σ.1 5 4 i - mlt wm (tC σ i) (σ.1 5 4 i) wk) := rfl
    rw [hc]
    have hb := clp_bd (σ.1 5 4 i - mlt wm (tC σ i) (σ.1 5 4 i) wk)
    have hsn : (sF (sA σ 5 6 i F) 5 4 i (clp (σ.1 5 4 i - mlt wm (tC σ i) (σ.1 5 4 i) wk))).1 1 4 k = sn := by
      have := (holding_ph h).2.2
      simpa [sF1, sA1] using this
    rw [hsn, snowOn_eq (e := clp (σ.1 5 4 i - mlt wm (tC σ i) (σ.1 5 4 i) wk)) (by rw [sF1]; simp) hb hs, sF_sF]
    unfold go
    rw [if_neg hd]
    by_cases h5 : wk - wk / 5 * 5 = 0
    · rw [if_pos h5, if_pos h5]
      simp only [Option.bind_some]
    · rw [if_neg h5, if_neg h5]
      rw [clp_self hb]
theorem tC_w {σ : Sto} {i : Nat} {F : Nat → Int32} {e : Int32} : tC (sF (sA σ 5 6 i F) 5 4 i e) i = tC σ i := by
  unfold tC
  simp [sF1, sF2, sA1, sA2]
theorem wk_bd {w : Int32} {j N : Nat} (hw : 0 ≤ w ∧ w ≤ 9999) (hj : j < N) (hN : N ≤ 100) : 0 ≤ w + nI j ∧ w + nI j ≤ 20000 := by
  have h1 := nI_n0 (n := j) (by omega)
  have h2 : nI j < 100 := nI_lt (a := j) (b := 100) (by omega) (by decide)
  grind
theorem goWeeks_L {σ : Sto} {wm : (Nat → Int32) → Int32} {sn : Int32} {k i N : Nat} (h : PH σ wm sn k) (hs : 0 ≤ sn ∧ sn ≤ 99) (hw : 0 ≤ σ.1 6 2 0 ∧ σ.1 6 2 0 ≤ 9999) (hN : N ≤ 60) : ∀ (d j : Nat), j + d = N → ∀ n, d < n → ∀ F, ∃ F', f_X7_goWeeks_L8 n (sF (sA σ 5 6 i F) 5 4 i (dN wm sn (tC σ i) (σ.1 6 2 0) (σ.1 5 4 i) j)) i (nI N) k (nI j) = some (sF (sA σ 5 6 i F') 5 4 i (dN wm sn (tC σ i) (σ.1 6 2 0) (σ.1 5 4 i) N)) := by
  intro d
  induction d with
  | zero =>
    intro j hj n hn F
    obtain ⟨n, rfl⟩ : ∃ q, n = q + 1 := ⟨n - 1, by omega⟩
    refine ⟨F, ?_⟩
    show f_X7_goWeeks_B8 _ _ i (nI N) k (nI j) = _
    unfold f_X7_goWeeks_B8
    rw [show j = N by omega, if_pos (by grind)]
  | succ d ih =>
    intro j hj n hn F
    obtain ⟨n, rfl⟩ : ∃ q, n = q + 1 := ⟨n - 1, by omega⟩
    have hj2 : j < N := by omega
    obtain ⟨b1, b2⟩ := wk_bd hw hj2 (by omega)
    obtain ⟨F1, e1⟩ := goWeek_eq (i := i) (PH_5f (q := 4) (v := dN wm sn (tC σ i) (σ.1 6 2 0) (σ.1 5 4 i) j) (PH_56 (i := i) (f := F) h)) hs b1 b2
    obtain ⟨F2, e2⟩ := ih (j + 1) (by omega) n (by omega) F1
    refine ⟨F2, ?_⟩
    show f_X7_goWeeks_B8 _ _ i (nI N) k (nI j) = _
    unfold f_X7_goWeeks_B8
    rw [if_neg (nI_ge hj2 (by omega))]
    have hwk : (sF (sA σ 5 6 i F) 5 4 i (dN wm sn (tC σ i) (σ.1 6 2 0) (σ.1 5 4 i) j)).1 6 2 0 = σ.1 6 2 0 := by simp [sF1, sA1]
    have hdp : (sF (sA σ 5 6 i F) 5 4 i (dN wm sn (tC σ i) (σ.1 6 2 0) (σ.1 5 4 i) j)).1 5 4 i = dN wm sn (tC σ i) (σ.1 6 2 0) (σ.1 5 4 i) j := by simp [sF1]
    rw [hwk, e1, tC_w, hdp, sA_sF, sA_sA, sF_sF]
    simp only [Option.bind_some, nmI, nI_1]
    exact e2
theorem goWeeks_eq {σ : Sto} {wm : (Nat → Int32) → Int32} {sn : Int32} {k i N : Nat} (h : PH σ wm sn k) (hs : 0 ≤ sn ∧ sn ≤ 99) (hw : 0 ≤ σ.1 6 2 0 ∧ σ.1 6 2 0 ≤ 9999) (hN : N ≤ 60) : ∃ F, f_X7_goWeeks σ i (nI N) = some (sF (sA σ 5 6 i F) 5 4 i (dN wm sn (tC σ i) (σ.1 6 2 0) (σ.1 5 4 i) N)) := by
  have key : ∀ M, 60 < M → ∃ F, f_X7_goWeeks_L8 M σ i (nI N) k 0 = some (sF (sA σ 5 6 i F) 5 4 i (dN wm sn (tC σ i) (σ.1 6 2 0) (σ.1 5 4 i) N)) := by
    intro M hM
    obtain ⟨F, hF⟩ := goWeeks_L (i := i) h hs hw hN N 0 (by omega) M (by omega) (σ.2.1 5 6 i)
    rw [nI_0, sA_id _ _ _ _ _ rfl] at hF
    have h0 : dN wm sn (tC σ i) (σ.1 6 2 0) (σ.1 5 4 i) 0 = σ.1 5 4 i := rfl
    rw [h0, sF_id _ _ _ _ _ rfl] at hF
    exact ⟨F, hF⟩
  obtain ⟨g1, g2, -⟩ := holding_ph h
  unfold f_X7_goWeeks
  rw [g1]
  simp only [Option.bind_some, if_pos g2]
  exact key 1000 (by decide)
-- the reference
abbrev gwA : List (Nat × Nat × Nat) := [(8, 22, 0), (8, 39, 0)]
abbrev gwB : List (Nat × Nat × Nat) := [(8, 22, 0), (8, 39, 0), (8, 4, 0)]
abbrev gwF : List (Nat × Nat × Nat) := [(8, 6, 0)]
theorem tM_fr {fs as ls : List (Nat × Nat × Nat)} {σ σ' : Sto} (e : FrE fs as ls σ σ') (h1 : (8, 1, 0) ∉ as) (h2 : (8, 2, 0) ∉ as) (h3 : (8, 3, 0) ∉ as) (h5 : (8, 5, 0) ∉ as) (p : Nat) : tM σ' p = tM σ p := by
  unfold tM
  rw [e.2.1 8 1 0 h1, e.2.1 8 2 0 h2, e.2.1 8 3 0 h3, e.2.1 8 5 0 h5]
theorem gw_L2 {σ : Sto} {wm : (Nat → Int32) → Int32} {sn : Int32} {k T : Nat} (h : PH σ wm sn k) (hT : σ.1 8 0 0 = nI T) (hT6 : T ≤ 6) (hw : 0 ≤ σ.1 8 6 0 ∧ σ.1 8 6 0 ≤ 20000) (K : Sto → Int32 → Int32 → Option Sto) (hK : f_X8_goesWeek_L51 1000 = K) : ∀ (d j : Nat), j + d = T → ∀ n, d < n → ∀ s, FrE [] gwA [] σ s → (∀ q, q < j → s.2.1 8 39 0 q = mlt wm (tM σ q) (σ.2.1 8 4 0 q) (σ.1 8 6 0)) → ∃ τ, FrE [] gwA [] σ τ ∧ (∀ q, q < T → τ.2.1 8 39 0 q = mlt wm (tM σ q) (σ.2.1 8 4 0 q) (σ.1 8 6 0)) ∧ f_X8_goesWeek_L2 n s (nI j) = K τ (if σ.1 8 6 0 - σ.1 8 6 0 / 5 * 5 = 0 then sn else 0) 0 := by
  intro d
  induction d with
  | zero =>
    intro j hj n hn s he hm
    obtain ⟨n, rfl⟩ : ∃ q, n = q + 1 := ⟨n - 1, by omega⟩
    refine ⟨s, he, fun q hq => hm q (by omega), ?_⟩
    have hP : PH s wm sn k := PH_fr h he (by decide) (by decide)
    show f_X8_goesWeek_B2 _ s (nI j) = _
    unfold f_X8_goesWeek_B2
    rw [he.1 8 0 0 (by decide), he.1 8 6 0 (by decide), hT, if_pos (by rw [show j = T by omega]; grind), hK, snow_ph hP]
    by_cases q : σ.1 8 6 0 - σ.1 8 6 0 / 5 * 5 = 0
    · rw [if_pos q, if_pos q]
      simp only [Option.bind_some]
    · rw [if_neg q, if_neg q]
  | succ d ih =>
    intro j hj n hn s he hm
    obtain ⟨n, rfl⟩ : ∃ q, n = q + 1 := ⟨n - 1, by omega⟩
    have hP : PH s wm sn k := PH_fr h he (by decide) (by decide)
    obtain ⟨F, hF⟩ := meltsIn_eq (p := j) hP (by omega) hw.1 hw.2
    have e1 : tM s j = tM σ j := tM_fr he (by decide) (by decide) (by decide) (by decide) j
    have e2 : s.2.1 8 4 0 = σ.2.1 8 4 0 := he.2.1 8 4 0 (by decide)
    obtain ⟨τ, t1, t2, t3⟩ := ih (j + 1) (by omega) n (by omega) (sA (sA s 8 22 0 F) 8 39 0 (upd (s.2.1 8 39 0) j (mlt wm (tM σ j) (σ.2.1 8 4 0 j) (σ.1 8 6 0)))) ((he.sA (by decide)).sA (by decide)) (by
      intro q hq
      rw [sA_at, upd_at]
      by_cases hqj : q = j
      · rw [if_pos hqj, hqj]
      · rw [if_neg hqj]; exact hm q (by omega))
    refine ⟨τ, t1, t2, ?_⟩
    rw [← t3]
    show f_X8_goesWeek_B2 _ s (nI j) = _
    unfold f_X8_goesWeek_B2
    rw [he.1 8 0 0 (by decide), he.1 8 6 0 (by decide), hT, if_neg (nI_ge (by omega) (by omega)), hF]
    have a1 : (0 : Int32) ≤ nI j ∧ nI j < 6 := nI_r (N := 6) (by omega) (by decide)
    simp only [Option.bind_some, if_pos a1, nm, nmI, nI_1, nI_clamp (show j < 2 ^ 31 by omega), e1, e2, r22o s F (show (39 : Nat) ≠ 22 by decide)]
theorem gw_L51 {σ : Sto} {wm : (Nat → Int32) → Int32} {sn sw : Int32} {T : Nat} (hT : σ.1 8 0 0 = nI T) (hT6 : T ≤ 6) (hd : ∀ q, q < 6 → 0 ≤ σ.2.1 8 4 0 q ∧ σ.2.1 8 4 0 q ≤ 99) (hsw : sw = (if σ.1 8 6 0 - σ.1 8 6 0 / 5 * 5 = 0 then sn else 0)) (hsb : 0 ≤ sn ∧ sn ≤ 99) : ∀ (d j : Nat), j + d = T → ∀ n, d < n → ∀ s, FrE [] gwB [] σ s → (∀ q, q < T → s.2.1 8 39 0 q = mlt wm (tM σ q) (σ.2.1 8 4 0 q) (σ.1 8 6 0)) → (∀ q, q < 6 → s.2.1 8 4 0 q = if q < j then go wm sn (tM σ q) (σ.1 8 6 0) (σ.2.1 8 4 0 q) else σ.2.1 8 4 0 q) → ∃ τ, f_X8_goesWeek_L51 n s sw (nI j) = some τ ∧ FrE gwF gwB [] σ τ ∧ τ.1 8 6 0 = σ.1 8 6 0 + 1 ∧ (∀ q, q < 6 → τ.2.1 8 4 0 q = if q < T then go wm sn (tM σ q) (σ.1 8 6 0) (σ.2.1 8 4 0 q) else σ.2.1 8 4 0 q) := by
  intro d
  induction d with
  | zero =>
    intro j hj n hn s he hm hq
    obtain ⟨n, rfl⟩ : ∃ q, n = q + 1 := ⟨n - 1, by omega⟩
    have hj2 : j = T := by omega
    subst hj2
    refine ⟨sF s 8 6 0 (σ.1 8 6 0 + 1), ?_, (he.mono (by decide) (by decide) (by decide)).sF (by decide), by rw [sF1]; simp, ?_⟩
    · show f_X8_goesWeek_B51 _ s sw (nI j) = _
      unfold f_X8_goesWeek_B51
      rw [he.1 8 0 0 (by decide), he.1 8 6 0 (by decide), hT, if_pos (by grind)]
      simp only [nm]
    · intro q hq6
      rw [sF2]
      exact hq q hq6
  | succ d ih =>
    intro j hj n hn s he hm hq
    obtain ⟨n, rfl⟩ : ∃ q, n = q + 1 := ⟨n - 1, by omega⟩
    have a1 : (0 : Int32) ≤ nI j ∧ nI j < 6 := nI_r (N := 6) (by omega) (by decide)
    have a2 : (nI j).toNatClampNeg = j := nI_clamp (by omega)
    have hj4 : s.2.1 8 4 0 j = σ.2.1 8 4 0 j := by rw [hq j (by omega), if_neg (by omega)]
    have hm2 := hm j (by omega)
    have hres : ∀ s', FrE [] gwB [] σ s' → s'.2.1 8 39 0 = s.2.1 8 39 0 → s'.2.1 8 4 0 = upd (s.2.1 8 4 0) j (go wm sn (tM σ j) (σ.1 8 6 0) (σ.2.1 8 4 0 j)) → ∃ τ, f_X8_goesWeek_L51 n s' sw (nI (j + 1)) = some τ ∧ FrE gwF gwB [] σ τ ∧ τ.1 8 6 0 = σ.1 8 6 0 + 1 ∧ (∀ q, q < 6 → τ.2.1 8 4 0 q = if q < T then go wm sn (tM σ q) (σ.1 8 6 0) (σ.2.1 8 4 0 q) else σ.2.1 8 4 0 q) := by
      intro s' he' h39 h4
      refine ih (j + 1) (by omega) n (by omega) s' he' (fun q hqT => by rw [h39]; exact hm q hqT) (fun q hq6 => ?_)
      rw [h4, upd_at]
      by_cases hqj : q = j
      · rw [if_pos hqj, hqj, if_pos (by omega)]
      · rw [if_neg hqj, hq q hq6]
        by_cases hlt : q < j
        · rw [if_pos hlt, if_pos (by omega)]
        · rw [if_neg hlt, if_neg (by omega)]
    have hB : f_X8_goesWeek_L51 (n + 1) s sw (nI j) = f_X8_goesWeek_B51 (f_X8_goesWeek_L51 n) s sw (nI j) := rfl
    by_cases h0 : σ.2.1 8 4 0 j = 0
    · obtain ⟨τ, t1, t2⟩ := hres s he rfl (by
        funext q
        rw [upd_at]
        by_cases hqj : q = j
        · rw [if_pos hqj, hqj, hj4, h0, go_fix]
        · rw [if_neg hqj])
      refine ⟨τ, ?_, t2⟩
      rw [hB]
      unfold f_X8_goesWeek_B51
      rw [he.1 8 0 0 (by decide), hT, if_neg (nI_ge (by omega) (by omega)), if_pos a1, a2, hj4, if_pos h0]
      simp only [nmI, nI_1]
      exact t1
    · have hcb := clp_bd (σ.2.1 8 4 0 j - mlt wm (tM σ j) (σ.2.1 8 4 0 j) (σ.1 8 6 0))
      by_cases hc : clp (σ.2.1 8 4 0 j - mlt wm (tM σ j) (σ.2.1 8 4 0 j) (σ.1 8 6 0)) = 0
      · have hgo : go wm sn (tM σ j) (σ.1 8 6 0) (σ.2.1 8 4 0 j) = 0 := by unfold go; rw [if_neg h0, if_pos hc]
        obtain ⟨τ, t1, t2⟩ := hres (sA s 8 4 0 (upd (s.2.1 8 4 0) j 0)) (he.sA (by decide)) (by simp [sA2]) (by rw [hgo]; simp [sA2])
        refine ⟨τ, ?_, t2⟩
        rw [hB]
        unfold f_X8_goesWeek_B51
        rw [he.1 8 0 0 (by decide), hT, if_neg (nI_ge (by omega) (by omega))]
        simp only [if_pos a1, a2, hj4, if_neg h0, hm2, held_clp, Option.bind_some, nm, nmI, nI_1, hc]
        rw [sA_at, upd_at, if_pos rfl, if_pos (by decide)]
        exact t1
      · have hgo : go wm sn (tM σ j) (σ.1 8 6 0) (σ.2.1 8 4 0 j) = clp (clp (σ.2.1 8 4 0 j - mlt wm (tM σ j) (σ.2.1 8 4 0 j) (σ.1 8 6 0)) + sw) := by unfold go; rw [if_neg h0, if_neg hc, hsw]
        obtain ⟨τ, t1, t2⟩ := hres (sA s 8 4 0 (upd (upd (s.2.1 8 4 0) j (clp (σ.2.1 8 4 0 j - mlt wm (tM σ j) (σ.2.1 8 4 0 j) (σ.1 8 6 0)))) j (clp (clp (σ.2.1 8 4 0 j - mlt wm (tM σ j) (σ.2.1 8 4 0 j) (σ.1 8 6 0)) + sw)))) (he.sA (by decide)) (by simp [sA2]) (by
          rw [hgo, sA_at]
          funext q
          simp only [upd_at]
          split <;> rfl)
        refine ⟨τ, ?_, t2⟩
        rw [hB]
        unfold f_X8_goesWeek_B51
        rw [he.1 8 0 0 (by decide), hT, if_neg (nI_ge (by omega) (by omega))]
        simp only [if_pos a1, a2, hj4, if_neg h0, hm2, held_clp, Option.bind_some, nm, nmI, nI_1]
        rw [sA_at, upd_at, if_pos rfl, if_neg (by grind), sA_sA]
        exact t1
theorem goesWeek_eq {σ : Sto} {wm : (Nat → Int32) → Int32} {sn : Int32} {k T : Nat} (h : PH σ wm sn k) (hs : 0 ≤ sn ∧ sn ≤ 99) (hT : σ.1 8 0 0 = nI T) (hT6 : T ≤ 6) (hw : 0 ≤ σ.1 8 6 0 ∧ σ.1 8 6 0 ≤ 20000) (hd : ∀ q, q < 6 → 0 ≤ σ.2.1 8 4 0 q ∧ σ.2.1 8 4 0 q ≤ 99) : ∃ τ, f_X8_goesWeek σ = some τ ∧ FrE gwF gwB [] σ τ ∧ τ.1 8 6 0 = σ.1 8 6 0 + 1 ∧ (∀ q, q < 6 → τ.2.1 8 4 0 q = if q < T then go wm sn (tM σ q) (σ.1 8 6 0) (σ.2.1 8 4 0 q) else σ.2.1 8 4 0 q) := by
  have key : ∀ N, 10 < N → ∃ τ, f_X8_goesWeek_L2 N σ 0 = some τ ∧ FrE gwF gwB [] σ τ ∧ τ.1 8 6 0 = σ.1 8 6 0 + 1 ∧ (∀ q, q < 6 → τ.2.1 8 4 0 q = if q < T then go wm sn (tM σ q) (σ.1 8 6 0) (σ.2.1 8 4 0 q) else σ.2.1 8 4 0 q) := by
    intro N hN
    obtain ⟨s, s1, s2, s3⟩ := gw_L2 h hT hT6 hw (f_X8_goesWeek_L51 1000) rfl T 0 (by omega) N (by omega) σ FrE.rfl' (fun q hq => absurd hq (by omega))
    rw [nI_0] at s3
    have g := gw_L51 (wm := wm) (sw := if σ.1 8 6 0 - σ.1 8 6 0 / 5 * 5 = 0 then sn else 0) hT hT6 hd rfl hs T 0 (by omega) 
    rw [nI_0] at g
    have key2 : ∀ M, 10 < M → ∃ τ, f_X8_goesWeek_L51 M s (if σ.1 8 6 0 - σ.1 8 6 0 / 5 * 5 = 0 then sn else 0) 0 = some τ ∧ FrE gwF gwB [] σ τ ∧ τ.1 8 6 0 = σ.1 8 6 0 + 1 ∧ (∀ q, q < 6 → τ.2.1 8 4 0 q = if q < T then go wm sn (tM σ q) (σ.1 8 6 0) (σ.2.1 8 4 0 q) else σ.2.1 8 4 0 q) := fun M hM => g M (by omega) s (s1.mono (by decide) (by decide) (by decide)) s2 (fun q hq => by rw [if_neg (by omega), s1.2.1 8 4 0 (by decide)])
    obtain ⟨τ, t1, t2⟩ := key2 1000 (by decide)
    exact ⟨τ, s3.trans t1, t2⟩
  exact key 1000 (by decide)
/-- the reference, n WEEKS on -/
def Gw (wm : (Nat → Int32) → Int32) (sn : Int32) (σ : Sto) (T n : Nat) (s : Sto) : Prop := FrE gwF gwB [] σ s ∧ s.1 8 6 0 = σ.1 8 6 0 + nI n ∧ ∀ q, q < 6 → s.2.1 8 4 0 q = if q < T then dN wm sn (tM σ q) (σ.1 8 6 0) (σ.2.1 8 4 0 q) n else σ.2.1 8 4 0 q
theorem Gw_0 {wm : (Nat → Int32) → Int32} {sn : Int32} {σ : Sto} {T : Nat} : Gw wm sn σ T 0 σ := ⟨FrE.rfl', by rw [nI_0, Int32.add_zero], fun q _ => by simp [dN]⟩
theorem Gw_s {σ s : Sto} {wm : (Nat → Int32) → Int32} {sn : Int32} {k T n : Nat} (h : PH σ wm sn k) (hs : 0 ≤ sn ∧ sn ≤ 99) (hT : σ.1 8 0 0 = nI T) (hT6 : T ≤ 6) (hw : 0 ≤ σ.1 8 6 0 ∧ σ.1 8 6 0 ≤ 9999) (hd : ∀ q, q < 6 → 0 ≤ σ.2.1 8 4 0 q ∧ σ.2.1 8 4 0 q ≤ 99) (hn : n < 100) (g : Gw wm sn σ T n s) : ∃ τ, f_X8_goesWeek s = some τ ∧ Gw wm sn σ T (n + 1) τ := by
  obtain ⟨g1, g2, g3⟩ := g
  have hP : PH s wm sn k := PH_fr h g1 (by decide) (by decide)
  obtain ⟨b1, b2⟩ := wk_bd hw hn (Nat.le_refl _)
  obtain ⟨τ, t1, t2, t3, t4⟩ := goesWeek_eq (T := T) hP hs (by rw [g1.1 8 0 0 (by decide), hT]) hT6 (by rw [g2]; exact ⟨b1, b2⟩) (fun q hq => by
    rw [g3 q hq]
    split
    · exact dN_bd (hd q hq) n
    · exact hd q hq)
  refine ⟨τ, t1, g1.trans t2, ?_, fun q hq => ?_⟩
  · rw [t3, g2, Int32.add_assoc, nI_1]
  · rw [t4 q hq, g3 q hq, g2, tM_fr g1 (by decide) (by decide) (by decide) (by decide)]
    split
    · rfl
    · rfl
