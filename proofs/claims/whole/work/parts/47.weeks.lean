-- WEEKS OF A THING (the class), OF ALL (the reference)
def clp (n : Int32) : Int32 := if (0 : Int32) < (if n < 99 then n else 99) then (if n < 99 then n else 99) else 0
theorem held_clp (n : Int32) : f_X8_held n = some (clp n) := held_eq n
theorem clp_bd (n : Int32) : 0 ≤ clp n ∧ clp n ≤ 99 := by unfold clp; grind
def go (wm : (Nat → Int32) → Int32) (sn : Int32) (t : Th) (wk d : Int32) : Int32 := if d = 0 then 0 else if clp (d - mlt wm t d wk) = 0 then 0 else clp (clp (d - mlt wm t d wk) + (if wk - wk / 5 * 5 = 0 then sn else 0))
theorem go_bd (wm : (Nat → Int32) → Int32) (sn : Int32) (t : Th) (wk d : Int32) : 0 ≤ go wm sn t wk d ∧ go wm sn t wk d ≤ 99 := by
  unfold go
  split
  · decide
  · split
    · decide
    · exact clp_bd _
def dN (wm : (Nat → Int32) → Int32) (sn : Int32) (t : Th) (wk d : Int32) : Nat → Int32
  | 0 => d
  | n + 1 => go wm sn t (wk + nI n) (dN wm sn t wk d n)
theorem dN_bd {wm : (Nat → Int32) → Int32} {sn : Int32} {t : Th} {wk d : Int32} (h : 0 ≤ d ∧ d ≤ 99) : ∀ n, 0 ≤ dN wm sn t wk d n ∧ dN wm sn t wk d n ≤ 99
  | 0 => h
  | _ + 1 => go_bd _ _ _ _ _
theorem go_fix {wm : (Nat → Int32) → Int32} {sn : Int32} {t : Th} {wk : Int32} : go wm sn t wk 0 = 0 := by unfold go; rw [if_pos rfl]
theorem fre_f {σ : Sto} {c k i : Nat} {v : Int32} : FrE [(c, k, grp c i)] [] [] σ (sF σ c k i v) := FrE.rfl'.sF (List.mem_singleton.mpr rfl)
theorem PH_5f {σ : Sto} {wm : (Nat → Int32) → Int32} {sn : Int32} {k i q : Nat} {v : Int32} (h : PH σ wm sn k) : PH (sF σ 5 q i v) wm sn k := by
  refine PH_fr h fre_f ?_ (by simp)
  intro x hx
  simp at hx
  subst hx
  simp
theorem snowOn_eq {σ : Sto} {i : Nat} {e sn : Int32} (he : σ.1 5 4 i = e) (hb : 0 ≤ e ∧ e ≤ 99) (hs : 0 ≤ sn ∧ sn ≤ 99) : f_X5_snowOn σ i sn = some (sF σ 5 4 i (if e = 0 then 0 else clp (e + sn))) := by
  unfold f_X5_snowOn f_X5_isOut
  rw [he, min_eq]
  by_cases h0 : e = 0
  · rw [if_pos h0, if_pos h0]
    simp only [Option.bind_some, h10, if_false]
    rw [sF_id _ _ _ _ _ (by rw [he, h0])]
  · rw [if_neg h0, if_neg h0]
    simp only [Option.bind_some, if_true, nm]
    congr 2
    unfold clp
    grind
theorem sA_sF (σ : Sto) (c k i c' k' i' : Nat) (f : Nat → Int32) (v : Int32) : sA (sF σ c' k' i' v) c k i f = sF (sA σ c k i f) c' k' i' v := rfl
theorem goWeek_eq {σ : Sto} {wm : (Nat → Int32) → Int32} {sn wk : Int32} {k i : Nat} (h : PH σ wm sn k) (hs : 0 ≤ sn ∧ sn ≤ 99) (h0 : 0 ≤ wk) (h1 : wk ≤ 20000) : ∃ F, f_X5_goWeek σ i wk k = some (sF (sA σ 5 6 i F) 5 4 i (go wm sn (tC σ i) wk (σ.1 5 4 i))) := by
  unfold f_X5_goWeek f_X5_isOut
  by_cases hd : σ.1 5 4 i = 0
  · refine ⟨σ.2.1 5 6 i, ?_⟩
    rw [if_pos hd]
    simp only [Option.bind_some, h10, if_false]
    rw [hd, go_fix, sA_id _ _ _ _ _ rfl, sF_id _ _ _ _ _ hd.symm]
  · obtain ⟨F, hF⟩ := meltIn_eq (i := i) h h0 h1
    refine ⟨F, ?_⟩
    rw [if_neg hd, hF]
    simp only [Option.bind_some, if_true, min_eq, max_eq, nm]
    have hc : (if (0 : Int32) < (if σ.1 5 4 i - mlt wm (tC σ i) (σ.1 5 4 i) wk < 99 then σ.1 5 4 i - mlt wm (tC σ i) (σ.1 5 4 i) wk else 99) then (if σ.1 5 4 i - mlt wm (tC σ i) (σ.1 5 4 i) wk < 99 then σ.1 5 4 i - mlt wm (tC σ i) (σ.1 5 4 i) wk else 99) else 0) = clp (σ.1 5 4 i - mlt wm (tC σ i) (σ.1 5 4 i) wk) := rfl
    rw [hc]
    have hb := clp_bd (σ.1 5 4 i - mlt wm (tC σ i) (σ.1 5 4 i) wk)
    have hsn : (sF (sA σ 5 6 i F) 5 4 i (clp (σ.1 5 4 i - mlt wm (tC σ i) (σ.1 5 4 i) wk))).1 1 4 k = sn := by
      have := (holding_ph h).2.2
      simpa [sF1, sA1] using this
    rw [hsn, snowOn_eq (e := clp (σ.1 5 4 i - mlt wm (tC σ i) (σ.1 5 4 i) wk)) (by rw [sF1]; simp) hb hs, sF_sF]
    unfold go
    rw [if_neg hd]
    by_cases h5 : wk - wk / 5 * 5 = 0
    · rw [if_pos h5, if_pos h5]
      simp only [Option.bind_some]
    · rw [if_neg h5, if_neg h5]
      congr 2
      generalize clp (σ.1 5 4 i - mlt wm (tC σ i) (σ.1 5 4 i) wk) = e at hb
      unfold clp
      grind
theorem tC_w {σ : Sto} {i : Nat} {F : Nat → Int32} {e : Int32} : tC (sF (sA σ 5 6 i F) 5 4 i e) i = tC σ i := by
  unfold tC
  simp [sF1, sF2, sA1, sA2]
theorem wk_bd {w : Int32} {j N : Nat} (hw : 0 ≤ w ∧ w ≤ 9999) (hj : j < N) (hN : N ≤ 100) : 0 ≤ w + nI j ∧ w + nI j ≤ 20000 := by
  have h1 := nI_n0 (n := j) (by omega)
  have h2 : nI j < 100 := nI_lt (a := j) (b := 100) (by omega) (by decide)
  grind
theorem goWeeks_L {σ : Sto} {wm : (Nat → Int32) → Int32} {sn : Int32} {k i N : Nat} (h : PH σ wm sn k) (hs : 0 ≤ sn ∧ sn ≤ 99) (hw : 0 ≤ σ.1 6 2 0 ∧ σ.1 6 2 0 ≤ 9999) (hN : N ≤ 60) : ∀ (d j : Nat), j + d = N → ∀ n, d < n → ∀ F, ∃ F', f_X7_goWeeks_L8 n (sF (sA σ 5 6 i F) 5 4 i (dN wm sn (tC σ i) (σ.1 6 2 0) (σ.1 5 4 i) j)) i (nI N) k (nI j) = some (sF (sA σ 5 6 i F') 5 4 i (dN wm sn (tC σ i) (σ.1 6 2 0) (σ.1 5 4 i) N)) := by
  intro d
  induction d with
  | zero =>
    intro j hj n hn F
    obtain ⟨n, rfl⟩ : ∃ q, n = q + 1 := ⟨n - 1, by omega⟩
    refine ⟨F, ?_⟩
    show f_X7_goWeeks_B8 _ _ i (nI N) k (nI j) = _
    unfold f_X7_goWeeks_B8
    rw [show j = N by omega, if_pos (by grind)]
  | succ d ih =>
    intro j hj n hn F
    obtain ⟨n, rfl⟩ : ∃ q, n = q + 1 := ⟨n - 1, by omega⟩
    have hj2 : j < N := by omega
    obtain ⟨b1, b2⟩ := wk_bd hw hj2 (by omega)
    obtain ⟨F1, e1⟩ := goWeek_eq (i := i) (PH_5f (q := 4) (v := dN wm sn (tC σ i) (σ.1 6 2 0) (σ.1 5 4 i) j) (PH_56 (i := i) (f := F) h)) hs b1 b2
    obtain ⟨F2, e2⟩ := ih (j + 1) (by omega) n (by omega) F1
    refine ⟨F2, ?_⟩
    show f_X7_goWeeks_B8 _ _ i (nI N) k (nI j) = _
    unfold f_X7_goWeeks_B8
    rw [if_neg (nI_ge hj2 (by omega))]
    have hwk : (sF (sA σ 5 6 i F) 5 4 i (dN wm sn (tC σ i) (σ.1 6 2 0) (σ.1 5 4 i) j)).1 6 2 0 = σ.1 6 2 0 := by simp [sF1, sA1]
    have hdp : (sF (sA σ 5 6 i F) 5 4 i (dN wm sn (tC σ i) (σ.1 6 2 0) (σ.1 5 4 i) j)).1 5 4 i = dN wm sn (tC σ i) (σ.1 6 2 0) (σ.1 5 4 i) j := by simp [sF1]
    rw [hwk, e1, tC_w, hdp, sA_sF, sA_sA, sF_sF]
    simp only [Option.bind_some, nmI, nI_1]
    exact e2
theorem goWeeks_eq {σ : Sto} {wm : (Nat → Int32) → Int32} {sn : Int32} {k i N : Nat} (h : PH σ wm sn k) (hs : 0 ≤ sn ∧ sn ≤ 99) (hw : 0 ≤ σ.1 6 2 0 ∧ σ.1 6 2 0 ≤ 9999) (hN : N ≤ 60) : ∃ F, f_X7_goWeeks σ i (nI N) = some (sF (sA σ 5 6 i F) 5 4 i (dN wm sn (tC σ i) (σ.1 6 2 0) (σ.1 5 4 i) N)) := by
  have key : ∀ M, 60 < M → ∃ F, f_X7_goWeeks_L8 M σ i (nI N) k 0 = some (sF (sA σ 5 6 i F) 5 4 i (dN wm sn (tC σ i) (σ.1 6 2 0) (σ.1 5 4 i) N)) := by
    intro M hM
    obtain ⟨F, hF⟩ := goWeeks_L (i := i) h hs hw hN N 0 (by omega) M (by omega) (σ.2.1 5 6 i)
    rw [nI_0, sA_id _ _ _ _ _ rfl] at hF
    have h0 : dN wm sn (tC σ i) (σ.1 6 2 0) (σ.1 5 4 i) 0 = σ.1 5 4 i := rfl
    rw [h0, sF_id _ _ _ _ _ rfl] at hF
    exact ⟨F, hF⟩
  obtain ⟨g1, g2, -⟩ := holding_ph h
  unfold f_X7_goWeeks
  rw [g1]
  simp only [Option.bind_some, if_pos g2]
  exact key 1000 (by decide)
-- the reference
abbrev gwA : List (Nat × Nat × Nat) := [(8, 22, 0), (8, 39, 0)]
abbrev gwB : List (Nat × Nat × Nat) := [(8, 22, 0), (8, 39, 0), (8, 4, 0)]
abbrev gwF : List (Nat × Nat × Nat) := [(8, 6, 0)]
theorem FrE.tM {fs as ls : List (Nat × Nat × Nat)} {σ σ' : Sto} (e : FrE fs as ls σ σ') (h1 : (8, 1, 0) ∉ as) (h2 : (8, 2, 0) ∉ as) (h3 : (8, 3, 0) ∉ as) (h5 : (8, 5, 0) ∉ as) (p : Nat) : tM σ' p = tM σ p := by
  unfold _root_.Jvm.Pilot.CThawGivesLaw_law_r4241_cf1bcc.tM
  rw [e.2.1 8 1 0 h1, e.2.1 8 2 0 h2, e.2.1 8 3 0 h3, e.2.1 8 5 0 h5]
