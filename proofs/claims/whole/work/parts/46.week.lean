-- A WEEK OF ONE THING, in both
theorem nI_sub {a b : Nat} (h : b ≤ a) : nI a - nI b = nI (a - b) := by
  have := nI_add (a - b) b
  rw [Nat.sub_add_cancel h] at this
  rw [← this]; grind
theorem nI_div {a b : Nat} (ha : a < 2 ^ 31) (hb : b < 2 ^ 31) : nI a / nI b = nI (a / b) := by
  have h3 : a / b < 2 ^ 31 := Nat.lt_of_le_of_lt (Nat.div_le_self a b) ha
  apply Int32.toInt_inj.mp
  rw [Int32.toInt_div, nI_toInt ha, nI_toInt hb, nI_toInt h3, ← Int.ofNat_tdiv]
  generalize a / b = c at h3
  rw [Int.bmod_eq_of_le (by omega) (by omega)]
theorem nI_mod {a b : Nat} (ha : a < 2 ^ 31) (hb : b < 2 ^ 31) : nI a - nI a / nI b * nI b = nI (a % b) := by
  rw [nI_div ha hb, nI_mulN, nI_sub (Nat.div_mul_le_self a b)]
  congr 1
  have := Nat.div_add_mod a b
  rw [Nat.mul_comm] at this
  omega
theorem sF_id (σ : Sto) (c k i : Nat) (v : Int32) (h : v = σ.1 c k i) : sF σ c k i v = σ := by
  subst h
  unfold sF
  refine Prod.ext ?_ rfl
  funext c' k' i'
  show (if c' = c ∧ k' = k ∧ i' = i then σ.1 c k i else σ.1 c' k' i') = σ.1 c' k' i'
  split
  · rename_i h; rw [h.1, h.2.1, h.2.2]
  · rfl
theorem P_le {σ : Sto} {k m : Nat} {C : Nat → List Int32} {P : Nat → Nat} (h : RPk σ k m C P) : ∀ j, j ≤ m → P j ≤ P m := by
  have : ∀ d i, i + d = m → P i ≤ P m := by
    intro d
    induction d with
    | zero => intro i hi; rw [show i = m by omega]; exact Nat.le_refl _
    | succ d ih =>
      intro i hi
      have h1 := ih (i + 1) (by omega)
      obtain ⟨-, -, h2, h3⟩ := h.2.2.2.2.2.2 i (by omega)
      by_cases q : σ.2.1 8 16 0 (10 * k + i) = 2
      · rw [h2 q] at h1; exact h1
      · have := (h3 q).1; omega
  intro j hj
  exact this (m - j) j (by omega)
def PH (σ : Sto) (wm : (Nat → Int32) → Int32) (sn : Int32) (k : Nat) : Prop :=
  σ.1 6 3 0 = σ.1 8 14 0 ∧ (σ.1 8 21 0).toInt ≤ 600 ∧ ((σ.1 8 14 0 = -1 ∧ k = 6 ∧ σ.1 1 3 6 = 0 ∧ σ.1 1 4 6 = 0 ∧ wm = (fun _ => 0) ∧ sn = 0) ∨ (k < 6 ∧ σ.1 8 14 0 = nI k ∧ ∃ m C P, RPk σ k m C P ∧ sn = snN (fun i => σ.2.1 8 16 0 (10 * k + i)) (fun i => σ.2.1 8 17 0 (10 * k + i)) m ∧ wm = fun fx => wsP fx (fun i => σ.2.1 8 16 0 (10 * k + i)) (fun i => σ.2.1 8 17 0 (10 * k + i)) C m 0))
theorem snN_bd {wd nu : Nat → Int32} : ∀ m, (∀ i, i < m → 0 ≤ nu i ∧ nu i ≤ 99) → 0 ≤ snN wd nu m ∧ snN wd nu m ≤ 99
  | 0, _ => by unfold snN; decide
  | m + 1, h => by
    unfold snN
    split
    · exact h m (by omega)
    · exact snN_bd m (fun i hi => h i (by omega))
theorem ph_of {σ : Sto} (h : Inv σ) : ∃ wm sn k, PH σ wm sn k ∧ 0 ≤ sn ∧ sn ≤ 99 := by
  obtain ⟨⟨-, ⟨-, -, n1, n2, n3⟩, -⟩, -, -, -, -, ⟨c1, c2, c3, c4, c5⟩, ⟨p1, p2⟩⟩ := h
  have c3' := Int32.le_iff_toInt_le.mp c3
  have e6 : (6 : Int32).toInt = 6 := by decide
  rw [e6] at c3'
  have hcd : (σ.1 8 21 0).toInt ≤ 600 := by omega
  by_cases hm : σ.1 8 14 0 = -1
  · exact ⟨fun _ => 0, 0, 6, ⟨n1, hcd, Or.inl ⟨hm, rfl, p1.1, p1.2, rfl, rfl⟩⟩, by decide, by decide⟩
  · have h0 : 0 ≤ σ.1 8 14 0 := by grind
    obtain ⟨k, hk, hke⟩ := i32_range (N := 6) (x := σ.1 8 14 0) (by decide) h0 (by grind)
    have hlt : (k : Int) < (σ.1 8 13 0).toInt := by
      rw [hke, c1] at n3
      have := Int32.lt_iff_toInt_lt.mp n3
      rwa [nI_toInt (by omega)] at this
    obtain ⟨m, C, P, hR⟩ := RP_of (p2 k hlt)
    refine ⟨_, _, k, ⟨n1, hcd, Or.inr ⟨hk, hke, m, C, P, hR, rfl, rfl⟩⟩, ?_⟩
    exact snN_bd m (fun i hi => (hR.2.2.2.2.2.2 i hi).2.1)
abbrev bf_PH (x : Nat × Nat × Nat) : Prop := (x.1 = 1) ∨ (x.1 = 8 ∧ x.2.1 = 21) ∨ (x.1 = 8 ∧ x.2.1 = 14) ∨ (x.1 = 6 ∧ x.2.1 = 3 ∧ x.2.2 = 0)
theorem PH_fr {fs as ls : List (Nat × Nat × Nat)} {σ σ' : Sto} {wm : (Nat → Int32) → Int32} {sn : Int32} {k : Nat} (h : PH σ wm sn k) (e : FrE fs as ls σ σ') (hf : ∀ x ∈ fs, ¬ bf_PH x) (ha : ∀ x ∈ as, ¬ ba_Ps x) : PH σ' wm sn k := by
  unfold PH RPk at *
  rw [e.f (c := 6) (k := 3) (i := 0) hf (by decide), e.f (c := 8) (k := 14) (i := 0) hf (by decide), e.f (c := 1) (k := 3) (i := 6) hf (Or.inl rfl), e.f (c := 1) (k := 4) (i := 6) hf (Or.inl rfl)]
  rw [e.f (c := 1) (k := 3) (i := k) hf (Or.inl rfl), e.f (c := 1) (k := 4) (i := k) hf (Or.inl rfl), e.f (c := 8) (k := 21) (i := 0) hf (by decide), e.a (c := 1) (k := 0) (i := k) ha (Or.inl rfl), e.a (c := 1) (k := 1) (i := k) ha (Or.inl rfl), e.a (c := 1) (k := 2) (i := k) ha (Or.inl rfl)]
  rw [e.a (c := 8) (k := 15) (i := 0) ha (by decide), e.a (c := 8) (k := 16) (i := 0) ha (by decide), e.a (c := 8) (k := 17) (i := 0) ha (by decide), e.a (c := 8) (k := 18) (i := 0) ha (by decide), e.a (c := 8) (k := 19) (i := 0) ha (by decide), e.a (c := 8) (k := 20) (i := 0) ha (by decide)]
  exact h
theorem holding_ph {σ : Sto} {wm : (Nat → Int32) → Int32} {sn : Int32} {k : Nat} (h : PH σ wm sn k) : f_X7_holding σ = some k ∧ k < 8 ∧ σ.1 1 4 k = sn := by
  obtain ⟨h1, -, h2⟩ := h
  unfold f_X7_holding
  rw [isUpTo_eq, h1]
  simp only [Option.bind_some]
  rcases h2 with ⟨hm, rfl, s1, s2, -, rfl⟩ | ⟨hk, he, m, C, P, hR, rfl, -⟩
  · rw [hm]
    exact ⟨rfl, by decide, s2⟩
  · have a : (0 : Int32) ≤ nI k ∧ nI k < 6 := nI_r (N := 6) hk (by decide)
    rw [he, if_pos (show (0 : Int32) ≤ nI k ∧ nI k ≤ 5 by grind), if_neg h10, if_pos a, nI_clamp (by omega)]
    exact ⟨rfl, by omega, hR.2.2.2.2.2.1⟩
theorem warm_ph {σ : Sto} {wm : (Nat → Int32) → Int32} {sn : Int32} {k i1 : Nat} {fx : Nat → Int32} (h : PH σ wm sn k) (hf : ∀ l, l < 6 → σ.2.1 5 6 i1 l = fx l) : f_X1_warmth σ k i1 = some (wm fx) := by
  obtain ⟨-, -, h2⟩ := h
  rcases h2 with ⟨hm, rfl, s1, s2, rfl, rfl⟩ | ⟨hk, he, m, C, P, hR, -, rfl⟩
  · have : ∀ N, 0 < N → f_X1_warmth_L7 σ N 6 i1 0 0 0 = some 0 := by
      intro N hN
      obtain ⟨n, rfl⟩ : ∃ q, N = q + 1 := ⟨N - 1, by omega⟩
      show f_X1_warmth_B7 σ _ 6 i1 0 0 0 = _
      unfold f_X1_warmth_B7
      rw [s1, if_pos (by decide)]
    exact this 1000 (by decide)
  · exact warmth_eq hR hf
theorem snow_ph {σ : Sto} {wm : (Nat → Int32) → Int32} {sn : Int32} {k : Nat} (h : PH σ wm sn k) : f_X8_snow σ = some sn := by
  obtain ⟨-, -, h2⟩ := h
  have key : ∀ N, 10 < N → f_X8_snow_L4 σ N 0 0 = some sn := by
    intro N hN
    rcases h2 with ⟨hm, rfl, s1, s2, rfl, rfl⟩ | ⟨hk, he, m, C, P, hR, rfl, -⟩
    · obtain ⟨n, rfl⟩ : ∃ q, N = q + 1 := ⟨N - 1, by omega⟩
      show f_X8_snow_B4 σ _ 0 0 = _
      unfold f_X8_snow_B4
      rw [hm, if_pos rfl]
    · have h3 := snow_L hR he hk m 0 (by omega) N (by have := hR.1; omega)
      rw [nI_0] at h3
      exact h3
  exact key 1000 (by decide)
theorem sum_ph {σ : Sto} {wm : (Nat → Int32) → Int32} {sn wk : Int32} {k p : Nat} (h : PH σ wm sn k) (hp : p < 6) : ∃ F, f_X8_sum σ (nI p) wk = some (8 - σ.2.1 8 3 0 p / 10 + wm (fxM σ p wk), sA σ 8 22 0 F) := by
  obtain ⟨-, hcd, h2⟩ := h
  have key : ∀ N, 10 < N → ∃ F, f_X8_sum_L16 N σ (nI p) wk (8 - σ.2.1 8 3 0 p / 10) 0 = some (8 - σ.2.1 8 3 0 p / 10 + wm (fxM σ p wk), sA σ 8 22 0 F) := by
    intro N hN
    rcases h2 with ⟨hm, rfl, s1, s2, rfl, rfl⟩ | ⟨hk, he, m, C, P, hR, -, rfl⟩
    · obtain ⟨n, rfl⟩ : ∃ q, N = q + 1 := ⟨N - 1, by omega⟩
      refine ⟨σ.2.1 8 22 0, ?_⟩
      show f_X8_sum_B16 _ σ (nI p) wk _ 0 = _
      unfold f_X8_sum_B16
      rw [hm, if_pos rfl, sA_id _ _ _ _ _ rfl]
      congr 2
      grind
    · obtain ⟨F, h3⟩ := sum_L (wk := wk) hR (P_le hR) hcd he hk hp m 0 (by omega) N (by have := hR.1; omega) (σ.2.1 8 22 0) (8 - σ.2.1 8 3 0 p / 10)
      rw [nI_0, sA_id _ _ _ _ _ rfl] at h3
      exact ⟨F, h3⟩
  unfold f_X8_sum
  simp only [nmI]
  rw [if_pos (show (0 : Int32) ≤ nI p ∧ nI p < 6 from nI_r (N := 6) hp (by decide)), nI_clamp (by omega)]
  exact key 1000 (by decide)
abbrev Th : Type := Int32 × Int32 × Int32 × Int32 × Int32 × Int32 × Int32 × Int32
def r4 (wk a b c d : Int32) : Int32 := if wk - wk / 4 * 4 = 0 then a else if wk - wk / 4 * 4 = 1 then b else if wk - wk / 4 * 4 = 2 then c else d
def mlt (wm : (Nat → Int32) → Int32) (t : Th) (d wk : Int32) : Int32 :=
  if t.2.1 = 1 then (8 - t.2.2.2.1 / 10 + wm (fxT t.1 t.2.1 t.2.2.1 t.2.2.2.1 d wk)) + 2
  else if t.2.1 = 2 then (8 - t.2.2.2.1 / 10 + wm (fxT t.1 t.2.1 t.2.2.1 t.2.2.2.1 d wk)) / 2
  else if t.2.1 = 3 then (if t.2.2.1 ≤ wk then (8 - t.2.2.2.1 / 10 + wm (fxT t.1 t.2.1 t.2.2.1 t.2.2.2.1 d wk)) else 0)
  else if t.2.1 = 4 then (if wk - wk / 4 * 4 = 0 then 2 * ((8 - t.2.2.2.1 / 10 + wm (fxT t.1 t.2.1 t.2.2.1 t.2.2.2.1 d wk)) + 2) else (8 - t.2.2.2.1 / 10 + wm (fxT t.1 t.2.1 t.2.2.1 t.2.2.2.1 d wk)) + 2)
  else if t.2.1 = 5 then (8 - t.2.2.2.1 / 10 + wm (fxT t.1 t.2.1 t.2.2.1 t.2.2.2.1 d wk)) / 2 + t.2.2.1
  else if t.2.1 = 6 then (if t.2.2.1 ≤ wk then (8 - t.2.2.2.1 / 10 + wm (fxT t.1 t.2.1 t.2.2.1 t.2.2.2.1 d wk)) else 0) + r4 wk t.2.2.2.2.1 t.2.2.2.2.2.1 t.2.2.2.2.2.2.1 t.2.2.2.2.2.2.2
  else (8 - t.2.2.2.1 / 10 + wm (fxT t.1 t.2.1 t.2.2.1 t.2.2.2.1 d wk))
def tC (σ : Sto) (i : Nat) : Th := (σ.1 5 0 i, σ.1 5 1 i, σ.1 5 2 i, σ.1 5 3 i, σ.2.1 5 5 i 0, σ.2.1 5 5 i 1, σ.2.1 5 5 i 2, σ.2.1 5 5 i 3)
def tM (σ : Sto) (p : Nat) : Th := (nI p, σ.2.1 8 1 0 p, σ.2.1 8 2 0 p, σ.2.1 8 3 0 p, σ.2.1 8 5 0 (4 * p), σ.2.1 8 5 0 (4 * p + 1), σ.2.1 8 5 0 (4 * p + 2), σ.2.1 8 5 0 (4 * p + 3))
theorem t_eq {σ : Sto} (h : Wt σ) {p : Nat} (hp : p < 6) : tC σ p = tM σ p ∧ σ.1 5 4 p = σ.2.1 8 4 0 p := by
  obtain ⟨t0, t1, t2, t3, t4, t5⟩ := h p hp
  unfold tC tM
  rw [t0, t1.1, t2.1, t3.1, (t5 0 (by decide)).1, (t5 1 (by decide)).1, (t5 2 (by decide)).1, (t5 3 (by decide)).1]
  exact ⟨rfl, t4.1⟩
theorem r4_row {wk : Int32} (h0 : 0 ≤ wk) (h1 : wk ≤ 20000) (f : Nat → Int32) : ∃ q : Nat, q < 4 ∧ wk - wk / 4 * 4 = nI q ∧ r4 wk (f 0) (f 1) (f 2) (f 3) = f q := by
  obtain ⟨n, hn, rfl⟩ := i32_range (x := wk) (N := 20001) (by decide) h0 (by grind)
  have e : nI n - nI n / 4 * 4 = nI (n % 4) := nI_mod (a := n) (b := 4) (by omega) (by decide)
  refine ⟨n % 4, by omega, e, ?_⟩
  unfold r4
  rw [e]
  have h4 : n % 4 < 4 := by omega
  match h : n % 4, h4 with
  | 0, _ => rw [if_pos (by decide)]
  | 1, _ => rw [if_neg (by decide), if_pos (by decide)]
  | 2, _ => rw [if_neg (by decide), if_neg (by decide), if_pos (by decide)]
  | 3, _ => rw [if_neg (by decide), if_neg (by decide), if_neg (by decide)]
theorem fre_a {σ : Sto} {c k i : Nat} {f : Nat → Int32} : FrE [] [(c, k, grp c i)] [] σ (sA σ c k i f) := FrE.rfl'.sA (List.mem_singleton.mpr rfl)
theorem PH_56 {σ : Sto} {wm : (Nat → Int32) → Int32} {sn : Int32} {k i : Nat} {f : Nat → Int32} (h : PH σ wm sn k) : PH (sA σ 5 6 i f) wm sn k := by
  refine PH_fr h fre_a (by simp) ?_
  intro x hx
  simp at hx
  subst hx
  simp [ba_Ps]
theorem meltIn_eq {σ : Sto} {wm : (Nat → Int32) → Int32} {sn wk : Int32} {k i : Nat} (h : PH σ wm sn k) (h0 : 0 ≤ wk) (h1 : wk ≤ 20000) : ∃ F, f_X5_meltIn σ i wk k = some (mlt wm (tC σ i) (σ.1 5 4 i) wk, sA σ 5 6 i F) := by
  refine ⟨upd (upd (upd (upd (upd (upd (σ.2.1 5 6 i) 0 (σ.1 5 0 i)) 1 (σ.1 5 1 i)) 2 (σ.1 5 2 i)) 3 (σ.1 5 3 i / 10)) 4 (σ.1 5 4 i / 10)) 5 (wk - wk / 10 * 10), ?_⟩
  unfold f_X5_meltIn
  simp only [nm, nmI, sA1, sA2, sA_sA, and_self, if_true, show (0 : Int32) ≤ 0 ∧ (0 : Int32) < 6 by decide, show (0 : Int32) ≤ 1 ∧ (1 : Int32) < 6 by decide, show (0 : Int32) ≤ 2 ∧ (2 : Int32) < 6 by decide, show (0 : Int32) ≤ 3 ∧ (3 : Int32) < 6 by decide, show (0 : Int32) ≤ 4 ∧ (4 : Int32) < 6 by decide, show (0 : Int32) ≤ 5 ∧ (5 : Int32) < 6 by decide, show Int32.toNatClampNeg 0 = 0 by decide, show Int32.toNatClampNeg 1 = 1 by decide, show Int32.toNatClampNeg 2 = 2 by decide, show Int32.toNatClampNeg 3 = 3 by decide, show Int32.toNatClampNeg 4 = 4 by decide, show Int32.toNatClampNeg 5 = 5 by decide]
  rw [warm_ph (fx := fxT (σ.1 5 0 i) (σ.1 5 1 i) (σ.1 5 2 i) (σ.1 5 3 i) (σ.1 5 4 i) wk) (PH_56 h)]
  · simp only [Option.bind_some]
    have es : ∀ x y : Int32, 8 + x - y = 8 - y + x := by intro x y; grind
    rw [es]
    unfold f_X5_meltIn_L99
    simp only [sA1, sA2]
    rw [floorMod4 wk h0]
    simp only [Option.bind_some]
    obtain ⟨q, hq, e1, e2⟩ := r4_row h0 h1 (σ.2.1 5 5 i)
    have e3 : (0 : Int32) ≤ nI q ∧ nI q < 4 := nI_r (N := 4) hq (by decide)
    rw [e1, if_pos e3, if_pos e3, nI_clamp (by omega)]
    unfold mlt tC
    dsimp only
    rw [e2, e1]
    simp only [Nat.reduceEqDiff, and_false, false_and, and_true, true_and, if_true, if_false]
    by_cases hv : σ.1 5 2 i ≤ wk
    · simp only [if_pos hv]
      by_cases k1 : σ.1 5 1 i = 1
      · simp only [if_pos k1]
      simp only [if_neg k1]
      by_cases k2 : σ.1 5 1 i = 2
      · simp only [if_pos k2]
      simp only [if_neg k2]
      by_cases k3 : σ.1 5 1 i = 3
      · simp only [if_pos k3]
      simp only [if_neg k3]
      by_cases k4 : σ.1 5 1 i = 4
      · simp only [if_pos k4]
        by_cases q0 : nI q = 0
        · simp only [if_pos q0]
        · simp only [if_neg q0]
      simp only [if_neg k4]
      by_cases k5 : σ.1 5 1 i = 5
      · simp only [if_pos k5]
      simp only [if_neg k5]
      by_cases k6 : σ.1 5 1 i = 6
      · simp only [if_pos k6]
      simp only [if_neg k6]
    · simp only [if_neg hv]
      by_cases k1 : σ.1 5 1 i = 1
      · simp only [if_pos k1]
      simp only [if_neg k1]
      by_cases k2 : σ.1 5 1 i = 2
      · simp only [if_pos k2]
      simp only [if_neg k2]
      by_cases k3 : σ.1 5 1 i = 3
      · simp only [if_pos k3]
      simp only [if_neg k3]
      by_cases k4 : σ.1 5 1 i = 4
      · simp only [if_pos k4]
        by_cases q0 : nI q = 0
        · simp only [if_pos q0]
        · simp only [if_neg q0]
      simp only [if_neg k4]
      by_cases k5 : σ.1 5 1 i = 5
      · simp only [if_pos k5]
      simp only [if_neg k5]
      by_cases k6 : σ.1 5 1 i = 6
      · simp only [if_pos k6]
      simp only [if_neg k6]
  · intro l hl
    simp only [sA2, and_self, if_true]
    unfold fxT
    match l, hl with
    | 0, _ => simp [upd_at]
    | 1, _ => simp [upd_at]
    | 2, _ => simp [upd_at]
    | 3, _ => simp [upd_at]
    | 4, _ => simp [upd_at]
    | 5, _ => simp [upd_at]
theorem meltsIn_eq {σ : Sto} {wm : (Nat → Int32) → Int32} {sn wk : Int32} {k p : Nat} (h : PH σ wm sn k) (hp : p < 6) (h0 : 0 ≤ wk) (h1 : wk ≤ 20000) : ∃ F, f_X8_meltsIn σ (nI p) wk = some (mlt wm (tM σ p) (σ.2.1 8 4 0 p) wk, sA σ 8 22 0 F) := by
  obtain ⟨F, hF⟩ := sum_ph (wk := wk) h hp
  refine ⟨F, ?_⟩
  unfold f_X8_meltsIn
  rw [hF]
  simp only [Option.bind_some, nmI]
  have a1 : (0 : Int32) ≤ nI p ∧ nI p < 6 := nI_r (N := 6) hp (by decide)
  unfold f_X8_meltsIn_L120
  simp only [a1, and_self, if_true, nI_clamp (show p < 2 ^ 31 by omega), r22o σ F (show (1 : Nat) ≠ 22 by decide), r22o σ F (show (2 : Nat) ≠ 22 by decide), r22o σ F (show (5 : Nat) ≠ 22 by decide)]
  obtain ⟨q, hq, e1, e2⟩ := r4_row h0 h1 (fun j => σ.2.1 8 5 0 (4 * p + j))
  obtain ⟨g1, g2, g3, g4⟩ := row_ix hp hq
  simp only [e1, g1, g2, g3, g4, and_self, if_true]
  unfold mlt tM
  dsimp only at e2 ⊢
  rw [show 4 * p + 0 = 4 * p by omega] at e2
  rw [e2, e1]
  have ef : fxM σ p wk = fxT (nI p) (σ.2.1 8 1 0 p) (σ.2.1 8 2 0 p) (σ.2.1 8 3 0 p) (σ.2.1 8 4 0 p) wk := rfl
  rw [ef]
  by_cases hv : σ.2.1 8 2 0 p ≤ wk
  · simp only [if_pos hv]
    by_cases k1 : σ.2.1 8 1 0 p = 1
    · simp only [if_pos k1]
    simp only [if_neg k1]
    by_cases k2 : σ.2.1 8 1 0 p = 2
    · simp only [if_pos k2]
    simp only [if_neg k2]
    by_cases k3 : σ.2.1 8 1 0 p = 3
    · simp only [if_pos k3]
    simp only [if_neg k3]
    by_cases k4 : σ.2.1 8 1 0 p = 4
    · simp only [if_pos k4]
      by_cases q0 : nI q = 0
      · simp only [if_pos q0]
      · simp only [if_neg q0]
    simp only [if_neg k4]
    by_cases k5 : σ.2.1 8 1 0 p = 5
    · simp only [if_pos k5]
    simp only [if_neg k5]
    by_cases k6 : σ.2.1 8 1 0 p = 6
    · simp only [if_pos k6]
    simp only [if_neg k6]
  · simp only [if_neg hv]
    by_cases k1 : σ.2.1 8 1 0 p = 1
    · simp only [if_pos k1]
    simp only [if_neg k1]
    by_cases k2 : σ.2.1 8 1 0 p = 2
    · simp only [if_pos k2]
    simp only [if_neg k2]
    by_cases k3 : σ.2.1 8 1 0 p = 3
    · simp only [if_pos k3]
    simp only [if_neg k3]
    by_cases k4 : σ.2.1 8 1 0 p = 4
    · simp only [if_pos k4]
      by_cases q0 : nI q = 0
      · simp only [if_pos q0]
      · simp only [if_neg q0]
    simp only [if_neg k4]
    by_cases k5 : σ.2.1 8 1 0 p = 5
    · simp only [if_pos k5]
    simp only [if_neg k5]
    by_cases k6 : σ.2.1 8 1 0 p = 6
    · simp only [if_pos k6]
    simp only [if_neg k6]
