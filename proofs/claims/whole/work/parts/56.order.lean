-- ORDER, CROSSED, told
theorem findWhens_L {σ : Sto} {wm : (Nat → Int32) → Int32} {sn : Int32} {k T : Nat} (B : Base σ wm sn k T) : ∀ (d j : Nat), j + d = T → ∀ n, d < n → ∀ s, FrE akF akA [] σ s → (∀ q, q < j → s.2.1 7 4 0 q = nI (Wh wm sn σ q)) → ∃ s', f_X7_findWhens_L2 n s (nI j) = some s' ∧ FrE akF akA [] σ s' ∧ (∀ q, q < T → s'.2.1 7 4 0 q = nI (Wh wm sn σ q)) := by
  have hT := B.2.2.1
  intro d
  induction d with
  | zero =>
    intro j hj n hn s e hq
    obtain ⟨n, rfl⟩ : ∃ q, n = q + 1 := ⟨n - 1, by omega⟩
    have hj2 : j = T := by omega
    subst hj2
    refine ⟨s, ?_, e, hq⟩
    show f_X7_findWhens_B2 _ s _ = _
    unfold f_X7_findWhens_B2
    rw [(Base_f B e).2.2.1, if_pos (by grind)]
  | succ d ih =>
    intro j hj n hn s e hq
    obtain ⟨n, rfl⟩ : ∃ q, n = q + 1 := ⟨n - 1, by omega⟩
    obtain ⟨s1, h1, e1, k1⟩ := when7 B e (show j < 6 by omega)
    have a1 : (0 : Int32) ≤ nI j ∧ nI j < 6 := nI_r (N := 6) (by omega) (by decide)
    obtain ⟨s2, h2, e2, q2⟩ := ih (j + 1) (by omega) n (by omega) (sA s1 7 4 0 (upd (s1.2.1 7 4 0) j (nI (Wh wm sn σ j)))) (e1.sA (by decide)) (by
      intro q hqj
      rw [sA_at, upd_at]
      by_cases hqe : q = j
      · rw [if_pos hqe, hqe]
      · rw [if_neg hqe, k1]; exact hq q (by omega))
    refine ⟨s2, ?_, e2, q2⟩
    rw [← h2]
    show f_X7_findWhens_B2 _ s _ = _
    unfold f_X7_findWhens_B2
    rw [(Base_f B e).2.2.1, if_neg (nI_ge (by omega) (by omega)), h1]
    simp only [Option.bind_some, a1, and_self, if_true, nm, nmI, nI_1, nI_clamp (show j < 2 ^ 31 by omega)]
theorem findWhens_eq {σ : Sto} {wm : (Nat → Int32) → Int32} {sn : Int32} {k T : Nat} (B : Base σ wm sn k T) : ∃ s', f_X7_findWhens σ = some s' ∧ FrE akF akA [] σ s' ∧ (∀ q, q < T → s'.2.1 7 4 0 q = nI (Wh wm sn σ q)) := by
  have hT := B.2.2.1
  have key : ∀ M, 10 < M → ∃ s', f_X7_findWhens_L2 M σ 0 = some s' ∧ FrE akF akA [] σ s' ∧ (∀ q, q < T → s'.2.1 7 4 0 q = nI (Wh wm sn σ q)) := by
    intro M hM
    have h := findWhens_L B T 0 (by omega) M (by omega) σ FrE.rfl' (fun q hq => absurd hq (by omega))
    rw [nI_0] at h
    exact h
  exact key 1000 (by decide)
/-- what the reference holds for WHEN -/
def wM (x : Nat) : Int32 := if x = 61 then 99 else nI x
theorem looks_L {σ : Sto} {wm : (Nat → Int32) → Int32} {sn : Int32} {k T : Nat} (B : MB σ wm sn k T) : ∀ (d j : Nat), j + d = T → ∀ n, d < n → ∀ s, Ra σ s → (∀ q, q < j → s.2.1 8 38 0 q = wM (Wh wm sn σ q)) → ∃ s', f_X8_looks_L2 n s (nI j) = some s' ∧ Ra σ s' ∧ (∀ q, q < T → s'.2.1 8 38 0 q = wM (Wh wm sn σ q)) := by
  have hT := B.2.2.1
  intro d
  induction d with
  | zero =>
    intro j hj n hn s R hq
    obtain ⟨n, rfl⟩ : ∃ q, n = q + 1 := ⟨n - 1, by omega⟩
    have hj2 : j = T := by omega
    subst hj2
    refine ⟨s, ?_, R, hq⟩
    show f_X8_looks_B2 _ s _ = _
    unfold f_X8_looks_B2
    rw [(Ra_f B R).1.2.2.2.1, if_pos (by grind)]
  | succ d ih =>
    intro j hj n hn s R hq
    obtain ⟨n, rfl⟩ : ∃ q, n = q + 1 := ⟨n - 1, by omega⟩
    have Bs := (Ra_f B R).1
    obtain ⟨s1, h1, R1, k1⟩ := when8 Bs (show j < T by omega)
    rw [Wh_ra B R (by omega)] at h1
    have a1 : (0 : Int32) ≤ nI j ∧ nI j < 6 := nI_r (N := 6) (by omega) (by decide)
    obtain ⟨s2, h2, e2, q2⟩ := ih (j + 1) (by omega) n (by omega) (sA s1 8 38 0 (upd (s1.2.1 8 38 0) j (wM (Wh wm sn σ j)))) (Ra_A (Ra_t R R1) (Or.inr (Or.inl rfl))) (by
      intro q hqj
      rw [sA_at, upd_at]
      by_cases hqe : q = j
      · rw [if_pos hqe, hqe]
      · rw [if_neg hqe, k1]; exact hq q (by omega))
    refine ⟨s2, ?_, e2, q2⟩
    rw [← h2]
    show f_X8_looks_B2 _ s _ = _
    unfold f_X8_looks_B2
    rw [Bs.2.2.2.1, if_neg (nI_ge (by omega) (by omega)), h1]
    have hle := Wh_le (wm := wm) (sn := sn) (σ := σ) (p := j)
    by_cases hz : Wh wm sn σ j = 61
    · simp only [Option.bind_some, hz, wM, a1, and_self, if_true, nm, nmI, nI_1, nI_clamp (show j < 2 ^ 31 by omega)]
    · have hne : ¬ nI (Wh wm sn σ j) = (-5 : Int32) := by
        have := nI_n0 (n := Wh wm sn σ j) (by omega); grind
      simp only [Option.bind_some, hz, hne, wM, a1, and_self, if_true, if_false, nm, nmI, nI_1, nI_clamp (show j < 2 ^ 31 by omega)]
theorem looks_eq {σ : Sto} {wm : (Nat → Int32) → Int32} {sn : Int32} {k T : Nat} (B : MB σ wm sn k T) : ∃ s', f_X8_looks σ = some s' ∧ Ra σ s' ∧ (∀ q, q < T → s'.2.1 8 38 0 q = wM (Wh wm sn σ q)) := by
  have hT := B.2.2.1
  have key : ∀ M, 10 < M → ∃ s', f_X8_looks_L2 M σ 0 = some s' ∧ Ra σ s' ∧ (∀ q, q < T → s'.2.1 8 38 0 q = wM (Wh wm sn σ q)) := by
    intro M hM
    have h := looks_L B T 0 (by omega) M (by omega) σ Ra_0 (fun q hq => absurd hq (by omega))
    rw [nI_0] at h
    exact h
  exact key 1000 (by decide)
theorem wM_lt {a b : Nat} (ha : a ≤ 61) (hb : b ≤ 61) : wM a < wM b ↔ a < b := by
  unfold wM
  have h1 : nI a < 61 ↔ a < 61 := nI_ltI (a := a) (b := 61) (by omega) (by decide)
  have h2 : nI b < 61 ↔ b < 61 := nI_ltI (a := b) (b := 61) (by omega) (by decide)
  have h3 : nI a < nI b ↔ a < b := nI_ltI (by omega) (by omega)
  have h4 := nI_n0 (n := a) (by omega)
  have h5 := nI_n0 (n := b) (by omega)
  by_cases ha1 : a = 61
  · by_cases hb1 : b = 61
    · rw [if_pos ha1, if_pos hb1]
      simp [ha1, hb1]
    · rw [if_pos ha1, if_neg hb1]
      have : nI b < 61 := h2.mpr (by omega)
      constructor
      · intro h; exfalso; grind
      · intro h; omega
  · by_cases hb1 : b = 61
    · rw [if_neg ha1, if_pos hb1]
      have : nI a < 61 := h1.mpr (by omega)
      constructor
      · intro _; omega
      · intro _; grind
    · rw [if_neg ha1, if_neg hb1]
      exact h3
theorem wM_eq {a b : Nat} (ha : a ≤ 61) (hb : b ≤ 61) : wM a = wM b ↔ a = b := by
  constructor
  · intro h
    have h1 := not_congr (wM_lt ha hb)
    have h2 := not_congr (wM_lt hb ha)
    have h3 : ¬ a < b := h1.mp (by rw [h]; exact Int32.lt_irrefl)
    have h4 : ¬ b < a := h2.mp (by rw [h]; exact Int32.lt_irrefl)
    omega
  · intro h; rw [h]
/-- whether a pair comes otherwise than it is worth -/
def crX (v : Nat → Int32) (W : Nat → Nat) (p q : Nat) : Bool := decide ((v q < v p ∧ W p < W q) ∨ (v p < v q ∧ W q < W p))
def crI (X : Nat → Nat → Bool) (p : Nat) : Nat → Nat → Int32 × Int32 → Int32 × Int32
  | 0, _, s => s
  | d + 1, q, s => if X p q = true then crI X p d (q + 1) (s.1 + 1, if s.2 = -5 then nI (10 * p + q) else s.2) else crI X p d (q + 1) s
def crO (X : Nat → Nat → Bool) (T : Nat) : Nat → Nat → Int32 × Int32 → Int32 × Int32
  | 0, _, s => s
  | d + 1, p, s => crO X T d (p + 1) (crI X p (T - (p + 1)) (p + 1) s)
theorem ne5 {n : Nat} (h : n < 1000) : ¬ nI n = (-5 : Int32) := by
  have := nI_n0 (n := n) (by omega)
  grind
theorem crI_1 (X : Nat → Nat → Bool) (p : Nat) : ∀ d q m f g, (crI X p d q (m, f)).1 = (crI X p d q (m, g)).1
  | 0, _, _, _, _ => rfl
  | d + 1, q, m, f, g => by
    unfold crI
    split
    · exact crI_1 X p d (q + 1) _ _ _
    · exact crI_1 X p d (q + 1) _ _ _
theorem crI_2 (X : Nat → Nat → Bool) (p : Nat) : ∀ d q m m' f, (crI X p d q (m, f)).2 = (crI X p d q (m', f)).2
  | 0, _, _, _, _ => rfl
  | d + 1, q, m, m', f => by
    unfold crI
    split
    · exact crI_2 X p d (q + 1) _ _ _
    · exact crI_2 X p d (q + 1) _ _ _
theorem crI_k (X : Nat → Nat → Bool) (p : Nat) : ∀ d q m f, ¬ f = -5 → (crI X p d q (m, f)).2 = f
  | 0, _, _, _, _ => rfl
  | d + 1, q, m, f, h => by
    unfold crI
    split
    · exact crI_k X p d (q + 1) _ f h
    · exact crI_k X p d (q + 1) _ f h
theorem crO_1 (X : Nat → Nat → Bool) (T : Nat) : ∀ d p m f g, (crO X T d p (m, f)).1 = (crO X T d p (m, g)).1
  | 0, _, _, _, _ => rfl
  | d + 1, p, m, f, g => by
    unfold crO
    have h := crI_1 X p (T - (p + 1)) (p + 1) m f g
    generalize crI X p (T - (p + 1)) (p + 1) (m, f) = a at h
    generalize crI X p (T - (p + 1)) (p + 1) (m, g) = b at h
    obtain ⟨a1, a2⟩ := a
    obtain ⟨b1, b2⟩ := b
    dsimp only at h
    subst h
    exact crO_1 X T d (p + 1) _ _ _
theorem crO_2 (X : Nat → Nat → Bool) (T : Nat) : ∀ d p m m' f, (crO X T d p (m, f)).2 = (crO X T d p (m', f)).2
  | 0, _, _, _, _ => rfl
  | d + 1, p, m, m', f => by
    unfold crO
    have h := crI_2 X p (T - (p + 1)) (p + 1) m m' f
    generalize crI X p (T - (p + 1)) (p + 1) (m, f) = a at h
    generalize crI X p (T - (p + 1)) (p + 1) (m', f) = b at h
    obtain ⟨a1, a2⟩ := a
    obtain ⟨b1, b2⟩ := b
    dsimp only at h
    subst h
    exact crO_2 X T d (p + 1) _ _ _
theorem crO_k (X : Nat → Nat → Bool) (T : Nat) : ∀ d p m f, ¬ f = -5 → (crO X T d p (m, f)).2 = f
  | 0, _, _, _, _ => rfl
  | d + 1, p, m, f, h => by
    unfold crO
    have h2 := crI_k X p (T - (p + 1)) (p + 1) m f h
    generalize crI X p (T - (p + 1)) (p + 1) (m, f) = a at h2
    obtain ⟨a1, a2⟩ := a
    dsimp only at h2
    subst h2
    exact crO_k X T d (p + 1) _ _ h
