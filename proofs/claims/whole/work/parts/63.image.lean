-- THE IMAGE
theorem become2 (s : Sto) {i j : Nat} (hij : i ≠ j) : ∃ F1 F2 F3 : Nat → Int32, f_X2_become s i j = some (sA (sA (sA (sF s 2 4 i (s.1 2 4 j)) 2 1 i F1) 2 2 i F2) 2 3 i F3) ∧ ∀ q, q < 10 → F1 q = s.2.1 2 1 j q ∧ F2 q = s.2.1 2 2 j q ∧ F3 q = s.2.1 2 3 j q := by
  refine ⟨va_cpy (s.2.1 2 1 j) (s.2.1 2 1 i) 0 0 10, va_cpy (s.2.1 2 2 j) (s.2.1 2 2 i) 0 0 10, va_cpy (s.2.1 2 3 j) (s.2.1 2 3 i) 0 0 10, ?_, ?_⟩
  · unfold f_X2_become
    have hji : ¬ j = i := fun h => hij h.symm
    have hac : acok (0 : Int32) (0 : Int32) (10 : Int32) 10 := by decide
    simp only [nm, sF2, sA2, if_pos hac, Nat.reduceEqDiff, true_and, and_true, false_and, and_false, if_false]
    rfl
  · intro q hq
    unfold va_cpy
    simp only [Nat.zero_le, true_and, Nat.zero_add, hq, if_true, Nat.sub_zero, and_self]
theorem sF_ne {σ : Sto} {c k i c' k' i' : Nat} {v : Int32} (h : ¬ (c' = c ∧ k' = k ∧ i' = i)) : (sF σ c k i v).1 c' k' i' = σ.1 c' k' i' := if_neg h
theorem sA_ne {σ : Sto} {c k i c' k' i' : Nat} {f : Nat → Int32} (h : ¬ (c' = c ∧ k' = k ∧ i' = i)) : (sA σ c k i f).2.1 c' k' i' = σ.2.1 c' k' i' := if_neg h
theorem gv0 {p : Nat} (h : p < 6) : grp 5 (6 * 0 + p) = 0 := by unfold grp; simp; omega
theorem gv1 {p : Nat} (h : p < 6) : grp 5 (6 * 1 + p) = 1 := by unfold grp; simp; omega
abbrev bcF1 : List (Nat × Nat × Nat) := [(5, 0, 1), (5, 1, 1), (5, 2, 1), (5, 3, 1), (5, 4, 1), (6, 1, 1), (6, 2, 1), (6, 3, 1), (2, 4, 1)]
abbrev bcA1 : List (Nat × Nat × Nat) := [(5, 5, 1), (2, 1, 1), (2, 2, 1), (2, 3, 1)]
theorem gw1 {p : Nat} (h : p < 6) : grp 5 (6 * 1 + p) = 1 := by unfold grp; simp; omega
def cpd1 (σ s : Sto) (q : Nat) : Prop := (s.1 5 0 (6 * 1 + q) = σ.1 5 0 (6 * 0 + q) ∧ s.1 5 1 (6 * 1 + q) = σ.1 5 1 (6 * 0 + q) ∧ s.1 5 2 (6 * 1 + q) = σ.1 5 2 (6 * 0 + q) ∧ s.1 5 3 (6 * 1 + q) = σ.1 5 3 (6 * 0 + q) ∧ s.1 5 4 (6 * 1 + q) = σ.1 5 4 (6 * 0 + q)) ∧ ∀ j, j < 4 → s.2.1 5 5 (6 * 1 + q) j = σ.2.1 5 5 (6 * 0 + q) j
theorem bc_L1 {σ : Sto} : ∀ (d p : Nat), p + d = 6 → ∀ n, d < n → ∀ s, FrE bcF1 bcA1 [] σ s → (∀ q, q < p → cpd1 σ s q) → ∃ s', FrE bcF1 bcA1 [] σ s' ∧ (∀ q, q < 6 → cpd1 σ s' q) ∧ f_X6_become_L2 n s 1 0 (nI p) = f_X6_become_B2 (fun _ _ _ _ => none) s' 1 0 (nI 6) := by
  intro d
  induction d with
  | zero =>
    intro p hp n hn s e hq
    obtain ⟨n, rfl⟩ : ∃ q, n = q + 1 := ⟨n - 1, by omega⟩
    have hp2 : p = 6 := by omega
    subst hp2
    refine ⟨s, e, hq, ?_⟩
    show f_X6_become_B2 _ s 1 0 (nI 6) = _
    unfold f_X6_become_B2
    rw [if_pos (show (6 : Int32) ≤ nI 6 by decide), if_pos (show (6 : Int32) ≤ nI 6 by decide)]
  | succ d ih =>
    intro p hp n hn s e hq
    obtain ⟨n, rfl⟩ : ∃ q, n = q + 1 := ⟨n - 1, by omega⟩
    have a1 : (0 : Int32) ≤ nI p ∧ nI p < 6 := nI_r (N := 6) (by omega) (by decide)
    have hne : (6 * 1 + p) ≠ (6 * 0 + p) := by omega
    obtain ⟨F, hb, hF⟩ := become_eq s hne
    have hgV : ∀ k, (5, k, grp 5 (6 * 0 + p)) ∉ bcF1 := by intro k; rw [gv0 (by omega)]; simp [bcF1]
    have hgA : (5, 5, grp 5 (6 * 0 + p)) ∉ bcA1 := by rw [gv0 (by omega)]; decide
    have hm : ∀ k, k < 5 → (5, k, grp 5 (6 * 1 + p)) ∈ bcF1 := by
      intro k hk
      rw [gw1 (by omega)]
      match k, hk with
      | 0, _ => decide
      | 1, _ => decide
      | 2, _ => decide
      | 3, _ => decide
      | 4, _ => decide
    have e2 : FrE bcF1 bcA1 [] σ (sA (sF (sF (sF (sF (sF s 5 0 (6 * 1 + p) (s.1 5 0 (6 * 0 + p))) 5 1 (6 * 1 + p) (s.1 5 1 (6 * 0 + p))) 5 2 (6 * 1 + p) (s.1 5 2 (6 * 0 + p))) 5 3 (6 * 1 + p) (s.1 5 3 (6 * 0 + p))) 5 4 (6 * 1 + p) (s.1 5 4 (6 * 0 + p))) 5 5 (6 * 1 + p) F) := (((((e.sF (hm 0 (by omega))).sF (hm 1 (by omega))).sF (hm 2 (by omega))).sF (hm 3 (by omega))).sF (hm 4 (by omega))).sA (by rw [gw1 (by omega)]; decide)
    obtain ⟨s', s1, s2, s3⟩ := ih (p + 1) (by omega) n (by omega) _ e2 (by
      intro q hqp
      unfold cpd1
      by_cases hqe : q = p
      · subst hqe
        rw [← e.1 5 0 (6 * 0 + q) (hgV 0), ← e.1 5 1 (6 * 0 + q) (hgV 1), ← e.1 5 2 (6 * 0 + q) (hgV 2), ← e.1 5 3 (6 * 0 + q) (hgV 3), ← e.1 5 4 (6 * 0 + q) (hgV 4), ← e.2.1 5 5 (6 * 0 + q) hgA]
        refine ⟨⟨?_, ?_, ?_, ?_, ?_⟩, fun j hj => ?_⟩
        · simp [sA1, sF1]
        · simp [sA1, sF1]
        · simp [sA1, sF1]
        · simp [sA1, sF1]
        · simp [sA1, sF1]
        · rw [sA_at]; exact hF j hj
      · have hne2 : ¬ (6 * 1 + q) = (6 * 1 + p) := by omega
        obtain ⟨c1, c2⟩ := hq q (by omega)
        simp only [sA1, sF1, sA2, sF2, hne2, and_false, if_false]
        exact ⟨c1, c2⟩)
    refine ⟨s', s1, s2, ?_⟩
    rw [← s3]
    show f_X6_become_B2 _ s 1 0 (nI p) = _
    unfold f_X6_become_B2
    rw [if_neg (show ¬ (6 : Int32) ≤ nI p from nI_ge (a := p) (b := 6) (by omega) (by decide)), if_pos a1, if_pos a1, nI_clamp (by omega), hb]
    simp only [Option.bind_some, nmI, nI_1]

abbrev bcF0 : List (Nat × Nat × Nat) := [(5, 0, 0), (5, 1, 0), (5, 2, 0), (5, 3, 0), (5, 4, 0), (6, 1, 0), (6, 2, 0), (6, 3, 0), (2, 4, 0)]
abbrev bcA0 : List (Nat × Nat × Nat) := [(5, 5, 0), (2, 1, 0), (2, 2, 0), (2, 3, 0)]
theorem gw0 {p : Nat} (h : p < 6) : grp 5 (6 * 0 + p) = 0 := by unfold grp; simp; omega
def cpd0 (σ s : Sto) (q : Nat) : Prop := (s.1 5 0 (6 * 0 + q) = σ.1 5 0 (6 * 1 + q) ∧ s.1 5 1 (6 * 0 + q) = σ.1 5 1 (6 * 1 + q) ∧ s.1 5 2 (6 * 0 + q) = σ.1 5 2 (6 * 1 + q) ∧ s.1 5 3 (6 * 0 + q) = σ.1 5 3 (6 * 1 + q) ∧ s.1 5 4 (6 * 0 + q) = σ.1 5 4 (6 * 1 + q)) ∧ ∀ j, j < 4 → s.2.1 5 5 (6 * 0 + q) j = σ.2.1 5 5 (6 * 1 + q) j
theorem bc_L0 {σ : Sto} : ∀ (d p : Nat), p + d = 6 → ∀ n, d < n → ∀ s, FrE bcF0 bcA0 [] σ s → (∀ q, q < p → cpd0 σ s q) → ∃ s', FrE bcF0 bcA0 [] σ s' ∧ (∀ q, q < 6 → cpd0 σ s' q) ∧ f_X6_become_L2 n s 0 1 (nI p) = f_X6_become_B2 (fun _ _ _ _ => none) s' 0 1 (nI 6) := by
  intro d
  induction d with
  | zero =>
    intro p hp n hn s e hq
    obtain ⟨n, rfl⟩ : ∃ q, n = q + 1 := ⟨n - 1, by omega⟩
    have hp2 : p = 6 := by omega
    subst hp2
    refine ⟨s, e, hq, ?_⟩
    show f_X6_become_B2 _ s 0 1 (nI 6) = _
    unfold f_X6_become_B2
    rw [if_pos (show (6 : Int32) ≤ nI 6 by decide), if_pos (show (6 : Int32) ≤ nI 6 by decide)]
  | succ d ih =>
    intro p hp n hn s e hq
    obtain ⟨n, rfl⟩ : ∃ q, n = q + 1 := ⟨n - 1, by omega⟩
    have a1 : (0 : Int32) ≤ nI p ∧ nI p < 6 := nI_r (N := 6) (by omega) (by decide)
    have hne : (6 * 0 + p) ≠ (6 * 1 + p) := by omega
    obtain ⟨F, hb, hF⟩ := become_eq s hne
    have hgV : ∀ k, (5, k, grp 5 (6 * 1 + p)) ∉ bcF0 := by intro k; rw [gv1 (by omega)]; simp [bcF0]
    have hgA : (5, 5, grp 5 (6 * 1 + p)) ∉ bcA0 := by rw [gv1 (by omega)]; decide
    have hm : ∀ k, k < 5 → (5, k, grp 5 (6 * 0 + p)) ∈ bcF0 := by
      intro k hk
      rw [gw0 (by omega)]
      match k, hk with
      | 0, _ => decide
      | 1, _ => decide
      | 2, _ => decide
      | 3, _ => decide
      | 4, _ => decide
    have e2 : FrE bcF0 bcA0 [] σ (sA (sF (sF (sF (sF (sF s 5 0 (6 * 0 + p) (s.1 5 0 (6 * 1 + p))) 5 1 (6 * 0 + p) (s.1 5 1 (6 * 1 + p))) 5 2 (6 * 0 + p) (s.1 5 2 (6 * 1 + p))) 5 3 (6 * 0 + p) (s.1 5 3 (6 * 1 + p))) 5 4 (6 * 0 + p) (s.1 5 4 (6 * 1 + p))) 5 5 (6 * 0 + p) F) := (((((e.sF (hm 0 (by omega))).sF (hm 1 (by omega))).sF (hm 2 (by omega))).sF (hm 3 (by omega))).sF (hm 4 (by omega))).sA (by rw [gw0 (by omega)]; decide)
    obtain ⟨s', s1, s2, s3⟩ := ih (p + 1) (by omega) n (by omega) _ e2 (by
      intro q hqp
      unfold cpd0
      by_cases hqe : q = p
      · subst hqe
        rw [← e.1 5 0 (6 * 1 + q) (hgV 0), ← e.1 5 1 (6 * 1 + q) (hgV 1), ← e.1 5 2 (6 * 1 + q) (hgV 2), ← e.1 5 3 (6 * 1 + q) (hgV 3), ← e.1 5 4 (6 * 1 + q) (hgV 4), ← e.2.1 5 5 (6 * 1 + q) hgA]
        refine ⟨⟨?_, ?_, ?_, ?_, ?_⟩, fun j hj => ?_⟩
        · simp [sA1, sF1]
        · simp [sA1, sF1]
        · simp [sA1, sF1]
        · simp [sA1, sF1]
        · simp [sA1, sF1]
        · rw [sA_at]; exact hF j hj
      · have hne2 : ¬ (6 * 0 + q) = (6 * 0 + p) := by omega
        obtain ⟨c1, c2⟩ := hq q (by omega)
        simp only [sA1, sF1, sA2, sF2, hne2, and_false, if_false]
        exact ⟨c1, c2⟩)
    refine ⟨s', s1, s2, ?_⟩
    rw [← s3]
    show f_X6_become_B2 _ s 0 1 (nI p) = _
    unfold f_X6_become_B2
    rw [if_neg (show ¬ (6 : Int32) ≤ nI p from nI_ge (a := p) (b := 6) (by omega) (by decide)), if_pos a1, if_pos a1, nI_clamp (by omega), hb]
    simp only [Option.bind_some, nmI, nI_1]

theorem become6_1 (σ : Sto) : ∃ τ, f_X6_become σ 1 0 = some τ ∧ FrE bcF1 bcA1 [] σ τ ∧ (∀ s, RW σ 0 s → (σ.1 2 0 3 = 5 ∧ σ.1 2 0 4 = 10 ∧ σ.1 2 0 5 = 8) → RW τ 1 s) ∧ τ.1 6 1 1 = σ.1 6 1 0 := by
  obtain ⟨s, e, hq, hs⟩ := (fun (key : ∀ M, 10 < M → ∃ s', FrE bcF1 bcA1 [] σ s' ∧ (∀ q, q < 6 → cpd1 σ s' q) ∧ f_X6_become_L2 M σ 1 0 0 = f_X6_become_B2 (fun _ _ _ _ => none) s' 1 0 (nI 6)) => key 1000 (by decide)) (fun M hM => by
    have g := bc_L1 (σ := σ) 6 0 rfl M (by omega) σ FrE.rfl' (fun q hq => absurd hq (by omega))
    rw [nI_0] at g
    exact g)
  obtain ⟨F1, F2, F3, hb1, hF1⟩ := become2 (sF (sF (sF s 6 1 1 (s.1 6 1 0)) 6 2 1 (s.1 6 2 0)) 6 3 1 (s.1 6 3 0)) (i := 3) (j := 0) (by decide)
  let t1 : Sto := sA (sA (sA (sF (sF (sF (sF s 6 1 1 (s.1 6 1 0)) 6 2 1 (s.1 6 2 0)) 6 3 1 (s.1 6 3 0)) 2 4 3 ((sF (sF (sF s 6 1 1 (s.1 6 1 0)) 6 2 1 (s.1 6 2 0)) 6 3 1 (s.1 6 3 0)).1 2 4 0)) 2 1 3 F1) 2 2 3 F2) 2 3 3 F3
  obtain ⟨G1, G2, G3, hb2, hG1⟩ := become2 t1 (i := 4) (j := 1) (by decide)
  let t2 : Sto := sA (sA (sA (sF t1 2 4 4 (t1.1 2 4 1)) 2 1 4 G1) 2 2 4 G2) 2 3 4 G3
  obtain ⟨K1, K2, K3, hb3, hK1⟩ := become2 t2 (i := 5) (j := 2) (by decide)
  let t3 : Sto := sA (sA (sA (sF t2 2 4 5 (t2.1 2 4 2)) 2 1 5 K1) 2 2 5 K2) 2 3 5 K3
  have e3 : FrE bcF1 bcA1 [] σ t3 := ((((((((((((((e.sF (by decide)).sF (by decide)).sF (by decide)).sF (by decide)).sA (by decide)).sA (by decide)).sA (by decide)).sF (by decide)).sA (by decide)).sA (by decide)).sA (by decide)).sF (by decide)).sA (by decide)).sA (by decide)).sA (by decide)
  have e0 : f_X6_become σ 1 0 = some t3 := by
    unfold f_X6_become
    rw [hs]
    unfold f_X6_become_B2
    rw [if_pos (show (6 : Int32) ≤ nI 6 by decide)]
    simp only [nm, sF1, Nat.reduceEqDiff, true_and, and_true, false_and, and_false, if_false]
    simp only [sF1, Nat.reduceEqDiff, true_and, and_true, false_and, and_false, if_false] at hb1
    rw [show 3 * 1 = 3 from rfl, show 3 * 0 = 0 from rfl, hb1]
    simp only [Option.bind_some]
    have ht1 : t1 = sA (sA (sA (sF (sF (sF (sF s 6 1 1 (s.1 6 1 0)) 6 2 1 (s.1 6 2 0)) 6 3 1 (s.1 6 3 0)) 2 4 3 (s.1 2 4 0)) 2 1 3 F1) 2 2 3 F2) 2 3 3 F3 := by simp [t1, sF1]
    rw [← ht1, show 3 + 1 = 4 from rfl, show 0 + 1 = 1 from rfl, hb2]
    simp only [Option.bind_some]
    rw [show 3 + 2 = 5 from rfl, show 0 + 2 = 2 from rfl]
    show (f_X2_become t2 5 2).bind _ = _
    rw [hb3]
    rfl
  have r61 : t3.1 6 1 1 = σ.1 6 1 0 := by
    have : t3.1 6 1 1 = s.1 6 1 0 := by simp [t3, t2, t1, sF1, sA1]
    rw [this, e.1 6 1 0 (by decide)]
  refine ⟨t3, e0, e3, fun u hu hc => ?_, r61⟩
  obtain ⟨u1, u2, u3, u4, u5⟩ := hu
  refine ⟨?_, ?_, ?_, ?_, ?_⟩
  · intro p hp
    obtain ⟨⟨c0, c1, c2, c3, c4⟩, c5⟩ := hq p hp
    have f5 : ∀ k i, t3.1 5 k i = s.1 5 k i := by intro k i; simp [t3, t2, t1, sF1, sA1]
    have a5 : ∀ i, t3.2.1 5 5 i = s.2.1 5 5 i := by intro i; simp [t3, t2, t1, sF2, sA2]
    obtain ⟨v0, v1, v2, v3, v4, v5⟩ := u1 p hp
    rw [f5, f5, f5, f5, f5, a5, c0, c1, c2, c3, c4]
    refine ⟨v0, v1, v2, v3, v4, fun j hj => ?_⟩
    rw [c5 j hj]
    exact v5 j hj
  · unfold RWn at u2 ⊢
    have r62 : t3.1 6 2 1 = σ.1 6 2 0 := by
      have : t3.1 6 2 1 = s.1 6 2 0 := by simp [t3, t2, t1, sF1, sA1]
      rw [this, e.1 6 2 0 (by decide)]
    have r63 : t3.1 6 3 1 = σ.1 6 3 0 := by
      have : t3.1 6 3 1 = s.1 6 3 0 := by simp [t3, t2, t1, sF1, sA1]
      rw [this, e.1 6 3 0 (by decide)]
    rw [r61, r62, r63, e3.1 7 7 0 (by decide)]
    exact u2
  · unfold RWs at u3 ⊢
    rw [show 3 * 1 = 3 from rfl]
    rw [show 3 * 0 = 0 from rfl] at u3
    have q4 : t3.1 2 4 3 = σ.1 2 4 0 := by
      have : t3.1 2 4 3 = s.1 2 4 0 := by simp [t3, t2, t1, sF1, sA1]
      rw [this, e.1 2 4 0 (by decide)]
    have q0 : t3.1 2 0 3 = 5 := by rw [e3.1 2 0 3 (by decide)]; exact hc.1
    rw [q4, q0]
    refine ⟨⟨rfl, u3.1.2⟩, fun j hj hj2 => ?_⟩
    have w1 : t3.2.1 2 1 3 j = σ.2.1 2 1 0 j := by
      have x1 : t3.2.1 2 1 3 = F1 := by simp [t3, t2, t1, sF2, sA2]
      have x2 : F1 j = (sF (sF (sF s 6 1 1 (s.1 6 1 0)) 6 2 1 (s.1 6 2 0)) 6 3 1 (s.1 6 3 0)).2.1 2 1 0 j := (hF1 j (by omega)).1
      have x3 : (sF (sF (sF s 6 1 1 (s.1 6 1 0)) 6 2 1 (s.1 6 2 0)) 6 3 1 (s.1 6 3 0)).2.1 2 1 0 = s.2.1 2 1 0 := by simp [t2, t1, sF2, sA2]
      rw [x1, x2, x3, e.2.1 2 1 0 (by decide)]
    have w2 : t3.2.1 2 2 3 j = σ.2.1 2 2 0 j := by
      have x1 : t3.2.1 2 2 3 = F2 := by simp [t3, t2, t1, sF2, sA2]
      have x2 : F2 j = (sF (sF (sF s 6 1 1 (s.1 6 1 0)) 6 2 1 (s.1 6 2 0)) 6 3 1 (s.1 6 3 0)).2.1 2 2 0 j := (hF1 j (by omega)).2.1
      have x3 : (sF (sF (sF s 6 1 1 (s.1 6 1 0)) 6 2 1 (s.1 6 2 0)) 6 3 1 (s.1 6 3 0)).2.1 2 2 0 = s.2.1 2 2 0 := by simp [t2, t1, sF2, sA2]
      rw [x1, x2, x3, e.2.1 2 2 0 (by decide)]
    have w3 : t3.2.1 2 3 3 j = σ.2.1 2 3 0 j := by
      have x1 : t3.2.1 2 3 3 = F3 := by simp [t3, t2, t1, sF2, sA2]
      have x2 : F3 j = (sF (sF (sF s 6 1 1 (s.1 6 1 0)) 6 2 1 (s.1 6 2 0)) 6 3 1 (s.1 6 3 0)).2.1 2 3 0 j := (hF1 j (by omega)).2.2
      have x3 : (sF (sF (sF s 6 1 1 (s.1 6 1 0)) 6 2 1 (s.1 6 2 0)) 6 3 1 (s.1 6 3 0)).2.1 2 3 0 = s.2.1 2 3 0 := by simp [t2, t1, sF2, sA2]
      rw [x1, x2, x3, e.2.1 2 3 0 (by decide)]
    rw [w1, w2, w3]
    exact u3.2 j hj hj2
  · unfold RWp at u4 ⊢
    rw [show 3 * 1 + 1 = 4 from rfl]
    rw [show 3 * 0 + 1 = 1 from rfl] at u4
    have q4 : t3.1 2 4 4 = σ.1 2 4 1 := by
      have : t3.1 2 4 4 = s.1 2 4 1 := by simp [t3, t2, t1, sF1, sA1]
      rw [this, e.1 2 4 1 (by decide)]
    have q0 : t3.1 2 0 4 = 10 := by rw [e3.1 2 0 4 (by decide)]; exact hc.2.1
    rw [q4, q0]
    refine ⟨⟨rfl, u4.1.2⟩, fun j hj hj2 => ?_⟩
    have w1 : t3.2.1 2 1 4 j = σ.2.1 2 1 1 j := by
      have x1 : t3.2.1 2 1 4 = G1 := by simp [t3, t2, t1, sF2, sA2]
      have x2 : G1 j = t1.2.1 2 1 1 j := (hG1 j (by omega)).1
      have x3 : t1.2.1 2 1 1 = s.2.1 2 1 1 := by simp [t2, t1, sF2, sA2]
      rw [x1, x2, x3, e.2.1 2 1 1 (by decide)]
    have w2 : t3.2.1 2 2 4 j = σ.2.1 2 2 1 j := by
      have x1 : t3.2.1 2 2 4 = G2 := by simp [t3, t2, t1, sF2, sA2]
      have x2 : G2 j = t1.2.1 2 2 1 j := (hG1 j (by omega)).2.1
      have x3 : t1.2.1 2 2 1 = s.2.1 2 2 1 := by simp [t2, t1, sF2, sA2]
      rw [x1, x2, x3, e.2.1 2 2 1 (by decide)]
    rw [w1, w2]
    exact u4.2 j hj hj2
  · unfold RWb at u5 ⊢
    rw [show 3 * 1 + 2 = 5 from rfl]
    rw [show 3 * 0 + 2 = 2 from rfl] at u5
    have q4 : t3.1 2 4 5 = σ.1 2 4 2 := by
      have : t3.1 2 4 5 = s.1 2 4 2 := by simp [t3, t2, t1, sF1, sA1]
      rw [this, e.1 2 4 2 (by decide)]
    have q0 : t3.1 2 0 5 = 8 := by rw [e3.1 2 0 5 (by decide)]; exact hc.2.2
    rw [q4, q0]
    refine ⟨⟨rfl, u5.1.2⟩, fun j hj hj2 => ?_⟩
    have w1 : t3.2.1 2 1 5 j = σ.2.1 2 1 2 j := by
      have x1 : t3.2.1 2 1 5 = K1 := by simp [t3, t2, t1, sF2, sA2]
      have x2 : K1 j = t2.2.1 2 1 2 j := (hK1 j (by omega)).1
      have x3 : t2.2.1 2 1 2 = s.2.1 2 1 2 := by simp [t2, t1, sF2, sA2]
      rw [x1, x2, x3, e.2.1 2 1 2 (by decide)]
    have w2 : t3.2.1 2 2 5 j = σ.2.1 2 2 2 j := by
      have x1 : t3.2.1 2 2 5 = K2 := by simp [t3, t2, t1, sF2, sA2]
      have x2 : K2 j = t2.2.1 2 2 2 j := (hK1 j (by omega)).2.1
      have x3 : t2.2.1 2 2 2 = s.2.1 2 2 2 := by simp [t2, t1, sF2, sA2]
      rw [x1, x2, x3, e.2.1 2 2 2 (by decide)]
    rw [w1, w2]
    exact u5.2 j hj hj2
theorem become6_0 (σ : Sto) : ∃ τ, f_X6_become σ 0 1 = some τ ∧ FrE bcF0 bcA0 [] σ τ ∧ (∀ s, RW σ 1 s → (σ.1 2 0 0 = 5 ∧ σ.1 2 0 1 = 10 ∧ σ.1 2 0 2 = 8) → RW τ 0 s) ∧ τ.1 6 1 0 = σ.1 6 1 1 := by
  obtain ⟨s, e, hq, hs⟩ := (fun (key : ∀ M, 10 < M → ∃ s', FrE bcF0 bcA0 [] σ s' ∧ (∀ q, q < 6 → cpd0 σ s' q) ∧ f_X6_become_L2 M σ 0 1 0 = f_X6_become_B2 (fun _ _ _ _ => none) s' 0 1 (nI 6)) => key 1000 (by decide)) (fun M hM => by
    have g := bc_L0 (σ := σ) 6 0 rfl M (by omega) σ FrE.rfl' (fun q hq => absurd hq (by omega))
    rw [nI_0] at g
    exact g)
  obtain ⟨F1, F2, F3, hb1, hF1⟩ := become2 (sF (sF (sF s 6 1 0 (s.1 6 1 1)) 6 2 0 (s.1 6 2 1)) 6 3 0 (s.1 6 3 1)) (i := 0) (j := 3) (by decide)
  let t1 : Sto := sA (sA (sA (sF (sF (sF (sF s 6 1 0 (s.1 6 1 1)) 6 2 0 (s.1 6 2 1)) 6 3 0 (s.1 6 3 1)) 2 4 0 ((sF (sF (sF s 6 1 0 (s.1 6 1 1)) 6 2 0 (s.1 6 2 1)) 6 3 0 (s.1 6 3 1)).1 2 4 3)) 2 1 0 F1) 2 2 0 F2) 2 3 0 F3
  obtain ⟨G1, G2, G3, hb2, hG1⟩ := become2 t1 (i := 1) (j := 4) (by decide)
  let t2 : Sto := sA (sA (sA (sF t1 2 4 1 (t1.1 2 4 4)) 2 1 1 G1) 2 2 1 G2) 2 3 1 G3
  obtain ⟨K1, K2, K3, hb3, hK1⟩ := become2 t2 (i := 2) (j := 5) (by decide)
  let t3 : Sto := sA (sA (sA (sF t2 2 4 2 (t2.1 2 4 5)) 2 1 2 K1) 2 2 2 K2) 2 3 2 K3
  have e3 : FrE bcF0 bcA0 [] σ t3 := ((((((((((((((e.sF (by decide)).sF (by decide)).sF (by decide)).sF (by decide)).sA (by decide)).sA (by decide)).sA (by decide)).sF (by decide)).sA (by decide)).sA (by decide)).sA (by decide)).sF (by decide)).sA (by decide)).sA (by decide)).sA (by decide)
  have e0 : f_X6_become σ 0 1 = some t3 := by
    unfold f_X6_become
    rw [hs]
    unfold f_X6_become_B2
    rw [if_pos (show (6 : Int32) ≤ nI 6 by decide)]
    simp only [nm, sF1, Nat.reduceEqDiff, true_and, and_true, false_and, and_false, if_false]
    simp only [sF1, Nat.reduceEqDiff, true_and, and_true, false_and, and_false, if_false] at hb1
    rw [show 3 * 0 = 0 from rfl, show 3 * 1 = 3 from rfl, hb1]
    simp only [Option.bind_some]
    have ht1 : t1 = sA (sA (sA (sF (sF (sF (sF s 6 1 0 (s.1 6 1 1)) 6 2 0 (s.1 6 2 1)) 6 3 0 (s.1 6 3 1)) 2 4 0 (s.1 2 4 3)) 2 1 0 F1) 2 2 0 F2) 2 3 0 F3 := by simp [t1, sF1]
    rw [← ht1, show 0 + 1 = 1 from rfl, show 3 + 1 = 4 from rfl, hb2]
    simp only [Option.bind_some]
    rw [show 0 + 2 = 2 from rfl, show 3 + 2 = 5 from rfl]
    show (f_X2_become t2 2 5).bind _ = _
    rw [hb3]
    rfl
  have r61 : t3.1 6 1 0 = σ.1 6 1 1 := by
    have : t3.1 6 1 0 = s.1 6 1 1 := by simp [t3, t2, t1, sF1, sA1]
    rw [this, e.1 6 1 1 (by decide)]
  refine ⟨t3, e0, e3, fun u hu hc => ?_, r61⟩
  obtain ⟨u1, u2, u3, u4, u5⟩ := hu
  refine ⟨?_, ?_, ?_, ?_, ?_⟩
  · intro p hp
    obtain ⟨⟨c0, c1, c2, c3, c4⟩, c5⟩ := hq p hp
    have f5 : ∀ k i, t3.1 5 k i = s.1 5 k i := by intro k i; simp [t3, t2, t1, sF1, sA1]
    have a5 : ∀ i, t3.2.1 5 5 i = s.2.1 5 5 i := by intro i; simp [t3, t2, t1, sF2, sA2]
    obtain ⟨v0, v1, v2, v3, v4, v5⟩ := u1 p hp
    rw [f5, f5, f5, f5, f5, a5, c0, c1, c2, c3, c4]
    refine ⟨v0, v1, v2, v3, v4, fun j hj => ?_⟩
    rw [c5 j hj]
    exact v5 j hj
  · unfold RWn at u2 ⊢
    have r62 : t3.1 6 2 0 = σ.1 6 2 1 := by
      have : t3.1 6 2 0 = s.1 6 2 1 := by simp [t3, t2, t1, sF1, sA1]
      rw [this, e.1 6 2 1 (by decide)]
    have r63 : t3.1 6 3 0 = σ.1 6 3 1 := by
      have : t3.1 6 3 0 = s.1 6 3 1 := by simp [t3, t2, t1, sF1, sA1]
      rw [this, e.1 6 3 1 (by decide)]
    rw [r61, r62, r63, e3.1 7 7 0 (by decide)]
    exact u2
  · unfold RWs at u3 ⊢
    rw [show 3 * 0 = 0 from rfl]
    rw [show 3 * 1 = 3 from rfl] at u3
    have q4 : t3.1 2 4 0 = σ.1 2 4 3 := by
      have : t3.1 2 4 0 = s.1 2 4 3 := by simp [t3, t2, t1, sF1, sA1]
      rw [this, e.1 2 4 3 (by decide)]
    have q0 : t3.1 2 0 0 = 5 := by rw [e3.1 2 0 0 (by decide)]; exact hc.1
    rw [q4, q0]
    refine ⟨⟨rfl, u3.1.2⟩, fun j hj hj2 => ?_⟩
    have w1 : t3.2.1 2 1 0 j = σ.2.1 2 1 3 j := by
      have x1 : t3.2.1 2 1 0 = F1 := by simp [t3, t2, t1, sF2, sA2]
      have x2 : F1 j = (sF (sF (sF s 6 1 0 (s.1 6 1 1)) 6 2 0 (s.1 6 2 1)) 6 3 0 (s.1 6 3 1)).2.1 2 1 3 j := (hF1 j (by omega)).1
      have x3 : (sF (sF (sF s 6 1 0 (s.1 6 1 1)) 6 2 0 (s.1 6 2 1)) 6 3 0 (s.1 6 3 1)).2.1 2 1 3 = s.2.1 2 1 3 := by simp [t2, t1, sF2, sA2]
      rw [x1, x2, x3, e.2.1 2 1 3 (by decide)]
    have w2 : t3.2.1 2 2 0 j = σ.2.1 2 2 3 j := by
      have x1 : t3.2.1 2 2 0 = F2 := by simp [t3, t2, t1, sF2, sA2]
      have x2 : F2 j = (sF (sF (sF s 6 1 0 (s.1 6 1 1)) 6 2 0 (s.1 6 2 1)) 6 3 0 (s.1 6 3 1)).2.1 2 2 3 j := (hF1 j (by omega)).2.1
      have x3 : (sF (sF (sF s 6 1 0 (s.1 6 1 1)) 6 2 0 (s.1 6 2 1)) 6 3 0 (s.1 6 3 1)).2.1 2 2 3 = s.2.1 2 2 3 := by simp [t2, t1, sF2, sA2]
      rw [x1, x2, x3, e.2.1 2 2 3 (by decide)]
    have w3 : t3.2.1 2 3 0 j = σ.2.1 2 3 3 j := by
      have x1 : t3.2.1 2 3 0 = F3 := by simp [t3, t2, t1, sF2, sA2]
      have x2 : F3 j = (sF (sF (sF s 6 1 0 (s.1 6 1 1)) 6 2 0 (s.1 6 2 1)) 6 3 0 (s.1 6 3 1)).2.1 2 3 3 j := (hF1 j (by omega)).2.2
      have x3 : (sF (sF (sF s 6 1 0 (s.1 6 1 1)) 6 2 0 (s.1 6 2 1)) 6 3 0 (s.1 6 3 1)).2.1 2 3 3 = s.2.1 2 3 3 := by simp [t2, t1, sF2, sA2]
      rw [x1, x2, x3, e.2.1 2 3 3 (by decide)]
    rw [w1, w2, w3]
    exact u3.2 j hj hj2
  · unfold RWp at u4 ⊢
    rw [show 3 * 0 + 1 = 1 from rfl]
    rw [show 3 * 1 + 1 = 4 from rfl] at u4
    have q4 : t3.1 2 4 1 = σ.1 2 4 4 := by
      have : t3.1 2 4 1 = s.1 2 4 4 := by simp [t3, t2, t1, sF1, sA1]
      rw [this, e.1 2 4 4 (by decide)]
    have q0 : t3.1 2 0 1 = 10 := by rw [e3.1 2 0 1 (by decide)]; exact hc.2.1
    rw [q4, q0]
    refine ⟨⟨rfl, u4.1.2⟩, fun j hj hj2 => ?_⟩
    have w1 : t3.2.1 2 1 1 j = σ.2.1 2 1 4 j := by
      have x1 : t3.2.1 2 1 1 = G1 := by simp [t3, t2, t1, sF2, sA2]
      have x2 : G1 j = t1.2.1 2 1 4 j := (hG1 j (by omega)).1
      have x3 : t1.2.1 2 1 4 = s.2.1 2 1 4 := by simp [t2, t1, sF2, sA2]
      rw [x1, x2, x3, e.2.1 2 1 4 (by decide)]
    have w2 : t3.2.1 2 2 1 j = σ.2.1 2 2 4 j := by
      have x1 : t3.2.1 2 2 1 = G2 := by simp [t3, t2, t1, sF2, sA2]
      have x2 : G2 j = t1.2.1 2 2 4 j := (hG1 j (by omega)).2.1
      have x3 : t1.2.1 2 2 4 = s.2.1 2 2 4 := by simp [t2, t1, sF2, sA2]
      rw [x1, x2, x3, e.2.1 2 2 4 (by decide)]
    rw [w1, w2]
    exact u4.2 j hj hj2
  · unfold RWb at u5 ⊢
    rw [show 3 * 0 + 2 = 2 from rfl]
    rw [show 3 * 1 + 2 = 5 from rfl] at u5
    have q4 : t3.1 2 4 2 = σ.1 2 4 5 := by
      have : t3.1 2 4 2 = s.1 2 4 5 := by simp [t3, t2, t1, sF1, sA1]
      rw [this, e.1 2 4 5 (by decide)]
    have q0 : t3.1 2 0 2 = 8 := by rw [e3.1 2 0 2 (by decide)]; exact hc.2.2
    rw [q4, q0]
    refine ⟨⟨rfl, u5.1.2⟩, fun j hj hj2 => ?_⟩
    have w1 : t3.2.1 2 1 2 j = σ.2.1 2 1 5 j := by
      have x1 : t3.2.1 2 1 2 = K1 := by simp [t3, t2, t1, sF2, sA2]
      have x2 : K1 j = t2.2.1 2 1 5 j := (hK1 j (by omega)).1
      have x3 : t2.2.1 2 1 5 = s.2.1 2 1 5 := by simp [t2, t1, sF2, sA2]
      rw [x1, x2, x3, e.2.1 2 1 5 (by decide)]
    have w2 : t3.2.1 2 2 2 j = σ.2.1 2 2 5 j := by
      have x1 : t3.2.1 2 2 2 = K2 := by simp [t3, t2, t1, sF2, sA2]
      have x2 : K2 j = t2.2.1 2 2 5 j := (hK1 j (by omega)).2.1
      have x3 : t2.2.1 2 2 5 = s.2.1 2 2 5 := by simp [t2, t1, sF2, sA2]
      rw [x1, x2, x3, e.2.1 2 2 5 (by decide)]
    rw [w1, w2]
    exact u5.2 j hj hj2
theorem image_step {σ : Sto} (h : Inv σ) : ∃ r σ1 σ2, f_X7_image σ = some (r, σ1) ∧ f_X8_image σ1 = some (r, σ2) ∧ Inv σ2 := by
  obtain ⟨τ, c1, c2, c3, c4⟩ := become6_1 σ
  obtain ⟨hw, i1, i2, i3, i4, i5, i6⟩ := h
  obtain ⟨im1, im2, im3⟩ := i4
  have hR := W0_of.mpr hw
  have eT : FrE (bcF1 ++ [(7, 2, 0), (8, 35, 0)]) bcA1 [] σ (sF (sF τ 7 2 0 1) 8 35 0 1) := ((c2.mono (by decide) (by decide) (by decide)).sF (by decide)).sF (by decide)
  obtain ⟨σ2, m1, m2, m3⟩ := keep37_eq (sF (sF τ 7 2 0 1) 8 35 0 1)
  have e2 : FrE (bcF1 ++ [(7, 2, 0), (8, 35, 0)]) (bcA1 ++ [(8, 36, 0)]) [] σ σ2 := (eT.mono (by decide) (by decide) (by decide)).trans (m2.mono (by decide) (by decide) (by decide))
  have h61 : τ.1 6 1 0 = σ.1 8 0 0 := by rw [c2.1 6 1 0 (by decide)]; exact hw.2.1.1.1
  refine ⟨σ.1 8 0 0, sF τ 7 2 0 1, σ2, ?_, ?_, ?_⟩
  · unfold f_X7_image
    rw [c1]
    simp only [Option.bind_some, nm]
    rw [sF_ne (by decide), h61]
  · unfold f_X8_image
    simp only [nm]
    rw [m1]
    simp only [Option.bind_some]
    rw [e2.1 8 0 0 (by decide)]
  · obtain ⟨h1, h2, h3, h4, h5⟩ := hw
    refine ⟨⟨Wt_fr h1 e2 (by decide) (by decide), Wn_fr h2 e2 (by decide), Ws_fr h3 e2 (by decide) (by decide), Wp_fr h4 e2 (by decide) (by decide), Wb_fr h5 e2 (by decide) (by decide)⟩, I_tx_fr i1 e2 (by decide) (by decide), I_ac_fr i2 e2 (by decide) (by decide), I_tp_fr i3 e2 (by decide) (by decide) (by decide), ?_, Pc_fr i5 e2 (by decide), Ps_fr i6 e2 (by decide) (by decide)⟩
    have hsn : ∀ i, snapM (sF (sF τ 7 2 0 1) 8 35 0 1) i = snapM σ i := by
      intro i
      unfold snapM
      rw [eT.2.1 8 1 0 (by decide), eT.2.1 8 2 0 (by decide), eT.2.1 8 3 0 (by decide), eT.2.1 8 4 0 (by decide), eT.2.1 8 5 0 (by decide), eT.2.1 8 24 0 (by decide), eT.2.1 8 25 0 (by decide), eT.2.1 8 26 0 (by decide), eT.2.1 8 28 0 (by decide), eT.2.1 8 29 0 (by decide), eT.2.1 8 31 0 (by decide), eT.2.1 8 32 0 (by decide), eT.1 8 0 0 (by decide), eT.1 8 6 0 (by decide), eT.1 8 23 0 (by decide), eT.1 8 27 0 (by decide), eT.1 8 30 0 (by decide), eT.1 8 14 0 (by decide)]
    have hRW : RW τ 1 (snapM σ) := c3 _ hR im3
    have e4 : FrE [(7, 2, 0), (8, 35, 0)] [(8, 36, 0)] [] τ σ2 := ((FrE.rfl'.sF (by decide)).sF (by decide)).trans (m2.mono (by decide) (by decide) (by decide))
    have hRW2 : RW σ2 1 (snapM σ) := by
      obtain ⟨k1, k2, k3, k4, k5⟩ := hRW
      refine ⟨?_, ?_, ?_, ?_, ?_⟩
      · intro p hp
        rw [e4.1 5 0 _ (by simp), e4.1 5 1 _ (by simp), e4.1 5 2 _ (by simp), e4.1 5 3 _ (by simp), e4.1 5 4 _ (by simp), e4.2.1 5 5 _ (by simp)]
        exact k1 p hp
      · unfold RWn at k2 ⊢
        rw [e4.1 6 1 1 (by decide), e4.1 6 2 1 (by decide), e4.1 6 3 1 (by decide), e4.1 7 7 0 (by decide)]
        exact k2
      · unfold RWs at k3 ⊢
        rw [e4.1 2 0 _ (by simp), e4.1 2 4 _ (by simp), e4.2.1 2 1 _ (by simp), e4.2.1 2 2 _ (by simp), e4.2.1 2 3 _ (by simp)]
        exact k3
      · unfold RWp at k4 ⊢
        rw [e4.1 2 0 _ (by simp), e4.1 2 4 _ (by simp), e4.2.1 2 1 _ (by simp), e4.2.1 2 2 _ (by simp)]
        exact k4
      · unfold RWb at k5 ⊢
        rw [e4.1 2 0 _ (by simp), e4.1 2 4 _ (by simp), e4.2.1 2 1 _ (by simp), e4.2.1 2 2 _ (by simp)]
        exact k5
    have g72 : σ2.1 7 2 0 = 1 := by rw [m2.1 7 2 0 (by decide)]; simp [sF1]
    have g35 : σ2.1 8 35 0 = 1 := by rw [m2.1 8 35 0 (by decide)]; simp [sF1]
    unfold Im
    rw [g72, g35, e2.1 2 0 3 (by decide), e2.1 2 0 4 (by decide), e2.1 2 0 5 (by decide)]
    exact ⟨rfl, Or.inr ⟨rfl, RW_congr hRW2 (fun i hi => by rw [m3 i hi, hsn i])⟩, im3⟩
theorem undo_step {σ : Sto} (h : Inv σ) : ∃ r σ1 σ2, f_X7_undo σ = some (r, σ1) ∧ f_X8_undo σ1 = some (r, σ2) ∧ Inv σ2 := by
  obtain ⟨hw, i1, i2, i3, i4, i5, i6⟩ := h
  obtain ⟨im1, im2, im3⟩ := i4
  by_cases h0 : σ.1 8 35 0 = 0
  · refine ⟨-3, σ, σ, ?_, ?_, hw, i1, i2, i3, ⟨im1, im2, im3⟩, i5, i6⟩
    · unfold f_X7_undo; rw [im1, if_pos h0]
    · unfold f_X8_undo; rw [if_pos h0]
  · obtain ⟨g1, hRW⟩ : σ.1 8 35 0 = 1 ∧ RW σ 1 (σ.2.1 8 36 0) := by
      rcases im2 with q | q
      · exact absurd q h0
      · exact q
    obtain ⟨τ, c1, c2, c3, c4⟩ := become6_0 σ
    obtain ⟨σ2, m1, m2, m3⟩ := again37_eq τ
    have hR0 : RW τ 0 (σ.2.1 8 36 0) := c3 _ hRW ⟨hw.2.2.1.1.1, hw.2.2.2.1.1.1, hw.2.2.2.2.1.1⟩
    have e2 : FrE (bcF0 ++ agF) (bcA0 ++ agA) [] σ σ2 := (c2.mono (by decide) (by decide) (by decide)).trans (m2.mono (by decide) (by decide) (by decide))
    have hR2 : RW σ2 0 (snapM σ2) := by
      refine RW_congr (RW0_fr hR0 m2 (by decide) (by decide)) (fun i hi => ?_)
      rw [m3 i hi, c2.2.1 8 36 0 (by decide)]
    refine ⟨τ.1 6 1 0, τ, σ2, ?_, ?_, W0_of.mp hR2, I_tx_fr i1 e2 (by decide) (by decide), I_ac_fr i2 e2 (by decide) (by decide), I_tp_fr i3 e2 (by decide) (by decide) (by decide), Im_fr ⟨im1, im2, im3⟩ e2 (by decide) (by decide), Pc_fr i5 e2 (by decide), Ps_fr i6 e2 (by decide) (by decide)⟩
    · unfold f_X7_undo
      rw [im1, if_neg h0, c1]
      rfl
    · unfold f_X8_undo
      rw [c2.1 8 35 0 (by decide), if_neg h0, m1]
      simp only [Option.bind_some]
      have := hR2.2.1.1.1
      rw [snap_things, m2.1 6 1 0 (by decide)] at this
      rw [this]
