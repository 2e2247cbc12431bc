-- SEEN: can
def allB (f : Nat → Bool) : Nat → Nat → Bool
  | 0, _ => true
  | d + 1, j => f j && allB f d (j + 1)
theorem allB_iff (f : Nat → Bool) : ∀ d j, allB f d j = true ↔ ∀ i, j ≤ i → i < j + d → f i = true
  | 0, j => by
    simp only [allB, true_iff]
    intro i h1 h2
    omega
  | d + 1, j => by
    rw [allB, Bool.and_eq_true, allB_iff f d (j + 1)]
    constructor
    · intro ⟨h1, h2⟩ i h3 h4
      by_cases h : i = j
      · rw [h]; exact h1
      · exact h2 i (by omega) (by omega)
    · intro h
      exact ⟨h j (by omega) (by omega), fun i h3 h4 => h i (by omega) (by omega)⟩
/-- what is SEEN, in both -/
def Sn (σ : Sto) (S : Nat) : Prop := S ≤ 5 ∧ σ.1 2 4 0 = nI S ∧ σ.1 8 23 0 = nI S ∧ ∀ j, j < S → σ.2.1 2 1 0 j = σ.2.1 8 24 0 j ∧ σ.2.1 2 2 0 j = σ.2.1 8 25 0 j ∧ σ.2.1 2 3 0 j = σ.2.1 8 26 0 j ∧ ∃ m, m ≤ 20 ∧ σ.2.1 8 25 0 j = nI m
theorem Sn_of {σ : Sto} (h : Inv σ) : ∃ S, Sn σ S := by
  obtain ⟨⟨-, -, ⟨⟨-, s2, s3, s4⟩, s5⟩, -⟩, -⟩ := h
  obtain ⟨S, hS, hSe⟩ := i32_range (N := 6) (x := σ.1 8 23 0) (by decide) s3 (by grind)
  refine ⟨S, by omega, by rw [s2, hSe], hSe, fun j hj => ?_⟩
  obtain ⟨r1, ⟨r2, r3, r4⟩, r5, -⟩ := s5 j (by omega) (by rw [hSe, nI_toInt (by omega)]; omega)
  obtain ⟨m, hm, hme⟩ := i32_range (N := 21) (x := σ.2.1 8 25 0 j) (by decide) r3 (by grind)
  exact ⟨r1, r2, r5, m, by omega, hme⟩
def seenB (wm : (Nat → Int32) → Int32) (sn : Int32) (σ : Sto) (p : Nat) (w num : Int32) (i : Nat) : Bool := if σ.2.1 8 24 0 i = nI p then (ow wm sn σ p (σ.2.1 8 25 0 i).toNatClampNeg w num == decide (σ.2.1 8 26 0 i = 1)) else true
theorem seenB_ak {σ s : Sto} {wm : (Nat → Int32) → Int32} {sn : Int32} {p : Nat} {w num : Int32} (e : FrE akF akA [] σ s) : seenB wm sn s p w num = seenB wm sn σ p w num := by
  funext i
  unfold seenB
  rw [ow_ak e, e.2.1 8 24 0 (by decide), e.2.1 8 25 0 (by decide), e.2.1 8 26 0 (by decide)]
theorem so7_L {σ : Sto} {wm : (Nat → Int32) → Int32} {sn : Int32} {k T p S : Nat} (B : Base σ wm sn k T) (hS : Sn σ S) (hp : p < 6) (w num : Int32) : ∀ (d j : Nat), j + d = S → ∀ n, d < n → ∀ s, FrE akF akA [] σ s → ∃ s', f_X7_isAllSeenSo_L12 n s (nI p) w num 0 (nI j) = some ((if allB (seenB wm sn σ p w num) d j = true then 1 else 0), s') ∧ FrE akF akA [] σ s' := by
  obtain ⟨hS5, z1, z2, z3⟩ := hS
  intro d
  induction d with
  | zero =>
    intro j hj n hn s e
    obtain ⟨n, rfl⟩ : ∃ q, n = q + 1 := ⟨n - 1, by omega⟩
    have hj2 : j = S := by omega
    subst hj2
    refine ⟨s, ?_, e⟩
    show f_X7_isAllSeenSo_B12 _ s _ _ _ _ _ = _
    unfold f_X7_isAllSeenSo_B12
    rw [e.1 2 4 0 (by decide), z1, if_pos (by grind)]
    rfl
  | succ d ih =>
    intro j hj n hn s e
    obtain ⟨n, rfl⟩ : ∃ q, n = q + 1 := ⟨n - 1, by omega⟩
    obtain ⟨y1, y2, y3, m, hm, hme⟩ := z3 j (by omega)
    have a1 : (0 : Int32) ≤ nI j ∧ nI j < 10 := nI_r (N := 10) (by omega) (by decide)
    have a2 : (nI j).toNatClampNeg = j := nI_clamp (by omega)
    have v1 : s.2.1 2 1 0 j = σ.2.1 8 24 0 j := by rw [e.2.1 2 1 0 (by decide), y1]
    have v2 : s.2.1 2 2 0 j = nI m := by rw [e.2.1 2 2 0 (by decide), y2, hme]
    have v3 : s.2.1 2 3 0 j = σ.2.1 8 26 0 j := by rw [e.2.1 2 3 0 (by decide), y3]
    have hB : f_X7_isAllSeenSo_L12 (n + 1) s (nI p) w num 0 (nI j) = f_X7_isAllSeenSo_B12 (f_X7_isAllSeenSo_L12 n) s (nI p) w num 0 (nI j) := rfl
    have hn0 : ¬ nI S ≤ nI j := nI_ge (by omega) (by omega)
    rw [hB]
    unfold f_X7_isAllSeenSo_B12 f_X7_isAllSeenSo_L39
    simp only [e.1 2 4 0 (by decide), z1, hn0, if_false, a1, and_self, if_true, a2, v1, v2, v3]
    by_cases h1 : σ.2.1 8 24 0 j = nI p
    · obtain ⟨s1, g1, e1⟩ := trial7 (N := m) w num B e hp (by omega)
      have hsb : seenB wm sn σ p w num j = (ow wm sn σ p m w num == decide (σ.2.1 8 26 0 j = 1)) := by
        unfold seenB
        rw [if_pos h1, hme, nI_clamp (by omega)]
      by_cases h2 : σ.2.1 8 26 0 j = 1
      · by_cases ho : ow wm sn σ p m w num = true
        · obtain ⟨s2, g2, e2⟩ := ih (j + 1) (by omega) n (by omega) s1 e1
          refine ⟨s2, ?_, e2⟩
          simp only [h1, h2, if_true, g1, Option.bind_some, ho, nmI, nI_1, g2, allB, hsb, decide_true, BEq.rfl, Bool.true_and]
        · refine ⟨s1, ?_, e1⟩
          have ho' : ow wm sn σ p m w num = false := by simpa using ho
          simp only [h1, h2, if_true, g1, Option.bind_some, ho', Bool.false_eq_true, if_false, show ¬ (0 : Int32) = 1 by decide, allB, hsb, decide_true, show (false == true) = false from rfl, Bool.false_and]
      · by_cases ho : ow wm sn σ p m w num = true
        · refine ⟨s1, ?_, e1⟩
          simp only [h1, h2, if_true, if_false, g1, Option.bind_some, ho, h10, allB, hsb, decide_false, show (true == false) = false from rfl, Bool.false_and, Bool.false_eq_true]
        · have ho' : ow wm sn σ p m w num = false := by simpa using ho
          obtain ⟨s2, g2, e2⟩ := ih (j + 1) (by omega) n (by omega) s1 e1
          refine ⟨s2, ?_, e2⟩
          simp only [h1, h2, if_true, if_false, g1, Option.bind_some, ho', Bool.false_eq_true, nmI, nI_1, g2, allB, hsb, decide_false, BEq.rfl, Bool.true_and]
    · have hsb : seenB wm sn σ p w num j = true := by unfold seenB; rw [if_neg h1]
      obtain ⟨s2, g2, e2⟩ := ih (j + 1) (by omega) n (by omega) s e
      refine ⟨s2, ?_, e2⟩
      by_cases h2 : σ.2.1 8 26 0 j = 1
      · simp only [h1, h2, if_true, if_false, nmI, nI_1, g2, allB, hsb, Bool.true_and]
      · simp only [h1, h2, if_true, if_false, nmI, nI_1, g2, allB, hsb, Bool.true_and]
theorem so7_eq {σ s : Sto} {wm : (Nat → Int32) → Int32} {sn : Int32} {k T p S : Nat} (B : Base σ wm sn k T) (hS : Sn σ S) (hp : p < 6) (w num : Int32) (e : FrE akF akA [] σ s) : ∃ s', f_X7_isAllSeenSo s (nI p) w num = some ((if allB (seenB wm sn σ p w num) S 0 = true then 1 else 0), s') ∧ FrE akF akA [] σ s' := by
  have key : ∀ M, 10 < M → ∃ s', f_X7_isAllSeenSo_L12 M s (nI p) w num 0 0 = some ((if allB (seenB wm sn σ p w num) S 0 = true then 1 else 0), s') ∧ FrE akF akA [] σ s' := by
    intro M hM
    have h5 := hS.1
    have h := so7_L B hS hp w num S 0 (by omega) M (by omega) s e
    rw [nI_0] at h
    exact h
  exact key 1000 (by decide)
/-- row i is so at week a, or isn't of that week -/
def gW (wm : (Nat → Int32) → Int32) (sn : Int32) (σ : Sto) (p : Nat) (w num : Int32) (a i : Nat) : Bool := if σ.2.1 8 24 0 i = nI p then (if σ.2.1 8 25 0 i = nI a then (ow wm sn σ p a w num == decide (σ.2.1 8 26 0 i = 1)) else true) else true
theorem is_in {σ s : Sto} {p S a : Nat} {w num : Int32} {wm : (Nat → Int32) → Int32} {sn : Int32} (hp : p < 6) (hS : S ≤ 5) (ha : a ≤ 20) (k4 : Sto → Int32 → Int32 → Int32 → Option (Int32 × Sto)) (h23 : s.1 8 23 0 = nI S) (h24 : ∀ i, i < 5 → s.2.1 8 24 0 i = σ.2.1 8 24 0 i ∧ s.2.1 8 25 0 i = σ.2.1 8 25 0 i ∧ s.2.1 8 26 0 i = σ.2.1 8 26 0 i) (hd : s.2.1 8 4 0 p = 0 ↔ ow wm sn σ p a w num = true) : ∀ (d j : Nat), j + d = S → ∀ n, d < n → ∀ x2, f_X8_isSeen_L21 k4 n s (nI p) x2 (nI a) (nI j) = k4 s (nI p) (if allB (gW wm sn σ p w num a) d j = true then x2 else 0) (nI (a + 1)) := by
  intro d
  induction d with
  | zero =>
    intro j hj n hn x2
    obtain ⟨n, rfl⟩ : ∃ q, n = q + 1 := ⟨n - 1, by omega⟩
    have hj2 : j = S := by omega
    subst hj2
    show f_X8_isSeen_B21 k4 _ s _ _ _ _ = _
    unfold f_X8_isSeen_B21
    rw [h23, if_pos (by grind)]
    simp only [nmI, nI_1, allB, if_true]
  | succ d ih =>
    intro j hj n hn x2
    obtain ⟨n, rfl⟩ : ∃ q, n = q + 1 := ⟨n - 1, by omega⟩
    obtain ⟨v1, v2, v3⟩ := h24 j (by omega)
    have a1 : (0 : Int32) ≤ nI j ∧ nI j < 5 := nI_r (N := 5) (by omega) (by decide)
    have a2 : (nI j).toNatClampNeg = j := nI_clamp (by omega)
    have a3 : (0 : Int32) ≤ nI p ∧ nI p < 6 := nI_r (N := 6) hp (by decide)
    have a4 : (nI p).toNatClampNeg = p := nI_clamp (by omega)
    have hn0 : ¬ nI S ≤ nI j := nI_ge (by omega) (by omega)
    have ih' := fun x => ih (j + 1) (by omega) n (by omega) x
    show f_X8_isSeen_B21 k4 _ s _ _ _ _ = _
    unfold f_X8_isSeen_B21 f_X8_isSeen_L66 f_X8_isSeen_L82
    simp only [h23, hn0, if_false, a1, a3, and_self, if_true, a2, a4, v1, v2, v3]
    by_cases h1 : σ.2.1 8 24 0 j = nI p
    · by_cases h2 : σ.2.1 8 25 0 j = nI a
      · have hg : gW wm sn σ p w num a j = (ow wm sn σ p a w num == decide (σ.2.1 8 26 0 j = 1)) := by unfold gW; rw [if_pos h1, if_pos h2]
        by_cases ho : ow wm sn σ p a w num = true
        · have hd0 : s.2.1 8 4 0 p = 0 := hd.mpr ho
          by_cases h3 : σ.2.1 8 26 0 j = 1
          · simp only [h1, h2, h3, hd0, if_true, nmI, nI_1, ih', allB, hg, ho, decide_true, BEq.rfl, Bool.true_and]
          · simp only [h1, h2, h3, hd0, if_true, if_false, h10, nmI, nI_1, ih', allB, hg, ho, decide_false, show (true == false) = false from rfl, Bool.false_and, Bool.false_eq_true, ite_self]
        · have hd0 : ¬ s.2.1 8 4 0 p = 0 := fun q => ho (hd.mp q)
          have ho' : ow wm sn σ p a w num = false := by simpa using ho
          by_cases h3 : σ.2.1 8 26 0 j = 1
          · simp only [h1, h2, h3, hd0, if_true, if_false, show ¬ (0 : Int32) = 1 by decide, nmI, nI_1, ih', allB, hg, ho', decide_true, show (false == true) = false from rfl, Bool.false_and, Bool.false_eq_true, ite_self]
          · simp only [h1, h2, h3, hd0, if_true, if_false, nmI, nI_1, ih', allB, hg, ho', decide_false, BEq.rfl, Bool.true_and]
      · have hg : gW wm sn σ p w num a j = true := by unfold gW; rw [if_pos h1, if_neg h2]
        simp only [h1, h2, if_true, if_false, nmI, nI_1, ih', allB, hg, Bool.true_and]
    · have hg : gW wm sn σ p w num a j = true := by unfold gW; rw [if_neg h1]
      simp only [h1, if_false, nmI, nI_1, ih', allB, hg, Bool.true_and]
theorem seen_two {σ : Sto} {wm : (Nat → Int32) → Int32} {sn : Int32} {p S : Nat} {w num : Int32} (hS : Sn σ S) : allB (fun a => allB (gW wm sn σ p w num a) S 0) 21 0 = allB (seenB wm sn σ p w num) S 0 := by
  obtain ⟨hS5, -, -, z3⟩ := hS
  rw [Bool.eq_iff_iff, allB_iff, allB_iff]
  constructor
  · intro h i _ hi
    obtain ⟨-, -, -, m, hm, hme⟩ := z3 i (by omega)
    have h1 := h m (by omega) (by omega)
    rw [allB_iff] at h1
    have h2 := h1 i (by omega) (by omega)
    unfold gW at h2
    unfold seenB
    rw [hme, nI_clamp (by omega)]
    rwa [hme, if_pos rfl] at h2
  · intro h a _ ha
    rw [allB_iff]
    intro i _ hi
    have h1 := h i (by omega) (by omega)
    obtain ⟨-, -, -, m, hm, hme⟩ := z3 i (by omega)
    unfold seenB at h1
    unfold gW
    rw [hme, nI_clamp (by omega)] at h1
    rw [hme]
    by_cases hma : m = a
    · subst hma
      rw [if_pos (show nI m = nI m from rfl)]
      exact h1
    · rw [if_neg (show ¬ nI m = nI a from fun q => hma ((nI_eq (by omega) (by omega)).mp q))]
      split <;> rfl
theorem is8_L {σ s1 : Sto} {wm : (Nat → Int32) → Int32} {sn : Int32} {k T p S : Nat} (w num : Int32) (B : MB s1 wm sn k T) (hp : p < T) (hS : S ≤ 5) (h23 : s1.1 8 23 0 = nI S) (h24 : ∀ i, i < 5 → s1.2.1 8 24 0 i = σ.2.1 8 24 0 i ∧ s1.2.1 8 25 0 i = σ.2.1 8 25 0 i ∧ s1.2.1 8 26 0 i = σ.2.1 8 26 0 i) (hd : ∀ a, Dp wm sn s1 a p = 0 ↔ ow wm sn σ p a w num = true) (K : (Sto → Int32 → Int32 → Int32 → Option (Int32 × Sto)) → Nat → Sto → Int32 → Int32 → Int32 → Int32 → Option (Int32 × Sto)) (hK : f_X8_isSeen_L21 = K) (hKN : ∀ k4 s x2 a, K k4 1000 s (nI p) x2 a 0 = f_X8_isSeen_L21 k4 1000 s (nI p) x2 a 0) (hin : ∀ k4 s x2 a, a ≤ 20 → Gw wm sn s1 T a s → K k4 1000 s (nI p) x2 (nI a) 0 = k4 s (nI p) (if allB (gW wm sn σ p w num a) S 0 = true then x2 else 0) (nI (a + 1))) : ∀ (d a : Nat), a + d = 21 → ∀ n, d < n → ∀ s x2, (x2 = 0 ∨ x2 = 1) → Gw wm sn s1 T (a - 1) s → ∃ s', f_X8_isSeen_L4 n s (nI p) x2 (nI a) = some ((if allB (fun a => allB (gW wm sn σ p w num a) S 0) d a = true then x2 else 0), s') ∧ Gw wm sn s1 T 20 s' := by
  intro d
  induction d with
  | zero =>
    intro a ha n hn s x2 hx g
    obtain ⟨n, rfl⟩ : ∃ q, n = q + 1 := ⟨n - 1, by omega⟩
    have ha2 : a = 21 := by omega
    subst ha2
    refine ⟨s, ?_, g⟩
    show f_X8_isSeen_B4 _ s _ _ _ = _
    unfold f_X8_isSeen_B4
    rw [if_pos (by decide), if_pos hx]
    simp only [allB, if_true]
  | succ d ih =>
    intro a ha n hn s x2 hx g
    obtain ⟨n, rfl⟩ : ∃ q, n = q + 1 := ⟨n - 1, by omega⟩
    obtain ⟨s2, hs2, g2⟩ : ∃ s2, (if nI a ≤ 0 then some s else f_X8_goesWeek s) = some s2 ∧ Gw wm sn s1 T a s2 := by
      by_cases h0 : a = 0
      · subst h0
        exact ⟨s, by rw [if_pos (by decide)], g⟩
      · rw [if_neg (nI_nle (by omega) (by omega))]
        have := MB_s B (by omega) g
        rwa [show a - 1 + 1 = a by omega] at this
    have hx' : (if allB (gW wm sn σ p w num a) S 0 = true then x2 else 0) = 0 ∨ (if allB (gW wm sn σ p w num a) S 0 = true then x2 else 0) = 1 := by
      split
      · exact hx
      · exact Or.inl rfl
    obtain ⟨s3, h3, g3⟩ := ih (a + 1) (by omega) n (by omega) s2 _ hx' (by rw [show a + 1 - 1 = a by omega]; exact g2)
    refine ⟨s3, ?_, g3⟩
    have hI := hin (f_X8_isSeen_L4 n) s2 x2 a (by omega) g2
    show f_X8_isSeen_B4 _ s _ _ _ = _
    unfold f_X8_isSeen_B4
    rw [if_neg (show ¬ (21 : Int32) ≤ nI a from nI_ge (a := a) (b := 21) (by omega) (by decide)), hK]
    have hres : K (f_X8_isSeen_L4 n) 1000 s2 (nI p) x2 (nI a) 0 = some ((if allB (fun a => allB (gW wm sn σ p w num a) S 0) (d + 1) a = true then x2 else 0), s3) := by
      rw [hI, h3]
      have hal : allB (fun a => allB (gW wm sn σ p w num a) S 0) (d + 1) a = (allB (gW wm sn σ p w num a) S 0 && allB (fun a => allB (gW wm sn σ p w num a) S 0) d (a + 1)) := rfl
      rw [hal]
      cases hb : allB (gW wm sn σ p w num a) S 0
      · simp only [Bool.false_and, Bool.false_eq_true, if_false, ite_self]
      · simp only [Bool.true_and, if_true]
    by_cases h0 : nI a ≤ 0
    · rw [if_pos h0] at hs2 ⊢
      cases hs2
      exact hres
    · rw [if_neg h0] at hs2 ⊢
      rw [hs2]
      exact hres
theorem is8_eq {σ s : Sto} {wm : (Nat → Int32) → Int32} {sn : Int32} {k T p S : Nat} (B : MB σ wm sn k T) (hS : Sn σ S) (R : Rest σ s) (hp : p < T) (w num : Int32) (hn : w = 1 → 0 ≤ num ∧ num ≤ 99) : ∃ s2 s3, f_X8_isSeen (sA s 8 (alS w) 0 (upd (s.2.1 8 (alS w) 0) p num)) (nI p) = some ((if allB (seenB wm sn σ p w num) S 0 = true then 1 else 0), s2) ∧ f_X8_again_38 s2 = some s3 ∧ Rest σ s3 := by
  obtain ⟨B1, f2, f3⟩ := Rest_f B R
  obtain ⟨B2, e2⟩ := alt_MB (p := p) B1 w num hn
  obtain ⟨a1, a2⟩ := alt_eq (s := s) (p := p) w num
  have hT := B.2.2.1
  have hal : alS w = 3 ∨ alS w = 4 ∨ alS w = 2 := by
    unfold alS
    split
    · exact Or.inl rfl
    · split
      · exact Or.inr (Or.inl rfl)
      · exact Or.inr (Or.inr rfl)
  have h23 : (sA s 8 (alS w) 0 (upd (s.2.1 8 (alS w) 0) p num)).1 8 23 0 = nI S := by
    rw [sA1]
    have := R.2.1 101 (by omega)
    rw [snap_seen, snap_seen] at this
    rw [this, hS.2.2.1]
  have hnot : ∀ c, c ≠ 2 → c ≠ 3 → c ≠ 4 → (sA s 8 (alS w) 0 (upd (s.2.1 8 (alS w) 0) p num)).2.1 8 c 0 = s.2.1 8 c 0 := by
    intro c c2 c3 c4
    rcases hal with h | h | h
    · rw [h]; simp [sA2, c3]
    · rw [h]; simp [sA2, c4]
    · rw [h]; simp [sA2, c2]
  have h24 : ∀ i, i < 5 → (sA s 8 (alS w) 0 (upd (s.2.1 8 (alS w) 0) p num)).2.1 8 24 0 i = σ.2.1 8 24 0 i ∧ (sA s 8 (alS w) 0 (upd (s.2.1 8 (alS w) 0) p num)).2.1 8 25 0 i = σ.2.1 8 25 0 i ∧ (sA s 8 (alS w) 0 (upd (s.2.1 8 (alS w) 0) p num)).2.1 8 26 0 i = σ.2.1 8 26 0 i := by
    intro i hi
    rw [hnot 24 (by decide) (by decide) (by decide), hnot 25 (by decide) (by decide) (by decide), hnot 26 (by decide) (by decide) (by decide)]
    have r1 := R.2.1 (48 + i) (by omega)
    have r2 := R.2.1 (53 + i) (by omega)
    have r3 := R.2.1 (58 + i) (by omega)
    rw [snap_s1 s hi, snap_s1 σ hi] at r1
    rw [snap_s2 s hi, snap_s2 σ hi] at r2
    rw [snap_s3 s hi, snap_s3 σ hi] at r3
    exact ⟨r1, r2, r3⟩
  have hd : ∀ a, Dp wm sn (sA s 8 (alS w) 0 (upd (s.2.1 8 (alS w) 0) p num)) a p = 0 ↔ ow wm sn σ p a w num = true := by
    intro a
    unfold Dp ow
    rw [a1, a2, sA1, f2, (f3 p (by omega)).1, (f3 p (by omega)).2, decide_eq_true_iff]
  have hin : ∀ k4 s' x2 a, a ≤ 20 → Gw wm sn (sA s 8 (alS w) 0 (upd (s.2.1 8 (alS w) 0) p num)) T a s' → f_X8_isSeen_L21 k4 1000 s' (nI p) x2 (nI a) 0 = k4 s' (nI p) (if allB (gW wm sn σ p w num a) S 0 = true then x2 else 0) (nI (a + 1)) := by
    intro k4 s' x2 a ha g
    have key : ∀ M, 10 < M → f_X8_isSeen_L21 k4 M s' (nI p) x2 (nI a) 0 = k4 s' (nI p) (if allB (gW wm sn σ p w num a) S 0 = true then x2 else 0) (nI (a + 1)) := by
      intro M hM
      have h5 := hS.1
      have h := is_in (σ := σ) (s := s') (p := p) (S := S) (a := a) (w := w) (num := num) (wm := wm) (sn := sn) (by omega) h5 ha k4 (by rw [g.1.1 8 23 0 (by decide)]; exact h23) (fun i hi => by rw [g.1.2.1 8 24 0 (by decide), g.1.2.1 8 25 0 (by decide), g.1.2.1 8 26 0 (by decide)]; exact h24 i hi) (by rw [Gw_d g hT hp]; exact hd a) S 0 (by omega) M (by omega) x2
      rw [nI_0] at h
      exact h
    exact key 1000 (by decide)
  have key : ∀ M, 30 < M → ∃ s2 s3, f_X8_isSeen_L4 M (sA s 8 (alS w) 0 (upd (s.2.1 8 (alS w) 0) p num)) (nI p) 1 0 = some ((if allB (seenB wm sn σ p w num) S 0 = true then 1 else 0), s2) ∧ f_X8_again_38 s2 = some s3 ∧ Rest σ s3 := by
    intro M hM
    obtain ⟨s2, h, g⟩ := is8_L (σ := σ) w num B2 hp hS.1 h23 h24 hd f_X8_isSeen_L21 rfl (fun _ _ _ _ => rfl) hin 21 0 rfl M (by omega) _ 1 (Or.inr rfl) Gw_0
    rw [nI_0, seen_two hS] at h
    have e3 : FrE agF amA [] σ s2 := (R.1.trans e2).trans (Gw_am g)
    have h37 : s2.2.1 8 37 0 = s.2.1 8 37 0 := by
      rw [Gw_ahead g]
      exact hnot 37 (by decide) (by decide) (by decide)
    obtain ⟨s3, t1, t2⟩ := Rest_again e3 (fun i hi => by rw [h37]; exact R.2.2 i hi)
    exact ⟨s2, s3, h, t1, t2⟩
  unfold f_X8_isSeen
  exact key 1000 (by decide)
def cnF (f : Nat → Bool) : Nat → Int32 → Int32 → Int32 × Int32
  | 0, l, m => (l, m)
  | j + 1, l, m => if f j = true then cnF f j (nI j) (m + 1) else cnF f j l m
theorem can7_L {σ : Sto} {wm : (Nat → Int32) → Int32} {sn : Int32} {k T p S : Nat} (B : Base σ wm sn k T) (hS : Sn σ S) (hp : p < 6) (w x3 : Int32) : ∀ (j : Nat), j ≤ 100 → ∀ n, j < n → ∀ s l m, FrE akF akA [] σ s → ∃ s', f_X7_can_L51 n s (nI p) w x3 l m (nI j + (-1 : Int32)) = some ((if x3 = 0 then (cnF (fun i => allB (seenB wm sn σ p w (nI i)) S 0) j l m).2 else (cnF (fun i => allB (seenB wm sn σ p w (nI i)) S 0) j l m).1), s') ∧ FrE akF akA [] σ s' := by
  intro j
  induction j with
  | zero =>
    intro hj n hn s l m e
    obtain ⟨n, rfl⟩ : ∃ q, n = q + 1 := ⟨n - 1, by omega⟩
    refine ⟨s, ?_, e⟩
    show f_X7_can_B51 _ s _ _ _ _ _ _ = _
    unfold f_X7_can_B51
    rw [if_pos (by decide)]
    by_cases h0 : x3 = 0
    · rw [if_pos h0, if_pos h0]; rfl
    · rw [if_neg h0, if_neg h0]; rfl
  | succ j ih =>
    intro hj n hn s l m e
    obtain ⟨n, rfl⟩ : ∃ q, n = q + 1 := ⟨n - 1, by omega⟩
    obtain ⟨s1, h1, e1⟩ := so7_eq B hS hp w (nI j) e
    rw [nI_m1]
    have hB : f_X7_can_L51 (n + 1) s (nI p) w x3 l m (nI j) = f_X7_can_B51 (f_X7_can_L51 n) s (nI p) w x3 l m (nI j) := rfl
    by_cases ho : allB (seenB wm sn σ p w (nI j)) S 0 = true
    · obtain ⟨s2, h2, e2⟩ := ih (by omega) n (by omega) s1 (nI j) (m + 1) e1
      refine ⟨s2, ?_, e2⟩
      rw [hB]
      unfold f_X7_can_B51
      rw [if_neg (nI_pos (by omega)), h1]
      simp only [Option.bind_some, ho, if_true, h10, if_false, nmI, h2, cnF]
    · obtain ⟨s2, h2, e2⟩ := ih (by omega) n (by omega) s1 l m e1
      refine ⟨s2, ?_, e2⟩
      rw [hB]
      unfold f_X7_can_B51
      rw [if_neg (nI_pos (by omega)), h1]
      simp only [Option.bind_some, ho, if_true, if_false, nmI, h2, cnF, Bool.false_eq_true]
theorem can8_L {σ : Sto} {wm : (Nat → Int32) → Int32} {sn : Int32} {k T p S : Nat} (B : MB σ wm sn k T) (hS : Sn σ S) (hp : p < T) (w x3 : Int32) (hw : w = 0 ∨ w = 1 ∨ w = 2) : ∀ (j : Nat), j ≤ 100 → ∀ n, j < n → ∀ s l m, Rest σ s → ∃ s', f_X8_can_L65 n s (nI p) w x3 (σ.2.1 8 2 0 p) m l (nI j + (-1 : Int32)) = some ((if x3 = 0 then (cnF (fun i => allB (seenB wm sn σ p w (nI i)) S 0) j l m).2 else (cnF (fun i => allB (seenB wm sn σ p w (nI i)) S 0) j l m).1), s') ∧ Rest σ s' := by
  have hT := B.2.2.1
  have a1 : (0 : Int32) ≤ nI p ∧ nI p < 6 := nI_r (N := 6) (by omega) (by decide)
  have hc : (nI p).toNatClampNeg = p := nI_clamp (by omega)
  intro j
  induction j with
  | zero =>
    intro hj n hn s l m R
    obtain ⟨n, rfl⟩ : ∃ q, n = q + 1 := ⟨n - 1, by omega⟩
    have hv : s.2.1 8 2 0 p = σ.2.1 8 2 0 p := by
      have := R.2.1 (6 + p) (by omega)
      rwa [snap_v s (by omega), snap_v σ (by omega)] at this
    have hid : sA s 8 2 0 (upd (s.2.1 8 2 0) p (σ.2.1 8 2 0 p)) = s := by
      apply sA_id
      funext q
      rw [upd_at]
      split
      · rename_i hq; rw [hq, hv]
      · rfl
    refine ⟨s, ?_, R⟩
    show f_X8_can_B65 _ s _ _ _ _ _ _ _ = _
    unfold f_X8_can_B65
    rw [if_pos (by decide), if_pos a1, hc, hid]
    simp only [nm]
    by_cases h0 : x3 = 0
    · rw [if_pos h0, if_pos h0]; rfl
    · rw [if_neg h0, if_neg h0]; rfl
  | succ j ih =>
    intro hj n hn s l m R
    obtain ⟨n, rfl⟩ : ∃ q, n = q + 1 := ⟨n - 1, by omega⟩
    have hjb := nI_r (s := j) (N := 100) (by omega) (by decide)
    obtain ⟨s1, s2, h1, h2, R2⟩ := is8_eq B hS R hp w (nI j) (fun _ => ⟨hjb.1, by have : nI j < 100 := hjb.2; grind⟩)
    rw [nI_m1]
    have hB : f_X8_can_L65 (n + 1) s (nI p) w x3 (σ.2.1 8 2 0 p) m l (nI j) = f_X8_can_B65 (f_X8_can_L65 n) s (nI p) w x3 (σ.2.1 8 2 0 p) m l (nI j) := rfl
    have hbr : f_X8_can_B65 (f_X8_can_L65 n) s (nI p) w x3 (σ.2.1 8 2 0 p) m l (nI j) = f_X8_can_L109 (f_X8_can_L65 n) (sA s 8 (alS w) 0 (upd (s.2.1 8 (alS w) 0) p (nI j))) (nI p) w x3 (σ.2.1 8 2 0 p) m l (nI j) := by
      unfold f_X8_can_B65
      rw [if_neg (nI_pos (by omega)), hc]
      simp only [if_pos a1, nm]
      rcases hw with rfl | rfl | rfl
      · rw [if_pos rfl]; rfl
      · rw [if_neg (by decide), if_pos rfl]; rfl
      · rw [if_neg (by decide), if_neg (by decide)]; rfl
    rw [hB, hbr]
    unfold f_X8_can_L109 f_X8_can_L124
    by_cases ho : allB (seenB wm sn σ p w (nI j)) S 0 = true
    · obtain ⟨s3, h3, R3⟩ := ih (by omega) n (by omega) s2 (nI j) (m + 1) R2
      refine ⟨s3, ?_, R3⟩
      rw [h1]
      simp only [Option.bind_some, ho, if_true, h10, if_false, nmI, h2, h3, cnF]
    · obtain ⟨s3, h3, R3⟩ := ih (by omega) n (by omega) s2 l m R2
      refine ⟨s3, ?_, R3⟩
      rw [h1]
      simp only [Option.bind_some, ho, if_true, if_false, nmI, h2, h3, cnF, Bool.false_eq_true]
theorem can_step {σ : Sto} (h : Inv σ) (x w y : Int32) : ∃ r σ1 σ2, f_X7_can σ x w y = some (r, σ1) ∧ f_X8_can σ1 x w y = some (r, σ2) ∧ Inv σ2 := by
  obtain ⟨wm, sn, k, T, B⟩ := base_of h
  obtain ⟨S, hS⟩ := Sn_of h
  have hT := B.2.2.1
  have hT8 := B.2.2.2.1
  have hT6 := B.2.2.2.2.1
  have hTb : 0 ≤ nI T ∧ nI T ≤ 6 := ⟨nI_n0 (by omega), (nI_leI (a := T) (b := 6) (by omega) (by decide)).mpr hT⟩
  have hone : ∀ s, s.1 8 0 0 = nI T → ∀ y, f_X8_isOne s y = some (if 0 ≤ y ∧ y < nI T then 1 else 0) := fun s hs y => by
    rw [isOne_le (by rw [hs]; exact hTb.1) (by rw [hs]; exact hTb.2), hs]
  unfold f_X7_can
  simp only [isUpTo_eq, isThing_eq, Option.bind_some, hT6]
  by_cases hx : 0 ≤ x ∧ x < nI T
  · by_cases hw : 0 ≤ w ∧ w ≤ 2
    · by_cases hy : 0 ≤ y ∧ y ≤ 1
      · obtain ⟨p, hp6, rfl⟩ := i32_range (N := 6) (by decide) hx.1 (by have := hx.2; grind)
        have hpT : p < T := (nI_ltI (by omega) (by omega)).mp hx.2
        have hw3 : w = 0 ∨ w = 1 ∨ w = 2 := by grind
        obtain ⟨J, hJ, hJe⟩ : ∃ J, J ≤ 100 ∧ (if w = 2 then (9 : Int32) else 99) = nI J + (-1 : Int32) := by
          by_cases h2 : w = 2
          · exact ⟨10, by omega, by rw [if_pos h2]; decide⟩
          · exact ⟨100, by omega, by rw [if_neg h2]; decide⟩
        obtain ⟨σ1, c1, c2⟩ := (fun (key : ∀ M, 100 < M → ∃ σ1, f_X7_can_L51 M σ (nI p) w y (-5) 0 (nI J + (-1 : Int32)) = some ((if y = 0 then (cnF (fun i => allB (seenB wm sn σ p w (nI i)) S 0) J (-5) 0).2 else (cnF (fun i => allB (seenB wm sn σ p w (nI i)) S 0) J (-5) 0).1), σ1) ∧ FrE akF akA [] σ σ1) => key 1000 (by decide)) (fun M hM => can7_L B hS hp6 w y J hJ M (by omega) σ (-5) 0 FrE.rfl')
        have B1 := Base_ak B c2
        have hS1 : Sn σ1 S := by
          obtain ⟨z0, z1, z2, z3⟩ := hS
          refine ⟨z0, by rw [c2.1 2 4 0 (by decide), z1], by rw [c2.1 8 23 0 (by decide), z2], ?_⟩
          rw [c2.2.1 2 1 0 (by decide), c2.2.1 2 2 0 (by decide), c2.2.1 2 3 0 (by decide), c2.2.1 8 24 0 (by decide), c2.2.1 8 25 0 (by decide), c2.2.1 8 26 0 (by decide)]
          exact z3
        obtain ⟨s0, k1, R0⟩ := Rest_0 (MB_of B1)
        have hv : s0.2.1 8 2 0 p = σ1.2.1 8 2 0 p := by
          have := R0.2.1 (6 + p) (by omega)
          rwa [snap_v s0 hp6, snap_v σ1 hp6] at this
        obtain ⟨σ2, m1, R⟩ := (fun (key : ∀ M, 100 < M → ∃ σ2, f_X8_can_L65 M s0 (nI p) w y (σ1.2.1 8 2 0 p) 0 (-5) (nI J + (-1 : Int32)) = some ((if y = 0 then (cnF (fun i => allB (seenB wm sn σ1 p w (nI i)) S 0) J (-5) 0).2 else (cnF (fun i => allB (seenB wm sn σ1 p w (nI i)) S 0) J (-5) 0).1), σ2) ∧ Rest σ1 σ2) => key 1000 (by decide)) (fun M hM => can8_L (MB_of B1) hS1 hpT w y hw3 J hJ M (by omega) s0 (-5) 0 R0)
        have hsb : (fun i => allB (seenB wm sn σ1 p w (nI i)) S 0) = (fun i => allB (seenB wm sn σ p w (nI i)) S 0) := funext fun i => by rw [seenB_ak c2]
        rw [hsb] at m1
        have a1 : (0 : Int32) ≤ nI p ∧ nI p < 6 := nI_r (N := 6) hp6 (by decide)
        refine ⟨(if y = 0 then (cnF (fun i => allB (seenB wm sn σ p w (nI i)) S 0) J (-5) 0).2 else (cnF (fun i => allB (seenB wm sn σ p w (nI i)) S 0) J (-5) 0).1), σ1, σ2, ?_, ?_, ask_step h c2 R.1 R.2.1⟩
        · simp only [hx, hw, hy, and_self, if_true, h10, if_false]
          rw [← c1, ← hJe]
          by_cases h2 : w = 2
          · rw [if_pos h2, if_pos h2]
          · rw [if_neg h2, if_neg h2]
        · unfold f_X8_can
          simp only [hone σ1 B1.2.2.2.1, within_eq, Option.bind_some, hx, hw, hy, and_self, if_true, h10, if_false, k1, a1, nI_clamp (show p < 2 ^ 31 by omega), nmI, hv]
          rw [← m1, ← hJe]
          by_cases h2 : w = 2
          · rw [if_pos h2, if_pos h2]
          · rw [if_neg h2, if_neg h2]
      · refine ⟨-1, σ, σ, by simp only [hx, hw, hy, and_self, if_true, h10, if_false], ?_, h⟩
        unfold f_X8_can
        simp only [hone σ hT8, within_eq, Option.bind_some, hx, hw, hy, and_self, if_true, h10, if_false]
    · refine ⟨-1, σ, σ, by simp only [hx, hw, and_self, if_true, h10, if_false], ?_, h⟩
      unfold f_X8_can
      simp only [hone σ hT8, within_eq, Option.bind_some, hx, hw, and_self, if_true, h10, if_false]
  · refine ⟨-1, σ, σ, by simp only [hx, if_true, if_false], ?_, h⟩
    unfold f_X8_can
    simp only [hone σ hT8, Option.bind_some, hx, if_true, if_false]
