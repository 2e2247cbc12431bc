theorem upd_at (f : Nat → Int32) (k j : Nat) (x : Int32) : upd f k x j = if j = k then x else f j := by
  by_cases h : j = k
  · subst h; rw [pk_us, if_pos rfl]
  · rw [pk_un h, if_neg h]
theorem sL_sL (σ : Sto) (c k i : Nat) (f g : Nat → Int64) : sL (sL σ c k i f) c k i g = sL σ c k i g := by
  unfold sL
  refine Prod.ext rfl (Prod.ext rfl (Prod.ext ?_ rfl))
  funext c' k' i'
  show (if c' = c ∧ k' = k ∧ i' = i then g else if c' = c ∧ k' = k ∧ i' = i then f else σ.2.2.1 c' k' i') = if c' = c ∧ k' = k ∧ i' = i then g else σ.2.2.1 c' k' i'
  split <;> simp_all
theorem sL_id (σ : Sto) (c k i : Nat) (f : Nat → Int64) (h : f = σ.2.2.1 c k i) : sL σ c k i f = σ := by
  subst h
  unfold sL
  refine Prod.ext rfl (Prod.ext rfl (Prod.ext ?_ rfl))
  funext c' k' i'
  show (if c' = c ∧ k' = k ∧ i' = i then σ.2.2.1 c k i else σ.2.2.1 c' k' i') = σ.2.2.1 c' k' i'
  split
  · rename_i h; rw [h.1, h.2.1, h.2.2]
  · rfl
theorem sA_sA (σ : Sto) (c k i : Nat) (f g : Nat → Int32) : sA (sA σ c k i f) c k i g = sA σ c k i g := by
  unfold sA
  refine Prod.ext rfl (Prod.ext ?_ rfl)
  funext c' k' i'
  show (if c' = c ∧ k' = k ∧ i' = i then g else if c' = c ∧ k' = k ∧ i' = i then f else σ.2.1 c' k' i') = if c' = c ∧ k' = k ∧ i' = i then g else σ.2.1 c' k' i'
  split <;> simp_all
theorem sA_id (σ : Sto) (c k i : Nat) (f : Nat → Int32) (h : f = σ.2.1 c k i) : sA σ c k i f = σ := by
  subst h
  unfold sA
  refine Prod.ext rfl (Prod.ext ?_ rfl)
  funext c' k' i'
  show (if c' = c ∧ k' = k ∧ i' = i then σ.2.1 c k i else σ.2.1 c' k' i') = σ.2.1 c' k' i'
  split
  · rename_i h; rw [h.1, h.2.1, h.2.2]
  · rfl
theorem sF_sF (σ : Sto) (c k i : Nat) (u v : Int32) : sF (sF σ c k i u) c k i v = sF σ c k i v := by
  unfold sF
  refine Prod.ext ?_ rfl
  funext c' k' i'
  show (if c' = c ∧ k' = k ∧ i' = i then v else if c' = c ∧ k' = k ∧ i' = i then u else σ.1 c' k' i') = if c' = c ∧ k' = k ∧ i' = i then v else σ.1 c' k' i'
  split <;> simp_all
theorem nI_lt60 {k : Nat} (h : k < 60) : ¬ (60 : Int32) ≤ nI k ∧ (0 ≤ nI k ∧ nI k < 60) := by
  refine ⟨?_, nI_n0 (by omega), ?_⟩
  · exact fun h2 => absurd ((nI_leI (a := 60) (b := k) (by decide) (by omega)).mp h2) (by omega)
  · exact (nI_ltI (a := k) (b := 60) (by omega) (by decide)).mpr h
theorem begin_L (i0 : Nat) : ∀ (d k : Nat) (σ : Sto), k + d = 60 → ∀ n, d < n → f_X3_begin_L12 n σ i0 (nI k) = some (sL σ 3 0 i0 (fun j => if k ≤ j ∧ j < 60 then 0 else σ.2.2.1 3 0 i0 j)) := by
  intro d
  induction d with
  | zero =>
    intro k σ hk n hn
    obtain ⟨n, rfl⟩ : ∃ q, n = q + 1 := ⟨n - 1, by omega⟩
    show f_X3_begin_B12 _ σ i0 (nI k) = _
    unfold f_X3_begin_B12
    have : (60 : Int32) ≤ nI k := by rw [show k = 60 by omega]; decide
    rw [if_pos this, sL_id]
    funext j
    rw [if_neg (by omega)]
  | succ d ih =>
    intro k σ hk n hn
    obtain ⟨n, rfl⟩ : ∃ q, n = q + 1 := ⟨n - 1, by omega⟩
    show f_X3_begin_B12 _ σ i0 (nI k) = _
    unfold f_X3_begin_B12
    simp only [nm, nmI]
    obtain ⟨h1, h2⟩ := nI_lt60 (k := k) (by omega)
    rw [if_neg h1, if_pos h2, nI_clamp (by omega), nI_1, ih (k + 1) _ (by omega) n (by omega), sL_sL]
    congr 2
    funext j
    rw [sL3]
    simp only [and_self, if_true, vp_updL]
    grind
theorem begin_N (N : Nat) (hN : 60 < N) (σ : Sto) (i0 : Nat) (s l : Int32) : (nm (sF σ 3 1 i0 s) fun s1 => nm (sF s1 3 2 i0 l) fun s2 => f_X3_begin_L12 N s2 i0 0) = some (sL (sF (sF σ 3 1 i0 s) 3 2 i0 l) 3 0 i0 (fun j => if j < 60 then 0 else σ.2.2.1 3 0 i0 j)) := by
  have h := begin_L i0 60 0 (sF (sF σ 3 1 i0 s) 3 2 i0 l) rfl N hN
  rw [nI_0] at h
  simp only [nm]
  rw [h]
  simp only [Nat.zero_le, true_and, sF2]
theorem begin_eq (σ : Sto) (i0 : Nat) (s l : Int32) : f_X3_begin σ i0 s l = some (sL (sF (sF σ 3 1 i0 s) 3 2 i0 l) 3 0 i0 (fun j => if j < 60 then 0 else σ.2.2.1 3 0 i0 j)) := begin_N 1000 (by decide) σ i0 s l
theorem tape8_L (t : Nat) (ht : t < 6) : ∀ (d k : Nat) (σ : Sto), k + d = 60 → ∀ n, d < n → f_X8_tape_L67 n σ (nI t) (nI k) = some (1, sL σ 8 42 0 (fun j => if 60 * t + k ≤ j ∧ j < 60 * t + 60 then 0 else σ.2.2.1 8 42 0 j)) := by
  intro d
  induction d with
  | zero =>
    intro k σ hk n hn
    obtain ⟨n, rfl⟩ : ∃ q, n = q + 1 := ⟨n - 1, by omega⟩
    show f_X8_tape_B67 _ σ (nI t) (nI k) = _
    unfold f_X8_tape_B67
    have : (60 : Int32) ≤ nI k := by rw [show k = 60 by omega]; decide
    rw [if_pos this, sL_id]
    funext j
    rw [if_neg (by omega)]
  | succ d ih =>
    intro k σ hk n hn
    obtain ⟨n, rfl⟩ : ∃ q, n = q + 1 := ⟨n - 1, by omega⟩
    show f_X8_tape_B67 _ σ (nI t) (nI k) = _
    unfold f_X8_tape_B67
    simp only [nm, nmI]
    obtain ⟨h1, h2⟩ := nI_lt60 (k := k) (by omega)
    obtain ⟨g1, g2, g3, g4⟩ := tape_ix ht (show k < 60 by omega)
    rw [if_neg h1, g1, if_pos ⟨g2, g3⟩, g4, nI_1, ih (k + 1) _ (by omega) n (by omega), sL_sL]
    congr 3
    funext j
    rw [sL3]
    simp only [and_self, if_true, vp_updL]
    grind
theorem L42_N (N : Nat) (hN : 60 < N) (s0 : Sto) {t : Nat} (ht : t < 6) (x1 x2 x3 : Int32) (hx : x1 = nI t) : (if 0 ≤ x1 ∧ x1 < 6 then nm (sA s0 8 40 0 (upd (s0.2.1 8 40 0) (Int32.toNatClampNeg x1) x2)) fun s9 => (if 0 ≤ x2 then
    (if 0 ≤ x1 ∧ x1 < 6 then nm (sA s9 8 41 0 (upd (s9.2.1 8 41 0) (Int32.toNatClampNeg x1) x3)) fun s13 => f_X8_tape_L67 N s13 x1 0 else none)
  else
    (if 0 ≤ x1 ∧ x1 < 6 then nm (sA s9 8 41 0 (upd (s9.2.1 8 41 0) (Int32.toNatClampNeg x1) 0)) fun s21 => f_X8_tape_L67 N s21 x1 0 else none)) else none) = some (1, sL (sA (sA s0 8 40 0 (upd (s0.2.1 8 40 0) t x2)) 8 41 0 (upd (s0.2.1 8 41 0) t (if 0 ≤ x2 then x3 else 0))) 8 42 0 (fun j => if 60 * t ≤ j ∧ j < 60 * t + 60 then 0 else s0.2.2.1 8 42 0 j)) := by
  have hc : (nI t).toNatClampNeg = t := nI_clamp (by omega)
  have h6 : (0 : Int32) ≤ nI t ∧ nI t < 6 := ⟨nI_n0 (by omega), (nI_ltI (a := t) (b := 6) (by omega) (by decide)).mpr ht⟩
  subst hx
  simp only [h6, and_self, if_true, nm, hc]
  have h := fun σ => tape8_L t ht 60 0 σ rfl N hN
  rw [nI_0] at h
  rw [h, h]
  split <;> simp [sA3, sA2]
theorem L42_eq (s0 : Sto) {t : Nat} (ht : t < 6) (x2 x3 : Int32) : f_X8_tape_L42 s0 (nI t) x2 x3 = some (1, sL (sA (sA s0 8 40 0 (upd (s0.2.1 8 40 0) t x2)) 8 41 0 (upd (s0.2.1 8 41 0) t (if 0 ≤ x2 then x3 else 0))) 8 42 0 (fun j => if 60 * t ≤ j ∧ j < 60 * t + 60 then 0 else s0.2.2.1 8 42 0 j)) := L42_N 1000 (by decide) s0 ht (nI t) x2 x3 rfl
/-- all but the TAPES is as it was -/
def eqT (σ τ : Sto) : Prop := (∀ c k i, c ≠ 3 → τ.1 c k i = σ.1 c k i) ∧ (∀ c k i, ¬ (c = 8 ∧ (k = 40 ∨ k = 41)) → τ.2.1 c k i = σ.2.1 c k i) ∧ τ.2.2.2 = σ.2.2.2
theorem eqT.rfl' {σ : Sto} : eqT σ σ := ⟨fun _ _ _ _ => rfl, fun _ _ _ _ => rfl, rfl⟩
theorem tape_step {σ : Sto} (h : I_tp σ) (t s l : Int32) : ∃ r σ1 σ2, f_X7_tape σ t s l = some (r, σ1) ∧ f_X8_tape σ1 t s l = some (r, σ2) ∧ I_tp σ2 ∧ eqT σ σ2 := by
  unfold f_X7_tape f_X8_tape
  rw [isTape_eq, isTape8_eq]
  simp only [Option.bind_some, within_eq, isUpTo_eq]
  by_cases ht : 0 ≤ t ∧ t ≤ 5
  · obtain ⟨n, hn, rfl⟩ := i32_range (N := 6) (by decide) ht.1 (by have := ht.2; grind)
    have hc : (nI n).toNatClampNeg = n := nI_clamp (by omega)
    have h6 : (0 : Int32) ≤ nI n ∧ nI n < 6 := by grind
    have h10 : ¬ ((1 : Int32) = 0) := by decide
    have ht1 := ht.1
    have ht2 := ht.2
    simp only [ht1, ht2, h6, and_self, if_true, h10, if_false, hc, begin_eq, Option.bind_some]
    have key : ∀ l' : Int32, (0 ≤ s ∨ (s = -1 ∧ l' = 0)) → s ≤ 4 → 0 ≤ l' → l' ≤ 60 → ∀ τ, τ = sL (sF (sF σ 3 1 n s) 3 2 n l') 3 0 n (fun j => if j < 60 then 0 else σ.2.2.1 3 0 n j) → ∀ l2 : Int32, (0 ≤ s → l2 = l') → ∃ σ2, f_X8_tape_L42 τ (nI n) s l2 = some (1, σ2) ∧ I_tp σ2 ∧ eqT σ σ2 := by
      intro l' hs1 hs2 hl0 hl1 τ hτ l2 hl2
      refine ⟨_, L42_eq τ hn s l2, ?_, ?_⟩
      · subst hτ
        intro m hm
        obtain ⟨⟨e1, e2, e3⟩, ⟨e4, e5, e6⟩, e7, e8⟩ := h m hm
        by_cases hmn : m = n
        · subst hmn
          refine ⟨⟨?_, ?_, ?_⟩, ⟨?_, ?_, ?_⟩, ?_, ?_⟩
          all_goals (try intro j hj)
          all_goals simp only [sL1, sL2, sL3, sA1, sA2, sA3, sF1, sF2, upd_at, and_self, if_true, true_and, and_true]
          all_goals grind [upd_at]
        · refine ⟨⟨?_, ?_, ?_⟩, ⟨?_, ?_, ?_⟩, ?_, ?_⟩
          all_goals (try intro j hj)
          all_goals simp only [sL1, sL2, sL3, sA1, sA2, sA3, sF1, sF2, upd_at, and_self, if_true, true_and, and_true]
          all_goals grind [upd_at]
      · subst hτ
        refine ⟨fun c k i hc => ?_, fun c k i hc => ?_, rfl⟩
        · simp only [sL1, sA1, sF1]
          grind
        · simp only [sL2, sA2, sF2]
          grind
    by_cases s1 : s = -1
    · obtain ⟨σ2, g1, g2, g3⟩ := key 0 (Or.inr ⟨s1, rfl⟩) (by grind) (by decide) (by decide) _ rfl l (by grind)
      refine ⟨1, _, σ2, by rw [if_pos s1], ?_, g2, g3⟩
      have a1 : -1 ≤ s ∧ s ≤ 4 := by grind
      have a2 : s < 0 := by grind
      have a3 : f_X8_tape_L31 (sL (sF (sF σ 3 1 n s) 3 2 n 0) 3 0 n (fun j => if j < 60 then 0 else σ.2.2.1 3 0 n j)) (nI n) s l = some (1, σ2) := by
        unfold f_X8_tape_L31
        rw [if_pos a2]
        exact g1
      rw [if_pos a1, if_neg h10, if_pos a2]
      exact a3
    · by_cases s2 : 0 ≤ s ∧ s ≤ 4
      · have a1 : -1 ≤ s ∧ s ≤ 4 := by grind
        have a2 : ¬ s < 0 := by grind
        by_cases l1 : l ≤ 60
        · by_cases l2 : 0 ≤ l
          · obtain ⟨σ2, g1, g2, g3⟩ := key l (Or.inl s2.1) s2.2 l2 l1 _ rfl l (fun _ => rfl)
            refine ⟨1, _, σ2, by rw [if_neg s1, if_pos s2, if_neg h10, if_pos l1, if_pos l2], ?_, g2, g3⟩
            rw [if_pos a1, if_neg h10, if_neg a2, if_pos l1]
            unfold f_X8_tape_L31
            rw [if_neg a2, if_pos l2]
            exact g1
          · refine ⟨-14, σ, σ, by rw [if_neg s1, if_pos s2, if_neg h10, if_pos l1, if_neg l2], ?_, h, eqT.rfl'⟩
            rw [if_pos a1, if_neg h10, if_neg a2, if_pos l1]
            unfold f_X8_tape_L31
            rw [if_neg a2, if_neg l2]
        · refine ⟨-2, σ, σ, by rw [if_neg s1, if_pos s2, if_neg h10, if_neg l1], ?_, h, eqT.rfl'⟩
          rw [if_pos a1, if_neg h10, if_neg a2, if_neg l1]
      · refine ⟨-2, σ, σ, by rw [if_neg s1, if_neg s2, if_pos rfl], ?_, h, eqT.rfl'⟩
        have a1 : ¬ (-1 ≤ s ∧ s ≤ 4) := by grind
        rw [if_neg a1, if_pos rfl]
  · have hq : (if (0 : Int32) ≤ t ∧ t ≤ 5 then (1 : Int32) else 0) = 0 := by rw [if_neg ht]
    rw [if_pos hq]
    exact ⟨-1, σ, σ, rfl, by rw [if_pos hq], h, eqT.rfl'⟩
