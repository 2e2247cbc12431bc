-- WHAT A CALL MAY HAVE CHANGED: slots by class, slot and group of objects
def grp (c i : Nat) : Nat := if c = 5 then i / 6 else if c = 2 then i / 3 else if c = 6 then i else 0
def FrE (fs as ls : List (Nat × Nat × Nat)) (σ σ' : Sto) : Prop := (∀ c k i, (c, k, grp c i) ∉ fs → σ'.1 c k i = σ.1 c k i) ∧ (∀ c k i, (c, k, grp c i) ∉ as → σ'.2.1 c k i = σ.2.1 c k i) ∧ (∀ c k i, (c, k, grp c i) ∉ ls → σ'.2.2.1 c k i = σ.2.2.1 c k i)
theorem FrE.rfl' {fs as ls : List (Nat × Nat × Nat)} {σ : Sto} : FrE fs as ls σ σ := ⟨fun _ _ _ _ => rfl, fun _ _ _ _ => rfl, fun _ _ _ _ => rfl⟩
theorem FrE.trans {fs as ls : List (Nat × Nat × Nat)} {σ σ' σ'' : Sto} (h : FrE fs as ls σ σ') (h2 : FrE fs as ls σ' σ'') : FrE fs as ls σ σ'' :=
  ⟨fun c k i hc => (h2.1 c k i hc).trans (h.1 c k i hc), fun c k i hc => (h2.2.1 c k i hc).trans (h.2.1 c k i hc), fun c k i hc => (h2.2.2 c k i hc).trans (h.2.2 c k i hc)⟩
theorem FrE.mono {fs as ls fs' as' ls' : List (Nat × Nat × Nat)} {σ σ' : Sto} (h : FrE fs as ls σ σ') (h1 : fs ⊆ fs') (h2 : as ⊆ as') (h3 : ls ⊆ ls') : FrE fs' as' ls' σ σ' :=
  ⟨fun c k i hc => h.1 c k i (fun q => hc (h1 q)), fun c k i hc => h.2.1 c k i (fun q => hc (h2 q)), fun c k i hc => h.2.2 c k i (fun q => hc (h3 q))⟩
theorem FrE.sF {fs as ls : List (Nat × Nat × Nat)} {σ σ' : Sto} (h : FrE fs as ls σ σ') {c k i : Nat} {v : Int32} (hc : (c, k, grp c i) ∈ fs) : FrE fs as ls σ (sF σ' c k i v) := by
  refine ⟨fun c' k' i' h' => ?_, fun c' k' i' h' => ?_, fun c' k' i' h' => ?_⟩
  · rw [sF1]
    by_cases q : c' = c ∧ k' = k ∧ i' = i
    · obtain ⟨rfl, rfl, rfl⟩ := q
      exact absurd hc h'
    · rw [if_neg q]; exact h.1 _ _ _ h'
  · rw [sF2]; exact h.2.1 _ _ _ h'
  · rw [sF2]; exact h.2.2 _ _ _ h'
theorem FrE.sA {fs as ls : List (Nat × Nat × Nat)} {σ σ' : Sto} (h : FrE fs as ls σ σ') {c k i : Nat} {v : Nat → Int32} (hc : (c, k, grp c i) ∈ as) : FrE fs as ls σ (sA σ' c k i v) := by
  refine ⟨fun c' k' i' h' => ?_, fun c' k' i' h' => ?_, fun c' k' i' h' => ?_⟩
  · rw [sA1]; exact h.1 _ _ _ h'
  · rw [sA2]
    by_cases q : c' = c ∧ k' = k ∧ i' = i
    · obtain ⟨rfl, rfl, rfl⟩ := q
      exact absurd hc h'
    · rw [if_neg q]; exact h.2.1 _ _ _ h'
  · rw [sA3]; exact h.2.2 _ _ _ h'
theorem FrE.sL {fs as ls : List (Nat × Nat × Nat)} {σ σ' : Sto} (h : FrE fs as ls σ σ') {c k i : Nat} {v : Nat → Int64} (hc : (c, k, grp c i) ∈ ls) : FrE fs as ls σ (sL σ' c k i v) := by
  refine ⟨fun c' k' i' h' => ?_, fun c' k' i' h' => ?_, fun c' k' i' h' => ?_⟩
  · rw [sL1]; exact h.1 _ _ _ h'
  · rw [sL2]; exact h.2.1 _ _ _ h'
  · rw [sL3]
    by_cases q : c' = c ∧ k' = k ∧ i' = i
    · obtain ⟨rfl, rfl, rfl⟩ := q
      exact absurd hc h'
    · rw [if_neg q]; exact h.2.2 _ _ _ h'
theorem FrE.sT {fs as ls : List (Nat × Nat × Nat)} {σ σ' : Sto} (h : FrE fs as ls σ σ') {t : Nat} : FrE fs as ls σ (sT σ' t) := ⟨h.1, h.2.1, h.2.2⟩
theorem grp5a {p : Nat} (h : p < 6) : grp 5 p = 0 := by unfold grp; simp; omega
theorem grp5b {p : Nat} (h : p < 6) : grp 5 (6 + p) = 1 := by unfold grp; simp; omega
theorem grp5c : grp 5 12 = 2 := rfl
-- the Winter that goes on, written out
def Wt (σ : Sto) : Prop := ∀ p : Nat, p < 6 → σ.1 5 0 p = nI p ∧ (σ.1 5 1 p = σ.2.1 8 1 0 p ∧ 0 ≤ σ.2.1 8 1 0 p ∧ σ.2.1 8 1 0 p ≤ 6) ∧ (σ.1 5 2 p = σ.2.1 8 2 0 p ∧ 0 ≤ σ.2.1 8 2 0 p ∧ σ.2.1 8 2 0 p ≤ 9) ∧ (σ.1 5 3 p = σ.2.1 8 3 0 p ∧ 0 ≤ σ.2.1 8 3 0 p ∧ σ.2.1 8 3 0 p ≤ 99) ∧ (σ.1 5 4 p = σ.2.1 8 4 0 p ∧ 0 ≤ σ.2.1 8 4 0 p ∧ σ.2.1 8 4 0 p ≤ 99) ∧ ∀ j : Nat, j < 4 → σ.2.1 5 5 p j = σ.2.1 8 5 0 (4 * p + j) ∧ 0 ≤ σ.2.1 8 5 0 (4 * p + j) ∧ σ.2.1 8 5 0 (4 * p + j) ≤ 9
def Wn (σ : Sto) : Prop := (σ.1 6 1 0 = σ.1 8 0 0 ∧ 0 ≤ σ.1 8 0 0 ∧ σ.1 8 0 0 ≤ 6) ∧ (σ.1 6 2 0 = σ.1 8 6 0 ∧ 0 ≤ σ.1 8 6 0 ∧ σ.1 8 6 0 ≤ 9999) ∧ (σ.1 6 3 0 = σ.1 8 14 0 ∧ -1 ≤ σ.1 8 14 0 ∧ σ.1 8 14 0 < σ.1 7 7 0)
def Ws (σ : Sto) : Prop := (σ.1 2 0 0 = 5 ∧ σ.1 2 4 0 = σ.1 8 23 0 ∧ 0 ≤ σ.1 8 23 0 ∧ σ.1 8 23 0 ≤ 5) ∧ ∀ j : Nat, j < 5 → (j : Int) < (σ.1 8 23 0).toInt → σ.2.1 2 1 0 j = σ.2.1 8 24 0 j ∧ (σ.2.1 2 2 0 j = σ.2.1 8 25 0 j ∧ 0 ≤ σ.2.1 8 25 0 j ∧ σ.2.1 8 25 0 j ≤ 20) ∧ (σ.2.1 2 3 0 j = σ.2.1 8 26 0 j ∧ (σ.2.1 8 26 0 j = 0 ∨ σ.2.1 8 26 0 j = 1))
def Wp (σ : Sto) : Prop := (σ.1 2 0 1 = 10 ∧ σ.1 2 4 1 = σ.1 8 27 0 ∧ 0 ≤ σ.1 8 27 0 ∧ σ.1 8 27 0 ≤ 10) ∧ ∀ j : Nat, j < 10 → (j : Int) < (σ.1 8 27 0).toInt → (σ.2.1 2 1 1 j = σ.2.1 8 28 0 j ∧ 0 ≤ σ.2.1 8 28 0 j ∧ σ.2.1 8 28 0 j ≤ 3) ∧ (σ.2.1 8 28 0 j = 1 ∨ σ.2.1 8 28 0 j = 2 → σ.2.1 2 2 1 j = σ.2.1 8 29 0 j) ∧ 0 ≤ σ.2.1 8 29 0 j ∧ (σ.2.1 8 28 0 j = 1 ∨ σ.2.1 8 28 0 j = 2 → σ.2.1 8 29 0 j < σ.1 8 0 0)
def Wb (σ : Sto) : Prop := (σ.1 2 0 2 = 8 ∧ σ.1 2 4 2 = σ.1 8 30 0 ∧ 0 ≤ σ.1 8 30 0 ∧ σ.1 8 30 0 ≤ 8) ∧ ∀ j : Nat, j < 8 → (j : Int) < (σ.1 8 30 0).toInt → (σ.2.1 2 1 2 j = σ.2.1 8 31 0 j ∧ 0 ≤ σ.2.1 8 31 0 j ∧ σ.2.1 8 31 0 j < σ.1 8 0 0) ∧ σ.2.1 2 2 2 j = σ.2.1 8 32 0 j
def W0 (σ : Sto) : Prop := Wt σ ∧ Wn σ ∧ Ws σ ∧ Wp σ ∧ Wb σ
theorem Wt_of {σ : Sto} : RWt σ 0 (snapM σ) ↔ Wt σ := by
  unfold RWt Wt
  simp only [Nat.mul_zero, Nat.zero_add]
  constructor
  · intro h p hp
    have h1 := h p hp
    rw [snap_kind σ hp, snap_v σ hp, snap_worth σ hp, snap_depth σ hp] at h1
    refine ⟨h1.1, h1.2.1, h1.2.2.1, h1.2.2.2.1, h1.2.2.2.2.1, fun j hj => ?_⟩
    have h2 := h1.2.2.2.2.2 j hj
    rwa [snap_row σ (by omega)] at h2
  · intro h p hp
    have h1 := h p hp
    rw [snap_kind σ hp, snap_v σ hp, snap_worth σ hp, snap_depth σ hp]
    refine ⟨h1.1, h1.2.1, h1.2.2.1, h1.2.2.2.1, h1.2.2.2.2.1, fun j hj => ?_⟩
    have h2 := h1.2.2.2.2.2 j hj
    rwa [snap_row σ (by omega)]
theorem Wn_of {σ : Sto} : RWn σ 0 (snapM σ) ↔ Wn σ := Iff.rfl
theorem Ws_of {σ : Sto} : RWs σ 0 (snapM σ) ↔ Ws σ := by
  unfold RWs Ws
  simp only [Nat.mul_zero, snap_seen]
  constructor
  · intro h
    refine ⟨h.1, fun j hj h2 => ?_⟩
    have h1 := h.2 j hj h2
    rwa [snap_s1 σ hj, snap_s2 σ hj, snap_s3 σ hj] at h1
  · intro h
    refine ⟨h.1, fun j hj h2 => ?_⟩
    have h1 := h.2 j hj h2
    rwa [snap_s1 σ hj, snap_s2 σ hj, snap_s3 σ hj]
theorem Wp_of {σ : Sto} : RWp σ 0 (snapM σ) ↔ Wp σ := by
  unfold RWp Wp
  simp only [Nat.mul_zero, Nat.zero_add, snap_plan, snap_things]
  constructor
  · intro h
    refine ⟨h.1, fun j hj h2 => ?_⟩
    have h1 := h.2 j hj h2
    rwa [snap_p1 σ hj, snap_p2 σ hj] at h1
  · intro h
    refine ⟨h.1, fun j hj h2 => ?_⟩
    have h1 := h.2 j hj h2
    rwa [snap_p1 σ hj, snap_p2 σ hj]
theorem Wb_of {σ : Sto} : RWb σ 0 (snapM σ) ↔ Wb σ := by
  unfold RWb Wb
  simp only [Nat.mul_zero, Nat.zero_add, snap_book, snap_things]
  constructor
  · intro h
    refine ⟨h.1, fun j hj h2 => ?_⟩
    have h1 := h.2 j hj h2
    rwa [snap_b1 σ hj, snap_b2 σ hj] at h1
  · intro h
    refine ⟨h.1, fun j hj h2 => ?_⟩
    have h1 := h.2 j hj h2
    rwa [snap_b1 σ hj, snap_b2 σ hj]
theorem W0_of {σ : Sto} : RW σ 0 (snapM σ) ↔ W0 σ := by
  unfold RW W0
  rw [Wt_of, Wn_of, Ws_of, Wp_of, Wb_of]
