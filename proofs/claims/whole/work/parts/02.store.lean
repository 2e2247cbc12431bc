-- THE STORE: ints of fields (class, slot, object), rows of ints (class, slot, object, place), rows of longs, the PASS of the TEXT
abbrev Sto : Type := (Nat → Nat → Nat → Int32) × (Nat → Nat → Nat → Nat → Int32) × (Nat → Nat → Nat → Nat → Int64) × Nat
def sF (σ : Sto) (c k i : Nat) (v : Int32) : Sto := (fun c' k' i' => if c' = c ∧ k' = k ∧ i' = i then v else σ.1 c' k' i', σ.2)
def sA (σ : Sto) (c k i : Nat) (f : Nat → Int32) : Sto := (σ.1, fun c' k' i' => if c' = c ∧ k' = k ∧ i' = i then f else σ.2.1 c' k' i', σ.2.2)
def sL (σ : Sto) (c k i : Nat) (f : Nat → Int64) : Sto := (σ.1, σ.2.1, fun c' k' i' => if c' = c ∧ k' = k ∧ i' = i then f else σ.2.2.1 c' k' i', σ.2.2.2)
def sT (σ : Sto) (t : Nat) : Sto := (σ.1, σ.2.1, σ.2.2.1, t)
-- where all lies: an address for each (class, part, object); classes' facts; the classes of the kinds of rows; static rows; texts and their bytes
abbrev Gm : Type := (Nat → Nat → Nat → Nat) × va_G × (Nat → ClassId) × (Nat → Nat) × (Nat → Nat) × (Nat → Nat)
def kd : Nat → Nat → Nat
  | 0, 0 => 1
  | 1, 0 => 1
  | 1, 1 => 1
  | 1, 2 => 1
  | 2, 1 => 1
  | 2, 2 => 1
  | 2, 3 => 1
  | 3, 0 => 1
  | 4, 0 => 1
  | 4, 4 => 2
  | 5, 5 => 1
  | 5, 6 => 1
  | 6, 0 => 1
  | 6, 4 => 2
  | 6, 5 => 2
  | 6, 6 => 2
  | 7, 0 => 2
  | 7, 1 => 2
  | 7, 3 => 2
  | 7, 4 => 1
  | 7, 5 => 2
  | 7, 6 => 1
  | 7, 8 => 2
  | 7, 9 => 2
  | 7, 10 => 1
  | 8, 1 => 1
  | 8, 2 => 1
  | 8, 3 => 1
  | 8, 4 => 1
  | 8, 5 => 1
  | 8, 8 => 1
  | 8, 15 => 1
  | 8, 16 => 1
  | 8, 17 => 1
  | 8, 18 => 1
  | 8, 19 => 1
  | 8, 20 => 1
  | 8, 22 => 1
  | 8, 24 => 1
  | 8, 25 => 1
  | 8, 26 => 1
  | 8, 28 => 1
  | 8, 29 => 1
  | 8, 31 => 1
  | 8, 32 => 1
  | 8, 34 => 1
  | 8, 36 => 1
  | 8, 37 => 1
  | 8, 38 => 1
  | 8, 39 => 1
  | 8, 40 => 1
  | 8, 41 => 1
  | 8, 42 => 1
  | _, _ => 0
def alen : Nat → Nat → Nat
  | 0, 0 => 20
  | 1, 0 => 100
  | 1, 1 => 100
  | 1, 2 => 100
  | 2, 1 => 10
  | 2, 2 => 10
  | 2, 3 => 10
  | 3, 0 => 60
  | 4, 0 => 100
  | 5, 5 => 4
  | 5, 6 => 6
  | 6, 0 => 6
  | 7, 4 => 6
  | 7, 6 => 6
  | 7, 10 => 6
  | 8, 1 => 6
  | 8, 2 => 6
  | 8, 3 => 6
  | 8, 4 => 6
  | 8, 5 => 24
  | 8, 8 => 100
  | 8, 15 => 6
  | 8, 16 => 61
  | 8, 17 => 61
  | 8, 18 => 61
  | 8, 19 => 61
  | 8, 20 => 800
  | 8, 22 => 110
  | 8, 24 => 5
  | 8, 25 => 5
  | 8, 26 => 5
  | 8, 28 => 10
  | 8, 29 => 10
  | 8, 31 => 8
  | 8, 32 => 8
  | 8, 34 => 20
  | 8, 36 => 105
  | 8, 37 => 105
  | 8, 38 => 6
  | 8, 39 => 6
  | 8, 40 => 6
  | 8, 41 => 6
  | 8, 42 => 360
  | _, _ => 0
def aty : Nat → Nat → Nat
  | 0, 0 => 0
  | 1, 0 => 0
  | 1, 1 => 0
  | 1, 2 => 0
  | 2, 1 => 0
  | 2, 2 => 0
  | 2, 3 => 0
  | 3, 0 => 1
  | 4, 0 => 2
  | 5, 5 => 0
  | 5, 6 => 0
  | 6, 0 => 4
  | 7, 4 => 0
  | 7, 6 => 5
  | 7, 10 => 6
  | 8, 1 => 0
  | 8, 2 => 0
  | 8, 3 => 0
  | 8, 4 => 0
  | 8, 5 => 0
  | 8, 8 => 0
  | 8, 15 => 0
  | 8, 16 => 0
  | 8, 17 => 0
  | 8, 18 => 0
  | 8, 19 => 0
  | 8, 20 => 0
  | 8, 22 => 3
  | 8, 24 => 0
  | 8, 25 => 0
  | 8, 26 => 0
  | 8, 28 => 0
  | 8, 29 => 0
  | 8, 31 => 0
  | 8, 32 => 0
  | 8, 34 => 0
  | 8, 36 => 0
  | 8, 37 => 0
  | 8, 38 => 0
  | 8, 39 => 0
  | 8, 40 => 0
  | 8, 41 => 0
  | 8, 42 => 1
  | _, _ => 0
def nf : Nat → Nat
  | 0 => 5
  | 1 => 5
  | 2 => 5
  | 3 => 3
  | 4 => 5
  | 5 => 7
  | 6 => 7
  | 7 => 11
  | 8 => 43
  | _ => 0
def cn : Nat → Nat
  | 0 => 1
  | 1 => 8
  | 2 => 6
  | 3 => 6
  | 4 => 1
  | 5 => 13
  | 6 => 2
  | 7 => 1
  | 8 => 1
  | _ => 0
def tabs : List (Nat × Nat) := [(0, 0), (0, 1), (1, 0), (1, 1), (1, 2), (1, 3), (2, 0), (2, 2), (2, 3), (2, 4), (3, 0), (3, 1), (4, 0), (4, 1), (5, 0), (5, 6), (5, 7), (6, 0), (6, 1), (7, 0), (7, 5), (7, 7), (7, 11), (8, 0), (8, 2), (8, 3), (8, 4), (8, 5), (8, 6), (8, 9), (8, 16), (8, 17), (8, 18), (8, 19), (8, 20), (8, 21), (8, 23), (8, 25), (8, 26), (8, 27), (8, 29), (8, 30), (8, 32), (8, 33), (8, 35), (8, 37), (8, 38), (8, 39), (8, 40), (8, 41), (8, 42), (8, 43)]
def rf (σ : Sto) (c k i : Nat) : Nat × Nat × Nat := match c, k with
  | 6, 4 => (2, 0, 3 * i)
  | 6, 5 => (2, 0, 3 * i + 1)
  | 6, 6 => (2, 0, 3 * i + 2)
  | 7, 0 => (6, 0, 0)
  | 7, 1 => (6, 0, 1)
  | 7, 3 => (5, 0, 12)
  | 7, 5 => (4, 0, 0)
  | 7, 8 => (1, 0, 6)
  | 7, 9 => (0, 0, 0)
  | 4, 4 => (1, 0, σ.2.2.2)
  | _, _ => (0, 0, 0)
def ra (c k i j : Nat) : Nat × Nat := match c, k with
  | 6, 0 => (5, 6 * i + j)
  | 7, 6 => (1, j)
  | _, _ => (3, j)
def fv (g : Gm) (σ : Sto) (c k i : Nat) : Value := if kd c k = 0 then .int (σ.1 c k i) else if kd c k = 1 then .ref (g.1 c (k + 1) i) else .ref (g.1 (rf σ c k i).1 (rf σ c k i).2.1 (rf σ c k i).2.2)
def acon (g : Gm) (σ : Sto) (c k i : Nat) : (Nat → Int32) ⊕ (Nat → Int64) ⊕ (Nat → UInt32) ⊕ (Nat → UInt64) ⊕ (Nat → Option Nat) := if aty c k = 1 then .inr (.inl (σ.2.2.1 c k i)) else if aty c k ≤ 3 then .inl (σ.2.1 c k i) else .inr (.inr (.inr (.inr (fun j => some (g.1 (ra c k i j).1 0 (ra c k i j).2)))))
def flds (g : Gm) (σ : Sto) (c i : Nat) : List Value := (List.range (nf c)).map (fun k => fv g σ c k i)
def cel (g : Gm) (σ : Sto) (x : Nat × Nat × Nat) : va_E := match x.2.1 with
  | 0 => .inr (x.1, flds g σ x.1 x.2.2)
  | k + 1 => .inl (g.2.2.1 (aty x.1 k), alen x.1 k, acon g σ x.1 k x.2.2)
def allc : List (Nat × Nat × Nat) := tabs.flatMap (fun q => (List.range (cn q.1)).map (fun i => (q.1, q.2, i)))
def adr (g : Gm) (x : Nat × Nat × Nat) : Nat := g.1 x.1 x.2.1 x.2.2
def wl (g : Gm) (σ : Sto) : va_W := allc.map (fun x => (adr g x, cel g σ x))
theorem allc_nodup : allc.Nodup := by decide +kernel
theorem allc_mem {c s i : Nat} (h : (c, s) ∈ tabs) (hi : i < cn c) : (c, s, i) ∈ allc := List.mem_flatMap.mpr ⟨(c, s), h, List.mem_map.mpr ⟨i, List.mem_range.mpr hi, rfl⟩⟩
theorem wl_at (g : Gm) {x : Nat × Nat × Nat} (hx : x ∈ allc) : ∃ q0 : Nat, allc[q0]? = some x ∧ ∀ σ, (wl g σ)[q0]? = some (adr g x, cel g σ x) := by
  obtain ⟨q, hq⟩ := List.getElem?_of_mem hx
  exact ⟨q, hq, fun σ => by unfold wl; rw [List.getElem?_map, hq]; rfl⟩
theorem wl_set (g : Gm) {σ τ : Sto} {x : Nat × Nat × Nat} {q0 : Nat} {e : va_E} (hq : allc[q0]? = some x) (he : cel g τ x = e) (ho : ∀ y ∈ allc, y ≠ x → cel g τ y = cel g σ y) : (wl g σ).set q0 (adr g x, e) = wl g τ := by
  apply List.ext_getElem?
  intro k
  have hlt : q0 < (wl g σ).length := by unfold wl; rw [List.length_map]; exact (List.getElem?_eq_some_iff.mp hq).1
  by_cases hk : k = q0
  · subst hk
    rw [List.getElem?_set_self hlt]
    unfold wl
    rw [List.getElem?_map, hq, ← he]
    rfl
  · rw [List.getElem?_set_ne (Ne.symm hk)]
    unfold wl
    rw [List.getElem?_map, List.getElem?_map]
    cases hy : allc[k]? with
    | none => rfl
    | some y =>
      have hne : y ≠ x := fun h => by
        subst h
        obtain ⟨h1, e1⟩ := List.getElem?_eq_some_iff.mp hy
        obtain ⟨h2, e2⟩ := List.getElem?_eq_some_iff.mp hq
        have hp := List.pairwise_iff_getElem.mp allc_nodup
        rcases Nat.lt_or_ge k q0 with hlt | hge
        · exact hp k q0 h1 h2 hlt (e1.trans e2.symm)
        · exact hp q0 k h2 h1 (by omega) (e2.trans e1.symm)
      show some (adr g y, cel g σ y) = some (adr g y, cel g τ y)
      rw [ho y (List.mem_of_getElem? hy) hne]
theorem flds_at (g : Gm) (σ : Sto) {c i k : Nat} (hk : k < nf c) : (flds g σ c i)[k]? = some (fv g σ c k i) := by
  unfold flds
  rw [List.getElem?_map, List.getElem?_range hk]
  rfl
theorem sF_self (g : Gm) (σ : Sto) {c k i : Nat} (v : Int32) (hk : k < nf c) (h0 : kd c k = 0) : cel g (sF σ c k i v) (c, 0, i) = .inr (c, (flds g σ c i).set k (.int v)) := by
  show Sum.inr (c, flds g (sF σ c k i v) c i) = _
  congr 2
  apply List.ext_getElem?
  intro j
  by_cases hj : j = k
  · subst hj
    rw [flds_at g _ hk, List.getElem?_set_self (by unfold flds; rw [List.length_map, List.length_range]; exact hk)]
    simp [fv, h0, sF]
  · rw [List.getElem?_set_ne (Ne.symm hj)]
    by_cases hl : j < nf c
    · rw [flds_at g _ hl, flds_at g _ hl]
      simp [fv, sF, hj, rf]
    · rw [List.getElem?_eq_none (by unfold flds; simpa using Nat.le_of_not_lt hl), List.getElem?_eq_none (by unfold flds; simpa using Nat.le_of_not_lt hl)]
theorem rf_F (σ : Sto) (c k i : Nat) (v : Int32) : rf (sF σ c k i v) = rf σ := rfl
theorem sF_oth (g : Gm) (σ : Sto) {c k i : Nat} (v : Int32) : ∀ y ∈ allc, y ≠ (c, 0, i) → cel g (sF σ c k i v) y = cel g σ y := by
  rintro ⟨c', s, i'⟩ - hne
  cases s with
  | zero =>
    show Sum.inr (c', flds g (sF σ c k i v) c' i') = Sum.inr (c', flds g σ c' i')
    congr 2
    unfold flds
    apply List.map_congr_left
    intro j _
    have : ¬ (c' = c ∧ j = k ∧ i' = i) := fun h => hne (by rw [h.1, h.2.2])
    unfold fv
    rw [rf_F]
    simp [sF, this]
  | succ j => rfl
theorem acon_A (g : Gm) (σ : Sto) (c k i c' k' i' : Nat) (f : Nat → Int32) (h : ¬ (c' = c ∧ k' = k ∧ i' = i)) : acon g (sA σ c k i f) c' k' i' = acon g σ c' k' i' := by
  unfold acon
  simp [sA, h]
theorem sA_oth (g : Gm) (σ : Sto) {c k i : Nat} (f : Nat → Int32) : ∀ y ∈ allc, y ≠ (c, k + 1, i) → cel g (sA σ c k i f) y = cel g σ y := by
  rintro ⟨c', s, i'⟩ - hne
  cases s with
  | zero => rfl
  | succ j =>
    show Sum.inl (_, _, acon g (sA σ c k i f) c' j i') = Sum.inl (_, _, acon g σ c' j i')
    rw [acon_A]
    exact fun h => hne (by rw [h.1, h.2.1, h.2.2])
theorem sA_self (g : Gm) (σ : Sto) {c k i : Nat} (f : Nat → Int32) (h1 : aty c k ≠ 1) (h3 : aty c k ≤ 3) : cel g (sA σ c k i f) (c, k + 1, i) = .inl (g.2.2.1 (aty c k), alen c k, .inl f) := by
  show Sum.inl (_, _, acon g (sA σ c k i f) c k i) = _
  unfold acon
  simp [h1, h3, sA]
theorem acon_L (g : Gm) (σ : Sto) (c k i c' k' i' : Nat) (f : Nat → Int64) (h : ¬ (c' = c ∧ k' = k ∧ i' = i)) : acon g (sL σ c k i f) c' k' i' = acon g σ c' k' i' := by
  unfold acon
  simp [sL, h]
theorem sL_oth (g : Gm) (σ : Sto) {c k i : Nat} (f : Nat → Int64) : ∀ y ∈ allc, y ≠ (c, k + 1, i) → cel g (sL σ c k i f) y = cel g σ y := by
  rintro ⟨c', s, i'⟩ - hne
  cases s with
  | zero => rfl
  | succ j =>
    show Sum.inl (_, _, acon g (sL σ c k i f) c' j i') = Sum.inl (_, _, acon g σ c' j i')
    rw [acon_L]
    exact fun h => hne (by rw [h.1, h.2.1, h.2.2])
theorem sL_self (g : Gm) (σ : Sto) {c k i : Nat} (f : Nat → Int64) (h1 : aty c k = 1) : cel g (sL σ c k i f) (c, k + 1, i) = .inl (g.2.2.1 (aty c k), alen c k, .inr (.inl f)) := by
  show Sum.inl (_, _, acon g (sL σ c k i f) c k i) = _
  unfold acon
  simp [h1, sL]
