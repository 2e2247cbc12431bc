-- THE RELATION: the class's part of the store (classes 0 to 7) and the reference's (class 8) hold the same
/-- what the reference's keep() would write: all that THE IMAGE has -/
def snapM (σ : Sto) (j : Nat) : Int32 :=
  if j < 6 then σ.2.1 8 1 0 j else if j < 12 then σ.2.1 8 2 0 (j - 6) else if j < 18 then σ.2.1 8 3 0 (j - 12) else if j < 24 then σ.2.1 8 4 0 (j - 18)
  else if j < 48 then σ.2.1 8 5 0 (j - 24) else if j < 53 then σ.2.1 8 24 0 (j - 48) else if j < 58 then σ.2.1 8 25 0 (j - 53) else if j < 63 then σ.2.1 8 26 0 (j - 58)
  else if j < 73 then σ.2.1 8 28 0 (j - 63) else if j < 83 then σ.2.1 8 29 0 (j - 73) else if j < 91 then σ.2.1 8 31 0 (j - 83) else if j < 99 then σ.2.1 8 32 0 (j - 91)
  else if j = 99 then σ.1 8 0 0 else if j = 100 then σ.1 8 6 0 else if j = 101 then σ.1 8 23 0 else if j = 102 then σ.1 8 27 0 else if j = 103 then σ.1 8 30 0 else σ.1 8 14 0
/-- Winter w of the class against a snapshot; pc: how many PASSES there are -/
def RWt (σ : Sto) (w : Nat) (s : Nat → Int32) : Prop := ∀ p : Nat, p < 6 → σ.1 5 0 (6 * w + p) = nI p ∧ (σ.1 5 1 (6 * w + p) = s p ∧ 0 ≤ s p ∧ s p ≤ 6) ∧ (σ.1 5 2 (6 * w + p) = s (6 + p) ∧ 0 ≤ s (6 + p) ∧ s (6 + p) ≤ 9) ∧ (σ.1 5 3 (6 * w + p) = s (12 + p) ∧ 0 ≤ s (12 + p) ∧ s (12 + p) ≤ 99) ∧ (σ.1 5 4 (6 * w + p) = s (18 + p) ∧ 0 ≤ s (18 + p) ∧ s (18 + p) ≤ 99) ∧ ∀ j : Nat, j < 4 → σ.2.1 5 5 (6 * w + p) j = s (24 + (4 * p + j)) ∧ 0 ≤ s (24 + (4 * p + j)) ∧ s (24 + (4 * p + j)) ≤ 9
def RWn (σ : Sto) (w : Nat) (s : Nat → Int32) : Prop := (σ.1 6 1 w = s 99 ∧ 0 ≤ s 99 ∧ s 99 ≤ 6) ∧ (σ.1 6 2 w = s 100 ∧ 0 ≤ s 100 ∧ s 100 ≤ 9999) ∧ (σ.1 6 3 w = s 104 ∧ -1 ≤ s 104 ∧ s 104 < σ.1 7 7 0)
def RWs (σ : Sto) (w : Nat) (s : Nat → Int32) : Prop := (σ.1 2 0 (3 * w) = 5 ∧ σ.1 2 4 (3 * w) = s 101 ∧ 0 ≤ s 101 ∧ s 101 ≤ 5) ∧ ∀ j : Nat, j < 5 → (j : Int) < (s 101).toInt → σ.2.1 2 1 (3 * w) j = s (48 + j) ∧ (σ.2.1 2 2 (3 * w) j = s (53 + j) ∧ 0 ≤ s (53 + j) ∧ s (53 + j) ≤ 20) ∧ (σ.2.1 2 3 (3 * w) j = s (58 + j) ∧ (s (58 + j) = 0 ∨ s (58 + j) = 1))
def RWp (σ : Sto) (w : Nat) (s : Nat → Int32) : Prop := (σ.1 2 0 (3 * w + 1) = 10 ∧ σ.1 2 4 (3 * w + 1) = s 102 ∧ 0 ≤ s 102 ∧ s 102 ≤ 10) ∧ ∀ j : Nat, j < 10 → (j : Int) < (s 102).toInt → (σ.2.1 2 1 (3 * w + 1) j = s (63 + j) ∧ 0 ≤ s (63 + j) ∧ s (63 + j) ≤ 3) ∧ (s (63 + j) = 1 ∨ s (63 + j) = 2 → σ.2.1 2 2 (3 * w + 1) j = s (73 + j)) ∧ 0 ≤ s (73 + j) ∧ (s (63 + j) = 1 ∨ s (63 + j) = 2 → s (73 + j) < s 99)
def RWb (σ : Sto) (w : Nat) (s : Nat → Int32) : Prop := (σ.1 2 0 (3 * w + 2) = 8 ∧ σ.1 2 4 (3 * w + 2) = s 103 ∧ 0 ≤ s 103 ∧ s 103 ≤ 8) ∧ ∀ j : Nat, j < 8 → (j : Int) < (s 103).toInt → (σ.2.1 2 1 (3 * w + 2) j = s (83 + j) ∧ 0 ≤ s (83 + j) ∧ s (83 + j) < s 99) ∧ σ.2.1 2 2 (3 * w + 2) j = s (91 + j)
def RW (σ : Sto) (w : Nat) (s : Nat → Int32) : Prop := RWt σ w s ∧ RWn σ w s ∧ RWs σ w s ∧ RWp σ w s ∧ RWb σ w s
def I_tx (σ : Sto) : Prop := (σ.1 4 1 0 = σ.1 8 7 0 ∧ 0 ≤ σ.1 8 7 0 ∧ σ.1 8 7 0 ≤ 100) ∧ ∀ j : Nat, j < 100 → (j : Int) < (σ.1 8 7 0).toInt → σ.2.1 4 0 0 j = σ.2.1 8 8 0 j ∧ 0 ≤ σ.2.1 8 8 0 j ∧ σ.2.1 8 8 0 j ≤ 127
def I_ac (σ : Sto) : Prop := σ.1 0 1 0 = σ.1 8 33 0 ∧ 0 ≤ σ.1 8 33 0 ∧ σ.1 8 33 0 ≤ 1000 ∧ ∀ j : Nat, j < 20 → (j : Int) < (σ.1 8 33 0).toInt → σ.2.1 0 0 0 j = σ.2.1 8 34 0 j
def I_tp (σ : Sto) : Prop := ∀ t : Nat, t < 6 → (σ.1 3 1 t = σ.2.1 8 40 0 t ∧ -1 ≤ σ.2.1 8 40 0 t ∧ σ.2.1 8 40 0 t ≤ 4) ∧ (σ.1 3 2 t = σ.2.1 8 41 0 t ∧ 0 ≤ σ.2.1 8 41 0 t ∧ σ.2.1 8 41 0 t ≤ 60) ∧ ((σ.2.1 8 40 0 t = -1) → σ.2.1 8 41 0 t = 0) ∧ ∀ j : Nat, j < 60 → σ.2.2.1 3 0 t j = σ.2.2.1 8 42 0 (60 * t + j)
theorem snap_things (σ : Sto) : snapM σ 99 = σ.1 8 0 0 := rfl
theorem snap_week (σ : Sto) : snapM σ 100 = σ.1 8 6 0 := rfl
theorem snap_seen (σ : Sto) : snapM σ 101 = σ.1 8 23 0 := rfl
theorem snap_plan (σ : Sto) : snapM σ 102 = σ.1 8 27 0 := rfl
theorem snap_book (σ : Sto) : snapM σ 103 = σ.1 8 30 0 := rfl
theorem snap_holds (σ : Sto) : snapM σ 104 = σ.1 8 14 0 := rfl
theorem snap_kind (σ : Sto) {p : Nat} (h : p < 6) : snapM σ p = σ.2.1 8 1 0 p := by unfold snapM; rw [if_pos h]
theorem snap_v (σ : Sto) {p : Nat} (h : p < 6) : snapM σ (6 + p) = σ.2.1 8 2 0 p := by unfold snapM; rw [if_neg (by omega), if_pos (by omega), Nat.add_sub_cancel_left]
theorem snap_worth (σ : Sto) {p : Nat} (h : p < 6) : snapM σ (12 + p) = σ.2.1 8 3 0 p := by unfold snapM; rw [if_neg (by omega), if_neg (by omega), if_pos (by omega), Nat.add_sub_cancel_left]
theorem snap_depth (σ : Sto) {p : Nat} (h : p < 6) : snapM σ (18 + p) = σ.2.1 8 4 0 p := by unfold snapM; rw [if_neg (by omega), if_neg (by omega), if_neg (by omega), if_pos (by omega), Nat.add_sub_cancel_left]
theorem snap_row (σ : Sto) {p : Nat} (h : p < 24) : snapM σ (24 + p) = σ.2.1 8 5 0 p := by unfold snapM; rw [if_neg (by omega), if_neg (by omega), if_neg (by omega), if_neg (by omega), if_pos (by omega), Nat.add_sub_cancel_left]
theorem snap_s1 (σ : Sto) {p : Nat} (h : p < 5) : snapM σ (48 + p) = σ.2.1 8 24 0 p := by unfold snapM; rw [if_neg (by omega), if_neg (by omega), if_neg (by omega), if_neg (by omega), if_neg (by omega), if_pos (by omega), Nat.add_sub_cancel_left]
theorem snap_s2 (σ : Sto) {p : Nat} (h : p < 5) : snapM σ (53 + p) = σ.2.1 8 25 0 p := by unfold snapM; rw [if_neg (by omega), if_neg (by omega), if_neg (by omega), if_neg (by omega), if_neg (by omega), if_neg (by omega), if_pos (by omega), Nat.add_sub_cancel_left]
theorem snap_s3 (σ : Sto) {p : Nat} (h : p < 5) : snapM σ (58 + p) = σ.2.1 8 26 0 p := by unfold snapM; rw [if_neg (by omega), if_neg (by omega), if_neg (by omega), if_neg (by omega), if_neg (by omega), if_neg (by omega), if_neg (by omega), if_pos (by omega), Nat.add_sub_cancel_left]
theorem snap_p1 (σ : Sto) {p : Nat} (h : p < 10) : snapM σ (63 + p) = σ.2.1 8 28 0 p := by unfold snapM; rw [if_neg (by omega), if_neg (by omega), if_neg (by omega), if_neg (by omega), if_neg (by omega), if_neg (by omega), if_neg (by omega), if_neg (by omega), if_pos (by omega), Nat.add_sub_cancel_left]
theorem snap_p2 (σ : Sto) {p : Nat} (h : p < 10) : snapM σ (73 + p) = σ.2.1 8 29 0 p := by unfold snapM; rw [if_neg (by omega), if_neg (by omega), if_neg (by omega), if_neg (by omega), if_neg (by omega), if_neg (by omega), if_neg (by omega), if_neg (by omega), if_neg (by omega), if_pos (by omega), Nat.add_sub_cancel_left]
theorem snap_b1 (σ : Sto) {p : Nat} (h : p < 8) : snapM σ (83 + p) = σ.2.1 8 31 0 p := by unfold snapM; rw [if_neg (by omega), if_neg (by omega), if_neg (by omega), if_neg (by omega), if_neg (by omega), if_neg (by omega), if_neg (by omega), if_neg (by omega), if_neg (by omega), if_neg (by omega), if_pos (by omega), Nat.add_sub_cancel_left]
theorem snap_b2 (σ : Sto) {p : Nat} (h : p < 8) : snapM σ (91 + p) = σ.2.1 8 32 0 p := by unfold snapM; rw [if_neg (by omega), if_neg (by omega), if_neg (by omega), if_neg (by omega), if_neg (by omega), if_neg (by omega), if_neg (by omega), if_neg (by omega), if_neg (by omega), if_neg (by omega), if_neg (by omega), if_pos (by omega), Nat.add_sub_cancel_left]
theorem count_eq {σ : Sto} {x : Int32} (h : RWn σ 0 (snapM σ)) (h2 : RWs σ 0 (snapM σ)) (h3 : RWp σ 0 (snapM σ)) (h4 : RWb σ 0 (snapM σ)) (h5 : I_tx σ) (h6 : I_ac σ) (h7 : σ.1 7 7 0 = σ.1 8 13 0) : ∃ r, f_X7_count σ x = some r ∧ f_X8_count σ x = some r := by
  have e1 := h.1.1
  have e2 := h2.1.2.1
  have e3 := h3.1.2.1
  have e4 := h4.1.2.1
  have e5 := h5.1.1
  have e6 := h6.1
  rw [snap_things] at e1
  rw [snap_seen] at e2
  rw [snap_plan] at e3
  rw [snap_book] at e4
  have hh : f_X7_count σ x = f_X8_count σ x := by
    unfold f_X7_count f_X8_count
    rw [e1, e2, e3, e4, e5, e6, h7]
  rw [hh]
  have : ∃ r, f_X8_count σ x = some r := by
    unfold f_X8_count
    repeat' split
    all_goals exact ⟨_, rfl⟩
  obtain ⟨r, hr⟩ := this
  exact ⟨r, hr, hr⟩
