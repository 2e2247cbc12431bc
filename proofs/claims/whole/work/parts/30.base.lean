-- THE FUNCTIONS' EQUALITY: small functions in closed form
theorem isUpTo_eq (n m : Int32) : f_X7_isUpTo n m = some (if 0 ≤ n ∧ n ≤ m then 1 else 0) := by
  unfold f_X7_isUpTo
  grind
theorem within_eq (n a b : Int32) : f_X8_within n a b = some (if a ≤ n ∧ n ≤ b then 1 else 0) := by
  unfold f_X8_within
  grind
theorem isTape_eq (n : Int32) : f_X7_isTape n = some (if 0 ≤ n ∧ n ≤ 5 then 1 else 0) := by
  unfold f_X7_isTape
  rw [isUpTo_eq]
  grind
theorem isTape8_eq (n : Int32) : f_X8_isTape n = some (if 0 ≤ n ∧ n ≤ 5 then 1 else 0) := by
  unfold f_X8_isTape
  rw [within_eq]
  grind
theorem max_eq (x y : Int32) : f_J9_max_7cf53 x y = some (if x < y then y else x) := by
  unfold f_J9_max_7cf53
  grind
theorem min_eq (x y : Int32) : f_J9_min_7cf53 x y = some (if y < x then y else x) := by
  unfold f_J9_min_7cf53
  grind
theorem isThing_eq (σ : Sto) (n : Int32) : f_X7_isThing σ n = some (if 0 ≤ n ∧ n < σ.1 6 1 0 then 1 else 0) := by
  unfold f_X7_isThing
  grind
theorem isOne_eq (σ : Sto) (n : Int32) : f_X8_isOne σ n = some (if 0 ≤ n ∧ n ≤ σ.1 8 0 0 - 1 then 1 else 0) := by
  unfold f_X8_isOne
  rw [within_eq]
  grind
theorem orNever_eq (n : Int32) : f_X7_orNever n = some (if n = 61 then -5 else n) := by
  unfold f_X7_orNever
  grind
theorem held_eq (n : Int32) : f_X8_held n = some (if (0 : Int32) < (if n < 99 then n else 99) then (if n < 99 then n else 99) else 0) := by
  unfold f_X8_held
  rw [min_eq]
  simp only [Option.bind_some]
  rw [max_eq]
  rfl
theorem above_eq (k : Int32) : f_X8_above k = some (if k = 4 then 1 else if k = 5 then 2 else if k = 6 then 3 else 0) := by
  unfold f_X8_above
  grind
theorem xor_nn {w : Int32} (h : 0 ≤ w) : 0 ≤ w ^^^ 4 := by
  have h1 : (w ^^^ (4 : Int32)).toBitVec = w.toBitVec ^^^ (4#32) := rfl
  have h2 : w.toBitVec.msb = false := by
    have := Int32.le_iff_toInt_le.mp h
    have h3 : (0 : Int) ≤ w.toBitVec.toInt := by simpa using this
    rw [BitVec.msb_eq_toInt]
    simpa using h3
  rw [Int32.le_iff_toInt_le]
  show (0 : Int) ≤ (w ^^^ (4 : Int32)).toBitVec.toInt
  rw [h1]
  have h4 : (w.toBitVec ^^^ (4#32)).msb = false := by rw [BitVec.msb_xor, h2]; rfl
  rw [BitVec.msb_eq_toInt] at h4
  simpa using h4
theorem floorMod4 (w : Int32) (h : 0 ≤ w) : f_J9_floorMod_7cf53 w 4 = some (w - w / 4 * 4) := by
  unfold f_J9_floorMod_7cf53 nmI
  rw [if_pos (by decide)]
  dsimp only
  rw [if_pos (xor_nn h)]
-- reading back what was written
theorem sF1 (σ : Sto) (c k i c' k' i' : Nat) (v : Int32) : (sF σ c k i v).1 c' k' i' = if c' = c ∧ k' = k ∧ i' = i then v else σ.1 c' k' i' := rfl
theorem sF2 (σ : Sto) (c k i : Nat) (v : Int32) : (sF σ c k i v).2 = σ.2 := rfl
theorem sA1 (σ : Sto) (c k i : Nat) (f : Nat → Int32) : (sA σ c k i f).1 = σ.1 := rfl
theorem sA2 (σ : Sto) (c k i c' k' i' : Nat) (f : Nat → Int32) : (sA σ c k i f).2.1 c' k' i' = if c' = c ∧ k' = k ∧ i' = i then f else σ.2.1 c' k' i' := rfl
theorem sA3 (σ : Sto) (c k i : Nat) (f : Nat → Int32) : (sA σ c k i f).2.2 = σ.2.2 := rfl
theorem sL1 (σ : Sto) (c k i : Nat) (f : Nat → Int64) : (sL σ c k i f).1 = σ.1 := rfl
theorem sL2 (σ : Sto) (c k i : Nat) (f : Nat → Int64) : (sL σ c k i f).2.1 = σ.2.1 := rfl
theorem sL3 (σ : Sto) (c k i c' k' i' : Nat) (f : Nat → Int64) : (sL σ c k i f).2.2.1 c' k' i' = if c' = c ∧ k' = k ∧ i' = i then f else σ.2.2.1 c' k' i' := rfl
theorem sL4 (σ : Sto) (c k i : Nat) (f : Nat → Int64) : (sL σ c k i f).2.2.2 = σ.2.2.2 := rfl
theorem sT1 (σ : Sto) (t : Nat) : (sT σ t).1 = σ.1 := rfl
theorem sT2 (σ : Sto) (t : Nat) : (sT σ t).2.1 = σ.2.1 := rfl
theorem sT3 (σ : Sto) (t : Nat) : (sT σ t).2.2.1 = σ.2.2.1 := rfl
theorem sT4 (σ : Sto) (t : Nat) : (sT σ t).2.2.2 = t := rfl
