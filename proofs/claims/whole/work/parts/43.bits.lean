-- THE EVALUATION OF A PASS: a stack of answers, as bits of an int (the class) and as a row (the reference)
def Bt (x : Int32) (st : List Bool) : Prop := ∀ (i : Nat) (h : i < st.length), x.toBitVec.getLsbD i = st[i]
theorem sh1 : (1 &&& 31 : Int32) = 1 := by decide
theorem bv_shl (x : Int32) : (x <<< (1 : Int32)).toBitVec = x.toBitVec <<< 1 := by
  first | rfl | simp [Int32.toBitVec_shiftLeft]
theorem bv_shr (x : Int32) : (x >>> (1 : Int32)).toBitVec = x.toBitVec.sshiftRight 1 := by
  first | rfl | simp [Int32.toBitVec_shiftRight]
theorem bv_m2 : (-2 : Int32).toBitVec = ~~~ (1#32) := by decide
theorem Bt_nil (x : Int32) : Bt x [] := by
  intro i h; simp at h
theorem Bt_push {x : Int32} {st : List Bool} (h : Bt x st) (hl : st.length < 30) (b : Bool) : Bt ((x <<< (1 &&& 31)) ||| (if b = true then 1 else 0)) (b :: st) := by
  intro i hi
  rw [sh1, Int32.toBitVec_or, bv_shl, BitVec.getLsbD_or, BitVec.getLsbD_shiftLeft]
  have h31 : i < 32 := by simp at hi; omega
  cases i with
  | zero => cases b <;> simp
  | succ i =>
    have h2 := h i (by simpa using hi)
    have h3 : (if b = true then (1 : Int32) else 0).toBitVec.getLsbD (i + 1) = false := by cases b <;> simp [BitVec.getLsbD_one]
    rw [h3]
    simp [h2, h31]
theorem Bt_not {x : Int32} {b : Bool} {t : List Bool} (h : Bt x (b :: t)) (hl : t.length < 30) : Bt (x ^^^ 1) ((!b) :: t) := by
  intro i hi
  have h2 := h i (by simpa using hi)
  have h31 : i < 32 := by simp at hi; omega
  rw [Int32.toBitVec_xor, BitVec.getLsbD_xor, h2]
  cases i with
  | zero => simp
  | succ i =>
    have h3 : (1 : Int32).toBitVec.getLsbD (i + 1) = false := by simp [BitVec.getLsbD_one]
    rw [h3]
    simp
theorem Bt_and {x : Int32} {a b : Bool} {t : List Bool} (h : Bt x (b :: a :: t)) (hl : t.length < 29) : Bt ((x >>> (1 &&& 31)) &&& (x ||| (-2 : Int32))) ((a && b) :: t) := by
  intro i hi
  have h31 : i < 29 := by simp at hi; omega
  rw [sh1, Int32.toBitVec_and, Int32.toBitVec_or, bv_shr, bv_m2, BitVec.getLsbD_and, BitVec.getLsbD_or, BitVec.getLsbD_sshiftRight, BitVec.getLsbD_not]
  have h1 := h (i + 1) (by simp at hi ⊢; omega)
  have h4 : 1 + i < 32 := by omega
  have h5 : 1 + i = i + 1 := by omega
  have h6 : i < 32 := by omega
  cases i with
  | zero =>
    have h0 := h 0 (by simp)
    simp at h0 h1
    simp [h0, h1]
  | succ i =>
    have h3 : (1#32).getLsbD (i + 1) = false := by simp [BitVec.getLsbD_one]
    rw [h3]
    simp at h1
    have h8 : ¬ 31 ≤ i := by omega
    have h9 : i + 1 + 1 < 32 := by omega
    simp [h1, h4, h5, h6]
    rw [if_pos h9]
    simp [h8]
theorem Bt_or {x : Int32} {a b : Bool} {t : List Bool} (h : Bt x (b :: a :: t)) (hl : t.length < 29) : Bt ((x >>> (1 &&& 31)) ||| (x &&& 1)) ((a || b) :: t) := by
  intro i hi
  have h31 : i < 29 := by simp at hi; omega
  rw [sh1, Int32.toBitVec_or, Int32.toBitVec_and, bv_shr, BitVec.getLsbD_or, BitVec.getLsbD_and, BitVec.getLsbD_sshiftRight]
  have h1 := h (i + 1) (by simp at hi ⊢; omega)
  have h4 : 1 + i < 32 := by omega
  have h5 : 1 + i = i + 1 := by omega
  have h6 : i < 32 := by omega
  cases i with
  | zero =>
    have h0 := h 0 (by simp)
    simp at h0 h1
    simp [h0, h1]
  | succ i =>
    have h3 : (1 : Int32).toBitVec.getLsbD (i + 1) = false := by simp [BitVec.getLsbD_one]
    rw [h3]
    simp at h1
    have h8 : ¬ 31 ≤ i := by omega
    have h9 : i + 1 + 1 < 32 := by omega
    simp [h1, h4, h5, h6]
    rw [if_pos h9]
    simp [h8]
theorem Bt_low {x : Int32} {b : Bool} {t : List Bool} (h : Bt x (b :: t)) : (x &&& 1) = (if b = true then 1 else 0) := by
  have h0 := h 0 (by simp)
  apply Int32.toBitVec_inj.mp
  apply BitVec.eq_of_getLsbD_eq
  intro i hi
  rw [Int32.toBitVec_and, BitVec.getLsbD_and]
  cases i with
  | zero =>
    simp at h0
    cases b <;> simp [h0]
  | succ i =>
    have h3 : (1 : Int32).toBitVec.getLsbD (i + 1) = false := by simp [BitVec.getLsbD_one]
    rw [h3]
    cases b <;> simp [BitVec.getLsbD_one]
def Bs (F : Nat → Int32) : List Bool → Prop
  | [] => True
  | b :: t => F t.length = (if b = true then 1 else 0) ∧ Bs F t
theorem Bs_upd {F : Nat → Int32} {x : Int32} {k : Nat} : ∀ {t : List Bool}, t.length ≤ k → Bs F t → Bs (upd F k x) t
  | [], _, _ => trivial
  | b :: t, h, h2 => by
    simp at h
    refine ⟨?_, Bs_upd (by omega) h2.2⟩
    rw [upd_at, if_neg (by omega)]
    exact h2.1
-- the test that a code names
def tst (c : Int32) (fx : Nat → Int32) : Bool :=
  if (c - 3) / 100 - (c - 3) / 100 / 3 * 3 = 0 then decide (fx ((c - 3) / 300).toNatClampNeg < (c - 3) - (c - 3) / 100 * 100)
  else if (c - 3) / 100 - (c - 3) / 100 / 3 * 3 = 1 then decide (fx ((c - 3) / 300).toNatClampNeg = (c - 3) - (c - 3) / 100 * 100)
  else decide ((c - 3) - (c - 3) / 100 * 100 < fx ((c - 3) / 300).toNatClampNeg)
def tst_ok (l s v : Nat) : Bool := decide ((nI (3 + 300 * l + 100 * s + v) - 3) / 300 = nI l ∧ (nI (3 + 300 * l + 100 * s + v) - 3) - (nI (3 + 300 * l + 100 * s + v) - 3) / 100 * 100 = nI v ∧ (nI (3 + 300 * l + 100 * s + v) - 3) / 100 - (nI (3 + 300 * l + 100 * s + v) - 3) / 100 / 3 * 3 = nI s ∧ ¬ nI (3 + 300 * l + 100 * s + v) < 3 ∧ ¬ nI (3 + 300 * l + 100 * s + v) = 0 ∧ ¬ nI (3 + 300 * l + 100 * s + v) = 1 ∧ ¬ nI (3 + 300 * l + 100 * s + v) = 2)
set_option maxRecDepth 100000 in
theorem tst_all : ∀ l, l < 6 → ∀ s, s < 3 → ∀ v, v < 100 → tst_ok l s v = true := by decide +kernel
theorem tst_ar (l : Nat) (hl : l < 6) (s : Nat) (hs : s < 3) (v : Nat) (hv : v < 100) : (nI (3 + 300 * l + 100 * s + v) - 3) / 300 = nI l ∧ (nI (3 + 300 * l + 100 * s + v) - 3) - (nI (3 + 300 * l + 100 * s + v) - 3) / 100 * 100 = nI v ∧ (nI (3 + 300 * l + 100 * s + v) - 3) / 100 - (nI (3 + 300 * l + 100 * s + v) - 3) / 100 / 3 * 3 = nI s ∧ ¬ nI (3 + 300 * l + 100 * s + v) < 3 ∧ ¬ nI (3 + 300 * l + 100 * s + v) = 0 ∧ ¬ nI (3 + 300 * l + 100 * s + v) = 1 ∧ ¬ nI (3 + 300 * l + 100 * s + v) = 2 := of_decide_eq_true (tst_all l hl s hs v hv)
def evC (c : Int32) (fx : Nat → Int32) (st : List Bool) : List Bool :=
  if c = 0 then (match st with | b :: t => (!b) :: t | [] => [])
  else if c = 1 then (match st with | b :: a :: t => (a && b) :: t | _ => [])
  else if c = 2 then (match st with | b :: a :: t => (a || b) :: t | _ => [])
  else tst c fx :: st
def evs (fx : Nat → Int32) : List Int32 → List Bool → List Bool
  | [], st => st
  | c :: cs, st => evs fx cs (evC c fx st)
/-- what a PASS gives: the n of all warm whose E holds, less those of all frost, from clause i on -/
def wsP (fx : Nat → Int32) (wd nu : Nat → Int32) (C : Nat → List Int32) : Nat → Nat → Int32
  | 0, _ => 0
  | d + 1, i => (if wd i = 2 then 0 else if (evs fx (C i) []).head? = some true then (if wd i = 0 then nu i else - nu i) else 0) + wsP fx wd nu C d (i + 1)
theorem dp_evC {c : Int32} {cs : List Int32} {fx : Nat → Int32} {st : List Bool} {e : Nat} (h : dp (c :: cs) st.length = some e) : dp cs (evC c fx st).length = some e ∧ ((c = 0 ∧ ∃ b t, st = b :: t) ∨ ((c = 1 ∨ c = 2) ∧ ∃ b a t, st = b :: a :: t) ∨ (¬ c = 0 ∧ ¬ c = 1 ∧ ¬ c = 2 ∧ st.length < 30)) := by
  unfold dp at h
  unfold evC
  by_cases h0 : c = 0
  · simp only [h0, if_true] at h ⊢
    match st with
    | [] => simp at h
    | b :: t => simp at h; exact ⟨by simpa using h, Or.inl ⟨trivial, b, t, rfl⟩⟩
  · by_cases h12 : c = 1 ∨ c = 2
    · rw [if_neg h0, if_pos h12] at h
      match st with
      | [] => simp at h
      | [b] => simp at h
      | b :: a :: t =>
        simp at h
        refine ⟨?_, Or.inr (Or.inl ⟨h12, b, a, t, rfl⟩)⟩
        rw [if_neg h0]
        rcases h12 with rfl | rfl
        · simpa using h
        · rw [if_neg (by decide)]; simpa using h
    · rw [if_neg h0, if_neg h12] at h
      by_cases h30 : st.length < 30
      · rw [if_pos h30] at h
        have h1 : ¬ c = 1 := fun q => h12 (Or.inl q)
        have h2 : ¬ c = 2 := fun q => h12 (Or.inr q)
        refine ⟨?_, Or.inr (Or.inr ⟨h0, h1, h2, h30⟩)⟩
        rw [if_neg h0, if_neg h1, if_neg h2]
        simpa using h
      · rw [if_neg h30] at h; exact absurd h (by simp)
theorem dp_le {cs : List Int32} : ∀ {d e : Nat}, dp cs d = some e → d ≤ 30 → e ≤ 30 := by
  induction cs with
  | nil => intro d e h hd; simp [dp] at h; omega
  | cons c cs ih =>
    intro d e h hd
    unfold dp at h
    split at h
    · split at h
      · exact ih h hd
      · simp at h
    · split at h
      · split at h
        · exact ih h (by omega)
        · simp at h
      · split at h
        · exact ih h (by omega)
        · simp at h
