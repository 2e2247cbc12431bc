theorem cntN_s (O : Nat → Bool) (j : Nat) : cntN O (j + 1) = if O j = true then cntN O j + 1 else cntN O j := rfl
theorem crI_s (X : Nat → Nat → Bool) (p d q : Nat) (s : Int32 × Int32) : crI X p (d + 1) q s = if X p q = true then crI X p d (q + 1) (s.1 + 1, if s.2 = -5 then nI (10 * p + q) else s.2) else crI X p d (q + 1) s := rfl
/-- WORTH and WHEN as the class has them -/
def Vc (s : Sto) (T : Nat) (v : Nat → Int32) (W : Nat → Nat) : Prop := T ≤ 6 ∧ s.1 6 1 0 = nI T ∧ ∀ q, q < T → s.1 5 3 q = v q ∧ s.2.1 7 4 0 q = nI (W q) ∧ W q ≤ 61
theorem isCr {s : Sto} {T p q : Nat} {v : Nat → Int32} {W : Nat → Nat} (h : Vc s T v W) (hp : p < T) (hq : q < T) : f_X7_isCrossed s (nI p) (nI q) = some (if v q < v p ∧ W p < W q then 1 else 0) := by
  obtain ⟨hT, -, h1⟩ := h
  obtain ⟨p1, p2, p3⟩ := h1 p hp
  obtain ⟨q1, q2, q3⟩ := h1 q hq
  have a1 : (0 : Int32) ≤ nI p ∧ nI p < 6 := nI_r (N := 6) (by omega) (by decide)
  have a2 : (0 : Int32) ≤ nI q ∧ nI q < 6 := nI_r (N := 6) (by omega) (by decide)
  unfold f_X7_isCrossed
  simp only [a1, a2, and_self, if_true, nI_clamp (show p < 2 ^ 31 by omega), nI_clamp (show q < 2 ^ 31 by omega), Nat.mul_zero, Nat.zero_add, p1, p2, q1, q2]
  have hw : nI (W q) ≤ nI (W p) ↔ W q ≤ W p := nI_leI (by omega) (by omega)
  by_cases c1 : v p ≤ v q
  · rw [if_pos c1, if_neg (by intro h; have := h.1; grind)]
  · by_cases c2 : W q ≤ W p
    · rw [if_neg c1, if_pos (hw.mpr c2), if_neg (by omega)]
    · rw [if_neg c1, if_neg (fun u => c2 (hw.mp u)), if_pos ⟨by grind, by omega⟩]
theorem cr7_I {s : Sto} {T p : Nat} {v : Nat → Int32} {W : Nat → Nat} (h : Vc s T v W) (hp : p < T) (k8 : Sto → Int32 → Int32 → Int32 → Option (Int32 × Sto)) : ∀ (d q : Nat), q + d = T → ∀ n, d < n → ∀ m, f_X7_crossed_L24 k8 n s 0 m (nI p) (nI q) = k8 s 0 (crI (crX v W) p d q (m, -5)).1 (nI (p + 1)) ∧ f_X7_crossed_L24 k8 n s 1 m (nI p) (nI q) = if (crI (crX v W) p d q (m, -5)).2 = -5 then k8 s 1 m (nI (p + 1)) else some ((crI (crX v W) p d q (m, -5)).2, s) := by
  have hT := h.1
  intro d
  induction d with
  | zero =>
    intro q hq n hn m
    obtain ⟨n, rfl⟩ : ∃ q, n = q + 1 := ⟨n - 1, by omega⟩
    have hle : nI T ≤ nI q := by rw [show q = T by omega]; grind
    constructor
    · show f_X7_crossed_B24 k8 _ s _ _ _ _ = _
      unfold f_X7_crossed_B24
      rw [h.2.1, if_pos hle]
      simp only [nmI, nI_1, crI]
    · show f_X7_crossed_B24 k8 _ s _ _ _ _ = _
      unfold f_X7_crossed_B24
      rw [h.2.1, if_pos hle]
      simp only [nmI, nI_1, crI, if_true]
  | succ d ih =>
    intro q hq n hn m
    obtain ⟨n, rfl⟩ : ∃ q, n = q + 1 := ⟨n - 1, by omega⟩
    have hnl : ¬ nI T ≤ nI q := nI_ge (by omega) (by omega)
    have c1 := isCr h hp (show q < T by omega)
    have c2 := isCr h (show q < T by omega) hp
    have hX : crX v W p q = decide ((v q < v p ∧ W p < W q) ∨ (v p < v q ∧ W q < W p)) := rfl
    have e10 : (10 : Int32) * nI p + nI q = nI (10 * p + q) := by rw [show (10 : Int32) = nI 10 from rfl, nI_mulN, nI_add]
    have hB : ∀ x1, f_X7_crossed_L24 k8 (n + 1) s x1 m (nI p) (nI q) = f_X7_crossed_B24 k8 (f_X7_crossed_L24 k8 n) s x1 m (nI p) (nI q) := fun _ => rfl
    have hbr : ∀ x1, f_X7_crossed_B24 k8 (f_X7_crossed_L24 k8 n) s x1 m (nI p) (nI q) = if crX v W p q = true then f_X7_crossed_L59 k8 (f_X7_crossed_L24 k8 n) s x1 m (nI p) (nI q) else f_X7_crossed_L24 k8 n s x1 m (nI p) (nI (q + 1)) := by
      intro x1
      unfold f_X7_crossed_B24
      rw [h.2.1, if_neg hnl, c1]
      by_cases g1 : v q < v p ∧ W p < W q
      · have : crX v W p q = true := by rw [hX]; simp [g1]
        simp only [g1, and_self, if_true, Option.bind_some, h10, if_false, this]
      · simp only [g1, if_false, Option.bind_some, if_true]
        rw [c2]
        by_cases g2 : v p < v q ∧ W q < W p
        · have : crX v W p q = true := by rw [hX]; simp [g2]
          simp only [g2, and_self, if_true, Option.bind_some, h10, if_false, this]
        · have : crX v W p q = false := by
            rw [hX]
            simp only [decide_eq_false_iff_not]
            intro hh
            rcases hh with hh | hh
            · exact g1 hh
            · exact g2 hh
          simp only [g2, if_false, Option.bind_some, if_true, nmI, nI_1, this, Bool.false_eq_true]
    by_cases hx : crX v W p q = true
    · constructor
      · rw [hB, hbr, if_pos hx]
        unfold f_X7_crossed_L59
        simp only [if_true, nmI, nI_1]
        rw [(ih (q + 1) (by omega) n (by omega) (m + 1)).1]
        congr 1
        rw [crI_s, if_pos hx]
        exact crI_1 _ _ _ _ _ _ _
      · rw [hB, hbr, if_pos hx]
        unfold f_X7_crossed_L59
        simp only [h10, if_false, e10]
        have h2 : (crI (crX v W) p (d + 1) q (m, -5)).2 = nI (10 * p + q) := by
          rw [crI_s, if_pos hx]
          simp only [if_true]
          exact crI_k _ _ _ _ _ _ (ne5 (by omega))
        rw [h2, if_neg (ne5 (by omega))]
    · have hcr : ∀ st, crI (crX v W) p (d + 1) q st = crI (crX v W) p d (q + 1) st := by
        intro st
        show (if crX v W p q = true then _ else _) = _
        rw [if_neg hx]
      constructor
      · rw [hB, hbr, if_neg hx, (ih (q + 1) (by omega) n (by omega) m).1, hcr]
      · rw [hB, hbr, if_neg hx, (ih (q + 1) (by omega) n (by omega) m).2, hcr]
theorem cr7_O {s : Sto} {T : Nat} {v : Nat → Int32} {W : Nat → Nat} (h : Vc s T v W) : ∀ (d p : Nat), p + d = T → ∀ n, d < n → ∀ m, f_X7_crossed_L8 n s 0 m (nI p) = some ((crO (crX v W) T d p (m, -5)).1, s) ∧ f_X7_crossed_L8 n s 1 m (nI p) = some ((crO (crX v W) T d p (m, -5)).2, s) := by
  have hT := h.1
  intro d
  induction d with
  | zero =>
    intro p hp n hn m
    obtain ⟨n, rfl⟩ : ∃ q, n = q + 1 := ⟨n - 1, by omega⟩
    have hle : nI T ≤ nI p := by rw [show p = T by omega]; grind
    constructor
    · show f_X7_crossed_B8 _ s _ _ _ = _
      unfold f_X7_crossed_B8
      rw [h.2.1, if_pos hle, if_pos rfl]
      rfl
    · show f_X7_crossed_B8 _ s _ _ _ = _
      unfold f_X7_crossed_B8
      rw [h.2.1, if_pos hle, if_neg h10]
      rfl
  | succ d ih =>
    intro p hp n hn m
    obtain ⟨n, rfl⟩ : ∃ q, n = q + 1 := ⟨n - 1, by omega⟩
    have hnl : ¬ nI T ≤ nI p := nI_ge (by omega) (by omega)
    have hin := (fun (key : ∀ M, 10 < M → ∀ m, f_X7_crossed_L24 (f_X7_crossed_L8 n) M s 0 m (nI p) (nI (p + 1)) = f_X7_crossed_L8 n s 0 (crI (crX v W) p (T - (p + 1)) (p + 1) (m, -5)).1 (nI (p + 1)) ∧ f_X7_crossed_L24 (f_X7_crossed_L8 n) M s 1 m (nI p) (nI (p + 1)) = if (crI (crX v W) p (T - (p + 1)) (p + 1) (m, -5)).2 = -5 then f_X7_crossed_L8 n s 1 m (nI (p + 1)) else some ((crI (crX v W) p (T - (p + 1)) (p + 1) (m, -5)).2, s)) => key 1000 (by decide)) (fun M hM m => cr7_I h (show p < T by omega) (f_X7_crossed_L8 n) (T - (p + 1)) (p + 1) (by omega) M (by omega) m)
    have ih' := fun m => ih (p + 1) (by omega) n (by omega) m
    have hcr : ∀ st, crO (crX v W) T (d + 1) p st = crO (crX v W) T d (p + 1) (crI (crX v W) p (T - (p + 1)) (p + 1) st) := fun _ => rfl
    constructor
    · show f_X7_crossed_B8 _ s _ _ _ = _
      unfold f_X7_crossed_B8
      rw [h.2.1, if_neg hnl]
      simp only [nmI, nI_1]
      rw [(hin m).1, (ih' _).1, hcr]
      generalize crI (crX v W) p (T - (p + 1)) (p + 1) (m, -5) = a
      obtain ⟨a1, a2⟩ := a
      rw [crO_1 _ _ _ _ _ _ a2]
    · show f_X7_crossed_B8 _ s _ _ _ = _
      unfold f_X7_crossed_B8
      rw [h.2.1, if_neg hnl]
      simp only [nmI, nI_1]
      rw [(hin m).2, hcr]
      generalize crI (crX v W) p (T - (p + 1)) (p + 1) (m, -5) = a
      obtain ⟨a1, a2⟩ := a
      dsimp only
      by_cases h5 : a2 = -5
      · rw [if_pos h5, (ih' m).2, h5, crO_2 _ _ _ _ m a1]
      · rw [if_neg h5, crO_k _ _ _ _ _ _ h5]
/-- WORTH and WHEN as the reference has them -/
def Vm (s : Sto) (T : Nat) (v : Nat → Int32) (W : Nat → Nat) : Prop := T ≤ 6 ∧ s.1 8 0 0 = nI T ∧ ∀ q, q < T → s.2.1 8 3 0 q = v q ∧ s.2.1 8 38 0 q = wM (W q) ∧ W q ≤ 61
theorem cr8_I {s : Sto} {T p : Nat} {v : Nat → Int32} {W : Nat → Nat} (h : Vm s T v W) (hp : p < T) (x1 : Int32) (k12 : Sto → Int32 → Int32 → Int32 → Int32 → Option (Int32 × Sto)) : ∀ (d q : Nat), q + d = T → ∀ n, d < n → ∀ m f, f_X8_crossed_L27 k12 n s x1 m f (nI p) (nI q) = k12 s x1 (crI (crX v W) p d q (m, f)).1 (crI (crX v W) p d q (m, f)).2 (nI (p + 1)) := by
  obtain ⟨hT, hT8, hv⟩ := h
  intro d
  induction d with
  | zero =>
    intro q hq n hn m f
    obtain ⟨n, rfl⟩ : ∃ q, n = q + 1 := ⟨n - 1, by omega⟩
    have hle : nI T ≤ nI q := by rw [show q = T by omega]; grind
    show f_X8_crossed_B27 k12 _ s _ _ _ _ _ = _
    unfold f_X8_crossed_B27
    rw [hT8, if_pos hle]
    simp only [nmI, nI_1, crI]
  | succ d ih =>
    intro q hq n hn m f
    obtain ⟨n, rfl⟩ : ∃ q, n = q + 1 := ⟨n - 1, by omega⟩
    have hnl : ¬ nI T ≤ nI q := nI_ge (by omega) (by omega)
    obtain ⟨p1, p2, p3⟩ := hv p hp
    obtain ⟨q1, q2, q3⟩ := hv q (by omega)
    have a1 : (0 : Int32) ≤ nI p ∧ nI p < 6 := nI_r (N := 6) (by omega) (by decide)
    have a2 : (0 : Int32) ≤ nI q ∧ nI q < 6 := nI_r (N := 6) (by omega) (by decide)
    have e10 : (10 : Int32) * nI p + nI q = nI (10 * p + q) := by rw [show (10 : Int32) = nI 10 from rfl, nI_mulN, nI_add]
    have w1 : wM (W p) < wM (W q) ↔ W p < W q := wM_lt p3 q3
    have w2 : wM (W q) < wM (W p) ↔ W q < W p := wM_lt q3 p3
    have hbr : f_X8_crossed_B27 k12 (f_X8_crossed_L27 k12 n) s x1 m f (nI p) (nI q) = if crX v W p q = true then f_X8_crossed_L107 k12 (f_X8_crossed_L27 k12 n) s x1 m f (nI p) (nI q) else f_X8_crossed_L27 k12 n s x1 m f (nI p) (nI (q + 1)) := by
      unfold f_X8_crossed_B27 f_X8_crossed_L70 crX
      simp only [hT8, hnl, if_false, a1, a2, and_self, if_true, nI_clamp (show p < 2 ^ 31 by omega), nI_clamp (show q < 2 ^ 31 by omega), p1, p2, q1, q2, w1, w2, nmI, nI_1, decide_eq_true_eq]
      by_cases c1 : v p ≤ v q
      · have n1 : ¬ v q < v p := by grind
        by_cases c2 : v q ≤ v p
        · have n2 : ¬ v p < v q := by grind
          simp only [c1, c2, n1, n2, if_true, false_and, or_self, if_false]
        · have n2 : v p < v q := by grind
          simp only [c1, c2, n1, n2, if_true, if_false, false_and, true_and, false_or]
      · have n1 : v q < v p := by grind
        have n2 : ¬ v p < v q := by grind
        have c2 : v q ≤ v p := by grind
        simp only [c1, c2, n1, n2, if_true, if_false, false_and, true_and, or_false]
    have hB : f_X8_crossed_L27 k12 (n + 1) s x1 m f (nI p) (nI q) = f_X8_crossed_B27 k12 (f_X8_crossed_L27 k12 n) s x1 m f (nI p) (nI q) := rfl
    rw [hB, hbr]
    by_cases hx : crX v W p q = true
    · rw [if_pos hx]
      unfold f_X8_crossed_L107
      have hcr : crI (crX v W) p (d + 1) q (m, f) = crI (crX v W) p d (q + 1) (m + 1, if f = -5 then nI (10 * p + q) else f) := by
        show (if crX v W p q = true then _ else _) = _
        rw [if_pos hx]
      simp only [nmI, e10, nI_1]
      by_cases h5 : f = -5
      · rw [if_pos h5, ih (q + 1) (by omega) n (by omega), hcr, if_pos h5]
      · rw [if_neg h5, ih (q + 1) (by omega) n (by omega), hcr, if_neg h5]
    · have hcr : crI (crX v W) p (d + 1) q (m, f) = crI (crX v W) p d (q + 1) (m, f) := by
        show (if crX v W p q = true then _ else _) = _
        rw [if_neg hx]
      rw [if_neg hx, ih (q + 1) (by omega) n (by omega), hcr]
theorem cr8_O {s : Sto} {T : Nat} {v : Nat → Int32} {W : Nat → Nat} (h : Vm s T v W) (x1 : Int32) : ∀ (d p : Nat), p + d = T → ∀ n, d < n → ∀ m f, f_X8_crossed_L12 n s x1 m f (nI p) = some ((if x1 = 0 then (crO (crX v W) T d p (m, f)).1 else (crO (crX v W) T d p (m, f)).2), s) := by
  have hT := h.1
  intro d
  induction d with
  | zero =>
    intro p hp n hn m f
    obtain ⟨n, rfl⟩ : ∃ q, n = q + 1 := ⟨n - 1, by omega⟩
    have hle : nI T ≤ nI p := by rw [show p = T by omega]; grind
    show f_X8_crossed_B12 _ s _ _ _ _ = _
    unfold f_X8_crossed_B12
    rw [h.2.1, if_pos hle]
    by_cases h0 : x1 = 0
    · rw [if_pos h0, if_pos h0]; rfl
    · rw [if_neg h0, if_neg h0]; rfl
  | succ d ih =>
    intro p hp n hn m f
    obtain ⟨n, rfl⟩ : ∃ q, n = q + 1 := ⟨n - 1, by omega⟩
    have hnl : ¬ nI T ≤ nI p := nI_ge (by omega) (by omega)
    have hin := (fun (key : ∀ M, 10 < M → f_X8_crossed_L27 (f_X8_crossed_L12 n) M s x1 m f (nI p) (nI (p + 1)) = f_X8_crossed_L12 n s x1 (crI (crX v W) p (T - (p + 1)) (p + 1) (m, f)).1 (crI (crX v W) p (T - (p + 1)) (p + 1) (m, f)).2 (nI (p + 1))) => key 1000 (by decide)) (fun M hM => cr8_I h (show p < T by omega) x1 (f_X8_crossed_L12 n) (T - (p + 1)) (p + 1) (by omega) M (by omega) m f)
    have ih' := fun m f => ih (p + 1) (by omega) n (by omega) m f
    have hcr : ∀ st, crO (crX v W) T (d + 1) p st = crO (crX v W) T d (p + 1) (crI (crX v W) p (T - (p + 1)) (p + 1) st) := fun _ => rfl
    show f_X8_crossed_B12 _ s _ _ _ _ = _
    unfold f_X8_crossed_B12
    rw [h.2.1, if_neg hnl]
    simp only [nmI, nI_1]
    rw [hin, ih', hcr]
-- ORDER
def ky (W : Nat → Nat) (p : Nat) : Nat := W p * 10 + p
def rkO (W : Nat → Nat) (p : Nat) (q : Nat) : Bool := decide (ky W q < ky W p)
theorem cnt_mono {O O' : Nat → Bool} : ∀ T, (∀ q, q < T → O q = true → O' q = true) → cntN O T ≤ cntN O' T
  | 0, _ => Nat.le_refl _
  | T + 1, h => by
    have h1 := cnt_mono T (fun q hq => h q (by omega))
    unfold cntN
    by_cases ho : O T = true
    · rw [if_pos ho, if_pos (h T (by omega) ho)]; omega
    · rw [if_neg ho]; split <;> omega
theorem cnt_lt {O O' : Nat → Bool} {r : Nat} (h1 : O r = false) (h2 : O' r = true) : ∀ T, r < T → (∀ q, q < T → O q = true → O' q = true) → cntN O T < cntN O' T
  | 0, hr, _ => by omega
  | T + 1, hr, h => by
    unfold cntN
    by_cases hrT : r = T
    · subst hrT
      have h3 := cnt_mono r (fun q hq => h q (by omega))
      rw [h1, h2]
      simp
      omega
    · have h3 := cnt_lt h1 h2 T (by omega) (fun q hq => h q (by omega))
      by_cases ho : O T = true
      · rw [if_pos ho, if_pos (h T (by omega) ho)]; omega
      · rw [if_neg ho]; split <;> omega
def rk (W : Nat → Nat) (T p : Nat) : Nat := cntN (rkO W p) T
theorem rk_lt {W : Nat → Nat} {T p : Nat} (hp : p < T) : rk W T p < T := by
  have h : cntN (rkO W p) T < cntN (fun _ => true) T := cnt_lt (r := p) (by unfold rkO; simp) rfl T hp (fun _ _ _ => rfl)
  have h2 := cntN_le (fun _ => true) T
  unfold rk
  omega
theorem rk_inj {W : Nat → Nat} {T p q : Nat} (hp : p < T) (hq : q < T) (hT : T ≤ 6) (h : rk W T p = rk W T q) : p = q := by
  have key : ∀ a b, a < T → b < T → ky W a < ky W b → rk W T a < rk W T b := by
    intro a b ha hb hab
    refine cnt_lt (r := a) (by unfold rkO; simp) (by unfold rkO; simpa using hab) T ha (fun q _ hq => ?_)
    unfold rkO at hq ⊢
    simp only [decide_eq_true_eq] at hq ⊢
    omega
  rcases Nat.lt_trichotomy (ky W p) (ky W q) with h1 | h1 | h1
  · have := key p q hp hq h1; omega
  · unfold ky at h1; omega
  · have := key q p hq hp h1; omega
theorem ord7_I {s : Sto} {T p : Nat} {v : Nat → Int32} {W : Nat → Nat} (h : Vc s T v W) (hp : p < T) (x1 : Int32) (k6 : Sto → Int32 → Int32 → Option (Int32 × Sto)) : ∀ (d q : Nat), q + d = T → ∀ n, d < n → f_X7_inOrder_L22 k6 n s x1 (nI p) (nI (cntN (rkO W p) q)) (nI q) = if nI (rk W T p) = x1 then some (nI p, s) else k6 s x1 (nI (p + 1)) := by
  obtain ⟨hT, hT6, hv⟩ := h
  intro d
  induction d with
  | zero =>
    intro q hq n hn
    obtain ⟨n, rfl⟩ : ∃ q, n = q + 1 := ⟨n - 1, by omega⟩
    have hq2 : q = T := by omega
    subst hq2
    have hle : nI q ≤ nI q := by grind
    show f_X7_inOrder_B22 k6 _ s _ _ _ _ = _
    unfold f_X7_inOrder_B22
    rw [hT6, if_pos hle]
    simp only [nmI, nI_1]
    rfl
  | succ d ih =>
    intro q hq n hn
    obtain ⟨n, rfl⟩ : ∃ q, n = q + 1 := ⟨n - 1, by omega⟩
    have hnl : ¬ nI T ≤ nI q := nI_ge (by omega) (by omega)
    obtain ⟨-, p2, p3⟩ := hv p hp
    obtain ⟨-, q2, q3⟩ := hv q (by omega)
    have a1 : (0 : Int32) ≤ nI p ∧ nI p < 6 := nI_r (N := 6) (by omega) (by decide)
    have a2 : (0 : Int32) ≤ nI q ∧ nI q < 6 := nI_r (N := 6) (by omega) (by decide)
    have w1 : nI (W q) < nI (W p) ↔ W q < W p := nI_ltI (by omega) (by omega)
    have w2 : nI (W q) = nI (W p) ↔ W q = W p := nI_eq (by omega) (by omega)
    have w3 : nI p ≤ nI q ↔ p ≤ q := nI_leI (by omega) (by omega)
    have ih' := ih (q + 1) (by omega) n (by omega)
    have hrk : rkO W p q = decide (W q < W p ∨ (W q = W p ∧ q < p)) := by
      unfold rkO ky
      rw [Bool.eq_iff_iff, decide_eq_true_eq, decide_eq_true_eq]
      omega
    show f_X7_inOrder_B22 k6 _ s _ _ _ _ = _
    unfold f_X7_inOrder_B22
    simp only [hT6, hnl, if_false, a1, a2, and_self, if_true, nI_clamp (show p < 2 ^ 31 by omega), nI_clamp (show q < 2 ^ 31 by omega), p2, q2, w1, w2, w3, nmI, nI_1]
    rw [← ih']
    rw [cntN_s]
    by_cases c1 : W q < W p
    · have : rkO W p q = true := by rw [hrk]; simp [c1]
      rw [if_pos c1, if_pos this]
    · rw [if_neg c1]
      by_cases c2 : W q = W p
      · rw [if_pos c2]
        by_cases c3 : p ≤ q
        · have : ¬ rkO W p q = true := by rw [hrk, decide_eq_true_eq]; omega
          rw [if_pos c3, if_neg this]
        · have : rkO W p q = true := by rw [hrk, decide_eq_true_eq]; omega
          rw [if_neg c3, if_pos this]
      · have : ¬ rkO W p q = true := by rw [hrk, decide_eq_true_eq]; omega
        rw [if_neg c2, if_neg this]
/-- the THING of rank j, from p on; -1: none -/
def atR (W : Nat → Nat) (T : Nat) (x : Int32) : Nat → Nat → Int32
  | 0, _ => -1
  | d + 1, p => if nI (rk W T p) = x then nI p else atR W T x d (p + 1)
theorem atR_s (W : Nat → Nat) (T : Nat) (x : Int32) (d p : Nat) : atR W T x (d + 1) p = if nI (rk W T p) = x then nI p else atR W T x d (p + 1) := rfl
theorem ord7_O {s : Sto} {T : Nat} {v : Nat → Int32} {W : Nat → Nat} (h : Vc s T v W) (x1 : Int32) : ∀ (d p : Nat), p + d = T → ∀ n, d < n → f_X7_inOrder_L6 n s x1 (nI p) = some (atR W T x1 d p, s) := by
  have hT := h.1
  intro d
  induction d with
  | zero =>
    intro p hp n hn
    obtain ⟨n, rfl⟩ : ∃ q, n = q + 1 := ⟨n - 1, by omega⟩
    have hle : nI T ≤ nI p := by rw [show p = T by omega]; grind
    show f_X7_inOrder_B6 _ s _ _ = _
    unfold f_X7_inOrder_B6
    rw [h.2.1, if_pos hle]
    rfl
  | succ d ih =>
    intro p hp n hn
    obtain ⟨n, rfl⟩ : ∃ q, n = q + 1 := ⟨n - 1, by omega⟩
    have hnl : ¬ nI T ≤ nI p := nI_ge (by omega) (by omega)
    have hin := (fun (key : ∀ M, 10 < M → f_X7_inOrder_L22 (f_X7_inOrder_L6 n) M s x1 (nI p) 0 0 = if nI (rk W T p) = x1 then some (nI p, s) else f_X7_inOrder_L6 n s x1 (nI (p + 1))) => key 1000 (by decide)) (fun M hM => by
      have g := ord7_I h (show p < T by omega) x1 (f_X7_inOrder_L6 n) T 0 (by omega) M (by omega)
      have h0 : nI (cntN (rkO W p) 0) = 0 := nI_0
      rw [h0, nI_0] at g
      exact g)
    show f_X7_inOrder_B6 _ s _ _ = _
    unfold f_X7_inOrder_B6
    rw [h.2.1, if_neg hnl, hin, ih (p + 1) (by omega) n (by omega), atR_s]
    by_cases hr : nI (rk W T p) = x1
    · rw [if_pos hr, if_pos hr]
    · rw [if_neg hr, if_neg hr]
theorem ord8_I {s : Sto} {T p : Nat} {v : Nat → Int32} {W : Nat → Nat} (h : Vm s T v W) (hp : p < T) (x1 f : Int32) (k8 : Sto → Int32 → Int32 → Int32 → Option (Int32 × Sto)) : ∀ (d q : Nat), q + d = T → ∀ n, d < n → f_X8_order_L22 k8 n s x1 f (nI p) (nI (cntN (rkO W p) q)) (nI q) = k8 s x1 (if nI (rk W T p) = x1 then nI p else f) (nI (p + 1)) := by
  obtain ⟨hT, hT8, hv⟩ := h
  intro d
  induction d with
  | zero =>
    intro q hq n hn
    obtain ⟨n, rfl⟩ : ∃ q, n = q + 1 := ⟨n - 1, by omega⟩
    have hq2 : q = T := by omega
    subst hq2
    have hle : nI q ≤ nI q := by grind
    show f_X8_order_B22 k8 _ s _ _ _ _ _ = _
    unfold f_X8_order_B22
    rw [hT8, if_pos hle]
    simp only [nmI, nI_1]
    show (if nI (rk W q p) = x1 then k8 s x1 (nI p) (nI (p + 1)) else k8 s x1 f (nI (p + 1))) = _
    by_cases hr : nI (rk W q p) = x1
    · rw [if_pos hr, if_pos hr]
    · rw [if_neg hr, if_neg hr]
  | succ d ih =>
    intro q hq n hn
    obtain ⟨n, rfl⟩ : ∃ q, n = q + 1 := ⟨n - 1, by omega⟩
    have hnl : ¬ nI T ≤ nI q := nI_ge (by omega) (by omega)
    obtain ⟨-, p2, p3⟩ := hv p hp
    obtain ⟨-, q2, q3⟩ := hv q (by omega)
    have a1 : (0 : Int32) ≤ nI p ∧ nI p < 6 := nI_r (N := 6) (by omega) (by decide)
    have a2 : (0 : Int32) ≤ nI q ∧ nI q < 6 := nI_r (N := 6) (by omega) (by decide)
    have w1 : wM (W q) < wM (W p) ↔ W q < W p := wM_lt q3 p3
    have w2 : wM (W q) = wM (W p) ↔ W q = W p := wM_eq q3 p3
    have w3 : nI p ≤ nI q ↔ p ≤ q := nI_leI (by omega) (by omega)
    have ih' := ih (q + 1) (by omega) n (by omega)
    have hrk : rkO W p q = decide (W q < W p ∨ (W q = W p ∧ q < p)) := by
      unfold rkO ky
      rw [Bool.eq_iff_iff, decide_eq_true_eq, decide_eq_true_eq]
      omega
    show f_X8_order_B22 k8 _ s _ _ _ _ _ = _
    unfold f_X8_order_B22
    simp only [hT8, hnl, if_false, a1, a2, and_self, if_true, nI_clamp (show p < 2 ^ 31 by omega), nI_clamp (show q < 2 ^ 31 by omega), p2, q2, w1, w2, w3, nmI, nI_1]
    rw [← ih']
    rw [cntN_s]
    by_cases c1 : W q < W p
    · have : rkO W p q = true := by rw [hrk]; simp [c1]
      rw [if_pos c1, if_pos this]
    · rw [if_neg c1]
      by_cases c2 : W q = W p
      · rw [if_pos c2]
        by_cases c3 : p ≤ q
        · have : ¬ rkO W p q = true := by rw [hrk, decide_eq_true_eq]; omega
          rw [if_pos c3, if_neg this]
        · have : rkO W p q = true := by rw [hrk, decide_eq_true_eq]; omega
          rw [if_neg c3, if_pos this]
      · have : ¬ rkO W p q = true := by rw [hrk, decide_eq_true_eq]; omega
        rw [if_neg c2, if_neg this]
theorem atR_none {W : Nat → Nat} {T : Nat} {x : Int32} : ∀ d p, (∀ q, p ≤ q → q < p + d → ¬ nI (rk W T q) = x) → atR W T x d p = -1
  | 0, _, _ => rfl
  | d + 1, p, h => by
    rw [atR_s, if_neg (h p (by omega) (by omega))]
    exact atR_none d (p + 1) (fun q h1 h2 => h q (by omega) (by omega))
theorem ord8_O {s : Sto} {T : Nat} {v : Nat → Int32} {W : Nat → Nat} (h : Vm s T v W) (x1 : Int32) : ∀ (d p : Nat), p + d = T → ∀ n, d < n → ∀ f, (∀ q, p ≤ q → q < T → f = -1 ∨ ¬ nI (rk W T q) = x1) → f_X8_order_L8 n s x1 f (nI p) = some ((if f = -1 then atR W T x1 d p else f), s) := by
  have hT := h.1
  intro d
  induction d with
  | zero =>
    intro p hp n hn f _
    obtain ⟨n, rfl⟩ : ∃ q, n = q + 1 := ⟨n - 1, by omega⟩
    have hle : nI T ≤ nI p := by rw [show p = T by omega]; grind
    show f_X8_order_B8 _ s _ _ _ = _
    unfold f_X8_order_B8
    rw [h.2.1, if_pos hle]
    congr 2
    unfold atR
    split
    · assumption
    · rfl
  | succ d ih =>
    intro p hp n hn f hf
    obtain ⟨n, rfl⟩ : ∃ q, n = q + 1 := ⟨n - 1, by omega⟩
    have hnl : ¬ nI T ≤ nI p := nI_ge (by omega) (by omega)
    have hin := (fun (key : ∀ M, 10 < M → f_X8_order_L22 (f_X8_order_L8 n) M s x1 f (nI p) 0 0 = f_X8_order_L8 n s x1 (if nI (rk W T p) = x1 then nI p else f) (nI (p + 1))) => key 1000 (by decide)) (fun M hM => by
      have g := ord8_I h (show p < T by omega) x1 f (f_X8_order_L8 n) T 0 (by omega) M (by omega)
      have h0 : nI (cntN (rkO W p) 0) = 0 := nI_0
      rw [h0, nI_0] at g
      exact g)
    show f_X8_order_B8 _ s _ _ _ = _
    unfold f_X8_order_B8
    rw [h.2.1, if_neg hnl, hin]
    by_cases hr : nI (rk W T p) = x1
    · have hf1 : f = -1 := by
        rcases hf p (Nat.le_refl _) (by omega) with h1 | h1
        · exact h1
        · exact absurd hr h1
      have hother : ∀ q, p + 1 ≤ q → q < T → ¬ nI (rk W T q) = x1 := by
        intro q hq1 hq2 he
        have hl1 := rk_lt (W := W) (T := T) (p := p) (by omega)
        have hl2 := rk_lt (W := W) (T := T) (p := q) (by omega)
        have e : rk W T p = rk W T q := (nI_eq (by omega) (by omega)).mp (hr.trans he.symm)
        have := rk_inj (by omega) hq2 hT e
        omega
      have hpos := nI_n0 (n := p) (by omega)
      have hne : ¬ nI p = (-1 : Int32) := by grind
      rw [if_pos hr, ih (p + 1) (by omega) n (by omega) (nI p) (fun q h1 h2 => Or.inr (hother q h1 h2)), if_neg hne, if_pos hf1, atR_s, if_pos hr]
    · rw [if_neg hr, ih (p + 1) (by omega) n (by omega) f (fun q h1 h2 => hf q (by omega) h2), atR_s, if_neg hr]
