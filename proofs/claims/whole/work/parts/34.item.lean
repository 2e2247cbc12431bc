theorem vpL_at (f : Nat → Int64) (k j : Nat) (x : Int64) : vp_updL f k x j = if j = k then x else f j := rfl
theorem hasPlace_eq (σ : Sto) (t : Nat) (i : Int32) : f_X3_hasPlace σ t i = some (if 0 ≤ i ∧ i < σ.1 3 2 t ∧ i < 60 then 1 else 0) := by
  unfold f_X3_hasPlace
  grind
def keptS (s : Int32) (v : Int64) : Int64 := if s = 0 then Int32.toInt64 (Int8.toInt32 (Int32.toInt8 (Int64.toInt32 v))) else if s = 1 then Int32.toInt64 (Int16.toInt32 (Int32.toInt16 (Int64.toInt32 v))) else if s = 2 then Int32.toInt64 (Int64.toInt32 v) else if s = 3 then v else if lg_cmp v 0 = 0 then 0 else 1
theorem kept_eq (s : Int32) (v : Int64) : f_X8_kept s v = some (keptS s v) := by
  unfold f_X8_kept keptS
  repeat' split
  all_goals rfl
theorem put_eq (σ : Sto) {t k : Nat} (hk : k < 60) (v : Int64) (h : (nI k) < σ.1 3 2 t) (hs : 0 ≤ σ.1 3 1 t ∧ σ.1 3 1 t ≤ 4) : f_X3_put σ t (nI k) v = some (sL σ 3 0 t (vp_updL (σ.2.2.1 3 0 t) k (keptS (σ.1 3 1 t) v))) := by
  have hc : (nI k).toNatClampNeg = k := nI_clamp (by omega)
  have h6 : (0 : Int32) ≤ nI k ∧ nI k < 60 := (nI_lt60 hk).2
  unfold f_X3_put keptS
  rw [hasPlace_eq]
  simp only [nm, Option.bind_some, hc, h6, h, and_self, if_true, show ¬ ((1 : Int32) = 0) by decide, if_false]
  by_cases a0 : σ.1 3 1 t = 0
  · simp only [a0, if_true]
  · by_cases a1 : σ.1 3 1 t = 1
    · simp only [a0, a1, if_true, if_false]
      simp
    · by_cases a2 : σ.1 3 1 t = 2
      · simp only [a0, a1, a2, if_true, if_false]
        simp
      · by_cases a3 : σ.1 3 1 t = 3
        · simp only [a0, a1, a2, a3, if_true, if_false]
          simp
        · have a4 : σ.1 3 1 t = 4 := by grind
          simp only [a0, a1, a2, a3, a4, if_true, if_false]
          by_cases hz : lg_cmp v 0 = 0
          · simp [hz]
          · simp [hz]
theorem item_step {σ : Sto} (h : I_tp σ) (t i : Int32) (v : Int64) : ∃ r σ1 σ2, f_X7_item σ t i v = some (r, σ1) ∧ f_X8_item σ1 t i v = some (r, σ2) ∧ I_tp σ2 ∧ eqT σ σ2 := by
  unfold f_X7_item f_X8_item
  rw [isTape_eq, isTape8_eq]
  simp only [Option.bind_some, within_eq, hasPlace_eq, kept_eq, nm]
  have h10 : ¬ ((1 : Int32) = 0) := by decide
  by_cases ht : 0 ≤ t ∧ t ≤ 5
  · obtain ⟨n, hn, rfl⟩ := i32_range (N := 6) (by decide) ht.1 (by have := ht.2; grind)
    have hc : (nI n).toNatClampNeg = n := nI_clamp (by omega)
    have h6 : (0 : Int32) ≤ nI n ∧ nI n < 6 := by grind
    have ht1 := ht.1
    have ht2 := ht.2
    obtain ⟨⟨e1, e2, e3⟩, ⟨e4, e5, e6⟩, e7, e8⟩ := h n hn
    simp only [ht1, ht2, h6, and_self, if_true, h10, if_false, hc]
    by_cases hs : σ.1 3 1 n = -1
    · refine ⟨-11, σ, σ, by rw [if_pos hs], ?_, h, eqT.rfl'⟩
      rw [if_neg (by grind)]
    · have hs0 : 0 ≤ σ.2.1 8 40 0 n := by grind
      by_cases hi : 0 ≤ i ∧ i < σ.1 3 2 n
      · obtain ⟨k, hk, rfl⟩ := i32_range (N := 60) (by decide) hi.1 (by have := hi.2; grind)
        obtain ⟨g1, g2, g3, g4⟩ := tape_ix hn hk
        have hck : (nI k).toNatClampNeg = k := nI_clamp (by omega)
        have hp := put_eq σ hk v hi.2 (by grind)
        have q1 : 0 ≤ nI k ∧ nI k < σ.1 3 2 n ∧ nI k < 60 := by grind
        refine ⟨1, sL σ 3 0 n (vp_updL (σ.2.2.1 3 0 n) k (keptS (σ.1 3 1 n) v)), sL (sL σ 3 0 n (vp_updL (σ.2.2.1 3 0 n) k (keptS (σ.1 3 1 n) v))) 8 42 0 (vp_updL (σ.2.2.1 8 42 0) (60 * n + k) (keptS (σ.1 3 1 n) v)), by rw [if_neg hs, if_pos q1, if_neg h10, hp]; rfl, ?_, ?_, ?_⟩
        · have q2 : 0 ≤ nI k ∧ nI k ≤ σ.2.1 8 41 0 n - 1 := by grind
          simp only [sL2, sL3, hs0, if_true, q2, and_self, h10, if_false, g1, g2, g3, g4, e1]
          simp
        · intro m hm
          obtain ⟨⟨d1, d2, d3⟩, ⟨d4, d5, d6⟩, d7, d8⟩ := h m hm
          refine ⟨⟨?_, ?_, ?_⟩, ⟨?_, ?_, ?_⟩, ?_, ?_⟩
          all_goals (try intro j hj)
          all_goals simp only [sL1, sL2, sL3, vpL_at]
          all_goals grind [vpL_at]
        · exact ⟨fun c k i hc => rfl, fun c k i hc => rfl, rfl⟩
      · refine ⟨-13, σ, σ, ?_, ?_, h, eqT.rfl'⟩
        · have q3 : ¬ (0 ≤ i ∧ i < σ.1 3 2 n ∧ i < 60) := by grind
          rw [if_neg hs, if_neg q3, if_pos rfl]
        · have q4 : ¬ (0 ≤ i ∧ i ≤ σ.2.1 8 41 0 n - 1) := by grind
          rw [if_pos hs0, if_neg q4, if_pos rfl]
  · have hq : (if (0 : Int32) ≤ t ∧ t ≤ 5 then (1 : Int32) else 0) = 0 := by rw [if_neg ht]
    rw [if_pos hq]
    exact ⟨-1, σ, σ, rfl, by rw [if_pos hq], h, eqT.rfl'⟩
