-- THE LAW'S LOOP
theorem lgz (r : Int64) : lg_cmp r r = 0 := (lg_cmp_eq r r).mpr rfl
theorem law_L {L : Nat} (xs : Nat → Int32) (hL : L ≤ 3072) : ∀ (d i : Nat), i + d = 520 → ∀ n, d < n → ∀ σ, Inv σ → 6 * i ≤ L + 5 → f_L_law_L18 L xs n σ (nI (6 * i)) = some () := by
  intro d
  induction d with
  | zero => intro i hi n hn σ h hle; omega
  | succ d ih =>
    intro i hi n hn σ h hle
    obtain ⟨n, rfl⟩ : ∃ q, n = q + 1 := ⟨n - 1, by omega⟩
    show f_L_law_B18 L xs (f_L_law_L18 L xs n) σ (nI (6 * i)) = _
    unfold f_L_law_B18
    have hLn : Int32.ofNat L = nI L := rfl
    by_cases hend : Int32.ofNat L - 6 < nI (6 * i)
    · rw [if_pos hend]
    · have h6L : 6 * i + 6 ≤ L := by
        by_cases hL6 : 6 ≤ L
        · have e : Int32.ofNat L - 6 = nI (L - 6) := by
            rw [hLn, show (6 : Int32) = nI 6 from rfl, nI_sub hL6]
          rw [e] at hend
          have := not_congr (nI_ltI (a := L - 6) (b := 6 * i) (by omega) (by omega))
          have := this.mp hend
          omega
        · exfalso
          apply hend
          have h1 : nI L < 6 := (nI_ltI (a := L) (b := 6) (by omega) (by decide)).mpr (by omega)
          have h2 := nI_n0 (n := L) (by omega)
          have h3 := nI_n0 (n := 6 * i) (by omega)
          rw [hLn]
          grind
      rw [if_neg hend]
      have hc : ∀ k, k < 6 → (0 : Int32) ≤ nI (6 * i) + nI k ∧ nI (6 * i) + nI k < Int32.ofNat L := by
        intro k hk
        rw [nI_add, hLn]
        exact nI_r (by omega) (by omega)
      have hc0 : (0 : Int32) ≤ nI (6 * i) ∧ nI (6 * i) < Int32.ofNat L := by
        rw [hLn]; exact nI_r (by omega) (by omega)
      have hc1 : (0 : Int32) ≤ nI (6 * i) + 1 ∧ nI (6 * i) + 1 < Int32.ofNat L := hc 1 (by omega)
      have hc2 : (0 : Int32) ≤ nI (6 * i) + 2 ∧ nI (6 * i) + 2 < Int32.ofNat L := hc 2 (by omega)
      have hc3 : (0 : Int32) ≤ nI (6 * i) + 3 ∧ nI (6 * i) + 3 < Int32.ofNat L := hc 3 (by omega)
      have hc4 : (0 : Int32) ≤ nI (6 * i) + 4 ∧ nI (6 * i) + 4 < Int32.ofNat L := hc 4 (by omega)
      have hc5 : (0 : Int32) ≤ nI (6 * i) + 5 ∧ nI (6 * i) + 5 < Int32.ofNat L := hc 5 (by omega)
      have h6 : nI (6 * i) + 6 = nI (6 * (i + 1)) := by
        rw [show (6 : Int32) = nI 6 from rfl, nI_add]
        congr 1
      have nx : ∀ τ, Inv τ → f_L_law_L18 L xs n τ (nI (6 * i) + 6) = some () := by
        intro τ hτ
        rw [h6]
        exact ih (i + 1) (by omega) n (by omega) τ hτ (by omega)
      rw [if_pos hc0]
      generalize hcmd : xs (nI (6 * i)).toNatClampNeg &&& 31 = cmd
      by_cases c0 : cmd = 0
      · rw [if_pos c0]
        obtain ⟨r, σ1, σ2, g1, g2, g3⟩ := thing_step h (xs (nI (6 * i) + 1).toNatClampNeg) (xs (nI (6 * i) + 2).toNatClampNeg) (xs (nI (6 * i) + 3).toNatClampNeg) (xs (nI (6 * i) + 4).toNatClampNeg)
        rw [if_pos hc1, if_pos hc2, if_pos hc3, if_pos hc4, g1, Option.bind_some, if_pos hc1, if_pos hc2, if_pos hc3, if_pos hc4, g2, Option.bind_some, if_pos rfl]
        exact nx σ2 g3
      rw [if_neg c0]
      by_cases c1 : cmd = 1
      · rw [if_pos c1]
        obtain ⟨r, σ1, σ2, g1, g2, g3⟩ := of_step h (xs (nI (6 * i) + 1).toNatClampNeg) (xs (nI (6 * i) + 2).toNatClampNeg)
        rw [if_pos hc1, if_pos hc2, g1, Option.bind_some, if_pos hc1, if_pos hc2, g2, Option.bind_some, if_pos rfl]
        exact nx σ2 g3
      rw [if_neg c1]
      by_cases c2 : cmd = 2
      · rw [if_pos c2]
        obtain ⟨r, σ1, σ2, g1, g2, g3⟩ := set_step h (xs (nI (6 * i) + 1).toNatClampNeg) (xs (nI (6 * i) + 2).toNatClampNeg) (xs (nI (6 * i) + 3).toNatClampNeg)
        rw [if_pos hc1, if_pos hc2, if_pos hc3, g1, Option.bind_some, if_pos hc1, if_pos hc2, if_pos hc3, g2, Option.bind_some, if_pos rfl]
        exact nx σ2 g3
      rw [if_neg c2]
      by_cases c3 : cmd = 3
      · rw [if_pos c3]
        obtain ⟨r, σ1, σ2, g1, g2, g3⟩ := melts_step h (xs (nI (6 * i) + 1).toNatClampNeg) (xs (nI (6 * i) + 2).toNatClampNeg)
        rw [if_pos hc1, if_pos hc2, g1, Option.bind_some, if_pos hc1, if_pos hc2, g2, Option.bind_some, if_pos rfl]
        exact nx σ2 g3
      rw [if_neg c3]
      by_cases c4 : cmd = 4
      · rw [if_pos c4]
        obtain ⟨r, σ1, σ2, g1, g2, g3⟩ := row_step h (xs (nI (6 * i) + 1).toNatClampNeg) (xs (nI (6 * i) + 2).toNatClampNeg) (xs (nI (6 * i) + 3).toNatClampNeg)
        rw [if_pos hc1, if_pos hc2, if_pos hc3, g1, Option.bind_some, if_pos hc1, if_pos hc2, if_pos hc3, g2, Option.bind_some, if_pos rfl]
        exact nx σ2 g3
      rw [if_neg c4]
      by_cases c5 : cmd = 5
      · rw [if_pos c5]
        obtain ⟨r, σ1, σ2, g1, g2, g3⟩ := feed_step h (xs (nI (6 * i) + 1).toNatClampNeg)
        rw [if_pos hc1, g1, Option.bind_some, if_pos hc1, g2, Option.bind_some, if_pos rfl]
        exact nx σ2 g3
      rw [if_neg c5]
      by_cases c6 : cmd = 6
      · rw [if_pos c6]
        obtain ⟨r, σ1, σ2, g1, g2, g3⟩ := col_step h 
        rw [g1, Option.bind_some, g2, Option.bind_some, if_pos rfl]
        exact nx σ2 g3
      rw [if_neg c6]
      by_cases c7 : cmd = 7
      · rw [if_pos c7]
        obtain ⟨r, σ1, σ2, g1, g2, g3⟩ := told_step h (xs (nI (6 * i) + 1).toNatClampNeg)
        rw [if_pos hc1, g1, Option.bind_some, if_pos hc1, g2, Option.bind_some, if_pos rfl]
        exact nx σ2 g3
      rw [if_neg c7]
      by_cases c8 : cmd = 8
      · rw [if_pos c8]
        obtain ⟨r, σ1, σ2, g1, g2, g3⟩ := pass_step h (xs (nI (6 * i) + 1).toNatClampNeg)
        rw [if_pos hc1, g1, Option.bind_some, if_pos hc1, g2, Option.bind_some, if_pos rfl]
        exact nx σ2 g3
      rw [if_neg c8]
      by_cases c9 : cmd = 9
      · rw [if_pos c9]
        obtain ⟨r, σ1, σ2, g1, g2, g3⟩ := on_step h (xs (nI (6 * i) + 1).toNatClampNeg) (xs (nI (6 * i) + 2).toNatClampNeg)
        rw [if_pos hc1, if_pos hc2, g1, Option.bind_some, if_pos hc1, if_pos hc2, g2, Option.bind_some, if_pos rfl]
        exact nx σ2 g3
      rw [if_neg c9]
      by_cases c10 : cmd = 10
      · rw [if_pos c10]
        obtain ⟨r, σ1, σ2, g1, g2, g3⟩ := by_step h (xs (nI (6 * i) + 1).toNatClampNeg) (xs (nI (6 * i) + 2).toNatClampNeg) (xs (nI (6 * i) + 3).toNatClampNeg)
        rw [if_pos hc1, if_pos hc2, if_pos hc3, g1, Option.bind_some, if_pos hc1, if_pos hc2, if_pos hc3, g2, Option.bind_some, if_pos rfl]
        exact nx σ2 g3
      rw [if_neg c10]
      by_cases c11 : cmd = 11
      · rw [if_pos c11]
        obtain ⟨r, σ1, σ2, g1, g2, g3⟩ := need_step h (xs (nI (6 * i) + 1).toNatClampNeg) (xs (nI (6 * i) + 2).toNatClampNeg) (xs (nI (6 * i) + 3).toNatClampNeg)
        rw [if_pos hc1, if_pos hc2, if_pos hc3, g1, Option.bind_some, if_pos hc1, if_pos hc2, if_pos hc3, g2, Option.bind_some, if_pos rfl]
        exact nx σ2 g3
      rw [if_neg c11]
      by_cases c12 : cmd = 12
      · rw [if_pos c12]
        rw [if_pos hc1, if_pos hc2, if_pos hc3]
        unfold f_L_law_L602 f_L_law_L629
        by_cases z : (xs (nI (6 * i) + 3).toNatClampNeg) = 0
        · obtain ⟨r, σ1, σ2, g1, g2, g3⟩ := see_step h (xs (nI (6 * i) + 1).toNatClampNeg) (xs (nI (6 * i) + 2).toNatClampNeg) 0
          rw [if_pos z, g1, Option.bind_some, if_pos hc1, if_pos hc2, if_pos hc3, if_pos z, g2, Option.bind_some, if_pos rfl]
          exact nx σ2 g3
        · obtain ⟨r, σ1, σ2, g1, g2, g3⟩ := see_step h (xs (nI (6 * i) + 1).toNatClampNeg) (xs (nI (6 * i) + 2).toNatClampNeg) 1
          rw [if_neg z, g1, Option.bind_some, if_pos hc1, if_pos hc2, if_pos hc3, if_neg z, g2, Option.bind_some, if_pos rfl]
          exact nx σ2 g3
      rw [if_neg c12]
      by_cases c13 : cmd = 13
      · rw [if_pos c13]
        obtain ⟨r, σ1, σ2, g1, g2, g3⟩ := can_step h (xs (nI (6 * i) + 1).toNatClampNeg) (xs (nI (6 * i) + 2).toNatClampNeg) (xs (nI (6 * i) + 3).toNatClampNeg)
        rw [if_pos hc1, if_pos hc2, if_pos hc3, g1, Option.bind_some, if_pos hc1, if_pos hc2, if_pos hc3, g2, Option.bind_some, if_pos rfl]
        exact nx σ2 g3
      rw [if_neg c13]
      by_cases c14 : cmd = 14
      · rw [if_pos c14]
        obtain ⟨r, σ1, σ2, g1, g2, g3⟩ := odds_step h (xs (nI (6 * i) + 1).toNatClampNeg) (xs (nI (6 * i) + 2).toNatClampNeg) (xs (nI (6 * i) + 3).toNatClampNeg)
        rw [if_pos hc1, if_pos hc2, if_pos hc3, g1, Option.bind_some, if_pos hc1, if_pos hc2, if_pos hc3, g2, Option.bind_some, if_pos (lgz r)]
        exact nx σ2 g3
      rw [if_neg c14]
      by_cases c15 : cmd = 15
      · rw [if_pos c15]
        obtain ⟨r, σ1, σ2, g1, g2, g3⟩ := mean_step h (xs (nI (6 * i) + 1).toNatClampNeg) (xs (nI (6 * i) + 2).toNatClampNeg)
        rw [if_pos hc1, if_pos hc2, g1, Option.bind_some, if_pos hc1, if_pos hc2, g2, Option.bind_some, if_pos (lgz r)]
        exact nx σ2 g3
      rw [if_neg c15]
      by_cases c16 : cmd = 16
      · rw [if_pos c16]
        obtain ⟨r, σ1, σ2, g1, g2, g3⟩ := plan_step h (xs (nI (6 * i) + 1).toNatClampNeg) (xs (nI (6 * i) + 2).toNatClampNeg)
        rw [if_pos hc1, if_pos hc2, g1, Option.bind_some, if_pos hc1, if_pos hc2, g2, Option.bind_some, if_pos rfl]
        exact nx σ2 g3
      rw [if_neg c16]
      by_cases c17 : cmd = 17
      · rw [if_pos c17]
        obtain ⟨r, σ1, σ2, g1, g2, g3⟩ := ends_step h (xs (nI (6 * i) + 1).toNatClampNeg)
        rw [if_pos hc1, g1, Option.bind_some, if_pos hc1, g2, Option.bind_some, if_pos rfl]
        exact nx σ2 g3
      rw [if_neg c17]
      by_cases c18 : cmd = 18
      · rw [if_pos c18]
        obtain ⟨r, σ1, σ2, g1, g2, g3⟩ := book_step h (xs (nI (6 * i) + 1).toNatClampNeg) (xs (nI (6 * i) + 2).toNatClampNeg)
        rw [if_pos hc1, if_pos hc2, g1, Option.bind_some, if_pos hc1, if_pos hc2, g2, Option.bind_some, if_pos rfl]
        exact nx σ2 g3
      rw [if_neg c18]
      by_cases c19 : cmd = 19
      · rw [if_pos c19]
        obtain ⟨r, g1, g2⟩ := looked_Q h 
        rw [g1, Option.bind_some, g2, Option.bind_some, if_pos rfl]
        exact nx σ h
      rw [if_neg c19]
      by_cases c20 : cmd = 20
      · rw [if_pos c20]
        obtain ⟨r, g1, g2⟩ := judge_Q h (xs (nI (6 * i) + 1).toNatClampNeg) (xs (nI (6 * i) + 2).toNatClampNeg)
        rw [if_pos hc1, if_pos hc2, g1, Option.bind_some, if_pos hc1, if_pos hc2, g2, Option.bind_some, if_pos rfl]
        exact nx σ h
      rw [if_neg c20]
      by_cases c21 : cmd = 21
      · rw [if_pos c21]
        obtain ⟨r, σ1, σ2, g1, g2, g3⟩ := image_step h 
        rw [g1, Option.bind_some, g2, Option.bind_some, if_pos rfl]
        exact nx σ2 g3
      rw [if_neg c21]
      by_cases c22 : cmd = 22
      · rw [if_pos c22]
        obtain ⟨r, σ1, σ2, g1, g2, g3⟩ := undo_step h 
        rw [g1, Option.bind_some, g2, Option.bind_some, if_pos rfl]
        exact nx σ2 g3
      rw [if_neg c22]
      by_cases c23 : cmd = 23
      · rw [if_pos c23]
        obtain ⟨r, σ1, σ2, g1, g2, g3⟩ := act_step h (xs (nI (6 * i) + 1).toNatClampNeg) (xs (nI (6 * i) + 2).toNatClampNeg) (xs (nI (6 * i) + 3).toNatClampNeg)
        rw [if_pos hc1, if_pos hc2, if_pos hc3, g1, Option.bind_some, if_pos hc1, if_pos hc2, if_pos hc3, g2, Option.bind_some, if_pos rfl]
        exact nx σ2 g3
      rw [if_neg c23]
      by_cases c24 : cmd = 24
      · rw [if_pos c24]
        obtain ⟨r, g1, g2⟩ := trace_Q h (xs (nI (6 * i) + 1).toNatClampNeg)
        rw [if_pos hc1, g1, Option.bind_some, if_pos hc1, g2, Option.bind_some, if_pos rfl]
        exact nx σ h
      rw [if_neg c24]
      by_cases c25 : cmd = 25
      · rw [if_pos c25]
        obtain ⟨r, g1, g2⟩ := taken_Q h (xs (nI (6 * i) + 1).toNatClampNeg) (xs (nI (6 * i) + 2).toNatClampNeg)
        rw [if_pos hc1, if_pos hc2, g1, Option.bind_some, if_pos hc1, if_pos hc2, g2, Option.bind_some, if_pos rfl]
        exact nx σ h
      rw [if_neg c25]
      by_cases c26 : cmd = 26
      · rw [if_pos c26]
        obtain ⟨r, g1, g2⟩ := count_Q h (xs (nI (6 * i) + 1).toNatClampNeg)
        rw [if_pos hc1, g1, Option.bind_some, if_pos hc1, g2, Option.bind_some, if_pos rfl]
        exact nx σ h
      rw [if_neg c26]
      by_cases c27 : cmd = 27
      · rw [if_pos c27]
        obtain ⟨r, σ1, σ2, g1, g2, g3⟩ := tape_Q h (xs (nI (6 * i) + 1).toNatClampNeg) (xs (nI (6 * i) + 2).toNatClampNeg) (xs (nI (6 * i) + 3).toNatClampNeg)
        rw [if_pos hc1, if_pos hc2, if_pos hc3, g1, Option.bind_some, if_pos hc1, if_pos hc2, if_pos hc3, g2, Option.bind_some, if_pos rfl]
        exact nx σ2 g3
      rw [if_neg c27]
      by_cases c28 : cmd = 28
      · rw [if_pos c28]
        obtain ⟨r, σ1, σ2, g1, g2, g3⟩ := item_Q h (xs (nI (6 * i) + 1).toNatClampNeg) (xs (nI (6 * i) + 2).toNatClampNeg) (((Int32.toInt64 (xs (nI (6 * i) + 3).toNatClampNeg)) <<< (Int32.toInt64 32 &&& 63)) ||| ((Int32.toInt64 (xs (nI (6 * i) + 4).toNatClampNeg)) &&& (4294967295 : Int64)))
        rw [if_pos hc1, if_pos hc2, if_pos hc3, if_pos hc4, g1, Option.bind_some, if_pos hc1, if_pos hc2, if_pos hc3, if_pos hc4, g2, Option.bind_some, if_pos rfl]
        exact nx σ2 g3
      rw [if_neg c28]
      by_cases c29 : cmd = 29
      · rw [if_pos c29]
        obtain ⟨r, g1, g2⟩ := read_Q h (xs (nI (6 * i) + 1).toNatClampNeg) (xs (nI (6 * i) + 2).toNatClampNeg)
        rw [if_pos hc1, if_pos hc2, g1, Option.bind_some, if_pos hc1, if_pos hc2, g2, Option.bind_some, if_pos (lgz r)]
        exact nx σ h
      rw [if_neg c29]
      by_cases c30 : cmd = 30
      · rw [if_pos c30]
        obtain ⟨r, σ1, σ2, g1, g2, g3⟩ := shift_step h (xs (nI (6 * i) + 1).toNatClampNeg) (xs (nI (6 * i) + 2).toNatClampNeg) (xs (nI (6 * i) + 3).toNatClampNeg) (xs (nI (6 * i) + 4).toNatClampNeg) (xs (nI (6 * i) + 5).toNatClampNeg)
        rw [if_pos hc1, if_pos hc2, if_pos hc3, if_pos hc4, if_pos hc5, g1, Option.bind_some, if_pos hc1, if_pos hc2, if_pos hc3, if_pos hc4, if_pos hc5, g2, Option.bind_some, if_pos rfl]
        exact nx σ2 g3
      rw [if_neg c30]
      exact nx σ h
theorem Inv_sig0 : Inv sig0 := by
  have z0 : (0 : Int32) ≤ 0 := by decide
  have z6 : (0 : Int32) ≤ 6 := by decide
  have z9 : (0 : Int32) ≤ 9 := by decide
  have z99 : (0 : Int32) ≤ 99 := by decide
  have z60 : (0 : Int32) ≤ 60 := by decide
  refine ⟨⟨?_, ?_, ?_, ?_, ?_⟩, ?_, ?_, ?_, ?_, ?_, ?_⟩
  · intro p hp
    refine ⟨?_, ⟨rfl, z0, z6⟩, ⟨rfl, z0, z9⟩, ⟨rfl, z0, z99⟩, ⟨rfl, z0, z99⟩, fun j hj => ⟨rfl, z0, z9⟩⟩
    match p, hp with
    | 0, _ => decide
    | 1, _ => decide
    | 2, _ => decide
    | 3, _ => decide
    | 4, _ => decide
    | 5, _ => decide
  · exact ⟨⟨rfl, z0, by decide⟩, ⟨rfl, z0, by decide⟩, by decide, by decide, by decide⟩
  · exact ⟨⟨by decide, rfl, z0, by decide⟩, fun j _ hj => absurd hj (by simp [sig0, fin0])⟩
  · exact ⟨⟨by decide, rfl, z0, by decide⟩, fun j _ hj => absurd hj (by simp [sig0, fin0])⟩
  · exact ⟨⟨by decide, rfl, z0, by decide⟩, fun j _ hj => absurd hj (by simp [sig0, fin0])⟩
  · exact ⟨⟨rfl, z0, by decide⟩, fun j _ hj => absurd hj (by simp [sig0, fin0])⟩
  · exact ⟨rfl, z0, by decide, fun j _ hj => absurd hj (by simp [sig0, fin0])⟩
  · intro t ht
    refine ⟨?_, ⟨rfl, z0, z60⟩, fun _ => rfl, fun j hj => rfl⟩
    match t, ht with
    | 0, _ => decide
    | 1, _ => decide
    | 2, _ => decide
    | 3, _ => decide
    | 4, _ => decide
    | 5, _ => decide
  · exact ⟨rfl, Or.inl rfl, by decide, by decide, by decide⟩
  · exact ⟨rfl, z0, by decide, z0, by decide⟩
  · exact ⟨⟨rfl, rfl⟩, fun k hk => absurd hk (by simp [sig0, fin0])⟩
theorem hfun (L : Nat) (xs : Nat → Int32) (hL : L ≤ 3072) : f_L_law_L18 L xs 1000 sig0 0 = some () := by
  have key : ∀ M, 600 < M → f_L_law_L18 L xs M sig0 0 = some () := by
    intro M hM
    have h := law_L xs hL 520 0 rfl M (by omega) sig0 Inv_sig0 (by omega)
    rw [show nI (6 * 0) = 0 by decide] at h
    exact h
  exact key 1000 (by decide)
