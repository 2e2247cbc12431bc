-- A PLAN: ends
/-- the PLAN, in both -/
def Pn (σ : Sto) (T P : Nat) : Prop := P ≤ 10 ∧ σ.1 2 4 1 = nI P ∧ σ.1 8 27 0 = nI P ∧ ∀ j, j < P → (σ.2.1 2 1 1 j = σ.2.1 8 28 0 j ∧ (σ.2.1 8 28 0 j = 0 ∨ σ.2.1 8 28 0 j = 1 ∨ σ.2.1 8 28 0 j = 2 ∨ σ.2.1 8 28 0 j = 3)) ∧ (σ.2.1 8 28 0 j = 1 ∨ σ.2.1 8 28 0 j = 2 → σ.2.1 2 2 1 j = σ.2.1 8 29 0 j ∧ ∃ q, q < T ∧ σ.2.1 8 29 0 j = nI q)
theorem Pn_of {σ : Sto} {T : Nat} (h : Inv σ) (hT : T ≤ 6) (hT8 : σ.1 8 0 0 = nI T) : ∃ P, Pn σ T P := by
  obtain ⟨⟨-, -, -, ⟨⟨-, s2, s3, s4⟩, s5⟩, -⟩, -⟩ := h
  obtain ⟨P, hP, hPe⟩ := i32_range (N := 11) (x := σ.1 8 27 0) (by decide) s3 (by grind)
  refine ⟨P, by omega, by rw [s2, hPe], hPe, fun j hj => ?_⟩
  obtain ⟨⟨r1, r2, r3⟩, r4, r5, r6⟩ := s5 j (by omega) (by rw [hPe, nI_toInt (by omega)]; omega)
  refine ⟨⟨r1, by grind⟩, fun hh => ⟨r4 hh, ?_⟩⟩
  have hlt := r6 hh
  rw [hT8] at hlt
  have hT6 : nI T ≤ 6 := (nI_leI (a := T) (b := 6) (by omega) (by decide)).mpr hT
  obtain ⟨q, hq, hqe⟩ := i32_range (N := 6) (x := σ.2.1 8 29 0 j) (by decide) r5 (by grind)
  rw [hqe] at hlt
  exact ⟨q, (nI_ltI (by omega) (by omega)).mp hlt, hqe⟩
def mx10 (w : Int32) : Int32 := if w - 10 < 0 then 0 else w - 10
def wkP (gs : Nat → Int32) (w0 : Int32) : Nat → Int32
  | 0 => w0
  | i + 1 => if gs i = 0 then wkP gs w0 i + 1 else wkP gs w0 i
def wP (gs ws : Nat → Int32) (p : Nat) (w0 : Int32) : Nat → Int32
  | 0 => w0
  | i + 1 => if gs i = 2 ∧ ws i = nI p then mx10 (wP gs ws p w0 i) else wP gs ws p w0 i
def dP (wm : (Nat → Int32) → Int32) (sn : Int32) (gs ws : Nat → Int32) (p : Nat) (t : Th) (k0 w0 d0 : Int32) : Nat → Int32
  | 0 => d0
  | i + 1 => if gs i = 0 then go wm sn (tw 0 (wP gs ws p w0 i) t) (wkP gs k0 i) (dP wm sn gs ws p t k0 w0 d0 i) else if gs i = 1 then (if ws i = nI p then 0 else dP wm sn gs ws p t k0 w0 d0 i) else if gs i = 2 then dP wm sn gs ws p t k0 w0 d0 i else (if dP wm sn gs ws p t k0 w0 d0 i = 0 then 0 else clp (dP wm sn gs ws p t k0 w0 d0 i + 10))
theorem dP_bd {wm : (Nat → Int32) → Int32} {sn : Int32} {gs ws : Nat → Int32} {p : Nat} {t : Th} {k0 w0 d0 : Int32} (h : 0 ≤ d0 ∧ d0 ≤ 99) : ∀ i, 0 ≤ dP wm sn gs ws p t k0 w0 d0 i ∧ dP wm sn gs ws p t k0 w0 d0 i ≤ 99
  | 0 => h
  | i + 1 => by
    have h1 := dP_bd (wm := wm) (sn := sn) (gs := gs) (ws := ws) (p := p) (t := t) (k0 := k0) (w0 := w0) h i
    have hs : dP wm sn gs ws p t k0 w0 d0 (i + 1) = if gs i = 0 then go wm sn (tw 0 (wP gs ws p w0 i) t) (wkP gs k0 i) (dP wm sn gs ws p t k0 w0 d0 i) else if gs i = 1 then (if ws i = nI p then 0 else dP wm sn gs ws p t k0 w0 d0 i) else if gs i = 2 then dP wm sn gs ws p t k0 w0 d0 i else (if dP wm sn gs ws p t k0 w0 d0 i = 0 then 0 else clp (dP wm sn gs ws p t k0 w0 d0 i + 10)) := rfl
    rw [hs]
    split
    · exact go_bd _ _ _ _ _
    · split
      · split
        · decide
        · exact h1
      · split
        · exact h1
        · split
          · decide
          · exact clp_bd _
theorem wkP_bd {gs : Nat → Int32} {w0 : Int32} : ∀ i, ∃ c, c ≤ i ∧ wkP gs w0 i = w0 + nI c
  | 0 => ⟨0, Nat.le_refl _, by rw [nI_0, Int32.add_zero]; rfl⟩
  | i + 1 => by
    obtain ⟨c, h1, h2⟩ := wkP_bd (gs := gs) (w0 := w0) i
    by_cases h : gs i = 0
    · refine ⟨c + 1, by omega, ?_⟩
      show (if gs i = 0 then wkP gs w0 i + 1 else wkP gs w0 i) = _
      rw [if_pos h, h2, Int32.add_assoc, nI_1]
    · refine ⟨c, by omega, ?_⟩
      show (if gs i = 0 then wkP gs w0 i + 1 else wkP gs w0 i) = _
      rw [if_neg h, h2]
theorem wkP_r {gs : Nat → Int32} {w0 : Int32} {i : Nat} (hw : 0 ≤ w0 ∧ w0 ≤ 9999) (hi : i ≤ 20) : 0 ≤ wkP gs w0 i ∧ wkP gs w0 i ≤ 20000 := by
  obtain ⟨c, h1, h2⟩ := wkP_bd (gs := gs) (w0 := w0) i
  rw [h2]
  exact wk_bd hw (show c < 100 by omega) (Nat.le_refl _)
/-- the pure PLAN of a THING of a store -/
def dQ (wm : (Nat → Int32) → Int32) (sn : Int32) (σ : Sto) (p : Nat) : Nat → Int32 := dP wm sn (σ.2.1 8 28 0) (σ.2.1 8 29 0) p (tM σ p) (σ.1 8 6 0) (σ.2.1 8 3 0 p) (σ.2.1 8 4 0 p)
def wQ (σ : Sto) (p : Nat) : Nat → Int32 := wP (σ.2.1 8 28 0) (σ.2.1 8 29 0) p (σ.2.1 8 3 0 p)
def kQ (σ : Sto) : Nat → Int32 := wkP (σ.2.1 8 28 0) (σ.1 8 6 0)
theorem dQ_s (wm : (Nat → Int32) → Int32) (sn : Int32) (σ : Sto) (p i : Nat) : dQ wm sn σ p (i + 1) = if σ.2.1 8 28 0 i = 0 then go wm sn (tw 0 (wQ σ p i) (tM σ p)) (kQ σ i) (dQ wm sn σ p i) else if σ.2.1 8 28 0 i = 1 then (if σ.2.1 8 29 0 i = nI p then 0 else dQ wm sn σ p i) else if σ.2.1 8 28 0 i = 2 then dQ wm sn σ p i else (if dQ wm sn σ p i = 0 then 0 else clp (dQ wm sn σ p i + 10)) := rfl
theorem wQ_s (σ : Sto) (p i : Nat) : wQ σ p (i + 1) = if σ.2.1 8 28 0 i = 2 ∧ σ.2.1 8 29 0 i = nI p then mx10 (wQ σ p i) else wQ σ p i := rfl
theorem kQ_s (σ : Sto) (i : Nat) : kQ σ (i + 1) = if σ.2.1 8 28 0 i = 0 then kQ σ i + 1 else kQ σ i := rfl
theorem dbp_L {σ : Sto} {wm : (Nat → Int32) → Int32} {sn : Int32} {k T p P : Nat} (B : Base σ wm sn k T) (hP : Pn σ T P) (hp : p < 6) : ∀ (d i : Nat), i + d = P → ∀ n, d < n → ∀ s, FrE akF akA [] σ s → tC s 12 = tw 0 (wQ σ p i) (tM σ p) → s.1 5 4 12 = dQ wm sn σ p i → ∃ s', f_X7_depthByPlan_L41 n s (nI p) 1 k (kQ σ i) (nI i) = some (dQ wm sn σ p P, s') ∧ FrE akF akA [] σ s' := by
  obtain ⟨hP10, z1, z2, z3⟩ := hP
  intro d
  induction d with
  | zero =>
    intro i hi n hn s e ht hd
    obtain ⟨n, rfl⟩ : ∃ q, n = q + 1 := ⟨n - 1, by omega⟩
    have hi2 : i = P := by omega
    subst hi2
    refine ⟨s, ?_, e⟩
    show f_X7_depthByPlan_B41 _ s _ _ _ _ _ = _
    unfold f_X7_depthByPlan_B41
    rw [e.1 2 4 1 (by decide), z1, if_pos (by grind), hd]
  | succ d ih =>
    intro i hi n hn s e ht hd
    obtain ⟨n, rfl⟩ : ∃ q, n = q + 1 := ⟨n - 1, by omega⟩
    obtain ⟨⟨y1, y2⟩, y3⟩ := z3 i (by omega)
    have a1 : (0 : Int32) ≤ nI i ∧ nI i < 10 := nI_r (N := 10) (by omega) (by decide)
    have a2 : (nI i).toNatClampNeg = i := nI_clamp (by omega)
    have v1 : s.2.1 2 1 1 i = σ.2.1 8 28 0 i := by rw [e.2.1 2 1 1 (by decide), y1]
    have v2 : s.2.1 2 2 1 i = σ.2.1 2 2 1 i := by rw [e.2.1 2 2 1 (by decide)]
    have hnl : ¬ nI P ≤ nI i := nI_ge (by omega) (by omega)
    have hB : f_X7_depthByPlan_L41 (n + 1) s (nI p) 1 k (kQ σ i) (nI i) = f_X7_depthByPlan_L66 (f_X7_depthByPlan_L41 n) s (nI p) 1 k (kQ σ i) (nI i) (if σ.2.1 2 2 1 i = nI p then 1 else 0) := by
      show f_X7_depthByPlan_B41 _ s _ _ _ _ _ = _
      unfold f_X7_depthByPlan_B41
      rw [e.1 2 4 1 (by decide), z1, if_neg hnl, if_pos a1, a2, v2]
      split <;> rfl
    have hwk := B.2.2.2.2.2.2.1
    have hdb : 0 ≤ dQ wm sn σ p i ∧ dQ wm sn σ p i ≤ 99 := dP_bd (B.2.2.2.2.2.2.2 p hp).2.2 i
    rw [hB]
    unfold f_X7_depthByPlan_L66
    simp only [a1, and_self, if_true, a2, v1, nm, nmI, nI_1]
    rcases y2 with g | g | g | g
    · have hk0 := wkP_r (gs := σ.2.1 8 28 0) (i := i) hwk (by omega)
      obtain ⟨F, hF⟩ := goWeek_eq (i := 12) (Base_f B e).1 B.2.1 hk0.1 hk0.2
      obtain ⟨s', h1, h2⟩ := ih (i + 1) (by omega) n (by omega) (sF (sA s 5 6 12 F) 5 4 12 (go wm sn (tC s 12) (kQ σ i) (s.1 5 4 12))) ((e.sA (by decide)).sF (by decide)) (by
        rw [tC_w, ht, wQ_s, if_neg (by rw [g]; intro hh; exact absurd hh.1 (by decide))]) (by
        rw [sF_at, ht, hd, dQ_s, if_pos g])
      refine ⟨s', ?_, h2⟩
      have hk : wkP (σ.2.1 8 28 0) (σ.1 8 6 0) i = kQ σ i := rfl
      rw [hk] at hF
      rw [if_pos g, hF]
      simp only [Option.bind_some]
      rw [← h1, kQ_s, if_pos g]
    · have g0 : ¬ σ.2.1 8 28 0 i = 0 := by rw [g]; decide
      obtain ⟨y4, q, hq, hqe⟩ := y3 (Or.inl g)
      rw [if_neg g0, if_pos g, y4]
      by_cases hw : σ.2.1 8 29 0 i = nI p
      · obtain ⟨s', h1, h2⟩ := ih (i + 1) (by omega) n (by omega) (sF s 5 4 12 0) (e.sF (by decide)) (by
          rw [show tC (sF s 5 4 12 0) 12 = tC s 12 by simp [tC, sF1, sF2], ht, wQ_s, if_neg (by rw [g]; intro hh; exact absurd hh.1 (by decide))]) (by
          rw [sF_at, dQ_s, if_neg g0, if_pos g, if_pos hw])
        refine ⟨s', ?_, h2⟩
        rw [if_pos hw, if_neg h10, ← h1, kQ_s, if_neg g0]
      · obtain ⟨s', h1, h2⟩ := ih (i + 1) (by omega) n (by omega) (sF s 5 4 12 (s.1 5 4 12)) (e.sF (by decide)) (by
          rw [show tC (sF s 5 4 12 (s.1 5 4 12)) 12 = tC s 12 by simp [tC, sF1, sF2], ht, wQ_s, if_neg (by rw [g]; intro hh; exact absurd hh.1 (by decide))]) (by
          rw [sF_at, hd, dQ_s, if_neg g0, if_pos g, if_neg hw])
        refine ⟨s', ?_, h2⟩
        rw [if_neg hw, if_pos rfl, ← h1, kQ_s, if_neg g0]
    · have g0 : ¬ σ.2.1 8 28 0 i = 0 := by rw [g]; decide
      have g1 : ¬ σ.2.1 8 28 0 i = 1 := by rw [g]; decide
      obtain ⟨y4, q, hq, hqe⟩ := y3 (Or.inr g)
      have hw12 : s.1 5 3 12 = wQ σ p i := by
        have := congrArg (fun t : Th => t.2.2.2.1) ht
        simpa [tC, tw] using this
      rw [if_neg g0, if_neg g1, if_pos g, y4]
      by_cases hw : σ.2.1 8 29 0 i = nI p
      · obtain ⟨s', h1, h2⟩ := ih (i + 1) (by omega) n (by omega) (sF s 5 3 12 (mx10 (wQ σ p i))) (e.sF (by decide)) (by
          have h5 : tC (sF s 5 3 12 (mx10 (wQ σ p i))) 12 = tw 0 (mx10 (wQ σ p i)) (tC s 12) := by simp [tC, tw, sF1, sF2]
          rw [h5, ht, wQ_s, if_pos ⟨g, hw⟩]
          simp [tw]) (by
          rw [sF1]
          simp only [show ¬ (4 : Nat) = 3 by decide, false_and, and_false, if_false]
          rw [hd, dQ_s, if_neg g0, if_neg g1, if_pos g])
        refine ⟨s', ?_, h2⟩
        rw [if_pos hw, if_neg h10, max_eq, hw12]
        simp only [Option.bind_some]
        have hm : (if wQ σ p i - 10 < 0 then 0 else wQ σ p i - 10) = mx10 (wQ σ p i) := rfl
        rw [hm, ← h1, kQ_s, if_neg g0]
      · obtain ⟨s', h1, h2⟩ := ih (i + 1) (by omega) n (by omega) (sF s 5 3 12 (s.1 5 3 12)) (e.sF (by decide)) (by
          rw [sF_id _ _ _ _ _ rfl, ht, wQ_s, if_neg (fun hh => hw hh.2)]) (by
          rw [sF_id _ _ _ _ _ rfl, hd, dQ_s, if_neg g0, if_neg g1, if_pos g])
        refine ⟨s', ?_, h2⟩
        rw [if_neg hw, if_pos rfl, ← h1, kQ_s, if_neg g0]
    · have g0 : ¬ σ.2.1 8 28 0 i = 0 := by rw [g]; decide
      have g1 : ¬ σ.2.1 8 28 0 i = 1 := by rw [g]; decide
      have g2 : ¬ σ.2.1 8 28 0 i = 2 := by rw [g]; decide
      obtain ⟨s', h1, h2⟩ := ih (i + 1) (by omega) n (by omega) (sF s 5 4 12 (if dQ wm sn σ p i = 0 then 0 else clp (dQ wm sn σ p i + 10))) (e.sF (by decide)) (by
          rw [show ∀ v, tC (sF s 5 4 12 v) 12 = tC s 12 by intro v; simp [tC, sF1, sF2], ht, wQ_s, if_neg (fun hh => g2 hh.1)]) (by
          rw [sF_at, dQ_s, if_neg g0, if_neg g1, if_neg g2])
      refine ⟨s', ?_, h2⟩
      rw [if_neg g0, if_neg g1, if_neg g2, snowOn_eq hd hdb (by decide)]
      simp only [Option.bind_some]
      rw [← h1, kQ_s, if_neg g0]
theorem dbp_eq {σ s : Sto} {wm : (Nat → Int32) → Int32} {sn : Int32} {k T p P : Nat} (B : Base σ wm sn k T) (hP : Pn σ T P) (hp : p < 6) (e : FrE akF akA [] σ s) : ∃ s', f_X7_depthByPlan s (nI p) = some (dQ wm sn σ p P, s') ∧ FrE akF akA [] σ s' := by
  obtain ⟨f1, f2, f3, f4⟩ := Base_f B e
  obtain ⟨τ, t1, t2, t3, t4⟩ := become12 (σ := s) hp
  obtain ⟨g1, g2, -⟩ := holding_ph f1
  have h10' := hP.1
  have key := (fun (key : ∀ M, 20 < M → ∃ s', f_X7_depthByPlan_L41 M τ (nI p) 1 k (σ.1 8 6 0) 0 = some (dQ wm sn σ p P, s') ∧ FrE akF akA [] σ s') => key 1000 (by decide)) (fun M hM => by
    have h := dbp_L B hP hp P 0 (by omega) M (by omega) τ (e.trans t2) (by
      rw [t3, (f4 p hp).1]
      have : wQ σ p 0 = σ.2.1 8 3 0 p := rfl
      rw [this]
      simp [tw, tM]) (by rw [t4, (f4 p hp).2]; rfl)
    rw [nI_0] at h
    exact h)
  have a1 : (0 : Int32) ≤ nI p ∧ nI p < 6 := nI_r (N := 6) hp (by decide)
  unfold f_X7_depthByPlan
  rw [g1]
  simp only [Option.bind_some, g2, if_true, nmI, a1, and_self, nI_clamp (show p < 2 ^ 31 by omega), Nat.mul_zero, Nat.zero_add, t1, f2]
  exact key
theorem ends7_L {σ : Sto} {wm : (Nat → Int32) → Int32} {sn : Int32} {k T P : Nat} (B : Base σ wm sn k T) (hP : Pn σ T P) (x1 : Int32) : ∀ (d j : Nat), j + d = T → ∀ n, d < n → ∀ s, FrE akF akA [] σ s → ∃ s', f_X7_ends_L17 n s x1 (sumN (fun q => dQ wm sn σ q P) j) (bitsN (fun q => dQ wm sn σ q P) j) (nI j) = some ((if x1 = 0 then sumN (fun q => dQ wm sn σ q P) T else bitsN (fun q => dQ wm sn σ q P) T), s') ∧ FrE akF akA [] σ s' := by
  have hT := B.2.2.1
  intro d
  induction d with
  | zero =>
    intro j hj n hn s e
    obtain ⟨n, rfl⟩ : ∃ q, n = q + 1 := ⟨n - 1, by omega⟩
    have hj2 : j = T := by omega
    subst hj2
    refine ⟨s, ?_, e⟩
    show f_X7_ends_B17 _ s _ _ _ _ = _
    unfold f_X7_ends_B17
    rw [(Base_f B e).2.2.1, if_pos (by grind)]
    by_cases h0 : x1 = 0
    · rw [if_pos h0, if_pos h0]
    · rw [if_neg h0, if_neg h0]
  | succ d ih =>
    intro j hj n hn s e
    obtain ⟨n, rfl⟩ : ∃ q, n = q + 1 := ⟨n - 1, by omega⟩
    obtain ⟨s1, h1, e1⟩ := dbp_eq B hP (show j < 6 by omega) e
    obtain ⟨s2, h2, e2⟩ := ih (j + 1) (by omega) n (by omega) s1 e1
    refine ⟨s2, ?_, e2⟩
    show f_X7_ends_B17 _ s _ _ _ _ = _
    unfold f_X7_ends_B17
    rw [(Base_f B e).2.2.1, if_neg (nI_ge (by omega) (by omega)), h1]
    simp only [Option.bind_some, nmI, nI_1]
    rw [← h2]
    by_cases hz : dQ wm sn σ j P = 0
    · rw [if_pos hz]
      simp [bitsN, sumN, hz]
    · rw [if_neg hz]
      simp [bitsN, sumN, hz]
theorem ends7 {σ : Sto} {wm : (Nat → Int32) → Int32} {sn : Int32} {k T P : Nat} (B : Base σ wm sn k T) (hP : Pn σ T P) (x1 : Int32) (hx : 0 ≤ x1 ∧ x1 ≤ 1) : ∃ s', f_X7_ends σ x1 = some ((if x1 = 0 then sumN (fun q => dQ wm sn σ q P) T else bitsN (fun q => dQ wm sn σ q P) T), s') ∧ FrE akF akA [] σ s' := by
  have hT := B.2.2.1
  have key := (fun (key : ∀ M, 20 < M → ∃ s', f_X7_ends_L17 M σ x1 0 0 0 = some ((if x1 = 0 then sumN (fun q => dQ wm sn σ q P) T else bitsN (fun q => dQ wm sn σ q P) T), s') ∧ FrE akF akA [] σ s') => key 1000 (by decide)) (fun M hM => by
    have h := ends7_L B hP x1 T 0 (by omega) M (by omega) σ FrE.rfl'
    rw [nI_0] at h
    exact h)
  unfold f_X7_ends
  rw [isUpTo_eq, if_pos hx]
  simp only [Option.bind_some, h10, if_false]
  exact key
-- the reference
abbrev enA : List (Nat × Nat × Nat) := [(8, 22, 0), (8, 39, 0), (8, 4, 0), (8, 3, 0)]
def EnM (wm : (Nat → Int32) → Int32) (sn : Int32) (σ : Sto) (T i : Nat) (s : Sto) : Prop := FrE gwF enA [] σ s ∧ s.1 8 6 0 = kQ σ i ∧ (∀ q, q < T → s.2.1 8 3 0 q = wQ σ q i ∧ s.2.1 8 4 0 q = dQ wm sn σ q i) ∧ ∀ q, q < 6 → 0 ≤ s.2.1 8 4 0 q ∧ s.2.1 8 4 0 q ≤ 99
theorem tM_3 {σ s : Sto} (e : FrE gwF enA [] σ s) (q : Nat) : tM s q = tw 0 (s.2.1 8 3 0 q) (tM σ q) := by
  unfold tM tw
  rw [e.2.1 8 1 0 (by decide), e.2.1 8 2 0 (by decide), e.2.1 8 5 0 (by decide)]
  simp
theorem e107_L {s0 : Sto} {T i : Nat} (hT : T ≤ 6) (hT8 : s0.1 8 0 0 = nI T) (hd : ∀ q, q < 6 → 0 ≤ s0.2.1 8 4 0 q ∧ s0.2.1 8 4 0 q ≤ 99) (k21 : Sto → Int32 → Int32 → Option (Int32 × Sto)) (x1 : Int32) : ∀ (d j : Nat), j + d = T → ∀ n, d < n → ∀ s, FrE [] [(8, 4, 0)] [] s0 s → (∀ q, q < 6 → s.2.1 8 4 0 q = if q < j then (if s0.2.1 8 4 0 q = 0 then 0 else clp (s0.2.1 8 4 0 q + 10)) else s0.2.1 8 4 0 q) → ∃ s', f_X8_ends_L107 k21 n s x1 (nI i) (nI j) = k21 s' x1 (nI (i + 1)) ∧ FrE [] [(8, 4, 0)] [] s0 s' ∧ (∀ q, q < 6 → s'.2.1 8 4 0 q = if q < T then (if s0.2.1 8 4 0 q = 0 then 0 else clp (s0.2.1 8 4 0 q + 10)) else s0.2.1 8 4 0 q) := by
  intro d
  induction d with
  | zero =>
    intro j hj n hn s e hq
    obtain ⟨n, rfl⟩ : ∃ q, n = q + 1 := ⟨n - 1, by omega⟩
    have hj2 : j = T := by omega
    subst hj2
    refine ⟨s, ?_, e, hq⟩
    show f_X8_ends_B107 k21 _ s _ _ _ = _
    unfold f_X8_ends_B107
    rw [e.1 8 0 0 (by decide), hT8, if_pos (by grind)]
    simp only [nmI, nI_1]
  | succ d ih =>
    intro j hj n hn s e hq
    obtain ⟨n, rfl⟩ : ∃ q, n = q + 1 := ⟨n - 1, by omega⟩
    have a1 : (0 : Int32) ≤ nI j ∧ nI j < 6 := nI_r (N := 6) (by omega) (by decide)
    have a2 : (nI j).toNatClampNeg = j := nI_clamp (by omega)
    have hj4 : s.2.1 8 4 0 j = s0.2.1 8 4 0 j := by rw [hq j (by omega), if_neg (by omega)]
    have hdj := hd j (by omega)
    have hnl : ¬ nI T ≤ nI j := nI_ge (by omega) (by omega)
    have hB : f_X8_ends_L107 k21 (n + 1) s x1 (nI i) (nI j) = f_X8_ends_B107 k21 (f_X8_ends_L107 k21 n) s x1 (nI i) (nI j) := rfl
    by_cases h0 : s0.2.1 8 4 0 j = 0
    · obtain ⟨s', g1, g2, g3⟩ := ih (j + 1) (by omega) n (by omega) s e (by
        intro q hq6
        rw [hq q hq6]
        by_cases hqj : q = j
        · subst hqj
          rw [if_neg (by omega), if_pos (by omega), if_pos h0, h0]
        · by_cases hlt : q < j
          · rw [if_pos hlt, if_pos (show q < j + 1 by omega)]
          · rw [if_neg hlt, if_neg (show ¬ q < j + 1 by omega)])
      refine ⟨s', ?_, g2, g3⟩
      rw [← g1, hB]
      unfold f_X8_ends_B107
      rw [e.1 8 0 0 (by decide), hT8, if_neg hnl]
      simp only [a1, and_self, if_true, a2, hj4, h0, nmI, nI_1, show (0 : Int32) ≤ 0 by decide]
    · have hle : ¬ s0.2.1 8 4 0 j ≤ 0 := by grind
      obtain ⟨s', g1, g2, g3⟩ := ih (j + 1) (by omega) n (by omega) (sA s 8 4 0 (upd (s.2.1 8 4 0) j (clp (s0.2.1 8 4 0 j + 10)))) (e.sA (by decide)) (by
        intro q hq6
        rw [sA_at, upd_at]
        by_cases hqj : q = j
        · subst hqj
          rw [if_pos rfl, if_pos (by omega), if_neg h0]
        · rw [if_neg hqj, hq q hq6]
          by_cases hlt : q < j
          · rw [if_pos hlt, if_pos (show q < j + 1 by omega)]
          · rw [if_neg hlt, if_neg (show ¬ q < j + 1 by omega)])
      refine ⟨s', ?_, g2, g3⟩
      rw [← g1, hB]
      unfold f_X8_ends_B107
      rw [e.1 8 0 0 (by decide), hT8, if_neg hnl]
      simp only [a1, and_self, if_true, a2, hj4, hle, if_false, held_clp, Option.bind_some, nm, nmI, nI_1]
theorem ends8_L {σ : Sto} {wm : (Nat → Int32) → Int32} {sn : Int32} {k T P : Nat} (B : MB σ wm sn k T) (hP : Pn σ T P) (x1 : Int32) : ∀ (d i : Nat), i + d = P → ∀ n, d < n → ∀ s, EnM wm sn σ T i s → ∃ s', EnM wm sn σ T P s' ∧ f_X8_ends_L21 n s x1 (nI i) = f_X8_ends_B21 (fun _ _ _ => none) s' x1 (nI P) := by
  obtain ⟨hP10, -, z2, z3⟩ := hP
  obtain ⟨b1, b2, b3, b4, b5, b6⟩ := B
  intro d
  induction d with
  | zero =>
    intro i hi n hn s E
    obtain ⟨n, rfl⟩ : ∃ q, n = q + 1 := ⟨n - 1, by omega⟩
    have hi2 : i = P := by omega
    subst hi2
    refine ⟨s, E, ?_⟩
    have hle : nI i ≤ nI i := by grind
    show f_X8_ends_B21 _ s _ _ = _
    unfold f_X8_ends_B21
    rw [E.1.1 8 27 0 (by decide), z2, if_pos hle, if_pos hle]
  | succ d ih =>
    intro i hi n hn s E
    obtain ⟨n, rfl⟩ : ∃ q, n = q + 1 := ⟨n - 1, by omega⟩
    obtain ⟨e, e6, eq, eb⟩ := E
    obtain ⟨⟨-, y2⟩, y3⟩ := z3 i (by omega)
    have a1 : (0 : Int32) ≤ nI i ∧ nI i < 10 := nI_r (N := 10) (by omega) (by decide)
    have a2 : (nI i).toNatClampNeg = i := nI_clamp (by omega)
    have hnl : ¬ nI P ≤ nI i := nI_ge (by omega) (by omega)
    have hT8 : s.1 8 0 0 = nI T := by rw [e.1 8 0 0 (by decide), b4]
    have hP' : PH s wm sn k := PH_fr b1 e (by decide) (by decide)
    have hB : f_X8_ends_L21 (n + 1) s x1 (nI i) = f_X8_ends_B21 (f_X8_ends_L21 n) s x1 (nI i) := rfl
    have hun : ∀ s', f_X8_ends_L21 n s' x1 (nI (i + 1)) = f_X8_ends_L21 n s' x1 (nI (i + 1)) := fun _ => rfl
    rw [hB]
    unfold f_X8_ends_B21
    simp only [e.1 8 27 0 (by decide), z2, hnl, if_false, a1, and_self, if_true, a2, nm, nmI, nI_1, e.2.1 8 28 0 (by decide), e.2.1 8 29 0 (by decide)]
    rcases y2 with g | g | g | g
    · have hk0 := wkP_r (gs := σ.2.1 8 28 0) (i := i) b5 (by omega)
      obtain ⟨τ, t1, t2, t3, t4⟩ := goesWeek_eq (T := T) hP' b2 hT8 b3 (by rw [e6]; exact hk0) eb
      obtain ⟨s', g1, g2⟩ := ih (i + 1) (by omega) n (by omega) τ ⟨e.trans (t2.mono (by decide) (by decide) (by decide)), by rw [t3, e6, kQ_s, if_pos g], fun q hq => ⟨by rw [t2.2.1 8 3 0 (by decide), (eq q hq).1, wQ_s, if_neg (by rw [g]; intro hh; exact absurd hh.1 (by decide))], by rw [t4 q (by omega), if_pos hq, tM_3 e, (eq q hq).1, (eq q hq).2, e6, dQ_s, if_pos g]⟩, fun q hq => by
        rw [t4 q hq]
        split
        · exact go_bd _ _ _ _ _
        · exact eb q hq⟩
      refine ⟨s', g1, ?_⟩
      rw [if_pos g, t1]
      exact g2
    · have g0 : ¬ σ.2.1 8 28 0 i = 0 := by rw [g]; decide
      obtain ⟨-, q, hq, hqe⟩ := y3 (Or.inl g)
      have a3 : (0 : Int32) ≤ nI q ∧ nI q < 6 := nI_r (N := 6) (by omega) (by decide)
      obtain ⟨s', g1, g2⟩ := ih (i + 1) (by omega) n (by omega) (sA s 8 4 0 (upd (s.2.1 8 4 0) q 0)) ⟨e.sA (by decide), by rw [sA1, e6, kQ_s, if_neg g0], fun r hr => ⟨by
          rw [show (sA s 8 4 0 (upd (s.2.1 8 4 0) q 0)).2.1 8 3 0 = s.2.1 8 3 0 by simp [sA2], (eq r hr).1, wQ_s, if_neg (by rw [g]; intro hh; exact absurd hh.1 (by decide))], by
          rw [sA_at, upd_at, dQ_s, if_neg g0, if_pos g, hqe]
          by_cases hrq : r = q
          · rw [if_pos hrq, hrq, if_pos rfl]
          · rw [if_neg hrq, if_neg (fun hh => hrq ((nI_eq (by omega) (by omega)).mp hh).symm), (eq r hr).2]⟩, fun r hr => by
          rw [sA_at, upd_at]
          split
          · decide
          · exact eb r hr⟩
      refine ⟨s', g1, ?_⟩
      rw [if_neg g0, if_pos g, hqe, if_pos a3, nI_clamp (by omega)]
      exact g2
    · have g0 : ¬ σ.2.1 8 28 0 i = 0 := by rw [g]; decide
      have g1' : ¬ σ.2.1 8 28 0 i = 1 := by rw [g]; decide
      obtain ⟨-, q, hq, hqe⟩ := y3 (Or.inr g)
      have a3 : (0 : Int32) ≤ nI q ∧ nI q < 6 := nI_r (N := 6) (by omega) (by decide)
      have hm : (if 0 < wQ σ q i - 10 then wQ σ q i - 10 else 0) = mx10 (wQ σ q i) := by unfold mx10; grind
      obtain ⟨s', g1, g2⟩ := ih (i + 1) (by omega) n (by omega) (sA s 8 3 0 (upd (s.2.1 8 3 0) q (mx10 (wQ σ q i)))) ⟨e.sA (by decide), by rw [sA1, e6, kQ_s, if_neg g0], fun r hr => ⟨by
          rw [sA_at, upd_at, wQ_s, hqe]
          by_cases hrq : r = q
          · rw [if_pos hrq, hrq, if_pos ⟨g, rfl⟩]
          · rw [if_neg hrq, if_neg (fun hh => hrq ((nI_eq (by omega) (by omega)).mp hh.2).symm), (eq r hr).1], by
          rw [show (sA s 8 3 0 (upd (s.2.1 8 3 0) q (mx10 (wQ σ q i)))).2.1 8 4 0 = s.2.1 8 4 0 by simp [sA2], (eq r hr).2, dQ_s, if_neg g0, if_neg g1', if_pos g]⟩, fun r hr => by
          rw [show (sA s 8 3 0 (upd (s.2.1 8 3 0) q (mx10 (wQ σ q i)))).2.1 8 4 0 = s.2.1 8 4 0 by simp [sA2]]
          exact eb r hr⟩
      refine ⟨s', g1, ?_⟩
      rw [if_neg g0, if_neg g1', if_pos g, hqe]
      refine Eq.trans ?_ g2
      simp only [if_pos a3, nI_clamp (show q < 2 ^ 31 by omega), (eq q hq).1, max_eq, Option.bind_some, hm]
    · have g0 : ¬ σ.2.1 8 28 0 i = 0 := by rw [g]; decide
      have g1' : ¬ σ.2.1 8 28 0 i = 1 := by rw [g]; decide
      have g2' : ¬ σ.2.1 8 28 0 i = 2 := by rw [g]; decide
      obtain ⟨τ, t1, t2, t3⟩ := (fun (key : ∀ M, 10 < M → ∃ s', f_X8_ends_L107 (f_X8_ends_L21 n) M s x1 (nI i) 0 = f_X8_ends_L21 n s' x1 (nI (i + 1)) ∧ FrE [] [(8, 4, 0)] [] s s' ∧ (∀ q, q < 6 → s'.2.1 8 4 0 q = if q < T then (if s.2.1 8 4 0 q = 0 then 0 else clp (s.2.1 8 4 0 q + 10)) else s.2.1 8 4 0 q)) => key 1000 (by decide)) (fun M hM => by
        have h := e107_L (i := i) b3 hT8 eb (f_X8_ends_L21 n) x1 T 0 (by omega) M (by omega) s FrE.rfl' (fun q _ => by rw [if_neg (by omega)])
        rw [nI_0] at h
        exact h)
      obtain ⟨s', g1, g2⟩ := ih (i + 1) (by omega) n (by omega) τ ⟨e.trans (t2.mono (by decide) (by decide) (by decide)), by rw [t2.1 8 6 0 (by decide), e6, kQ_s, if_neg g0], fun q hq => ⟨by rw [t2.2.1 8 3 0 (by decide), (eq q hq).1, wQ_s, if_neg (fun hh => g2' hh.1)], by rw [t3 q (by omega), if_pos hq, (eq q hq).2, dQ_s, if_neg g0, if_neg g1', if_neg g2']⟩, fun q hq => by
        rw [t3 q hq]
        split
        · split
          · decide
          · exact clp_bd _
        · exact eb q hq⟩
      refine ⟨s', g1, ?_⟩
      rw [if_neg g0, if_neg g1', if_neg g2', t1]
      exact g2
theorem ends_step {σ : Sto} (h : Inv σ) (x : Int32) : ∃ r σ1 σ2, f_X7_ends σ x = some (r, σ1) ∧ f_X8_ends σ1 x = some (r, σ2) ∧ Inv σ2 := by
  obtain ⟨wm, sn, k, T, B⟩ := base_of h
  have hT := B.2.2.1
  obtain ⟨P, hP⟩ := Pn_of h hT B.2.2.2.1
  by_cases hx : 0 ≤ x ∧ x ≤ 1
  · obtain ⟨σ1, c1, c2⟩ := ends7 B hP x hx
    have B1 := MB_of (Base_ak B c2)
    obtain ⟨s0, k1, B0, k3, k4, k5, k6⟩ := keep_B B1
    have hQ : ∀ q, dQ wm sn s0 q = dQ wm sn σ q := by
      intro q
      unfold dQ
      rw [tM_fr k6 (by decide) (by decide) (by decide) (by decide), tM_fr c2 (by decide) (by decide) (by decide) (by decide), k6.2.1 8 28 0 (by decide), k6.2.1 8 29 0 (by decide), k6.2.1 8 3 0 (by decide), k6.2.1 8 4 0 (by decide), k6.1 8 6 0 (by decide), c2.2.1 8 28 0 (by decide), c2.2.1 8 29 0 (by decide), c2.2.1 8 3 0 (by decide), c2.2.1 8 4 0 (by decide), c2.1 8 6 0 (by decide)]
    have hP0 : Pn s0 T P := by
      obtain ⟨z0, z1, z2, z3⟩ := hP
      unfold Pn
      rw [k6.2.1 8 28 0 (by decide), k6.2.1 8 29 0 (by decide), k6.1 8 27 0 (by decide), k6.1 2 4 1 (by decide), k6.2.1 2 1 1 (by decide), k6.2.1 2 2 1 (by decide), c2.2.1 8 28 0 (by decide), c2.2.1 8 29 0 (by decide), c2.1 8 27 0 (by decide), c2.1 2 4 1 (by decide), c2.2.1 2 1 1 (by decide), c2.2.1 2 2 1 (by decide)]
      exact ⟨z0, z1, z2, z3⟩
    obtain ⟨σ2, m1, m2, m3⟩ := (fun (key : ∀ M, 20 < M → ∃ τ, f_X8_ends_L21 M s0 x 0 = some ((if x = 0 then sumN (fun q => dQ wm sn σ q P) T else bitsN (fun q => dQ wm sn σ q P) T), τ) ∧ FrE agF amA [] σ1 τ ∧ (∀ i, i < 105 → snapM τ i = snapM σ1 i)) => key 1000 (by decide)) (fun M hM => by
      have hP10 := hP.1
      obtain ⟨s, E, hh⟩ := ends8_L B0 hP0 x P 0 (by omega) M (by omega) s0 ⟨FrE.rfl', rfl, fun q _ => ⟨rfl, rfl⟩, B0.2.2.2.2.2⟩
      rw [nI_0] at hh
      obtain ⟨e, e6, eq, eb⟩ := E
      obtain ⟨τ, t1, t2, t3⟩ := again_B (k3.trans (e.mono (by decide) (by decide) (by decide))) (fun i hi => by rw [e.2.1 8 37 0 (by decide), k5 i hi])
      refine ⟨τ, ?_, t2, t3⟩
      have hle : nI P ≤ nI P := by grind
      have h80 : s.1 8 0 0 = nI T := by rw [e.1 8 0 0 (by decide)]; exact B0.2.2.2.1
      rw [hh]
      unfold f_X8_ends_B21 f_X8_ends_L173
      rw [e.1 8 27 0 (by decide), hP0.2.2.1, if_pos hle]
      by_cases h0 : x = 0
      · rw [if_pos h0, if_pos h0, allDepth_eq h80 hT]
        simp only [Option.bind_some, t1]
        rw [sumN_c T (fun q hq => (eq q hq).2)]
        simp only [hQ]
      · rw [if_neg h0, if_neg h0, outs_eq h80 hT]
        simp only [Option.bind_some, t1]
        rw [bitsN_c T (fun q hq => (eq q hq).2)]
        simp only [hQ])
    refine ⟨_, σ1, σ2, c1, ?_, ask_step h c2 m2 m3⟩
    unfold f_X8_ends
    rw [within_eq, if_pos hx]
    simp only [Option.bind_some, h10, if_false, k1]
    exact m1
  · refine ⟨-1, σ, σ, ?_, ?_, h⟩
    · unfold f_X7_ends; rw [isUpTo_eq, if_neg hx]; rfl
    · unfold f_X8_ends; rw [within_eq, if_neg hx]; rfl
