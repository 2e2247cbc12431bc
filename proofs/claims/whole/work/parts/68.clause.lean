-- A CLAUSE IN BOTH
abbrev mpB : List (Nat × Nat × Nat) := [(8, 20, 0), (8, 16, 0), (8, 17, 0), (8, 18, 0), (8, 19, 0)]
def WK (s0 t0 s t : Sto) (k c0 Ln a : Nat) : Prop := s.2.2.2 = k ∧ FrE cpF cpA [] s0 s ∧ (∀ k', k' ≠ k → ∀ c, s.1 1 c k' = s0.1 1 c k' ∧ s.2.1 1 c k' = s0.2.1 1 c k') ∧ s.1 4 2 0 = nI a ∧ FrE mpF mpB [] t0 t ∧ (∀ c j, 16 ≤ c → c ≤ 19 → j < 10 * k → t.2.1 8 c 0 j = t0.2.1 8 c 0 j) ∧ (∀ j, j < c0 → t.2.1 8 20 0 j = t0.2.1 8 20 0 j) ∧ t.1 8 9 0 = nI a ∧ a ≤ Ln
theorem WK.step {s0 t0 s t s' t' : Sto} {k c0 c1 Ln a a' : Nat} (W : WK s0 t0 s t k c0 Ln a) (q : QCp s s' k a') (m : QMp t t' a') (hc : c0 ≤ c1) (h20 : ∀ j, j < c1 → t'.2.1 8 20 0 j = t.2.1 8 20 0 j) (ha : a' ≤ Ln) : WK s0 t0 s' t' k c0 Ln a' := by
  obtain ⟨w1, w2, w3, w4, w5, w6, w7, w8, w9⟩ := W
  refine ⟨q.2.1, w2.trans q.1, fun k' hk c => ?_, q.2.2.2, w5.trans (m.1.mono (by decide) (by decide) (by decide)), fun c j h1 h2 h3 => ?_, fun j hj => ?_, m.2, ha⟩
  · obtain ⟨u1, u2⟩ := q.2.2.1 k' hk c
    obtain ⟨v1, v2⟩ := w3 k' hk c
    exact ⟨u1.trans v1, u2.trans v2⟩
  · rw [m.1.2.1 8 c 0 (fun hh => by simp at hh; omega)]
    exact w6 c j h1 h2 h3
  · rw [h20 j (by omega)]
    exact w7 j hj
theorem TX_mv {s0 t0 s t : Sto} {k c0 Ln a : Nat} {tx : Nat → Int32} (T : TX s0 t0 Ln tx) (W : WK s0 t0 s t k c0 Ln a) : TX s t Ln tx := by
  obtain ⟨T1, T2, T3, T4⟩ := T
  obtain ⟨w1, w2, w3, w4, w5, -⟩ := W
  refine ⟨T1, by rw [w2.1 4 1 0 (by decide)]; exact T2, by rw [w5.1 8 7 0 (by decide)]; exact T3, fun j hj => ?_⟩
  rw [w2.2.1 4 0 0 (by decide), w5.2.1 8 8 0 (by decide)]
  exact T4 j hj
theorem EQp_st {s t : Sto} {k S0 c0 Ln a : Nat} (h1 : s.2.2.2 = k) (h2 : s.1 4 2 0 = nI a) (h3 : t.1 8 9 0 = nI a) (h4 : s.1 1 3 k = nI S0) (h5 : t.1 8 21 0 = nI c0) (h6 : S0 ≤ a) (h7 : c0 ≤ 500 + a) (h8 : a ≤ Ln) : EQp s t s t k S0 c0 Ln a (t.1 8 12 0) [] :=
  ⟨⟨FrE.rfl', h1, fun _ _ _ => ⟨rfl, rfl⟩, h2⟩, ⟨FrE.rfl', h3⟩, rfl, h4, h5, fun _ _ _ => rfl, fun _ _ => rfl, fun j h => absurd h (Nat.not_lt_zero j), ⟨h6, h7, h8⟩, rfl⟩
def up8 (q N : Nat) (v : Int32) (t : Sto) : Sto := sA t 8 q 0 (upd (t.2.1 8 q 0) N v)
theorem up8_F {q N : Nat} {v : Int32} {t : Sto} : (up8 q N v t).1 = t.1 := rfl
theorem up8_A {q N c j : Nat} {v : Int32} {t : Sto} (h : ¬ (c = q ∧ j = N)) : (up8 q N v t).2.1 8 c 0 j = t.2.1 8 c 0 j := by
  unfold up8
  by_cases hc : c = q
  · subst hc
    rw [sA_at, upd_at, if_neg (fun hh => h ⟨rfl, hh⟩)]
  · rw [sA_ne (fun hh => hc hh.2.1)]
theorem up8_at {q N : Nat} {v : Int32} {t : Sto} : (up8 q N v t).2.1 8 q 0 N = v := by
  unfold up8
  rw [sA_at, upd_at, if_pos rfl]
theorem WK.up8 {s0 t0 s t : Sto} {k c0 Ln a : Nat} (W : WK s0 t0 s t k c0 Ln a) {q N : Nat} {v : Int32} (h1 : 16 ≤ q) (h2 : q ≤ 19) (hN : 10 * k ≤ N) : WK s0 t0 s (up8 q N v t) k c0 Ln a := by
  obtain ⟨w1, w2, w3, w4, w5, w6, w7, w8, w9⟩ := W
  have hq : q = 16 ∨ q = 17 ∨ q = 18 ∨ q = 19 := by omega
  have hm : (8, q, grp 8 0) ∈ mpB := by
    rcases hq with rfl | rfl | rfl | rfl <;> decide
  exact ⟨w1, w2, w3, w4, w5.sA hm, fun c j g1 g2 g3 => (up8_A (fun hh => by omega)).trans (w6 c j g1 g2 g3), fun j hj => (up8_A (fun hh => by omega)).trans (w7 j hj), w8, w9⟩
theorem WK.f12 {s0 t0 s t : Sto} {k c0 Ln a : Nat} (W : WK s0 t0 s t k c0 Ln a) {v : Int32} : WK s0 t0 s (sF t 8 12 0 v) k c0 Ln a := by
  obtain ⟨w1, w2, w3, w4, w5, w6, w7, w8, w9⟩ := W
  exact ⟨w1, w2, w3, w4, w5.sF (by decide), w6, w7, by rw [sF_ne (by decide)]; exact w8, w9⟩
def cl3 (t : Sto) (N : Nat) (w v : Int32) : Sto := sF (up8 18 N (t.1 8 21 0) (up8 17 N v (up8 16 N w t))) 8 12 0 0
theorem L115_1 {t t2 : Sto} {N : Nat} {w : Int32} (hN : N < 61) (g : f_X8_isNumber t = some (1, t2)) : f_X8_isClause_L115 t (nI N) w 1 = (if (2 : Int32) ≤ w then f_X8_isClause_L184 (cl3 t2 N w (t2.1 8 10 0)) (nI N) else (f_X8_is (cl3 t2 N w (t2.1 8 10 0)) 32).bind fun q24 => (if q24.1 = 0 then some (0, q24.2) else (f_X8_isE (f_X8_isF 12) q24.2).bind fun q26 => (if q26.1 = 0 then some (0, q26.2) else f_X8_isClause_L184 q26.2 (nI N)))) := by
  have b1 : (0 : Int32) ≤ nI N ∧ nI N < 61 := nI_r (N := 61) hN (by decide)
  have b2 : (nI N).toNatClampNeg = N := nI_clamp (by omega)
  unfold f_X8_isClause_L115
  rw [if_neg h10, g]
  simp only [Option.bind_some, h10, if_false, b1, and_self, if_true, b2, nm]
  rfl
theorem L184_1 {t : Sto} {N : Nat} (hN : N < 61) : f_X8_isClause_L184 t (nI N) = some (1, up8 19 N (t.1 8 21 0 - t.2.1 8 18 0 N) t) := by
  have b1 : (0 : Int32) ≤ nI N ∧ nI N < 61 := nI_r (N := 61) hN (by decide)
  have b2 : (nI N).toNatClampNeg = N := nI_clamp (by omega)
  unfold f_X8_isClause_L184
  simp only [b1, and_self, if_true, b2, nm]
  rfl
def add3 (s : Sto) (k n : Nat) (st lt nb : Int32) : Sto := sF (sA (sA (sA s 1 0 k (upd (s.2.1 1 0 k) n st)) 1 1 k (upd (s.2.1 1 1 k) n lt)) 1 2 k (upd (s.2.1 1 2 k) n nb)) 1 3 k (nI (n + 1))
theorem add_at {s : Sto} {k n : Nat} {st lt nb : Int32} (h : s.1 1 3 k = nI n) (hn : n < 100) : f_X1_add s k st lt nb = some (add3 s k n st lt nb) := by
  have b1 : (0 : Int32) ≤ nI n ∧ nI n < 100 := nI_r (N := 100) (by omega) (by decide)
  have b2 : (nI n).toNatClampNeg = n := nI_clamp (by omega)
  have b3 : ¬ (100 : Int32) ≤ nI n := nI_ge (a := n) (b := 100) (by omega) (by decide)
  unfold f_X1_add add3
  simp only [h, b3, if_false, b1, and_self, if_true, b2, nm, sA1, sA2, nI_1, Nat.reduceEqDiff, false_and, and_false]
theorem add3_Q {s : Sto} {k n a : Nat} {st lt nb : Int32} (h1 : s.2.2.2 = k) (h2 : s.1 4 2 0 = nI a) : QCp s (add3 s k n st lt nb) k a := by
  refine ⟨((((FrE.rfl'.sA (c := 1) (k := 0) (i := k) (show (1, 0, 0) ∈ cpA by decide)).sA (c := 1) (k := 1) (i := k) (show (1, 1, 0) ∈ cpA by decide)).sA (c := 1) (k := 2) (i := k) (show (1, 2, 0) ∈ cpA by decide)).sF (c := 1) (k := 3) (i := k) (show (1, 3, 0) ∈ cpF by decide)), h1, fun k' hk c' => ?_, ?_⟩
  · unfold add3
    simp only [sF1, sF2, sA1, sA2, hk, and_false, if_false]
    exact ⟨trivial, trivial⟩
  · unfold add3
    simp [sF1, sA1, h2]
theorem add3_A {s : Sto} {k n x : Nat} {st lt nb : Int32} {c : Nat} (hc : c < 3) (hx : x ≠ n) : (add3 s k n st lt nb).2.1 1 c k x = s.2.1 1 c k x := by
  unfold add3
  have : c = 0 ∨ c = 1 ∨ c = 2 := by omega
  rcases this with rfl | rfl | rfl <;> simp [sF2, sA2, upd_at, hx]
theorem add3_v {s : Sto} {k n : Nat} {st lt nb : Int32} : (add3 s k n st lt nb).2.1 1 0 k n = st ∧ (add3 s k n st lt nb).2.1 1 2 k n = nb ∧ (add3 s k n st lt nb).1 1 3 k = nI (n + 1) ∧ (add3 s k n st lt nb).1 1 4 k = s.1 1 4 k := by
  unfold add3
  refine ⟨by simp [sF2, sA2, upd_at], by simp [sF2, sA2, upd_at], sF_at _ _ _ _ _, by simp [sF1, sA1]⟩
theorem snN_congr {wd nu wd' nu' : Nat → Int32} : ∀ n, (∀ j, j < n → wd' j = wd j ∧ nu' j = nu j) → snN wd' nu' n = snN wd nu n
  | 0, _ => rfl
  | n + 1, h => by
    show (if wd' n = 2 then nu' n else snN wd' nu' n) = (if wd n = 2 then nu n else snN wd nu n)
    rw [(h n (by omega)).1, (h n (by omega)).2, snN_congr n (fun j hj => h j (by omega))]
theorem RCx_old {st lt nb st' lt' nb' wd nu be le wd' nu' be' le' code code' : Nat → Int32} {cd cd' : Int32} {C C' : Nat → List Int32} {P P' : Nat → Nat} {i N : Nat} (h : RCx st lt nb wd nu be le code cd C P i) (hN : P (i + 1) ≤ N) (e1 : ∀ x, x < N → st' x = st x) (e2 : ∀ x, x < N → lt' x = lt x) (e3 : ∀ x, x < N → nb' x = nb x) (w1 : wd' i = wd i) (w2 : nu' i = nu i) (w3 : be' i = be i) (w4 : le' i = le i) (hc : ∀ x : Nat, (x : Int) < cd.toInt → code' x = code x) (hcd : cd.toInt ≤ cd'.toInt) (c1 : C' i = C i) (p1 : P' i = P i) (p2 : P' (i + 1) = P (i + 1)) : RCx st' lt' nb' wd' nu' be' le' code' cd' C' P' i := by
  unfold RCx at *
  rw [w1, w2, w3, w4, c1, p1, p2]
  obtain ⟨a1, a2, a3, a4⟩ := h
  refine ⟨a1, a2, a3, fun hw => ?_⟩
  obtain ⟨g1, g2, ⟨b, g3, g4, g5⟩, g6, g7, g8⟩ := a4 hw
  refine ⟨g1, g2, ⟨b, g3, by omega, fun j hj => ?_⟩, by rw [e1 _ (by omega)]; exact g6, by rw [e3 _ (by omega)]; exact g7, g8⟩
  obtain ⟨u1, u2⟩ := g5 j hj
  rw [hc _ (by omega), e1 _ (by omega), e2 _ (by omega), e3 _ (by omega)]
  exact ⟨u1, u2⟩
def CL (s0 t0 s t : Sto) (k c0 Ln a i : Nat) (C : Nat → List Int32) (P : Nat → Nat) : Prop :=
  WK s0 t0 s t k c0 Ln a ∧ P 0 = 0 ∧ s.1 1 3 k = nI (P i) ∧ P i ≤ a ∧ (∀ i', i' ≤ i → P i' ≤ P i) ∧ (∃ cc, t.1 8 21 0 = nI cc ∧ c0 ≤ cc ∧ cc ≤ c0 + a) ∧ s.1 1 4 k = snN (fun j => t.2.1 8 16 0 (10 * k + j)) (fun j => t.2.1 8 17 0 (10 * k + j)) i ∧ ∀ i', i' < i → RCx (s.2.1 1 0 k) (s.2.1 1 1 k) (s.2.1 1 2 k) (fun j => t.2.1 8 16 0 (10 * k + j)) (fun j => t.2.1 8 17 0 (10 * k + j)) (fun j => t.2.1 8 18 0 (10 * k + j)) (fun j => t.2.1 8 19 0 (10 * k + j)) (t.2.1 8 20 0) (t.1 8 21 0) C P i'
theorem CL_next {s0 t0 s t s' t' : Sto} {k c0 Ln a a' i : Nat} {C : Nat → List Int32} {P : Nat → Nat} (L : CL s0 t0 s t k c0 Ln a i C P) (W' : WK s0 t0 s' t' k c0 Ln a') (h1 : ∀ c, c < 3 → ∀ x, x < P i → s'.2.1 1 c k x = s.2.1 1 c k x) (h2 : ∀ c i', 16 ≤ c → c ≤ 19 → i' < i → t'.2.1 8 c 0 (10 * k + i') = t.2.1 8 c 0 (10 * k + i')) {cc cc' : Nat} (hcc : t.1 8 21 0 = nI cc) (hcc' : t'.1 8 21 0 = nI cc') (hle : cc ≤ cc') (hc1 : c0 ≤ cc) (hc2 : cc' ≤ c0 + a') (hb : cc' < 2 ^ 31) (h3 : ∀ j, j < cc → t'.2.1 8 20 0 j = t.2.1 8 20 0 j) (es : List Int32) (p : Nat) (hp : P i ≤ p) (hpa : p ≤ a') (hsz : s'.1 1 3 k = nI p) (hsn : s'.1 1 4 k = if t'.2.1 8 16 0 (10 * k + i) = 2 then t'.2.1 8 17 0 (10 * k + i) else s.1 1 4 k) (hR : RCx (s'.2.1 1 0 k) (s'.2.1 1 1 k) (s'.2.1 1 2 k) (fun j => t'.2.1 8 16 0 (10 * k + j)) (fun j => t'.2.1 8 17 0 (10 * k + j)) (fun j => t'.2.1 8 18 0 (10 * k + j)) (fun j => t'.2.1 8 19 0 (10 * k + j)) (t'.2.1 8 20 0) (t'.1 8 21 0) (fun x => if x = i then es else C x) (fun x => if x = i + 1 then p else P x) i) : ∃ C' P', CL s0 t0 s' t' k c0 Ln a' (i + 1) C' P' := by
  obtain ⟨W, hP0, lsz, hPa, hPm, -, lsn, lR⟩ := L
  refine ⟨fun x => if x = i then es else C x, fun x => if x = i + 1 then p else P x, W', ?_, ?_, ?_, fun i' hi' => ?_, ⟨cc', hcc', by omega, hc2⟩, ?_, fun i' hi' => ?_⟩
  · show (if 0 = i + 1 then p else P 0) = 0
    rw [if_neg (by omega), hP0]
  · show _ = nI (if i + 1 = i + 1 then p else P (i + 1))
    rw [if_pos rfl, hsz]
  · show (if i + 1 = i + 1 then p else P (i + 1)) ≤ a'
    rw [if_pos rfl]; exact hpa
  · show (if i' = i + 1 then p else P i') ≤ (if i + 1 = i + 1 then p else P (i + 1))
    rw [if_pos rfl]
    by_cases hh : i' = i + 1
    · rw [if_pos hh]; exact Nat.le_refl _
    · rw [if_neg hh]
      have := hPm i' (by omega)
      omega
  · show _ = (if t'.2.1 8 16 0 (10 * k + i) = 2 then t'.2.1 8 17 0 (10 * k + i) else snN (fun j => t'.2.1 8 16 0 (10 * k + j)) (fun j => t'.2.1 8 17 0 (10 * k + j)) i)
    rw [hsn, lsn, snN_congr (wd := fun j => t.2.1 8 16 0 (10 * k + j)) (nu := fun j => t.2.1 8 17 0 (10 * k + j)) i (fun j hj => ⟨h2 16 j (by omega) (by omega) hj, h2 17 j (by omega) (by omega) hj⟩)]
  · by_cases hh : i' = i
    · subst hh
      exact hR
    · have hlt : i' < i := by omega
      have hcc2 : (nI cc).toInt = cc := nI_toInt (by omega)
      have hcc3 : (nI cc').toInt = cc' := nI_toInt (by omega)
      exact RCx_old (N := P i) (lR i' hlt) (hPm (i' + 1) (by omega)) (h1 0 (by omega)) (h1 1 (by omega)) (h1 2 (by omega)) (h2 16 i' (by omega) (by omega) hlt) (h2 17 i' (by omega) (by omega) hlt) (h2 18 i' (by omega) (by omega) hlt) (h2 19 i' (by omega) (by omega) hlt) (fun x hx => h3 x (by rw [hcc, hcc2] at hx; omega)) (by rw [hcc, hcc', hcc2, hcc3]; omega) (if_neg hh) (if_neg (by omega)) (if_neg (by omega))
