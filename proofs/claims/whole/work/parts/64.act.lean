-- ACTS
/-- a body begins: the class, the reference -/
def pc (s : Sto) (b : Int32) : Sto := sF (if (20 : Int32) ≤ s.1 0 1 0 then s else sA s 0 0 0 (upd (s.2.1 0 0 0) (s.1 0 1 0).toNatClampNeg b)) 0 1 0 (s.1 0 1 0 + 1)
def pm (s : Sto) (b : Int32) : Sto := sF (if (20 : Int32) ≤ s.1 8 33 0 then s else sA s 8 34 0 (upd (s.2.1 8 34 0) (s.1 8 33 0).toNatClampNeg b)) 8 33 0 (s.1 8 33 0 + 1)
def pcs (s : Sto) (bs : List Int32) : Sto := bs.foldl pc s
def pms (s : Sto) (bs : List Int32) : Sto := bs.foldl pm s
/-- what the class holds of the ACT's THING -/
def CS (s : Sto) (K nu v : Int32) (c : Nat) : Prop := s.1 0 1 0 = nI c ∧ s.1 0 2 0 = K ∧ s.1 0 3 0 = nu ∧ s.1 0 4 0 = v
def MS (s : Sto) (p : Nat) (K v : Int32) (c : Nat) : Prop := s.1 8 33 0 = nI c ∧ s.2.1 8 1 0 p = K ∧ s.2.1 8 2 0 p = v
theorem CS_p {s : Sto} {K nu v : Int32} {c : Nat} (h : CS s K nu v c) (b : Int32) : CS (pc s b) K nu v (c + 1) := by
  obtain ⟨h1, h2, h3, h4⟩ := h
  unfold pc
  split
  · exact ⟨by rw [sF_at, h1, nI_1], by simp [sF1, h2], by simp [sF1, h3], by simp [sF1, h4]⟩
  · exact ⟨by rw [sF_at, h1, nI_1], by simp [sF1, sA1, h2], by simp [sF1, sA1, h3], by simp [sF1, sA1, h4]⟩
theorem MS_p {s : Sto} {p : Nat} {K v : Int32} {c : Nat} (h : MS s p K v c) (b : Int32) : MS (pm s b) p K v (c + 1) := by
  obtain ⟨h1, h2, h3⟩ := h
  unfold pm
  split
  · exact ⟨by rw [sF_at, h1, nI_1], by simp [sF2, h2], by simp [sF2, h3]⟩
  · exact ⟨by rw [sF_at, h1, nI_1], by simp [sF2, sA2, h2], by simp [sF2, sA2, h3]⟩
theorem CS_s {K nu v : Int32} : ∀ (bs : List Int32) (s : Sto) (c : Nat), CS s K nu v c → CS (pcs s bs) K nu v (c + bs.length)
  | [], _, _, h => h
  | b :: bs, s, c, h => by
    have := CS_s bs (pc s b) (c + 1) (CS_p h b)
    rw [show c + (b :: bs).length = c + 1 + bs.length by simp; omega]
    exact this
theorem MS_s {p : Nat} {K v : Int32} : ∀ (bs : List Int32) (s : Sto) (c : Nat), MS s p K v c → MS (pms s bs) p K v (c + bs.length)
  | [], _, _, h => h
  | b :: bs, s, c, h => by
    have := MS_s bs (pm s b) (c + 1) (MS_p h b)
    rw [show c + (b :: bs).length = c + 1 + bs.length by simp; omega]
    exact this
theorem opt_eta {α β : Type} (o : Option (α × β)) : (o.bind fun q => some (q.1, q.2)) = o := by cases o <;> rfl
theorem run1 {n : Nat} {s : Sto} {K nu v x d b : Int32} {c : Nat} {f a : Int32} (h : CS s K nu v c) (hc : c < 1000) (hd : ¬ (40 : Int32) < d) (hp : ¬ 3 * f + a < 0) (hp2 : 3 * f + a < 21) (hb : (sarr 1).getD (3 * f + a).toNatClampNeg 0 = b) : f_X0_run (n + 1) s f a x d = f_X0_answer (f_X0_run n) (pc s b) b x (d + 1) := by
  show f_X0_run_K (f_X0_run n) s f a x d = _
  unfold f_X0_run_K
  have h1 := h.1
  have hp3 : (0 : Int32) ≤ 3 * f + a := by grind
  simp only [nmI, if_neg hd, if_neg hp, if_pos hp2, if_pos (show 0 ≤ 3 * f + a ∧ 3 * f + a < 21 from ⟨hp3, hp2⟩), hb]
  unfold f_X0_run_L58
  simp only [opt_eta, nm]
  by_cases h20 : (20 : Int32) ≤ s.1 0 1 0
  · rw [if_pos h20]
    unfold pc
    rw [if_pos h20]
  · rw [if_neg h20]
    have h0 : (0 : Int32) ≤ s.1 0 1 0 := by rw [h1]; exact nI_n0 (by omega)
    rw [if_pos ⟨h0, by grind⟩]
    unfold pc
    rw [if_neg h20]
    rfl
theorem ran1 {s : Sto} {p : Nat} {K v b : Int32} {c : Nat} (h : MS s p K v c) (hc : c < 1000) : f_X8_ran s b = some (pm s b) := by
  unfold f_X8_ran
  by_cases h20 : (20 : Int32) ≤ s.1 8 33 0
  · rw [if_pos h20]
    unfold pm
    rw [if_pos h20]
    rfl
  · rw [if_neg h20]
    have h0 : (0 : Int32) ≤ s.1 8 33 0 := by rw [h.1]; exact nI_n0 (by omega)
    rw [if_pos ⟨h0, by grind⟩]
    unfold pm
    rw [if_neg h20]
    rfl
/-- sinks, from a KIND on: its answer and its bodies -/
def skV (k x nu v : Int32) : Int32 := if k = 2 ∨ k = 5 then x * 3 + nu else if k = 4 then -(x + nu) else if k = 6 then (x + nu) ^^^ v else x + nu
def skB (k : Int32) : List Int32 := if k = 2 ∨ k = 5 then [30, 10] else if k = 4 then [50, 10] else if k = 6 then [71, 10] else [10]
def shV (k K x nu v : Int32) : Int32 := if k = 1 then (skV K x nu v - v) ^^^ 6 else if k = 4 then (skV K (x + 1) nu v - v) ^^^ 6 else if k = 6 then (skV K x nu v - v) + (2 + nu) else skV K x nu v - v
def shB (k K : Int32) : List Int32 := if k = 1 then 20 :: 11 :: skB K else if k = 4 then 51 :: 20 :: 11 :: skB K else if k = 6 then 70 :: 11 :: (skB K ++ [10]) else 11 :: skB K
def teV (k K x nu v : Int32) : Int32 := if k = 3 ∨ k = 6 then shV K K x nu v * 2 + shV K K 1 nu v else if k = 5 then shV K K (x - nu) nu v * 2 else shV K K x nu v * 2
def teB (k K : Int32) : List Int32 := if k = 3 ∨ k = 6 then 40 :: 12 :: (shB K K ++ shB K K) else if k = 5 then 60 :: 12 :: shB K K else 12 :: shB K K
def isK (k : Int32) : Prop := k = 0 ∨ k = 1 ∨ k = 2 ∨ k = 3 ∨ k = 4 ∨ k = 5 ∨ k = 6
theorem pcs_c (s : Sto) (b : Int32) (bs : List Int32) : pcs s (b :: bs) = pcs (pc s b) bs := rfl
theorem pms_c (s : Sto) (b : Int32) (bs : List Int32) : pms s (b :: bs) = pms (pm s b) bs := rfl
theorem pcs_a (s : Sto) (a b : List Int32) : pcs s (a ++ b) = pcs (pcs s a) b := by unfold pcs; rw [List.foldl_append]
theorem pms_a (s : Sto) (a b : List Int32) : pms s (a ++ b) = pms (pms s a) b := by unfold pms; rw [List.foldl_append]
theorem skB_l {k : Int32} : (skB k).length ≤ 2 := by
  unfold skB
  split
  · simp
  · split
    · simp
    · split <;> simp
theorem shB_l {k K : Int32} : (shB k K).length ≤ 5 := by
  have := skB_l (k := K)
  unfold shB
  repeat' split
  all_goals simp
  all_goals omega
theorem ans10 {q : Sto → Int32 → Int32 → Int32 → Int32 → Option (Int32 × Sto)} {s : Sto} {x d : Int32} : f_X0_answer q s 10 x d = some (x + s.1 0 3 0, s) := by
  unfold f_X0_answer; rw [if_pos rfl]
theorem sk7 {K nu v : Int32} {k : Int32} (hk : isK k) : ∀ {n : Nat} {s : Sto} {x d : Int32} {c : Nat}, CS s K nu v c → c < 900 → 0 ≤ d → d ≤ 30 → f_X0_run (n + 2) s k 0 x d = some (skV k x nu v, pcs s (skB k)) := by
  intro n s x d c h hc hd0 hd
  have hd1 : ¬ (40 : Int32) < d := by grind
  have hd2 : ¬ (40 : Int32) < d + 1 := by grind
  have h0 : ∀ {m : Nat} {s : Sto} {x d : Int32} {c : Nat} {f : Int32}, (f = 0 ∨ f = 1 ∨ f = 3) → CS s K nu v c → c < 999 → ¬ (40 : Int32) < d → f_X0_run (m + 1) s f 0 x d = some (x + nu, pc s 10) := by
    intro m s x d c f hf h hc hd
    rw [run1 (b := 10) h (by omega) hd (by rcases hf with rfl | rfl | rfl <;> decide) (by rcases hf with rfl | rfl | rfl <;> decide) (by rcases hf with rfl | rfl | rfl <;> decide), ans10, (CS_p h 10).2.2.1]
  rcases hk with rfl | rfl | rfl | rfl | rfl | rfl | rfl
  · exact h0 (m := n + 1) (Or.inl rfl) h (by omega) hd1
  · exact h0 (m := n + 1) (Or.inr (Or.inl rfl)) h (by omega) hd1
  · rw [run1 (b := 30) h (by omega) hd1 (by decide) (by decide) (by decide)]
    unfold f_X0_answer
    rw [if_neg (by decide), if_neg (by decide), if_neg (by decide), if_neg (by decide), if_pos rfl, opt_eta, h0 (m := n) (Or.inl rfl) (CS_p h 30) (by omega) hd2]
    rfl
  · exact h0 (m := n + 1) (Or.inr (Or.inr rfl)) h (by omega) hd1
  · rw [run1 (b := 50) h (by omega) hd1 (by decide) (by decide) (by decide)]
    unfold f_X0_answer
    rw [if_neg (by decide), if_neg (by decide), if_neg (by decide), if_neg (by decide), if_neg (by decide), if_neg (by decide), if_pos rfl, h0 (m := n) (Or.inr (Or.inl rfl)) (CS_p h 50) (by omega) hd2]
    rfl
  · rw [run1 (b := 30) h (by omega) hd1 (by decide) (by decide) (by decide)]
    unfold f_X0_answer
    rw [if_neg (by decide), if_neg (by decide), if_neg (by decide), if_neg (by decide), if_pos rfl, opt_eta, h0 (m := n) (Or.inl rfl) (CS_p h 30) (by omega) hd2]
    rfl
  · rw [run1 (b := 71) h (by omega) hd1 (by decide) (by decide) (by decide)]
    unfold f_X0_answer
    rw [if_neg (by decide), if_neg (by decide), if_neg (by decide), if_neg (by decide), if_neg (by decide), if_neg (by decide), if_neg (by decide), if_neg (by decide), if_neg (by decide), if_neg (by decide), if_pos rfl, h0 (m := n) (Or.inr (Or.inr rfl)) (CS_p h 71) (by omega) hd2]
    simp only [Option.bind_some]
    rw [(CS_p (CS_p h 71) 10).2.2.2]
    rfl
theorem sh7 {K nu v : Int32} {k : Int32} (hk : isK k) (hK : isK K) : ∀ {n : Nat} {s : Sto} {x d : Int32} {c : Nat}, CS s K nu v c → c < 800 → 0 ≤ d → d ≤ 20 → f_X0_run (n + 5) s k 1 x d = some (shV k K x nu v, pcs s (shB k K)) := by
  intro n s x d c h hc hd0 hd
  have hd1 : ¬ (40 : Int32) < d := by grind
  have hd2 : ¬ (40 : Int32) < d + 1 := by grind
  have hd3 : ¬ (40 : Int32) < d + 1 + 1 := by grind
  have h11 : ∀ {m : Nat} {s : Sto} {x d : Int32} {c : Nat} {f : Int32}, (f = 0 ∨ f = 2 ∨ f = 3 ∨ f = 5) → CS s K nu v c → c < 899 → 0 ≤ d → d ≤ 25 → f_X0_run (m + 3) s f 1 x d = some (skV K x nu v - v, pcs s (11 :: skB K)) := by
    intro m s x d c f hf h hc hd0 hd
    rw [run1 (n := m + 2) (b := 11) h (by omega) (by grind) (by rcases hf with rfl | rfl | rfl | rfl <;> decide) (by rcases hf with rfl | rfl | rfl | rfl <;> decide) (by rcases hf with rfl | rfl | rfl | rfl <;> decide)]
    unfold f_X0_answer
    rw [if_neg (by decide), if_pos rfl, (CS_p h 11).2.1, sk7 hK (CS_p h 11) (by omega) (by grind) (by grind)]
    simp only [Option.bind_some]
    rw [(CS_s (skB K) _ _ (CS_p h 11)).2.2.2]
    rfl
  have h20 : ∀ {m : Nat} {s : Sto} {x d : Int32} {c : Nat}, CS s K nu v c → c < 898 → 0 ≤ d → d ≤ 24 → f_X0_run (m + 4) s 1 1 x d = some ((skV K x nu v - v) ^^^ 6, pcs s (20 :: 11 :: skB K)) := by
    intro m s x d c h hc hd0 hd
    rw [run1 (n := m + 3) (b := 20) h (by omega) (by grind) (by decide) (by decide) (by decide)]
    unfold f_X0_answer
    rw [if_neg (by decide), if_neg (by decide), if_neg (by decide), if_pos rfl, h11 (Or.inl rfl) (CS_p h 20) (by omega) (by grind) (by grind)]
    rfl
  rcases hk with rfl | rfl | rfl | rfl | rfl | rfl | rfl
  · exact h11 (m := n + 2) (Or.inl rfl) h (by omega) hd0 (by grind)
  · exact h20 (m := n + 1) h (by omega) hd0 (by grind)
  · exact h11 (m := n + 2) (Or.inr (Or.inl rfl)) h (by omega) hd0 (by grind)
  · exact h11 (m := n + 2) (Or.inr (Or.inr (Or.inl rfl))) h (by omega) hd0 (by grind)
  · rw [run1 (n := n + 4) (b := 51) h (by omega) hd1 (by decide) (by decide) (by decide)]
    unfold f_X0_answer
    rw [if_neg (by decide), if_neg (by decide), if_neg (by decide), if_neg (by decide), if_neg (by decide), if_neg (by decide), if_neg (by decide), if_pos rfl, opt_eta, h20 (m := n) (CS_p h 51) (by omega) (by grind) (by grind)]
    rfl
  · exact h11 (m := n + 2) (Or.inr (Or.inr (Or.inr rfl))) h (by omega) hd0 (by grind)
  · have hl := skB_l (k := K)
    rw [run1 (n := n + 4) (b := 70) h (by omega) hd1 (by decide) (by decide) (by decide)]
    unfold f_X0_answer
    rw [if_neg (by decide), if_neg (by decide), if_neg (by decide), if_neg (by decide), if_neg (by decide), if_neg (by decide), if_neg (by decide), if_neg (by decide), if_neg (by decide), if_pos rfl, h11 (m := n + 1) (Or.inr (Or.inr (Or.inl rfl))) (CS_p h 70) (by omega) (by grind) (by grind)]
    simp only [Option.bind_some]
    have h5 := CS_s (11 :: skB K) _ _ (CS_p h 70)
    rw [sk7 (n := n + 2) (k := 3) (Or.inr (Or.inr (Or.inr (Or.inl rfl)))) h5 (by simp; omega) (by grind) (by grind)]
    simp only [Option.bind_some]
    have e1 : skB 3 = [10] := by decide
    have e2 : skV 3 2 nu v = 2 + nu := by unfold skV; simp
    rw [e1, e2]
    have e3 : shB 6 K = 70 :: 11 :: (skB K ++ [10]) := rfl
    have e4 : shV 6 K x nu v = (skV K x nu v - v) + (2 + nu) := rfl
    rw [e3, e4, pcs_c s 70, show (11 :: (skB K ++ [10])) = (11 :: skB K) ++ [10] from rfl, pcs_a]
theorem te7 {K nu v : Int32} {k : Int32} (hk : isK k) (hK : isK K) : ∀ {n : Nat} {s : Sto} {x : Int32} {c : Nat}, CS s K nu v c → c < 100 → f_X0_run (n + 7) s k 2 x 0 = some (teV k K x nu v, pcs s (teB k K)) := by
  intro n s x c h hc
  have h12 : ∀ {m : Nat} {s : Sto} {x d : Int32} {c : Nat} {f : Int32}, (f = 0 ∨ f = 1 ∨ f = 2 ∨ f = 4) → CS s K nu v c → c < 700 → 0 ≤ d → d ≤ 15 → f_X0_run (m + 6) s f 2 x d = some (shV K K x nu v * 2, pcs s (12 :: shB K K)) := by
    intro m s x d c f hf h hc hd0 hd
    rw [run1 (n := m + 5) (b := 12) h (by omega) (by grind) (by rcases hf with rfl | rfl | rfl | rfl <;> decide) (by rcases hf with rfl | rfl | rfl | rfl <;> decide) (by rcases hf with rfl | rfl | rfl | rfl <;> decide)]
    unfold f_X0_answer
    rw [if_neg (by decide), if_neg (by decide), if_pos rfl, (CS_p h 12).2.1, sh7 hK hK (CS_p h 12) (by omega) (by grind) (by grind)]
    rfl
  have h40 : ∀ {f : Int32}, (f = 3 ∨ f = 6) → f_X0_run (n + 7) s f 2 x 0 = some (shV K K x nu v * 2 + shV K K 1 nu v, pcs s (40 :: 12 :: (shB K K ++ shB K K))) := by
    intro f hf
    have hl := shB_l (k := K) (K := K)
    rw [run1 (n := n + 6) (b := 40) h (by omega) (by decide) (by rcases hf with rfl | rfl <;> decide) (by rcases hf with rfl | rfl <;> decide) (by rcases hf with rfl | rfl <;> decide)]
    unfold f_X0_answer
    rw [if_neg (by decide), if_neg (by decide), if_neg (by decide), if_neg (by decide), if_neg (by decide), if_pos rfl, h12 (m := n) (Or.inl rfl) (CS_p h 40) (by omega) (by decide) (by decide)]
    simp only [Option.bind_some]
    have h5 := CS_s (12 :: shB K K) _ _ (CS_p h 40)
    rw [h5.2.1, sh7 (n := n + 1) hK hK h5 (by simp; omega) (by decide) (by decide)]
    simp only [Option.bind_some]
    rw [pcs_c s 40, ← pcs_a]
    rfl
  rcases hk with rfl | rfl | rfl | rfl | rfl | rfl | rfl
  · exact h12 (m := n + 1) (Or.inl rfl) h (by omega) (by decide) (by decide)
  · exact h12 (m := n + 1) (Or.inr (Or.inl rfl)) h (by omega) (by decide) (by decide)
  · exact h12 (m := n + 1) (Or.inr (Or.inr (Or.inl rfl))) h (by omega) (by decide) (by decide)
  · exact h40 (Or.inl rfl)
  · exact h12 (m := n + 1) (Or.inr (Or.inr (Or.inr rfl))) h (by omega) (by decide) (by decide)
  · rw [run1 (n := n + 6) (b := 60) h (by omega) (by decide) (by decide) (by decide) (by decide)]
    unfold f_X0_answer
    rw [if_neg (by decide), if_neg (by decide), if_neg (by decide), if_neg (by decide), if_neg (by decide), if_neg (by decide), if_neg (by decide), if_neg (by decide), if_pos rfl, opt_eta, (CS_p h 60).2.2.1, h12 (m := n) (Or.inr (Or.inr (Or.inl rfl))) (CS_p h 60) (by omega) (by decide) (by decide)]
    rfl
  · exact h40 (Or.inr rfl)
-- the reference
theorem sk8 {p : Nat} {K v : Int32} {k : Int32} (hp : p < 6) (hk : isK k) : ∀ {n : Nat} {s : Sto} {x : Int32} {c : Nat}, MS s p K v c → c < 900 → f_X8_sinks (n + 3) s (nI p) k x = some (skV k x (nI p) v, pms s (skB k)) := by
  intro n s x c h hc
  have a1 : (0 : Int32) ≤ nI p ∧ nI p < 6 := nI_r (N := 6) hp (by decide)
  have a2 : (nI p).toNatClampNeg = p := nI_clamp (by omega)
  have h0 : ∀ {m : Nat} {s : Sto} {x : Int32} {c : Nat}, MS s p K v c → c < 999 → f_X8_sinks (m + 1) s (nI p) 0 x = some (x + nI p, pm s 10) := by
    intro m s x c h hc
    show f_X8_sinks_K (f_X8_sinks m) s (nI p) 0 x = _
    unfold f_X8_sinks_K
    rw [if_pos rfl, ran1 h (by omega)]
    rfl
  have h3 : ∀ {m : Nat} {s : Sto} {x : Int32} {c : Nat} {f : Int32}, (f = 1 ∨ f = 3) → MS s p K v c → c < 999 → f_X8_sinks (m + 2) s (nI p) f x = some (x + nI p, pm s 10) := by
    intro m s x c f hf h hc
    show f_X8_sinks_K (f_X8_sinks (m + 1)) s (nI p) f x = _
    unfold f_X8_sinks_K
    rcases hf with rfl | rfl
    · rw [if_neg (by decide), if_pos rfl, above_eq]
      simp only [Option.bind_some, opt_eta]
      exact h0 h hc
    · rw [if_neg (by decide), if_neg (by decide), if_neg (by decide), if_pos rfl, above_eq]
      simp only [Option.bind_some, opt_eta]
      exact h0 h hc
  have h2 : ∀ {m : Nat} {s : Sto} {x : Int32} {c : Nat}, MS s p K v c → c < 998 → f_X8_sinks (m + 2) s (nI p) 2 x = some (x * 3 + nI p, pms s [30, 10]) := by
    intro m s x c h hc
    show f_X8_sinks_K (f_X8_sinks (m + 1)) s (nI p) 2 x = _
    unfold f_X8_sinks_K
    rw [if_neg (by decide), if_neg (by decide), if_pos rfl, ran1 h (by omega)]
    simp only [Option.bind_some, opt_eta]
    rw [h0 (MS_p h 30) (by omega)]
    rfl
  rcases hk with rfl | rfl | rfl | rfl | rfl | rfl | rfl
  · exact h0 (m := n + 2) h (by omega)
  · exact h3 (m := n + 1) (Or.inl rfl) h (by omega)
  · exact h2 (m := n + 1) h (by omega)
  · exact h3 (m := n + 1) (Or.inr rfl) h (by omega)
  · show f_X8_sinks_K (f_X8_sinks (n + 2)) s (nI p) 4 x = _
    unfold f_X8_sinks_K
    rw [if_neg (by decide), if_neg (by decide), if_neg (by decide), if_neg (by decide), if_pos rfl, ran1 h (by omega)]
    simp only [Option.bind_some]
    rw [h3 (m := n) (Or.inl rfl) (MS_p h 50) (by omega)]
    rfl
  · show f_X8_sinks_K (f_X8_sinks (n + 2)) s (nI p) 5 x = _
    unfold f_X8_sinks_K
    rw [if_neg (by decide), if_neg (by decide), if_neg (by decide), if_neg (by decide), if_neg (by decide), if_pos rfl, above_eq]
    simp only [Option.bind_some, opt_eta]
    exact h2 (m := n) h (by omega)
  · show f_X8_sinks_K (f_X8_sinks (n + 2)) s (nI p) 6 x = _
    unfold f_X8_sinks_K
    rw [if_neg (by decide), if_neg (by decide), if_neg (by decide), if_neg (by decide), if_neg (by decide), if_neg (by decide), if_pos rfl, ran1 h (by omega)]
    simp only [Option.bind_some]
    rw [h3 (m := n) (Or.inr rfl) (MS_p h 71) (by omega)]
    simp only [Option.bind_some]
    rw [if_pos a1, a2, (MS_p (MS_p h 71) 10).2.2]
    rfl
theorem sh8 {p : Nat} {K v : Int32} {k : Int32} (hp : p < 6) (hk : isK k) (hK : isK K) : ∀ {n : Nat} {s : Sto} {x : Int32} {c : Nat}, MS s p K v c → c < 800 → f_X8_shows (n + 3) s (nI p) k x = some (shV k K x (nI p) v, pms s (shB k K)) := by
  intro n s x c h hc
  have a1 : (0 : Int32) ≤ nI p ∧ nI p < 6 := nI_r (N := 6) hp (by decide)
  have a2 : (nI p).toNatClampNeg = p := nI_clamp (by omega)
  have hl := skB_l (k := K)
  have h0 : ∀ {m : Nat} {s : Sto} {x : Int32} {c : Nat}, MS s p K v c → c < 890 → f_X8_shows (m + 1) s (nI p) 0 x = some (skV K x (nI p) v - v, pms s (11 :: skB K)) := by
    intro m s x c h hc
    show f_X8_shows_K (f_X8_shows m) s (nI p) 0 x = _
    unfold f_X8_shows_K
    rw [if_pos rfl, ran1 h (by omega)]
    simp only [Option.bind_some, if_pos a1, a2]
    rw [(MS_p h 11).2.1, sk8 (n := 9) hp hK (MS_p h 11) (by omega)]
    simp only [Option.bind_some]
    rw [(MS_s (skB K) _ _ (MS_p h 11)).2.2]
    rfl
  have hup : ∀ {m : Nat} {s : Sto} {x : Int32} {c : Nat} {f : Int32}, (f = 2 ∨ f = 3) → MS s p K v c → c < 890 → f_X8_shows (m + 2) s (nI p) f x = some (skV K x (nI p) v - v, pms s (11 :: skB K)) := by
    intro m s x c f hf h hc
    show f_X8_shows_K (f_X8_shows (m + 1)) s (nI p) f x = _
    unfold f_X8_shows_K
    rcases hf with rfl | rfl
    · rw [if_neg (by decide), if_neg (by decide), if_pos rfl, above_eq]
      simp only [Option.bind_some, opt_eta]
      exact h0 h hc
    · rw [if_neg (by decide), if_neg (by decide), if_neg (by decide), if_pos rfl, above_eq]
      simp only [Option.bind_some, opt_eta]
      exact h0 h hc
  have h20 : ∀ {m : Nat} {s : Sto} {x : Int32} {c : Nat}, MS s p K v c → c < 880 → f_X8_shows (m + 2) s (nI p) 1 x = some ((skV K x (nI p) v - v) ^^^ 6, pms s (20 :: 11 :: skB K)) := by
    intro m s x c h hc
    show f_X8_shows_K (f_X8_shows (m + 1)) s (nI p) 1 x = _
    unfold f_X8_shows_K
    rw [if_neg (by decide), if_pos rfl, ran1 h (by omega)]
    simp only [Option.bind_some]
    rw [h0 (MS_p h 20) (by omega)]
    rfl
  rcases hk with rfl | rfl | rfl | rfl | rfl | rfl | rfl
  · exact h0 (m := n + 2) h (by omega)
  · exact h20 (m := n + 1) h (by omega)
  · exact hup (m := n + 1) (Or.inl rfl) h (by omega)
  · exact hup (m := n + 1) (Or.inr rfl) h (by omega)
  · show f_X8_shows_K (f_X8_shows (n + 2)) s (nI p) 4 x = _
    unfold f_X8_shows_K
    rw [if_neg (by decide), if_neg (by decide), if_neg (by decide), if_neg (by decide), if_pos rfl, ran1 h (by omega)]
    simp only [Option.bind_some, opt_eta]
    rw [h20 (m := n) (MS_p h 51) (by omega)]
    rfl
  · show f_X8_shows_K (f_X8_shows (n + 2)) s (nI p) 5 x = _
    unfold f_X8_shows_K
    rw [if_neg (by decide), if_neg (by decide), if_neg (by decide), if_neg (by decide), if_neg (by decide), if_pos rfl, above_eq]
    simp only [Option.bind_some, opt_eta]
    exact hup (m := n) (Or.inl rfl) h (by omega)
  · show f_X8_shows_K (f_X8_shows (n + 2)) s (nI p) 6 x = _
    unfold f_X8_shows_K
    rw [if_neg (by decide), if_neg (by decide), if_neg (by decide), if_neg (by decide), if_neg (by decide), if_neg (by decide), if_pos rfl, ran1 h (by omega)]
    simp only [Option.bind_some]
    rw [hup (m := n) (Or.inr rfl) (MS_p h 70) (by omega)]
    simp only [Option.bind_some, nmI]
    have h5 := MS_s (11 :: skB K) _ _ (MS_p h 70)
    rw [sk8 (n := 9) (k := 3) hp (Or.inr (Or.inr (Or.inr (Or.inl rfl)))) h5 (by simp; omega)]
    simp only [Option.bind_some]
    have e1 : skB 3 = [10] := by decide
    have e2 : skV 3 2 (nI p) v = 2 + nI p := by unfold skV; simp
    rw [e1, e2]
    have e3 : shB 6 K = 70 :: 11 :: (skB K ++ [10]) := rfl
    have e4 : shV 6 K x (nI p) v = (skV K x (nI p) v - v) + (2 + nI p) := rfl
    rw [e3, e4, pms_c s 70, show (11 :: (skB K ++ [10])) = (11 :: skB K) ++ [10] from rfl, pms_a]
theorem te8 {p : Nat} {K v : Int32} {k : Int32} (hp : p < 6) (hk : isK k) (hK : isK K) : ∀ {n : Nat} {s : Sto} {x : Int32} {c : Nat}, MS s p K v c → c < 100 → f_X8_tells (n + 4) s (nI p) k x = some (teV k K x (nI p) v, pms s (teB k K)) := by
  intro n s x c h hc
  have a1 : (0 : Int32) ≤ nI p ∧ nI p < 6 := nI_r (N := 6) hp (by decide)
  have a2 : (nI p).toNatClampNeg = p := nI_clamp (by omega)
  have hl := shB_l (k := K) (K := K)
  have h0 : ∀ {m : Nat} {s : Sto} {x : Int32} {c : Nat}, MS s p K v c → c < 700 → f_X8_tells (m + 1) s (nI p) 0 x = some (shV K K x (nI p) v * 2, pms s (12 :: shB K K)) := by
    intro m s x c h hc
    show f_X8_tells_K (f_X8_tells m) s (nI p) 0 x = _
    unfold f_X8_tells_K
    rw [if_pos rfl, ran1 h (by omega)]
    simp only [Option.bind_some, if_pos a1, a2]
    rw [(MS_p h 12).2.1, sh8 (n := 9) hp hK hK (MS_p h 12) (by omega)]
    rfl
  have h1 : ∀ {m : Nat} {s : Sto} {x : Int32} {c : Nat} {f : Int32}, (f = 1 ∨ f = 2) → MS s p K v c → c < 700 → f_X8_tells (m + 2) s (nI p) f x = some (shV K K x (nI p) v * 2, pms s (12 :: shB K K)) := by
    intro m s x c f hf h hc
    show f_X8_tells_K (f_X8_tells (m + 1)) s (nI p) f x = _
    unfold f_X8_tells_K
    rw [if_neg (by rcases hf with rfl | rfl <;> decide), if_neg (by rcases hf with rfl | rfl <;> decide), if_neg (by rcases hf with rfl | rfl <;> decide), above_eq]
    rcases hf with rfl | rfl
    · simp only [Option.bind_some, opt_eta]
      exact h0 h hc
    · simp only [Option.bind_some, opt_eta]
      exact h0 h hc
  have h40 : ∀ {m : Nat}, f_X8_tells (m + 2) s (nI p) 3 x = some (shV K K x (nI p) v * 2 + shV K K 1 (nI p) v, pms s (40 :: 12 :: (shB K K ++ shB K K))) := by
    intro m
    show f_X8_tells_K (f_X8_tells (m + 1)) s (nI p) 3 x = _
    unfold f_X8_tells_K
    rw [if_neg (by decide), if_pos rfl, ran1 h (by omega)]
    simp only [Option.bind_some]
    rw [h0 (MS_p h 40) (by omega)]
    simp only [Option.bind_some, nmI, if_pos a1, a2]
    have h5 := MS_s (12 :: shB K K) _ _ (MS_p h 40)
    rw [h5.2.1, sh8 (n := 9) hp hK hK h5 (by simp; omega)]
    simp only [Option.bind_some]
    rw [pms_c s 40, ← pms_a]
    rfl
  rcases hk with rfl | rfl | rfl | rfl | rfl | rfl | rfl
  · exact h0 (m := n + 3) h (by omega)
  · exact h1 (m := n + 2) (Or.inl rfl) h (by omega)
  · exact h1 (m := n + 2) (Or.inr rfl) h (by omega)
  · exact h40 (m := n + 2)
  · show f_X8_tells_K (f_X8_tells (n + 3)) s (nI p) 4 x = _
    unfold f_X8_tells_K
    rw [if_neg (by decide), if_neg (by decide), if_neg (by decide), above_eq]
    simp only [Option.bind_some, opt_eta]
    exact h1 (m := n + 1) (Or.inl rfl) h (by omega)
  · show f_X8_tells_K (f_X8_tells (n + 3)) s (nI p) 5 x = _
    unfold f_X8_tells_K
    rw [if_neg (by decide), if_neg (by decide), if_pos rfl, ran1 h (by omega)]
    simp only [Option.bind_some, opt_eta]
    rw [h1 (m := n + 1) (Or.inr rfl) (MS_p h 60) (by omega)]
    rfl
  · show f_X8_tells_K (f_X8_tells (n + 3)) s (nI p) 6 x = _
    unfold f_X8_tells_K
    rw [if_neg (by decide), if_neg (by decide), if_neg (by decide), above_eq]
    simp only [Option.bind_some, opt_eta]
    exact h40 (m := n + 1)
-- both traces
def TR (s t : Sto) (c : Nat) : Prop := s.1 0 1 0 = nI c ∧ t.1 8 33 0 = nI c ∧ ∀ j, j < 20 → j < c → s.2.1 0 0 0 j = t.2.1 8 34 0 j
theorem TR_p {s t : Sto} {c : Nat} (h : TR s t c) (hc : c < 1000) (b : Int32) : TR (pc s b) (pm t b) (c + 1) := by
  obtain ⟨h1, h2, h3⟩ := h
  have hcl : (nI c).toNatClampNeg = c := nI_clamp (by omega)
  unfold pc pm
  rw [h1, h2, hcl]
  refine ⟨by rw [sF_at, nI_1], by rw [sF_at, nI_1], fun j hj hjc => ?_⟩
  rw [sF2, sF2]
  by_cases h20 : (20 : Int32) ≤ nI c
  · rw [if_pos h20, if_pos h20]
    have : 20 ≤ c := (nI_leI (a := 20) (b := c) (by decide) (by omega)).mp h20
    exact h3 j hj (by omega)
  · rw [if_neg h20, if_neg h20, sA_at, sA_at, upd_at, upd_at]
    by_cases hjc2 : j = c
    · rw [if_pos hjc2, if_pos hjc2]
    · rw [if_neg hjc2, if_neg hjc2]
      exact h3 j hj (by omega)
theorem TR_s : ∀ (bs : List Int32) (s t : Sto) (c : Nat), TR s t c → c + bs.length < 1000 → TR (pcs s bs) (pms t bs) (c + bs.length)
  | [], _, _, _, h, _ => h
  | b :: bs, s, t, c, h, hc => by
    simp at hc
    have := TR_s bs (pc s b) (pm t b) (c + 1) (TR_p h (by omega) b) (by omega)
    rw [show c + (b :: bs).length = c + 1 + bs.length by simp; omega]
    exact this
abbrev acF : List (Nat × Nat × Nat) := [(0, 1, 0), (0, 2, 0), (0, 3, 0), (0, 4, 0)]
theorem pcs_fr : ∀ (bs : List Int32) (s : Sto), FrE acF [(0, 0, 0)] [] s (pcs s bs)
  | [], _ => FrE.rfl'
  | b :: bs, s => by
    refine FrE.trans ?_ (pcs_fr bs (pc s b))
    unfold pc
    split
    · exact FrE.rfl'.sF (by decide)
    · exact (FrE.rfl'.sA (by decide)).sF (by decide)
theorem pms_fr : ∀ (bs : List Int32) (s : Sto), FrE [(8, 33, 0)] [(8, 34, 0)] [] s (pms s bs)
  | [], _ => FrE.rfl'
  | b :: bs, s => by
    refine FrE.trans ?_ (pms_fr bs (pm s b))
    unfold pm
    split
    · exact FrE.rfl'.sF (by decide)
    · exact (FrE.rfl'.sA (by decide)).sF (by decide)
theorem Inv_ac {σ τ : Sto} (h : Inv σ) (e : FrE (acF ++ [(8, 33, 0)]) [(0, 0, 0), (8, 34, 0)] [] σ τ) (a : I_ac τ) : Inv τ := by
  obtain ⟨⟨h1, h2, h3, h4, h5⟩, i1, i2, i3, i4, i5, i6⟩ := h
  exact ⟨⟨Wt_fr h1 e (by decide) (by decide), Wn_fr h2 e (by decide), Ws_fr h3 e (by decide) (by decide), Wp_fr h4 e (by decide) (by decide), Wb_fr h5 e (by decide) (by decide)⟩, I_tx_fr i1 e (by decide) (by decide), a, I_tp_fr i3 e (by decide) (by decide) (by decide), Im_fr i4 e (by decide) (by decide), Pc_fr i5 e (by decide), Ps_fr i6 e (by decide) (by decide)⟩
theorem act_step {σ : Sto} (h : Inv σ) (x a y : Int32) : ∃ r σ1 σ2, f_X7_act σ x a y = some (r, σ1) ∧ f_X8_act σ1 x a y = some (r, σ2) ∧ Inv σ2 := by
  obtain ⟨wm, sn, k, T, B⟩ := base_of h
  have hT := B.2.2.1
  have hT8 := B.2.2.2.1
  have hT6 := B.2.2.2.2.1
  have hTb : 0 ≤ nI T ∧ nI T ≤ 6 := ⟨nI_n0 (by omega), (nI_leI (a := T) (b := 6) (by omega) (by decide)).mpr hT⟩
  have hone : ∀ s, s.1 8 0 0 = nI T → ∀ y, f_X8_isOne s y = some (if 0 ≤ y ∧ y < nI T then 1 else 0) := fun s hs y => by
    rw [isOne_le (by rw [hs]; exact hTb.1) (by rw [hs]; exact hTb.2), hs]
  have g0 : (sF σ 0 1 0 0).1 6 1 0 = nI T := by simp [sF1, hT6]
  have g1 : (sF (sF σ 0 1 0 0) 8 33 0 0).1 8 0 0 = nI T := by simp [sF1, hT8]
  have hno : Inv (sF (sF σ 0 1 0 0) 8 33 0 0) := Inv_ac h ((FrE.rfl'.sF (by decide)).sF (by decide)) (by
    refine ⟨by simp [sF1], by rw [sF_at]; decide, by rw [sF_at]; decide, fun j _ hj => ?_⟩
    rw [sF_at] at hj
    exact absurd hj (by simp))
  unfold f_X7_act f_X0_forget
  simp only [nm, Option.bind_some, isThing_eq, isUpTo_eq, g0]
  by_cases hx : 0 ≤ x ∧ x < nI T
  · by_cases ha : 0 ≤ a ∧ a ≤ 2
    · obtain ⟨p, hp6, rfl⟩ := i32_range (N := 6) (by decide) hx.1 (by have := hx.2; grind)
      have a1 : (0 : Int32) ≤ nI p ∧ nI p < 6 := nI_r (N := 6) hp6 (by decide)
      have a2 : (nI p).toNatClampNeg = p := nI_clamp (by omega)
      obtain ⟨t0, ⟨t1, t2, t3⟩, ⟨t4, -⟩, -⟩ := h.1.1 p hp6
      have hK : isK (σ.2.1 8 1 0 p) := by unfold isK; grind
      have ha3 : a = 0 ∨ a = 1 ∨ a = 2 := by grind
      let s1 : Sto := sF (sF (sF (sF σ 0 1 0 0) 0 2 0 (σ.2.1 8 1 0 p)) 0 3 0 (nI p)) 0 4 0 (σ.2.1 8 2 0 p)
      have hCS : CS s1 (σ.2.1 8 1 0 p) (nI p) (σ.2.1 8 2 0 p) 0 := ⟨by simp [s1, sF1, nI_0], by simp [s1, sF1], by simp [s1, sF1], by simp [s1, sF1]⟩
      have hst : f_X0_start (sF σ 0 1 0 0) p a y = f_X0_run 12 s1 (σ.2.1 8 1 0 p) a y 0 := by
        unfold f_X0_start
        simp only [nm, opt_eta, sF1, Nat.reduceEqDiff, true_and, and_true, false_and, and_false, if_false, t0, t1, t4, and_self, if_true]
        rfl
      obtain ⟨V, bs, hlen, hc7, hc8⟩ : ∃ V bs, bs.length < 900 ∧ f_X0_run 12 s1 (σ.2.1 8 1 0 p) a y 0 = some (V, pcs s1 bs) ∧ ∀ t, MS t p (σ.2.1 8 1 0 p) (σ.2.1 8 2 0 p) 0 → (if a = 0 then f_X8_sinks 12 t (nI p) (σ.2.1 8 1 0 p) y else if a = 1 then f_X8_shows 12 t (nI p) (σ.2.1 8 1 0 p) y else f_X8_tells 12 t (nI p) (σ.2.1 8 1 0 p) y) = some (V, pms t bs) := by
        rcases ha3 with rfl | rfl | rfl
        · refine ⟨skV (σ.2.1 8 1 0 p) y (nI p) (σ.2.1 8 2 0 p), skB (σ.2.1 8 1 0 p), by have := skB_l (k := σ.2.1 8 1 0 p); omega, sk7 (n := 10) hK hCS (by omega) (by decide) (by decide), fun t ht => ?_⟩
          rw [if_pos rfl]
          exact sk8 (n := 9) hp6 hK ht (by omega)
        · refine ⟨shV (σ.2.1 8 1 0 p) (σ.2.1 8 1 0 p) y (nI p) (σ.2.1 8 2 0 p), shB (σ.2.1 8 1 0 p) (σ.2.1 8 1 0 p), by have := shB_l (k := σ.2.1 8 1 0 p) (K := σ.2.1 8 1 0 p); omega, sh7 (n := 7) hK hK hCS (by omega) (by decide) (by decide), fun t ht => ?_⟩
          rw [if_neg (by decide), if_pos rfl]
          exact sh8 (n := 9) hp6 hK hK ht (by omega)
        · refine ⟨teV (σ.2.1 8 1 0 p) (σ.2.1 8 1 0 p) y (nI p) (σ.2.1 8 2 0 p), teB (σ.2.1 8 1 0 p) (σ.2.1 8 1 0 p), ?_, te7 (n := 5) hK hK hCS (by omega), fun t ht => ?_⟩
          · have hl := shB_l (k := σ.2.1 8 1 0 p) (K := σ.2.1 8 1 0 p)
            unfold teB
            repeat' split
            all_goals simp
            all_goals omega
          · rw [if_neg (by decide), if_neg (by decide)]
            exact te8 (n := 8) hp6 hK hK ht (by omega)
      have e1 : FrE acF [(0, 0, 0)] [] σ (pcs s1 bs) := FrE.trans ((((FrE.rfl'.sF (by decide)).sF (by decide)).sF (by decide)).sF (by decide)) (pcs_fr bs s1)
      have hMS : MS (sF (pcs s1 bs) 8 33 0 0) p (σ.2.1 8 1 0 p) (σ.2.1 8 2 0 p) 0 := ⟨by rw [sF_at, nI_0], by rw [sF2, e1.2.1 8 1 0 (by decide)], by rw [sF2, e1.2.1 8 2 0 (by decide)]⟩
      have e2 := pms_fr bs (sF (pcs s1 bs) 8 33 0 0)
      refine ⟨V, pcs s1 bs, pms (sF (pcs s1 bs) 8 33 0 0) bs, ?_, ?_, ?_⟩
      · simp only [hx, ha, and_self, if_true, h10, if_false, a1, a2, Nat.mul_zero, Nat.zero_add, opt_eta]
        rw [hst, hc7]
      · have g2 : (sF (pcs s1 bs) 8 33 0 0).1 8 0 0 = nI T := by rw [sF_ne (by decide), e1.1 8 0 0 (by decide), hT8]
        unfold f_X8_act
        simp only [nm, hone _ g2, within_eq, Option.bind_some, hx, ha, and_self, if_true, h10, if_false, a1, a2, nmI, opt_eta, hMS.2.1]
        exact hc8 _ hMS
      · have e3 : FrE (acF ++ [(8, 33, 0)]) [(0, 0, 0), (8, 34, 0)] [] σ (pms (sF (pcs s1 bs) 8 33 0 0) bs) := ((e1.mono (by decide) (by decide) (by decide)).sF (by decide)).trans (e2.mono (by decide) (by decide) (by decide))
        refine Inv_ac h e3 ?_
        have hTR : TR (pcs s1 bs) (pms (sF (pcs s1 bs) 8 33 0 0) bs) (0 + bs.length) := TR_s bs s1 (sF (pcs s1 bs) 8 33 0 0) 0 ⟨hCS.1, hMS.1, fun j _ hj => absurd hj (by omega)⟩ (by omega)
        rw [Nat.zero_add] at hTR
        obtain ⟨r1, r2, r3⟩ := hTR
        have k1 : (pms (sF (pcs s1 bs) 8 33 0 0) bs).1 0 1 0 = nI bs.length := by rw [e2.1 0 1 0 (by decide), sF_ne (by decide), r1]
        have k2 : (pms (sF (pcs s1 bs) 8 33 0 0) bs).2.1 0 0 0 = (pcs s1 bs).2.1 0 0 0 := by rw [e2.2.1 0 0 0 (by decide), sF2]
        unfold I_ac
        rw [k1, r2, k2]
        refine ⟨rfl, nI_n0 (by omega), (nI_leI (a := bs.length) (b := 1000) (by omega) (by decide)).mpr (by omega), fun j hj hj2 => ?_⟩
        rw [nI_toInt (by omega)] at hj2
        exact r3 j hj (by omega)
    · refine ⟨0, sF σ 0 1 0 0, sF (sF σ 0 1 0 0) 8 33 0 0, by simp only [hx, ha, and_self, if_true, h10, if_false], ?_, hno⟩
      unfold f_X8_act
      simp only [nm, hone _ g1, within_eq, Option.bind_some, hx, ha, and_self, if_true, h10, if_false]
  · refine ⟨0, sF σ 0 1 0 0, sF (sF σ 0 1 0 0) 8 33 0 0, by simp only [hx, if_true, if_false], ?_, hno⟩
    unfold f_X8_act
    simp only [nm, hone _ g1, Option.bind_some, hx, if_true, if_false]
