-- F, THE WORDS
theorem RSp.up {s0 t0 : Sto} {k S0 c0 Ln a : Nat} {ow : Int32} {h h' : Nat} {cs : List Int32} {o7 o8 : Option (Int32 × Sto)} (hh : h ≤ h') (R : RSp s0 t0 k S0 c0 Ln a ow h cs o7 o8) : RSp s0 t0 k S0 c0 Ln a ow h' cs o7 o8 := by
  obtain ⟨r, s', t', a', e7, e8, hres⟩ := R
  refine ⟨r, s', t', a', e7, e8, ?_⟩
  rcases hres with hf | ⟨x1, x2, es, x3, x4⟩
  · exact Or.inl hf
  · exact Or.inr ⟨x1, x2, es, fun d hd => x3 d (by omega), x4⟩
theorem RSp.wrap {s0 t0 : Sto} {k S0 c0 Ln a : Nat} {ow : Int32} {h : Nat} {cs : List Int32} {o7 o8 : Option (Int32 × Sto)} (R : RSp s0 t0 k S0 c0 Ln a ow h cs o7 o8) : RSp s0 t0 k S0 c0 Ln a ow h cs (o7.bind fun q3 => (if q3.1 = 0 ∨ q3.1 = 1 then some (q3.1, q3.2) else none)) (o8.bind fun q3 => (if q3.1 = 0 ∨ q3.1 = 1 then some (q3.1, q3.2) else none)) := by
  obtain ⟨r, s', t', a', rfl, rfl, hres⟩ := R
  have hr : r = 0 ∨ r = 1 := by
    rcases hres with ⟨hx, -⟩ | ⟨hx, -⟩
    · exact Or.inl hx
    · exact Or.inr hx
  refine ⟨r, s', t', a', ?_, ?_, hres⟩
  · simp only [Option.bind_some]
    rw [if_pos hr]
  · simp only [Option.bind_some]
    rw [if_pos hr]
theorem QMp_12 {t0 t : Sto} {a : Nat} {v : Int32} (h : QMp t0 t a) : QMp t0 (sF t 8 12 0 v) a := ⟨h.1.sF (by decide), by rw [sF_ne (by decide)]; exact h.2⟩
theorem L72_0 (q : Sto → Option (Int32 × Sto)) (t : Sto) : f_X8_isF_L72 q t 0 = some (0, sF t 8 12 0 (t.1 8 12 0 - 1)) := by
  unfold f_X8_isF_L72
  simp only [nm, true_or, if_true]
theorem L72_1 (q : Sto → Option (Int32 × Sto)) (t : Sto) : f_X8_isF_L72 q t 1 = some (1, sF t 8 12 0 (t.1 8 12 0 - 1)) := by
  unfold f_X8_isF_L72
  simp only [nm, or_true, if_true]
theorem F_sync {s0 t0 : Sto} {k S0 c0 Ln : Nat} {tx : Nat → Int32} (hk : k < 8) (T : TX s0 t0 Ln tx) : ∀ (e w : Nat), w + e = 4 → ∀ n m, e < n → e < m → SyF s0 t0 k S0 c0 Ln (nI w) w (2 * e + 1) (f_X4_takePart n) (f_X8_isF m) := by
  have T1 := T.1
  intro e
  induction e with
  | zero =>
    intro w hw n m hn hm s t a cs E
    obtain ⟨n, rfl⟩ : ∃ q, n = q + 1 := ⟨n - 1, by omega⟩
    obtain ⟨m, rfl⟩ : ∃ q, m = q + 1 := ⟨m - 1, by omega⟩
    have hw4 : w = 4 := by omega
    subst hw4
    have x1 := E.2.2.1
    have e7 : f_X4_takePart (n + 1) s (nI 4) = f_X4_takePart_L78 (f_X4_takePart n) s := by
      show f_X4_takePart_K _ s (nI 4) = _
      unfold f_X4_takePart_K
      rw [if_pos (by decide)]
      unfold f_X4_takePart_L39
      rw [if_pos (by decide)]
    have o : ∀ c, f_X8_isOpened t c = some (0, t) := fun c => by
      unfold f_X8_isOpened
      rw [x1, if_pos (by decide)]
    have e8 : f_X8_isF (m + 1) t = (f_X8_isTest t).bind fun q5 => (if q5.1 = 0 ∨ q5.1 = 1 then some (q5.1, q5.2) else none) := by
      show f_X8_isF_K _ t = _
      unfold f_X8_isF_K
      rw [o]
      simp only [Option.bind_some, if_true]
      rw [o]
      simp only [Option.bind_some, if_true]
    rw [e7, e8]
    unfold f_X4_takePart_L78
    exact (test_sync hk T E).wrap
  | succ e ih =>
    intro w hw n m hn hm s t a cs E
    obtain ⟨n, rfl⟩ : ∃ q, n = q + 1 := ⟨n - 1, by omega⟩
    obtain ⟨m, rfl⟩ : ∃ q, m = q + 1 := ⟨m - 1, by omega⟩
    have hS := ih (w + 1) (by omega) n m (by omega) (by omega)
    have x1 := E.2.2.1
    have hb := E.2.2.2.2.2.2.2.2.1
    have hw4 : ¬ (4 : Int32) ≤ nI w := nI_ge (a := w) (b := 4) (by omega) (by decide)
    have hw5 : ¬ nI w = (4 : Int32) := fun hh => by
      have := (nI_eq (a := w) (b := 4) (by omega) (by decide)).mp hh
      omega
    have e7 : f_X4_takePart (n + 1) s (nI w) = f_X4_takePart_K (f_X4_takePart n) s (nI w) := rfl
    have e8 : f_X8_isF (m + 1) t = f_X8_isF_K (f_X8_isF m) t := rfl
    rw [e7, e8]
    unfold f_X4_takePart_K f_X8_isF_K
    rw [if_neg hw4]
    -- the model's marks: how they open
    have o0 : ∀ c, ¬ (a < Ln ∧ tx a = c) → f_X8_isOpened t c = some (0, t) := fun c hc => by
      unfold f_X8_isOpened
      rw [x1, if_neg hw5, (tk0 T E hc).2]
      rfl
    have o1 : ∀ c, (a < Ln ∧ tx a = c) → f_X8_isOpened t c = some (1, sF (sF t 8 9 0 (nI (a + 1))) 8 12 0 (nI (w + 1))) := fun c hc => by
      unfold f_X8_isOpened
      rw [x1, if_neg hw5, (tk1' T E hc).2.1]
      simp only [Option.bind_some, h10, if_false, nm]
      rw [sF_ne (by decide), x1, nI_1]
    have E1 : a < Ln → EQp s0 t0 (sF s 4 2 0 (nI (a + 1))) (sF (sF t 8 9 0 (nI (a + 1))) 8 12 0 (nI (w + 1))) k S0 c0 Ln (a + 1) (nI (w + 1)) cs := fun hl => EQp_mv E (FrE.rfl'.sF (by decide)) rfl ((FrE.rfl'.sF (by decide)).sF (by decide)) (sF_at _ _ _ _ _) (by rw [sF_ne (by decide)]; exact sF_at _ _ _ _ _) (sF_at _ _ _ _ _) (by omega) (by omega)
    have back : ∀ {s' t' : Sto} {a' : Nat} {ds : List Int32}, EQp s0 t0 s' t' k S0 c0 Ln a' (nI (w + 1)) ds → EQp s0 t0 s' (sF t' 8 12 0 (t'.1 8 12 0 - 1)) k S0 c0 Ln a' (nI w) ds := fun {s' t' a' ds} E' => EQp_mv E' FrE.rfl' rfl (FrE.rfl'.sF (by decide)) E'.1.2.2.2 (by rw [sF_ne (by decide)]; exact E'.2.1.2) (by rw [sF_at, E'.2.2.1, show (1 : Int32) = nI 1 from rfl, nI_sub (by omega)]; rfl) (by omega) E'.2.2.2.2.2.2.2.2.1.2.2
    by_cases h40 : a < Ln ∧ tx a = 40
    · have h33 : ¬ (a < Ln ∧ tx a = 33) := fun hh => by
        have := hh.2.symm.trans h40.2
        exact absurd this (by decide)
      rw [o0 33 h33, (tk1' T E h40).1]
      simp only [Option.bind_some, if_true, h10, if_false]
      rw [o1 40 h40]
      simp only [Option.bind_some, h10, if_false, nI_1]
      obtain ⟨r, s', t', a', o7, o8, hres⟩ := E_sync hk T hS (E1 h40.1)
      rw [o7, o8]
      simp only [Option.bind_some]
      rcases hres with ⟨rfl, z1, z2, z3, z4⟩ | ⟨rfl, hlt, fs, hwf, hfl, E2⟩
      · rw [if_pos rfl, if_pos rfl]
        refine ⟨0, s', sF t' 8 12 0 (t'.1 8 12 0 - 1), a', rfl, ?_, Or.inl ⟨rfl, z1, QMp_12 z2, z3, fun j hj => z4 j hj⟩⟩
        exact L72_0 (f_X8_isF m) _
      · rw [if_neg h10, if_neg h10]
        by_cases h41 : a' < Ln ∧ tx a' = 41
        · obtain ⟨g7, g8, E3⟩ := tk1' T E2 h41
          rw [g7, g8]
          simp only [Option.bind_some, h10, if_false]
          refine ⟨1, _, _, a' + 1, rfl, ?_, Or.inr ⟨rfl, by omega, fs, fun d hd => hwf d (by omega), by omega, back E3⟩⟩
          exact L72_1 (f_X8_isF m) _
        · obtain ⟨g7, g8⟩ := tk0 T E2 h41
          rw [g7, g8]
          simp only [Option.bind_some, if_true]
          obtain ⟨z1, z2, z3, z4⟩ := EQp_z E2
          refine ⟨0, s', sF t' 8 12 0 (t'.1 8 12 0 - 1), a', rfl, ?_, Or.inl ⟨rfl, z1, QMp_12 z2, z3, fun j hj => z4 j hj⟩⟩
          exact L72_0 (f_X8_isF m) _
    · rw [(tk0 T E h40).1]
      simp only [Option.bind_some, if_true]
      unfold f_X4_takePart_L39
      rw [if_neg hw4]
      by_cases h33 : a < Ln ∧ tx a = 33
      · rw [o1 33 h33, (tk1' T E h33).1]
        simp only [Option.bind_some, h10, if_false, nI_1]
        obtain ⟨r, s', t', a', o7, o8, hres⟩ := hS _ _ _ _ (E1 h33.1)
        rw [o7, o8]
        simp only [Option.bind_some]
        rcases hres with ⟨rfl, z1, z2, z3, z4⟩ | ⟨rfl, hlt, fs, hwf, hfl, E2⟩
        · rw [if_pos rfl, if_pos rfl]
          refine ⟨0, s', sF t' 8 12 0 (t'.1 8 12 0 - 1), a', rfl, ?_, Or.inl ⟨rfl, z1, QMp_12 z2, z3, fun j hj => z4 j hj⟩⟩
          exact L72_0 (f_X8_isF m) _
        · rw [if_neg h10, if_neg h10]
          have hl2 : (cs ++ fs).length = cs.length + fs.length := by simp
          have hq2 : s'.2.2.2 = k := E2.1.2.1
          obtain ⟨s'', t'', g7, g8, E3⟩ := emit (st := 33) (lt := 0) (nb := 0) (c := 0) T1 E2 (by omega) (by omega) (Or.inl ⟨rfl, rfl⟩)
          rw [hq2, if_pos hk, g7, g8]
          simp only [Option.bind_some, h10, if_false]
          refine ⟨1, s'', sF t'' 8 12 0 (t''.1 8 12 0 - 1), a', rfl, ?_, Or.inr ⟨rfl, by omega, fs ++ [0], fun d hd => ?_, by simp; omega, ?_⟩⟩
          · exact L72_1 (f_X8_isF m) _
          · rw [dp_app, hwf d (by omega)]
            simp only [Option.bind_some]
            unfold dp
            rw [if_pos rfl, if_pos (by omega)]
            rfl
          · have := back E3
            rw [List.append_assoc] at this
            exact this
      · rw [o0 33 h33, (tk0 T E h33).1]
        simp only [Option.bind_some, if_true]
        rw [o0 40 h40]
        simp only [Option.bind_some, if_true]
        unfold f_X4_takePart_L78
        exact ((test_sync hk T E).up (by omega)).wrap
def wdl (n : Nat) : Nat := if n = 1 then 6 else 5
theorem wdl_len : ∀ n, n < 3 → f_J0_length_8abf5 n = some (nI (wdl n)) := by decide +kernel
theorem wdl_at : ∀ n, n < 3 → ∀ i, i < 6 → i < wdl n → (f_J0_charAt_5068e n (nI i)).isSome = true := by decide +kernel
theorem wdl_s : f_J0_charAt_5068e 2 0 = some 115 := by decide +kernel
theorem word_L {s0 t0 : Sto} {k S0 c0 Ln : Nat} {ow : Int32} {cs : List Int32} {tx : Nat → Int32} (T : TX s0 t0 Ln tx) (wd : Nat) (hwd : wd < 3) : ∀ (d i : Nat), i + d = wdl wd → ∀ n m, d < n → d < m → ∀ s t a, EQp s0 t0 s t k S0 c0 Ln a ow cs → ∃ r s' t' a', f_X4_takeWord_L2 n s wd (nI i) = some (r, s') ∧ f_X8_isAll_L2 m t wd (nI i) = some (r, t') ∧ (r = 0 ∨ r = 1) ∧ a ≤ a' ∧ EQp s0 t0 s' t' k S0 c0 Ln a' ow cs := by
  have hw6 : wdl wd ≤ 6 := by unfold wdl; split <;> omega
  intro d
  induction d with
  | zero =>
    intro i hi n m hn hm s t a E
    obtain ⟨n, rfl⟩ : ∃ q, n = q + 1 := ⟨n - 1, by omega⟩
    obtain ⟨m, rfl⟩ : ∃ q, m = q + 1 := ⟨m - 1, by omega⟩
    have hle : nI (wdl wd) ≤ nI i := nI_le (by omega) (by omega)
    refine ⟨1, s, t, a, ?_, ?_, Or.inr rfl, by omega, E⟩
    · show f_X4_takeWord_B2 _ s wd (nI i) = _
      unfold f_X4_takeWord_B2
      rw [wdl_len wd hwd]
      simp only [Option.bind_some]
      rw [if_pos hle]
    · show f_X8_isAll_B2 _ t wd (nI i) = _
      unfold f_X8_isAll_B2
      rw [wdl_len wd hwd]
      simp only [Option.bind_some]
      rw [if_pos hle]
  | succ d ih =>
    intro i hi n m hn hm s t a E
    obtain ⟨n, rfl⟩ : ∃ q, n = q + 1 := ⟨n - 1, by omega⟩
    obtain ⟨m, rfl⟩ : ∃ q, m = q + 1 := ⟨m - 1, by omega⟩
    have hle : ¬ nI (wdl wd) ≤ nI i := nI_ge (by omega) (by omega)
    obtain ⟨c, hc⟩ := Option.isSome_iff_exists.mp (wdl_at wd hwd i (by omega) (by omega))
    have e7 : f_X4_takeWord_L2 (n + 1) s wd (nI i) = (f_X4_take s c).bind fun q4 => (if q4.1 = 0 then some (0, q4.2) else f_X4_takeWord_L2 n q4.2 wd (nI (i + 1))) := by
      show f_X4_takeWord_B2 _ s wd (nI i) = _
      unfold f_X4_takeWord_B2
      rw [wdl_len wd hwd]
      simp only [Option.bind_some]
      rw [if_neg hle, hc]
      simp only [Option.bind_some, nmI, nI_1]
    have e8 : f_X8_isAll_L2 (m + 1) t wd (nI i) = (f_X8_is t c).bind fun q4 => (if q4.1 = 0 then some (0, q4.2) else f_X8_isAll_L2 m q4.2 wd (nI (i + 1))) := by
      show f_X8_isAll_B2 _ t wd (nI i) = _
      unfold f_X8_isAll_B2
      rw [wdl_len wd hwd]
      simp only [Option.bind_some]
      rw [if_neg hle, hc]
      simp only [Option.bind_some, nmI, nI_1]
    rw [e7, e8]
    by_cases hh : a < Ln ∧ tx a = c
    · obtain ⟨g7, g8, E1⟩ := tk1' T E hh
      rw [g7, g8]
      simp only [Option.bind_some, h10, if_false]
      obtain ⟨r, s', t', a', u1, u2, u3, u4, u5⟩ := ih (i + 1) (by omega) n m (by omega) (by omega) _ _ _ E1
      exact ⟨r, s', t', a', u1, u2, u3, by omega, u5⟩
    · obtain ⟨g7, g8⟩ := tk0 T E hh
      rw [g7, g8]
      simp only [Option.bind_some, if_true]
      exact ⟨0, s, t, a, rfl, rfl, Or.inl rfl, by omega, E⟩
theorem word_eq {s0 t0 s t : Sto} {k S0 c0 Ln a : Nat} {ow : Int32} {cs : List Int32} {tx : Nat → Int32} (T : TX s0 t0 Ln tx) (E : EQp s0 t0 s t k S0 c0 Ln a ow cs) (wd : Nat) (hwd : wd < 3) : ∃ r s' t' a', f_X4_takeWord s wd = some (r, s') ∧ f_X8_isAll t wd = some (r, t') ∧ (r = 0 ∨ r = 1) ∧ a ≤ a' ∧ EQp s0 t0 s' t' k S0 c0 Ln a' ow cs := by
  have hw6 : wdl wd ≤ 6 := by unfold wdl; split <;> omega
  exact (fun (key : ∀ M, 70 < M → ∃ r s' t' a', f_X4_takeWord_L2 M s wd 0 = some (r, s') ∧ f_X8_isAll_L2 M t wd 0 = some (r, t') ∧ (r = 0 ∨ r = 1) ∧ a ≤ a' ∧ EQp s0 t0 s' t' k S0 c0 Ln a' ow cs) => key 1000 (by decide)) (fun M hM => word_L T wd hwd (wdl wd) 0 (by omega) M M (by omega) (by omega) s t a E)
theorem word_s0 {s0 t0 s t : Sto} {k S0 c0 Ln a : Nat} {ow : Int32} {cs : List Int32} {tx : Nat → Int32} (T : TX s0 t0 Ln tx) (E : EQp s0 t0 s t k S0 c0 Ln a ow cs) (hh : ¬ (a < Ln ∧ tx a = 115)) : f_X4_takeWord s 2 = some (0, s) := by
  refine (fun (key : ∀ M, 70 < M → f_X4_takeWord_L2 M s 2 0 = some (0, s)) => key 1000 (by decide)) (fun M hM => ?_)
  obtain ⟨M, rfl⟩ : ∃ q, M = q + 1 := ⟨M - 1, by omega⟩
  show f_X4_takeWord_B2 _ s 2 0 = _
  unfold f_X4_takeWord_B2
  rw [wdl_len 2 (by omega)]
  simp only [Option.bind_some]
  rw [if_neg (by decide), wdl_s]
  simp only [Option.bind_some]
  rw [(tk0 T E hh).1]
  rfl
