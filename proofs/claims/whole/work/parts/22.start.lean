-- WHAT THE STATEMENT GIVES AT THE LAW'S ENTRY
theorem ref_set {D : va_G} {A : Nat → Prop} {H : Heap} {ws : va_W} {i a N : Nat} {cA : ClassId} {f f2 : Nat → Option Nat} (h : va_P D vwCl ws H ∧ va_D A ws) (hi : ws[i]? = some (a, .inl (cA, N, .inr (.inr (.inr (.inr f)))))) (he : ∀ j, j < N → f j = f2 j) : va_P D vwCl (ws.set i (a, .inl (cA, N, .inr (.inr (.inr (.inr f2)))))) H ∧ va_D A (ws.set i (a, .inl (cA, N, .inr (.inr (.inr (.inr f2)))))) := by
  refine ⟨h.1.set h.2 hi ?_ (fun _ _ => rfl), h.2.set hi⟩
  have h1 := h.1 i _ hi
  have h2 : arrV cA N (fun j => va_rf (f j)) = arrV cA N (fun j => va_rf (f2 j)) := by
    unfold arrV
    have : (fun (j : Fin N) => va_rf (f j.val)) = (fun (j : Fin N) => va_rf (f2 j.val)) := funext fun j => by rw [he j.val j.isLt]
    rw [this]
  show H[a]? = some (arrV cA N (fun j => va_rf (f2 j)))
  rw [← h2]
  exact h1
def offc : Nat → Nat → Nat
  | 0, 0 => 0
  | 0, 1 => 1
  | 1, 0 => 2
  | 1, 1 => 10
  | 1, 2 => 18
  | 1, 3 => 26
  | 2, 0 => 34
  | 2, 2 => 40
  | 2, 3 => 46
  | 2, 4 => 52
  | 3, 0 => 58
  | 3, 1 => 64
  | 4, 0 => 70
  | 4, 1 => 71
  | 5, 0 => 72
  | 5, 6 => 85
  | 5, 7 => 98
  | 6, 0 => 111
  | 6, 1 => 113
  | 7, 0 => 115
  | 7, 5 => 116
  | 7, 7 => 117
  | 7, 11 => 118
  | 8, 0 => 119
  | 8, 2 => 120
  | 8, 3 => 121
  | 8, 4 => 122
  | 8, 5 => 123
  | 8, 6 => 124
  | 8, 9 => 125
  | 8, 16 => 126
  | 8, 17 => 127
  | 8, 18 => 128
  | 8, 19 => 129
  | 8, 20 => 130
  | 8, 21 => 131
  | 8, 23 => 132
  | 8, 25 => 133
  | 8, 26 => 134
  | 8, 27 => 135
  | 8, 29 => 136
  | 8, 30 => 137
  | 8, 32 => 138
  | 8, 33 => 139
  | 8, 35 => 140
  | 8, 37 => 141
  | 8, 38 => 142
  | 8, 39 => 143
  | 8, 40 => 144
  | 8, 41 => 145
  | 8, 42 => 146
  | 8, 43 => 147
  | _, _ => 0
def adl (q1 q2 : Nat) (u1 u2 : Nat → Nat) : List Nat := [(u1 79), (u1 80), (u1 82), (u1 86), (u1 90), (u1 94), (u1 98), (u1 102), (u1 75), (u1 70), (u1 83), (u1 87), (u1 91), (u1 95), (u1 99), (u1 103), (u1 76), (u1 71), (u1 84), (u1 88), (u1 92), (u1 96), (u1 100), (u1 104), (u1 77), (u1 72), (u1 85), (u1 89), (u1 93), (u1 97), (u1 101), (u1 105), (u1 78), (u1 73), (u1 2), (u1 6), (u1 10), (u1 34), (u1 38), (u1 42), (u1 3), (u1 7), (u1 11), (u1 35), (u1 39), (u1 43), (u1 4), (u1 8), (u1 12), (u1 36), (u1 40), (u1 44), (u1 5), (u1 9), (u1 13), (u1 37), (u1 41), (u1 45), (u1 106), (u1 108), (u1 110), (u1 112), (u1 114), (u1 116), (u1 107), (u1 109), (u1 111), (u1 113), (u1 115), (u1 117), (u1 68), (u1 69), (u1 14), (u1 17), (u1 20), (u1 23), (u1 26), (u1 29), (u1 46), (u1 49), (u1 52), (u1 55), (u1 58), (u1 61), (u1 64), (u1 15), (u1 18), (u1 21), (u1 24), (u1 27), (u1 30), (u1 47), (u1 50), (u1 53), (u1 56), (u1 59), (u1 62), (u1 65), (u1 16), (u1 19), (u1 22), (u1 25), (u1 28), (u1 31), (u1 48), (u1 51), (u1 54), (u1 57), (u1 60), (u1 63), (u1 66), (u1 0), (u1 32), (u1 1), (u1 33), q1, (u1 67), (u1 74), (u1 81), q2, (u2 0), (u2 1), (u2 2), (u2 3), (u2 4), (u2 5), (u2 6), (u2 7), (u2 8), (u2 9), (u2 10), (u2 11), (u2 12), (u2 13), (u2 14), (u2 15), (u2 16), (u2 17), (u2 18), (u2 19), (u2 20), (u2 21), (u2 22), (u2 23), (u2 24), (u2 25), (u2 26), (u2 27)]
def gmk (q1 q2 : Nat) (u1 u2 : Nat → Nat) (D : va_G) (gc sa adK adV : Nat → Nat) : Gm := (fun c s i => (adl q1 q2 u1 u2).getD (offc c s + i) 0, D, gc, sa, adK, adV)
def fin0 (c k i : Nat) : Int32 := match c, k with
  | 2, 0 => [(if (10 : Int32) < 5 then 10 else 5), (if (10 : Int32) < 10 then 10 else 10), (if (10 : Int32) < 8 then 10 else 8), (if (10 : Int32) < 5 then 10 else 5), (if (10 : Int32) < 10 then 10 else 10), (if (10 : Int32) < 8 then 10 else 8)].getD i 0
  | 3, 1 => [(-1 : Int32), (-1 : Int32), (-1 : Int32), (-1 : Int32), (-1 : Int32), (-1 : Int32)].getD i 0
  | 5, 0 => [0, 1, 2, 3, 4, 5, 0, 1, 2, 3, 4, 5, 0].getD i 0
  | 6, 3 => [(-1 : Int32), (-1 : Int32)].getD i 0
  | 8, 14 => [(-1 : Int32)].getD i 0
  | _, _ => 0
def ari0 (c k _ : Nat) : Nat → Int32 := match c, k with
  | 8, 40 => (upd (upd (upd (upd (upd (upd (fun _ => 0) (Int32.toNatClampNeg 0) (-1 : Int32)) (Int32.toNatClampNeg 1) (-1 : Int32)) (Int32.toNatClampNeg 2) (-1 : Int32)) (Int32.toNatClampNeg 3) (-1 : Int32)) (Int32.toNatClampNeg 4) (-1 : Int32)) (Int32.toNatClampNeg 5) (-1 : Int32))
  | _, _ => fun _ => 0
def sig0 : Sto := (fin0, ari0, (fun _ _ _ _ => 0), 7)
set_option maxRecDepth 100000 in
set_option maxHeartbeats 4000000 in
theorem ref_all (q1 q2 : Nat) (u1 u2 : Nat → Nat) (D : va_G) (gc sa adK adV : Nat → Nat) (A : Nat → Prop) (H : Heap) (h0 : va_P D vwCl (([] ++ wo_7 gc q1 u1) ++ wo_8 gc q2 u2) H ∧ va_D A (([] ++ wo_7 gc q1 u1) ++ wo_8 gc q2 u2)) : va_P D vwCl (wl (gmk q1 q2 u1 u2 D gc sa adK adV) sig0) H ∧ va_D A (wl (gmk q1 q2 u1 u2 D gc sa adK adV) sig0) := by
  have h1 := ref_set (i := 2) (a := (u1 1)) (N := 6) (f := (va_up (va_up (va_up (va_up (va_up (va_up (fun _ => none) (Int32.toNatClampNeg 0) (some (u1 14))) (Int32.toNatClampNeg 1) (some (u1 17))) (Int32.toNatClampNeg 2) (some (u1 20))) (Int32.toNatClampNeg 3) (some (u1 23))) (Int32.toNatClampNeg 4) (some (u1 26))) (Int32.toNatClampNeg 5) (some (u1 29)))) (f2 := (fun j => some ((gmk q1 q2 u1 u2 D gc sa adK adV).1 (ra 6 0 0 j).1 0 (ra 6 0 0 j).2))) h0 rfl (fun j hj => by match j, hj with | 0, _ => rfl | 1, _ => rfl | 2, _ => rfl | 3, _ => rfl | 4, _ => rfl | 5, _ => rfl)
  have h2 := ref_set (i := 34) (a := (u1 33)) (N := 6) (f := (va_up (va_up (va_up (va_up (va_up (va_up (fun _ => none) (Int32.toNatClampNeg 0) (some (u1 46))) (Int32.toNatClampNeg 1) (some (u1 49))) (Int32.toNatClampNeg 2) (some (u1 52))) (Int32.toNatClampNeg 3) (some (u1 55))) (Int32.toNatClampNeg 4) (some (u1 58))) (Int32.toNatClampNeg 5) (some (u1 61)))) (f2 := (fun j => some ((gmk q1 q2 u1 u2 D gc sa adK adV).1 (ra 6 0 1 j).1 0 (ra 6 0 1 j).2))) h1 rfl (fun j hj => by match j, hj with | 0, _ => rfl | 1, _ => rfl | 2, _ => rfl | 3, _ => rfl | 4, _ => rfl | 5, _ => rfl)
  have h3 := ref_set (i := 75) (a := (u1 74)) (N := 6) (f := (va_up (va_up (va_up (va_up (va_up (va_up (fun _ => none) (Int32.toNatClampNeg 0) (some (u1 82))) (Int32.toNatClampNeg 1) (some (u1 86))) (Int32.toNatClampNeg 2) (some (u1 90))) (Int32.toNatClampNeg 3) (some (u1 94))) (Int32.toNatClampNeg 4) (some (u1 98))) (Int32.toNatClampNeg 5) (some (u1 102)))) (f2 := (fun j => some ((gmk q1 q2 u1 u2 D gc sa adK adV).1 (ra 7 6 0 j).1 0 (ra 7 6 0 j).2))) h2 rfl (fun j hj => by match j, hj with | 0, _ => rfl | 1, _ => rfl | 2, _ => rfl | 3, _ => rfl | 4, _ => rfl | 5, _ => rfl)
  have h4 := ref_set (i := 82) (a := (u1 81)) (N := 6) (f := (va_up (va_up (va_up (va_up (va_up (va_up (fun _ => none) (Int32.toNatClampNeg 0) (some (u1 106))) (Int32.toNatClampNeg 1) (some (u1 108))) (Int32.toNatClampNeg 2) (some (u1 110))) (Int32.toNatClampNeg 3) (some (u1 112))) (Int32.toNatClampNeg 4) (some (u1 114))) (Int32.toNatClampNeg 5) (some (u1 116)))) (f2 := (fun j => some ((gmk q1 q2 u1 u2 D gc sa adK adV).1 (ra 7 10 0 j).1 0 (ra 7 10 0 j).2))) h3 rfl (fun j hj => by match j, hj with | 0, _ => rfl | 1, _ => rfl | 2, _ => rfl | 3, _ => rfl | 4, _ => rfl | 5, _ => rfl)
  exact ⟨h4.1.sub [80, 81, 83, 87, 91, 95, 99, 103, 76, 71, 84, 88, 92, 96, 100, 104, 77, 72, 85, 89, 93, 97, 101, 105, 78, 73, 86, 90, 94, 98, 102, 106, 79, 74, 3, 7, 11, 35, 39, 43, 4, 8, 12, 36, 40, 44, 5, 9, 13, 37, 41, 45, 6, 10, 14, 38, 42, 46, 107, 109, 111, 113, 115, 117, 108, 110, 112, 114, 116, 118, 69, 70, 15, 18, 21, 24, 27, 30, 47, 50, 53, 56, 59, 62, 65, 16, 19, 22, 25, 28, 31, 48, 51, 54, 57, 60, 63, 66, 17, 20, 23, 26, 29, 32, 49, 52, 55, 58, 61, 64, 67, 1, 33, 2, 34, 0, 68, 75, 82, 119, 120, 121, 122, 123, 124, 125, 126, 127, 128, 129, 130, 131, 132, 133, 134, 135, 136, 137, 138, 139, 140, 141, 142, 143, 144, 145, 146, 147] rfl, h4.2.sub [80, 81, 83, 87, 91, 95, 99, 103, 76, 71, 84, 88, 92, 96, 100, 104, 77, 72, 85, 89, 93, 97, 101, 105, 78, 73, 86, 90, 94, 98, 102, 106, 79, 74, 3, 7, 11, 35, 39, 43, 4, 8, 12, 36, 40, 44, 5, 9, 13, 37, 41, 45, 6, 10, 14, 38, 42, 46, 107, 109, 111, 113, 115, 117, 108, 110, 112, 114, 116, 118, 69, 70, 15, 18, 21, 24, 27, 30, 47, 50, 53, 56, 59, 62, 65, 16, 19, 22, 25, 28, 31, 48, 51, 54, 57, 60, 63, 66, 17, 20, 23, 26, 29, 32, 49, 52, 55, 58, 61, 64, 67, 1, 33, 2, 34, 0, 68, 75, 82, 119, 120, 121, 122, 123, 124, 125, 126, 127, 128, 129, 130, 131, 132, 133, 134, 135, 136, 137, 138, 139, 140, 141, 142, 143, 144, 145, 146, 147] (by decide +kernel) rfl⟩

abbrev flat0 : List Cond := flatC (Jvm.Cond.and given_1 narrow_1)
def stm : Nat → Term
  | 0 => .string "ThawGives$Text" 52
  | 1 => .string "ThawGives$Text" 54
  | 2 => .string "ThawGives$Text" 56
  | 3 => .string "ThawGives$Text" 81
  | _ => .string "ThawGivesModel" 160
theorem z_ab : (Cond.arrayOf (.static "ThawGives" "ABOVE" "[I") .int) ∈ flat0 ∧ (Cond.eq (.length (.static "ThawGives" "ABOVE" "[I")) (.int (Int32.ofNat 7))) ∈ flat0 ∧ ∀ j, j < 7 → (Cond.eq (.elem (.static "ThawGives" "ABOVE" "[I") (.int (Int32.ofNat j))) (.int ((sarr 0).getD j 0))) ∈ flat0 := by decide +kernel
theorem z_bo : (Cond.arrayOf (.static "ThawGives$Acts" "BODIES" "[I") .int) ∈ flat0 ∧ (Cond.eq (.length (.static "ThawGives$Acts" "BODIES" "[I")) (.int (Int32.ofNat 21))) ∈ flat0 ∧ ∀ j, j < 21 → (Cond.eq (.elem (.static "ThawGives$Acts" "BODIES" "[I") (.int (Int32.ofNat j))) (.int ((sarr 1).getD j 0))) ∈ flat0 := by decide +kernel
theorem z_co : (Cond.eq (.static "java/lang/String" "COMPACT_STRINGS" "Z") (.int 1)) ∈ flat0 ∧ (Cond.isRef (.static "jdk/internal/util/Preconditions" "SIOOBE_FORMATTER" "Ljava/util/function/BiFunction;")) ∈ flat0 := by decide +kernel
theorem z_s1 : ∀ i, i < 5 → (Cond.exactly (stm i) "java/lang/String") ∈ flat0 ∧ (Cond.eq (.field (stm i) "java/lang/String" "coder" "B") (.int 0)) ∈ flat0 ∧ (Cond.arrayOf (.field (stm i) "java/lang/String" "value" "[B") .byte) ∈ flat0 ∧ (Cond.eq (.length (.field (stm i) "java/lang/String" "value" "[B")) (.int (Int32.ofNat (slen.getD i 0)))) ∈ flat0 := by decide +kernel
theorem z_s2 : ∀ i, i < 5 → ∀ j, j < slen.getD i 0 → (Cond.eq (.elem (.field (stm i) "java/lang/String" "value" "[B") (.int (Int32.ofNat j))) (.int ((sbyt.getD i []).getD j 0))) ∈ flat0 := by decide +kernel
theorem z_s3 : ∀ i, i < 5 → ∀ j, j < 5 → i ≠ j → (Cond.not (Cond.eq (stm i) (stm j))) ∈ flat0 ∨ (Cond.not (Cond.eq (stm j) (stm i))) ∈ flat0 := by decide +kernel
theorem z_s4 : ∀ q ∈ strs, Cond.stringRef q.1 q.2.1 q.2.2.1 ∈ tables_1 := by decide +kernel
theorem z_s5 : ∀ q ∈ strs, Term.string q.1 q.2.1 = stm q.2.2.2 ∨ (Cond.eq (stm q.2.2.2) (.string q.1 q.2.1)) ∈ flat0 := by decide +kernel
theorem z_s6 : ∀ q ∈ strs, q.2.2.2 < 5 := by decide
theorem z_l : (Cond.laysStatic "java/lang/String" "COMPACT_STRINGS" "Z") ∈ tables_1 ∧ (Cond.laysStatic "jdk/internal/util/Preconditions" "SIOOBE_FORMATTER" "Ljava/util/function/BiFunction;") ∈ tables_1 ∧ (Cond.laysStatic "ThawGives$Acts" "BODIES" "[I") ∈ tables_1 ∧ (Cond.laysStatic "ThawGives" "ABOVE" "[I") ∈ tables_1 ∧ (Cond.initialized "jdk/internal/util/Preconditions") ∈ tables_1 ∧ (Cond.initialized "java/lang/String") ∈ tables_1 ∧ (Cond.initialized "ThawGives$Acts") ∈ tables_1 ∧ (Cond.initialized "ThawGives") ∈ tables_1 := by decide +kernel
theorem z_a : (Cond.arrayClass .int) ∈ tables_1 ∧ (Cond.arrayClass .long) ∈ tables_1 ∧ (Cond.arrayClass .byte) ∈ tables_1 ∧ (Cond.arrayClass .boolean) ∈ tables_1 ∧ (Cond.arrayOver (.object "ThawGives$Thing")) ∈ tables_1 ∧ (Cond.arrayOver (.object "ThawGives$Pass")) ∈ tables_1 ∧ (Cond.arrayOver (.object "ThawGives$Tape")) ∈ tables_1 := by decide +kernel
theorem kst_of {p : Program} {s : State} {m : MethodId} {meth : Method} {c : Code} {b L : Nat} {xs : Nat → Int32} (C0 : lw_At p s m meth c b L xs) : ∃ (sa adK adV : Nat → Nat), ∀ (ad : Nat → Nat → Nat → Nat) (D : va_G) (gc : Nat → Nat), Ks1 (ad, D, gc, sa, adK, adV) (fun q => s.heap.size ≤ q) s s.heap ∧ Ks2 (ad, D, gc, sa, adK, adV) s := by
  obtain ⟨hx, hb, hr, hml, hown, hts, hX, hbl, hlocks, hgv⟩ := C0
  have fl := flat_of_before _ hgv
  have ht : ∀ w ∈ tables_1, w.before #[Value.ref b] s = true := fun w hw => hts w (inTt hw)
  have hA : ∀ a : Nat, a < s.heap.size → ¬ (fun q : Nat => s.heap.size ≤ q) a := fun a h => Nat.not_le.mpr h
  obtain ⟨t0, e0, T0⟩ := va_Tof (f := fun j => .int ((sarr 0).getD j 0)) (N := 7) (by decide) (fl _ z_ab.1) (va_eqt (fl _ z_ab.2.1)) (fun j hj => va_eqt (fl _ (z_ab.2.2 j hj))) hA
  obtain ⟨t1, e1, T1⟩ := va_Tof (f := fun j => .int ((sarr 1).getD j 0)) (N := 21) (by decide) (fl _ z_bo.1) (va_eqt (fl _ z_bo.2.1)) (fun j hj => va_eqt (fl _ (z_bo.2.2 j hj))) hA
  obtain ⟨adK, adV, hS, hev⟩ := vk_Sof (N := 5) (tm := stm) (len := slen) (byt := sbyt) (A := fun q : Nat => s.heap.size ≤ q) (by decide) (fun i hi => fl _ (z_s1 i hi).1) (fun i hi => fl _ (z_s1 i hi).2.1) (fun i hi => fl _ (z_s1 i hi).2.2.1) (fun i hi => fl _ (z_s1 i hi).2.2.2) (fun i hi j hj => fl _ (z_s2 i hi j hj)) (fun i j hi hj hne => (z_s3 i hi j hj hne).imp (fl _) (fl _)) hA
  refine ⟨fun n => if n = 0 then t0 else t1, adK, adV, fun ad D gc => ⟨⟨⟨va_Zof (ht _ z_l.2.2.2.1) (ht _ z_l.2.2.2.2.2.2.2) e0 hA, T0⟩, ⟨va_Zof (ht _ z_l.2.2.1) (ht _ z_l.2.2.2.2.2.2.1) e1 hA, T1⟩, ⟨va_Zof (ht _ z_l.1) (ht _ z_l.2.2.2.2.2.1) (va_eqt (fl _ z_co.1)) hA, va_Zqof (ht _ z_l.2.1) (ht _ z_l.2.2.2.2.1) (fl _ z_co.2) hA⟩, hS⟩, ⟨fun w hw => ?_, fun q hq => ?_⟩⟩⟩
  · obtain ⟨h1, h2⟩ := List.mem_filter.mp hw
    have h3 := hts w h1
    cases w <;> first | exact va_Nw.of rfl h3 | (simp [isNest] at h2; done)
  · have h5 := hev _ (z_s6 q hq)
    have h6 : (Term.string q.1 q.2.1).eval #[Value.ref b] s none [] s = some (.ref (adK q.2.2.2)) := by
      rcases z_s5 q hq with h | h
      · rw [h]; exact h5
      · obtain ⟨y, g1, g2⟩ := Cond.eq_one (show (Cond.eq (stm q.2.2.2) (.string q.1 q.2.1)).holds #[Value.ref b] s none s [] = true from fl _ h)
        rw [h5] at g1
        rw [g2, ← g1]
    exact vk_R.of (ht _ (z_s4 q hq)) h6
theorem kc_of {p : Program} {s : State} {m : MethodId} {meth : Method} {c : Code} {b L : Nat} {xs : Nat → Int32} (C0 : lw_At p s m meth c b L xs) : ∃ (D : va_G) (gc : Nat → Nat), KcC D gc s := by
  obtain ⟨hx, hb, hr, hml, hown, hts, hX, hbl, hlocks, hgv⟩ := C0
  have ht : ∀ w ∈ tables_1, w.before #[Value.ref b] s = true := fun w hw => hts w (inTt hw)
  have hcls : ∀ k : Nat, ∃ q : ClassId × (Nat → Nat), ∀ v : vw_C, vwCl[k]? = some v → u_Kn s v.1 v.2.1 v.2.2 q.1 q.2 := by
    intro k
    by_cases hk : k < 9
    · have hts2 : ∀ w ∈ lw_good, w.before #[Value.ref b] s = true := fun w hw => hts w (List.mem_filter.mp hw).1
      rcases (show k = 0 ∨ k = 1 ∨ k = 2 ∨ k = 3 ∨ k = 4 ∨ k = 5 ∨ k = 6 ∨ k = 7 ∨ k = 8 by omega) with rfl | rfl | rfl | rfl | rfl | rfl | rfl | rfl | rfl
      · obtain ⟨c0, i0, h⟩ := u_known (C := RX0) (T := TX0) (N := 5) (n := 5) hts2 uw_0 (hts2 _ wz_0); exact ⟨(c0, i0), fun v hv => by cases hv; exact h⟩
      · obtain ⟨c0, i0, h⟩ := u_known (C := RX1) (T := TX1) (N := 5) (n := 5) hts2 uw_1 (hts2 _ wz_1); exact ⟨(c0, i0), fun v hv => by cases hv; exact h⟩
      · obtain ⟨c0, i0, h⟩ := u_known (C := RX2) (T := TX2) (N := 5) (n := 5) hts2 uw_2 (hts2 _ wz_2); exact ⟨(c0, i0), fun v hv => by cases hv; exact h⟩
      · obtain ⟨c0, i0, h⟩ := u_known (C := RX3) (T := TX3) (N := 3) (n := 3) hts2 uw_3 (hts2 _ wz_3); exact ⟨(c0, i0), fun v hv => by cases hv; exact h⟩
      · obtain ⟨c0, i0, h⟩ := u_known (C := RX4) (T := TX4) (N := 5) (n := 5) hts2 uw_4 (hts2 _ wz_4); exact ⟨(c0, i0), fun v hv => by cases hv; exact h⟩
      · obtain ⟨c0, i0, h⟩ := u_known (C := RX5) (T := TX5) (N := 7) (n := 7) hts2 uw_5 (hts2 _ wz_5); exact ⟨(c0, i0), fun v hv => by cases hv; exact h⟩
      · obtain ⟨c0, i0, h⟩ := u_known (C := RX6) (T := TX6) (N := 7) (n := 7) hts2 uw_6 (hts2 _ wz_6); exact ⟨(c0, i0), fun v hv => by cases hv; exact h⟩
      · obtain ⟨c0, i0, h⟩ := u_known (C := RX7) (T := TX7) (N := 11) (n := 11) hts2 uw_7 (hts2 _ wz_7); exact ⟨(c0, i0), fun v hv => by cases hv; exact h⟩
      · obtain ⟨c0, i0, h⟩ := u_known (C := RX8) (T := TX8) (N := 43) (n := 43) hts2 uw_8 (hts2 _ wz_8); exact ⟨(c0, i0), fun v hv => by cases hv; exact h⟩
    · exact ⟨(0, fun _ => 0), fun v hv => by
        have := (List.getElem?_eq_some_iff.mp hv).1
        exact absurd this (by simpa using hk)⟩
  obtain ⟨D, hD⟩ := Classical.axiomOfChoice hcls
  obtain ⟨c0, k0, m0, a1, a2, a3⟩ := Cond.arrayClass_spec (ht _ z_a.1)
  obtain ⟨c1, k1, m1, b1, b2, b3⟩ := Cond.arrayClass_spec (ht _ z_a.2.1)
  obtain ⟨c2, k2, m2, d1, d2, d3⟩ := Cond.arrayClass_spec (ht _ z_a.2.2.1)
  obtain ⟨c3, k3, m3, e1, e2, e3⟩ := Cond.arrayClass_spec (ht _ z_a.2.2.2.1)
  obtain ⟨m4, c4, k4, f1, -, f3, f4, f5⟩ := Cond.arrayOver_spec (ht _ z_a.2.2.2.2.1)
  obtain ⟨m5, c5, k5, g1, -, g3, g4, g5⟩ := Cond.arrayOver_spec (ht _ z_a.2.2.2.2.2.1)
  obtain ⟨m6, c6, k6, i1, -, i3, i4, i5⟩ := Cond.arrayOver_spec (ht _ z_a.2.2.2.2.2.2)
  refine ⟨(fun k => (D k).1, fun k => (D k).2), fun t => [c0, c1, c2, c3, c4, c5, c6].getD t 0, ⟨fun k v hv => hD k v hv, fun k q hq => ?_⟩, fun w hw => ?_, va_AO.of (ht _ z_a.2.2.2.2.1), va_AO.of (ht _ z_a.2.2.2.2.2.1), va_AO.of (ht _ z_a.2.2.2.2.2.2)⟩
  · have hk : k < 7 := (List.getElem?_eq_some_iff.mp hq).1
    rcases (show k = 0 ∨ k = 1 ∨ k = 2 ∨ k = 3 ∨ k = 4 ∨ k = 5 ∨ k = 6 by omega) with rfl | rfl | rfl | rfl | rfl | rfl | rfl <;> cases hq
    · exact ⟨fun n z => ⟨fun k h => (by cases h), k0, a2, m0, a3⟩, a1⟩
    · exact ⟨fun n z => ⟨fun k h => (by cases h), k1, b2, m1, b3⟩, b1⟩
    · exact ⟨fun n z => ⟨fun k h => (by cases h), k2, d2, m2, d3⟩, d1⟩
    · exact ⟨fun n z => ⟨fun k h => (by cases h), k3, e2, m3, e3⟩, e1⟩
    · exact ⟨fun n z => ⟨fun k h => (by cases h), k4, f3, m4, f4⟩, k4, m4, f3, f4, f1, f5⟩
    · exact ⟨fun n z => ⟨fun k h => (by cases h), k5, g3, m5, g4⟩, k5, m5, g3, g4, g1, g5⟩
    · exact ⟨fun n z => ⟨fun k h => (by cases h), k6, i3, m6, i4⟩, k6, m6, i3, i4, i1, i5⟩
  · obtain ⟨h1, h2⟩ := List.mem_filter.mp hw
    have h3 := hts w h1
    cases w <;> first | exact va_Nw.of rfl h3 | (simp [isNest] at h2; done)
def LF2 (D : va_G) (gc sa adK adV : Nat → Nat) (b L : Nat) (xs : Nat → Int32) (args : Array Value) (s : State) : Prop := LF b L xs args s ∧ ∀ ad : Nat → Nat → Nat → Nat, Ks1 (ad, D, gc, sa, adK, adV) (fun q => s.heap.size ≤ q) s s.heap ∧ Ks2 (ad, D, gc, sa, adK, adV) s
def Elw (D : va_G) (gc sa adK adV : Nat → Nat) (b L : Nat) (xs : Nat → Int32) : EC := (D, gc, (fun s q => s.heap.size ≤ q), room_1, fun args s below t => LF2 D gc sa adK adV b L xs args s → lw_Z below #[Value.ref b] s t)
theorem law_go {α : Type} {cv : α → Res} {a : α} {q1 q2 : Nat} {u1 u2 : Nat → Nat} {D : va_G} {gc sa adK adV : Nat → Nat} {b L n k : Nat} {xs : Nat → Int32} {lv : List (Option Value)} (hf : Rf cv (El (gmk q1 q2 u1 u2 D gc sa adK adV) b L xs) kL_law 18 lv [] sig0 (some a)) (hn : n ≤ 600000) (hk : k ≤ 7302250) : Rw (Elw D gc sa adK adV b L xs) kL_law n k 18 lv [] (([] ++ wo_7 gc q1 u1) ++ wo_8 gc q2 u2) := fun p l e s m args below meth c H locs ls C hP hD hS hl => by
  by_cases hlf : LF2 D gc sa adK adV b L xs args s
  · obtain ⟨h1, h2⟩ := ref_all q1 q2 u1 u2 D gc sa adK adV (fun q => s.heap.size ≤ q) H ⟨hP, hD⟩
    have hK := hlf.2 (gmk q1 q2 u1 u2 D gc sa adK adV).1
    have hW := hf a rfl p l e s m args below meth c H locs ls ⟨C.1, C.2.1, C.2.2.1, C.2.2.2.1, C.2.2.2.2.1, C.2.2.2.2.2.1, C.2.2.2.2.2.2.1, C.2.2.2.2.2.2.2.1.1, hK.1, hK.2, wl_D _ h2⟩ h1 hS hl
    refine W.widen (k := 600000) (n := 7302250) hn hk ?_
    intro T hT X
    obtain ⟨t, g1, g2⟩ := hW T hT X
    exact ⟨t, g1, fun _ => g2 hlf.1⟩
  · intro T hT X
    exact ⟨_, Steps.refl _, fun h => absurd h hlf⟩
set_option maxRecDepth 100000 in
set_option maxHeartbeats 4000000 in
theorem law_start (D : va_G) (gc sa adK adV : Nat → Nat) (b L : Nat) (xs : Nat → Int32) (hL : L ≤ 3072) (hf : f_L_law_L18 L xs 1000 sig0 0 = some ()) : Rw (Elw D gc sa adK adV b L xs) kL_law 0 0 0 [some (.ref b), none, none, none] [] [] := by
  refine w_new (ci := 7) (T := TX7) (CC := "ThawGives") (N := 11) (ty := tyX7) (fs := [.null, .null, .int 0, .null, .null, .null, .null, .int 0, .null, .null, .null]) dL_law_0 rfl uw_7 tyX7_ok wk_L_7 wz_7 wn_X7 (by decide +kernel) (Nat.le_of_ble_eq_true rfl) (Nat.le_of_ble_eq_true rfl) (fun q1 => ?_)
  refine w_dup dL_law_3 rfl ?_
  refine w_init (na := 0) (as := []) (wo := wo_7 gc q1) dL_law_4 (ok_X7_init D gc q1) mi_L_9 wi_X7_init wn_X7 wc_X7_init rfl rfl ⟨by decide, by decide, by decide⟩ rfl rfl (Nat.le_of_ble_eq_true rfl) ⟨Nat.le_of_ble_eq_true rfl, Nat.le_of_ble_eq_true rfl⟩ ⟨Nat.le_of_ble_eq_true rfl, Nat.le_of_ble_eq_true rfl⟩ (fun u1 => ?_)
  refine w_astore_n dL_law_7 rfl (lt_b rfl) (lt_b rfl) ?_
  refine w_new (ci := 8) (T := TX8) (CC := "ThawGivesModel") (N := 43) (ty := tyX8) (fs := [.int 0, .null, .null, .null, .null, .null, .int 0, .int 0, .null, .int 0, .int 0, .int 0, .int 0, .int 0, .int 0, .null, .null, .null, .null, .null, .null, .int 0, .null, .int 0, .null, .null, .null, .int 0, .null, .null, .int 0, .null, .null, .int 0, .null, .int 0, .null, .null, .null, .null, .null, .null, .null]) dL_law_8 rfl uw_8 tyX8_ok wk_L_10 wz_8 wn_X8 (by decide +kernel) (Nat.le_of_ble_eq_true rfl) (Nat.le_of_ble_eq_true rfl) (fun q2 => ?_)
  refine w_dup dL_law_11 rfl ?_
  refine w_init (na := 0) (as := []) (wo := wo_8 gc q2) dL_law_12 (ok_X8_init D gc q2) mi_L_12 wi_X8_init wn_X8 wc_X8_init rfl rfl ⟨by decide, by decide, by decide⟩ rfl rfl (Nat.le_of_ble_eq_true rfl) ⟨Nat.le_of_ble_eq_true rfl, Nat.le_of_ble_eq_true rfl⟩ ⟨Nat.le_of_ble_eq_true rfl, Nat.le_of_ble_eq_true rfl⟩ (fun u2 => ?_)
  refine w_astore_n dL_law_15 rfl (lt_b rfl) (lt_b rfl) ?_
  refine w_iconst dL_law_16 ci_0 ?_
  refine w_istore_n dL_law_17 rfl (lt_b rfl) (lt_b rfl) ?_
  have h := s_L_law_L18 (gmk q1 q2 u1 u2 D gc sa adK adV) b L xs hL 1000 sig0 0
  rw [hf] at h
  exact law_go h (Nat.le_of_ble_eq_true rfl) (Nat.le_of_ble_eq_true rfl)
/-- the law from its entry, if the functions agree -/
theorem whole_open (hfun : ∀ (L : Nat) (xs : Nat → Int32), L ≤ 3072 → f_L_law_L18 L xs 1000 sig0 0 = some ()) {p : Program} {e : Env} {s : State} {m : MethodId} {below : List Frame} {meth : Method} {c : Code} (l : Launch) {b L : Nat} {xs : Nat → Int32} (hL : L ≤ 3072) (C0 : lw_At p s m meth c b L xs) : W p l e room_1 s m #[Value.ref b] below meth c s.heap [] 0 0 (lw_Z below #[Value.ref b] s) (entryFrame m ([Value.ref b] : List Value).toArray 4) := by
  obtain ⟨sa, adK, adV, hks⟩ := kst_of C0
  obtain ⟨D, gc, hkc⟩ := kc_of C0
  obtain ⟨hx, hb, hr, hml, hown, hts, hX, hbl, hlocks, hgv⟩ := C0
  have hl := lv_entry ([.ref b]) (n := 4) (Nat.le_of_ble_eq_true rfl)
  rw [lg_entry_eq]
  have hl' : LV ((lg_sl ([.ref b]) ++ List.replicate (4 - (lg_sl ([.ref b])).length) Slot.unset).toArray) 4 [some (.ref b), none, none, none] := hl
  have h := law_start D gc sa adK adV b L xs hL (hfun L xs hL) p l e s m #[Value.ref b] below meth c s.heap [] _ ⟨hx, hb, hr, hml, hlocks, hown, fun w hw => hts w (List.mem_filter.mp hw).1, hkc, fun _ h => h, Or.inl rfl⟩ (fun k q h => by simp at h) ⟨fun i j p q h => by simp at h, fun k q h => by simp at h⟩ va_S.rf hl'
  intro T hT X
  obtain ⟨t, g1, g2⟩ := h T hT X
  exact ⟨t, g1, g2 ⟨⟨rfl, hX, hbl⟩, fun ad => hks ad D gc⟩⟩
