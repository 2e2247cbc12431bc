def f_X7_inOrder_B22 (k6 : Sto → Int32 → Int32 → Option (Int32 × Sto)) (k22 : Sto → Int32 → Int32 → Int32 → Int32 → Option (Int32 × Sto)) (s0 : Sto) (x1 : Int32) (x2 : Int32) (x3 : Int32) (x4 : Int32) : Option (Int32 × Sto) :=
  (if (s0.1 6 1 0) ≤ x4 then
    (if x3 = x1 then
      some (x2, s0)
    else
      nmI (x2 + 1) fun v5 => k6 s0 x1 v5)
  else
    (if 0 ≤ x4 ∧ x4 < 6 then (if 0 ≤ x2 ∧ x2 < 6 then (if (s0.2.1 7 4 0 (Int32.toNatClampNeg x4)) < (s0.2.1 7 4 0 (Int32.toNatClampNeg x2)) then
      nmI (x3 + 1) fun v11 => nmI (x4 + 1) fun v12 => k22 s0 x1 x2 v11 v12
    else
      (if 0 ≤ x4 ∧ x4 < 6 then (if 0 ≤ x2 ∧ x2 < 6 then (if (s0.2.1 7 4 0 (Int32.toNatClampNeg x4)) = (s0.2.1 7 4 0 (Int32.toNatClampNeg x2)) then
        (if x2 ≤ x4 then
          nmI (x4 + 1) fun v20 => k22 s0 x1 x2 x3 v20
        else
          nmI (x3 + 1) fun v21 => nmI (x4 + 1) fun v22 => k22 s0 x1 x2 v21 v22)
      else
        nmI (x4 + 1) fun v18 => k22 s0 x1 x2 x3 v18) else none) else none)) else none) else none))
def f_X7_inOrder_L22 (k6 : Sto → Int32 → Int32 → Option (Int32 × Sto)) : Nat → Sto → Int32 → Int32 → Int32 → Int32 → Option (Int32 × Sto)
  | 0 => fun _ _ _ _ _ => none
  | n + 1 => f_X7_inOrder_B22 k6 (f_X7_inOrder_L22 k6 n)
def f_X7_inOrder_B6 (k6 : Sto → Int32 → Int32 → Option (Int32 × Sto)) (s0 : Sto) (x1 : Int32) (x2 : Int32) : Option (Int32 × Sto) :=
  (if (s0.1 6 1 0) ≤ x2 then
    some ((-1 : Int32), s0)
  else
    f_X7_inOrder_L22 k6 1000 s0 x1 x2 0 0)
def f_X7_inOrder_L6 : Nat → Sto → Int32 → Int32 → Option (Int32 × Sto)
  | 0 => fun _ _ _ => none
  | n + 1 => f_X7_inOrder_B6 (f_X7_inOrder_L6 n)
def f_X7_inOrder (s0 : Sto) (x1 : Int32) : Option (Int32 × Sto) :=
  (f_X7_findWhens s0).bind fun q1 => f_X7_inOrder_L6 1000 q1 x1 0
set_option maxRecDepth 100000 in
theorem s_X7_inOrder_B22 (g : Gm) (k6 : Sto → Int32 → Int32 → Option (Int32 × Sto)) (hk6 : ∀ (s0 : Sto) (x1 : Int32) (x2 : Int32), Rf cvIw (Em g 5) kX7_inOrder 6 [some (.ref ((Em g 5).1.1 7 0 0)), some (.int x1), some (.int x2), none, none] [] s0 (k6 s0 x1 x2)) (k22 : Sto → Int32 → Int32 → Int32 → Int32 → Option (Int32 × Sto)) (hk22 : ∀ (s0 : Sto) (x1 : Int32) (x2 : Int32) (x3 : Int32) (x4 : Int32), Rf cvIw (Em g 5) kX7_inOrder 22 [some (.ref ((Em g 5).1.1 7 0 0)), some (.int x1), some (.int x2), some (.int x3), some (.int x4)] [] s0 (k22 s0 x1 x2 x3 x4)) (s0 : Sto) (x1 : Int32) (x2 : Int32) (x3 : Int32) (x4 : Int32) : Rf cvIw (Em g 5) kX7_inOrder 22 [some (.ref ((Em g 5).1.1 7 0 0)), some (.int x1), some (.int x2), some (.int x3), some (.int x4)] [] s0 (f_X7_inOrder_B22 k6 k22 s0 x1 x2 x3 x4) := by
  unfold f_X7_inOrder_B22
  refine r_iload dX7_inOrder_22 rfl ?_
  refine r_aload_n dX7_inOrder_24 rfl ?_
  refine gf_X7_14 rfl dX7_inOrder_25 ?_
  refine gf_X7_78 rfl dX7_inOrder_28 (by decide) ?_
  refine r_icge dX7_inOrder_31 (tgt := 81) (by decide) (fun c3 => ?_) (fun c3 => ?_)
  · refine r_iload_n dX7_inOrder_81 rfl ?_
    refine r_iload_n dX7_inOrder_82 rfl ?_
    refine r_icne dX7_inOrder_83 (tgt := 88) (by decide) (fun c4 => ?_) (fun c4 => ?_)
    · refine r_iload_n dX7_inOrder_86 rfl ?_
      exact r_iret dX7_inOrder_87 rfl rfl
    · refine r_iincN dX7_inOrder_88 rfl ci_1 rfl (lt_b rfl) (fun v5 => ?_)
      refine r_goto dX7_inOrder_91 (tgt := 6) (by decide) ?_
      exact r_mask [true, true, true, false, false] (hk6 s0 x1 v5)
  · refine r_aload_n dX7_inOrder_34 rfl ?_
    refine gf_X7_34 rfl dX7_inOrder_35 ?_
    refine r_iload dX7_inOrder_38 rfl ?_
    refine al_7_4 dX7_inOrder_40 (fun hg6 hj7 => ?_)
    refine r_aload_n dX7_inOrder_41 rfl ?_
    refine gf_X7_34 rfl dX7_inOrder_42 ?_
    refine r_iload_n dX7_inOrder_45 rfl ?_
    refine al_7_4 dX7_inOrder_46 (fun hg8 hj9 => ?_)
    refine r_iclt dX7_inOrder_47 (tgt := 72) (by decide) (fun c10 => ?_) (fun c10 => ?_)
    · refine r_iincN dX7_inOrder_72 rfl ci_1 rfl (lt_b rfl) (fun v11 => ?_)
      refine r_iincN dX7_inOrder_75 rfl ci_1 rfl (lt_b rfl) (fun v12 => ?_)
      refine r_goto dX7_inOrder_78 (tgt := 22) (by decide) ?_
      exact r_mask [true, true, true, true, true] (hk22 s0 x1 x2 v11 v12)
    · refine r_aload_n dX7_inOrder_50 rfl ?_
      refine gf_X7_34 rfl dX7_inOrder_51 ?_
      refine r_iload dX7_inOrder_54 rfl ?_
      refine al_7_4 dX7_inOrder_56 (fun hg13 hj14 => ?_)
      refine r_aload_n dX7_inOrder_57 rfl ?_
      refine gf_X7_34 rfl dX7_inOrder_58 ?_
      refine r_iload_n dX7_inOrder_61 rfl ?_
      refine al_7_4 dX7_inOrder_62 (fun hg15 hj16 => ?_)
      refine r_icne dX7_inOrder_63 (tgt := 75) (by decide) (fun c17 => ?_) (fun c17 => ?_)
      · refine r_iload dX7_inOrder_66 rfl ?_
        refine r_iload_n dX7_inOrder_68 rfl ?_
        refine r_icge dX7_inOrder_69 (tgt := 75) (by decide) (fun c19 => ?_) (fun c19 => ?_)
        · refine r_iincN dX7_inOrder_75 rfl ci_1 rfl (lt_b rfl) (fun v20 => ?_)
          refine r_goto dX7_inOrder_78 (tgt := 22) (by decide) ?_
          exact r_mask [true, true, true, true, true] (hk22 s0 x1 x2 x3 v20)
        · refine r_iincN dX7_inOrder_72 rfl ci_1 rfl (lt_b rfl) (fun v21 => ?_)
          refine r_iincN dX7_inOrder_75 rfl ci_1 rfl (lt_b rfl) (fun v22 => ?_)
          refine r_goto dX7_inOrder_78 (tgt := 22) (by decide) ?_
          exact r_mask [true, true, true, true, true] (hk22 s0 x1 x2 v21 v22)
      · refine r_iincN dX7_inOrder_75 rfl ci_1 rfl (lt_b rfl) (fun v18 => ?_)
        refine r_goto dX7_inOrder_78 (tgt := 22) (by decide) ?_
        exact r_mask [true, true, true, true, true] (hk22 s0 x1 x2 x3 v18)
theorem s_X7_inOrder_L22 (g : Gm) (k6 : Sto → Int32 → Int32 → Option (Int32 × Sto)) (hk6 : ∀ (s0 : Sto) (x1 : Int32) (x2 : Int32), Rf cvIw (Em g 5) kX7_inOrder 6 [some (.ref ((Em g 5).1.1 7 0 0)), some (.int x1), some (.int x2), none, none] [] s0 (k6 s0 x1 x2)) : ∀ (n : Nat) (s0 : Sto) (x1 : Int32) (x2 : Int32) (x3 : Int32) (x4 : Int32), Rf cvIw (Em g 5) kX7_inOrder 22 [some (.ref ((Em g 5).1.1 7 0 0)), some (.int x1), some (.int x2), some (.int x3), some (.int x4)] [] s0 (f_X7_inOrder_L22 k6 n s0 x1 x2 x3 x4)
  | 0, _, _, _, _, _ => r_none
  | n + 1, s0, x1, x2, x3, x4 => s_X7_inOrder_B22 g k6 hk6 (f_X7_inOrder_L22 k6 n) (s_X7_inOrder_L22 g k6 hk6 n) s0 x1 x2 x3 x4
set_option maxRecDepth 100000 in
theorem s_X7_inOrder_B6 (g : Gm) (k6 : Sto → Int32 → Int32 → Option (Int32 × Sto)) (hk6 : ∀ (s0 : Sto) (x1 : Int32) (x2 : Int32), Rf cvIw (Em g 5) kX7_inOrder 6 [some (.ref ((Em g 5).1.1 7 0 0)), some (.int x1), some (.int x2), none, none] [] s0 (k6 s0 x1 x2)) (s0 : Sto) (x1 : Int32) (x2 : Int32) : Rf cvIw (Em g 5) kX7_inOrder 6 [some (.ref ((Em g 5).1.1 7 0 0)), some (.int x1), some (.int x2), none, none] [] s0 (f_X7_inOrder_B6 k6 s0 x1 x2) := by
  unfold f_X7_inOrder_B6
  refine r_iload_n dX7_inOrder_6 rfl ?_
  refine r_aload_n dX7_inOrder_7 rfl ?_
  refine gf_X7_14 rfl dX7_inOrder_8 ?_
  refine gf_X7_78 rfl dX7_inOrder_11 (by decide) ?_
  refine r_icge dX7_inOrder_14 (tgt := 94) (by decide) (fun c2 => ?_) (fun c2 => ?_)
  · refine r_iconst dX7_inOrder_94 ci_m1 ?_
    exact r_iret dX7_inOrder_95 rfl rfl
  · refine r_iconst dX7_inOrder_17 ci_0 ?_
    refine r_istore_n dX7_inOrder_18 rfl (lt_b rfl) (lt_b rfl) ?_
    refine r_iconst dX7_inOrder_19 ci_0 ?_
    refine r_istore dX7_inOrder_20 rfl (lt_b rfl) (lt_b rfl) ?_
    exact r_mask [true, true, true, true, true] (s_X7_inOrder_L22 g k6 hk6 1000 s0 x1 x2 0 0)
theorem s_X7_inOrder_L6 (g : Gm) : ∀ (n : Nat) (s0 : Sto) (x1 : Int32) (x2 : Int32), Rf cvIw (Em g 5) kX7_inOrder 6 [some (.ref ((Em g 5).1.1 7 0 0)), some (.int x1), some (.int x2), none, none] [] s0 (f_X7_inOrder_L6 n s0 x1 x2)
  | 0, _, _, _ => r_none
  | n + 1, s0, x1, x2 => s_X7_inOrder_B6 g (f_X7_inOrder_L6 n) (s_X7_inOrder_L6 g n) s0 x1 x2
set_option maxRecDepth 100000 in
theorem s_X7_inOrder (g : Gm) (s0 : Sto) (x1 : Int32) : Rf cvIw (Em g 5) kX7_inOrder 0 [some (.ref ((Em g 5).1.1 7 0 0)), some (.int x1), none, none, none] [] s0 (f_X7_inOrder s0 x1) := by
  unfold f_X7_inOrder
  refine r_aload_n dX7_inOrder_0 rfl ?_
  refine u_X7_findWhens (ok_X7_findWhens g s0) dX7_inOrder_1 ml_X7_273 (Nat.le_of_ble_eq_true rfl) (fits_m (by decide) (by decide)) room_m (fun q1 => ?_)
  refine r_iconst dX7_inOrder_4 ci_0 ?_
  refine r_istore_n dX7_inOrder_5 rfl (lt_b rfl) (lt_b rfl) ?_
  exact r_mask [true, true, true, false, false] (s_X7_inOrder_L6 g 1000 q1 x1 0)
theorem ok_X7_inOrder (g : Gm) (s0 : Sto) (x1 : Int32) : Ok g yX7_inOrder kX7_inOrder 5 [.ref ((Em g 5).1.1 7 0 0), .int x1] s0 cvIw (f_X7_inOrder s0 x1) := Ok.of (by decide) rfl (Nat.le_of_ble_eq_true rfl) (lv := [some (.ref ((Em g 5).1.1 7 0 0)), some (.int x1), none, none, none]) rfl (s_X7_inOrder g s0 x1)
theorem u_X7_inOrder {α : Type} {cv : α → Res} {E : EE} {K : KK} {pc npc idx d : Nat} {lv : List (Option Value)} {st : List Value} {σ : Sto} {oc : Option (Int32 × Sto)} {kf : (Int32 × Sto) → Option α} {x1 : Int32} (hOk : Ok E.1 yX7_inOrder kX7_inOrder d [.ref (E.1.1 7 0 0), .int x1] σ cvIw oc) (hd : Dc K pc (.invokevirtual idx) 3 npc) (hlk : Cond.methodLink K.2.1 idx yX7_inOrder ∈ lw_good) (hw : (st.map fun v => v.category).sum ≤ 8) (hfit : fits_ E d 5) (hrm : room_ok E) (kk : ∀ q : Int32 × Sto, Rf cv E K npc lv (.int q.1 :: st) q.2 (kf q)) : Rf cv E K pc lv (.int x1 :: .ref (E.1.1 7 0 0) :: st) σ (oc.bind kf) := c_V (n := 1) (as := [.int x1]) (c0 := 7) (i := 0) (CC := "ThawGives") (T := TX7) (N := 11) hd hOk hlk wi_X7_inOrder wv_X7_inOrder wn_X7 wc_X7_inOrder rfl (by decide) (by decide) ⟨by decide, by decide, by decide⟩ rfl rfl hw hfit hrm (fun b _ => kk b)
def f_X7_told (s0 : Sto) (x1 : Int32) : Option (Int32 × Sto) :=
  (if x1 = 0 then
    some ((s0.1 6 2 0), s0)
  else (if x1 = 1 then
    (f_X7_holding s0).bind fun q3 => (if q3 < 8 then some ((s0.1 1 4 q3), s0) else none)
  else (if x1 = 2 then
    (f_X7_outBits s0 0).bind fun q6 => some (q6.1, q6.2)
  else (if x1 = 3 then
    (f_X7_depthOfAll s0 0).bind fun q8 => some (q8.1, q8.2)
  else (if x1 = 4 then
    (f_X7_crossed s0 0).bind fun q10 => some (q10.1, q10.2)
  else (if x1 = 5 then
    (f_X7_crossed s0 1).bind fun q12 => some (q12.1, q12.2)
  else (if x1 < 10 then
    some ((-1 : Int32), s0)
  else
    (f_X7_inOrder s0 (x1 - 10)).bind fun q14 => some (q14.1, q14.2))))))))
set_option maxRecDepth 100000 in
theorem s_X7_told (g : Gm) (s0 : Sto) (x1 : Int32) : Rf cvIw (Em g 6) kX7_told 0 [some (.ref ((Em g 6).1.1 7 0 0)), some (.int x1)] [] s0 (f_X7_told s0 x1) := by
  unfold f_X7_told
  refine r_iload_n dX7_told_0 rfl ?_
  refine r_by (fun e1 => ?_) (fun e1 => ?_)
  · refine r_tabIn dX7_told_1 e1 (z := 0) (by decide) (by decide) (by decide) (off := 39) rfl (tgt := 40) (by decide) ?_
    refine r_aload_n dX7_told_40 rfl ?_
    refine gf_X7_14 rfl dX7_told_41 ?_
    refine gf_X7_105 rfl dX7_told_44 (by decide) ?_
    exact r_iret dX7_told_47 rfl rfl
  refine r_by (fun e2 => ?_) (fun e2 => ?_)
  · refine r_tabIn dX7_told_1 e2 (z := 1) (by decide) (by decide) (by decide) (off := 47) rfl (tgt := 48) (by decide) ?_
    refine r_aload_n dX7_told_48 rfl ?_
    refine u_X7_holding (ok_X7_holding g s0) dX7_told_49 ml_X7_108 (Nat.le_of_ble_eq_true rfl) (fits_m (by decide) (by decide)) room_m (fun q3 => ?_)
    refine r_gd (fun h4 => ?_)
    refine gf_X7_143 rfl dX7_told_52 h4 ?_
    exact r_iret dX7_told_55 rfl rfl
  refine r_by (fun e5 => ?_) (fun e5 => ?_)
  · refine r_tabIn dX7_told_1 e5 (z := 2) (by decide) (by decide) (by decide) (off := 55) rfl (tgt := 56) (by decide) ?_
    refine r_aload_n dX7_told_56 rfl ?_
    refine r_iconst dX7_told_57 ci_0 ?_
    refine u_X7_outBits (ok_X7_outBits g s0 0) dX7_told_58 ml_X7_146 (Nat.le_of_ble_eq_true rfl) (fits_m (by decide) (by decide)) room_m (fun q6 => ?_)
    exact r_iret dX7_told_61 rfl rfl
  refine r_by (fun e7 => ?_) (fun e7 => ?_)
  · refine r_tabIn dX7_told_1 e7 (z := 3) (by decide) (by decide) (by decide) (off := 61) rfl (tgt := 62) (by decide) ?_
    refine r_aload_n dX7_told_62 rfl ?_
    refine r_iconst dX7_told_63 ci_0 ?_
    refine u_X7_depthOfAll (ok_X7_depthOfAll g s0 0) dX7_told_64 ml_X7_149 (Nat.le_of_ble_eq_true rfl) (fits_m (by decide) (by decide)) room_m (fun q8 => ?_)
    exact r_iret dX7_told_67 rfl rfl
  refine r_by (fun e9 => ?_) (fun e9 => ?_)
  · refine r_tabIn dX7_told_1 e9 (z := 4) (by decide) (by decide) (by decide) (off := 67) rfl (tgt := 68) (by decide) ?_
    refine r_aload_n dX7_told_68 rfl ?_
    refine r_iconst dX7_told_69 ci_0 ?_
    refine u_X7_crossed (ok_X7_crossed g s0 0) dX7_told_70 ml_X7_152 (Nat.le_of_ble_eq_true rfl) (fits_m (by decide) (by decide)) room_m (fun q10 => ?_)
    exact r_iret dX7_told_73 rfl rfl
  refine r_by (fun e11 => ?_) (fun e11 => ?_)
  · refine r_tabIn dX7_told_1 e11 (z := 5) (by decide) (by decide) (by decide) (off := 73) rfl (tgt := 74) (by decide) ?_
    refine r_aload_n dX7_told_74 rfl ?_
    refine r_iconst dX7_told_75 ci_1 ?_
    refine u_X7_crossed (ok_X7_crossed g s0 1) dX7_told_76 ml_X7_152 (Nat.le_of_ble_eq_true rfl) (fits_m (by decide) (by decide)) room_m (fun q12 => ?_)
    exact r_iret dX7_told_79 rfl rfl
  refine r_tabOut dX7_told_1 (by have a0 := sw_ne e1 (z := 0) (by decide); have a1 := sw_ne e2 (z := 1) (by decide); have a2 := sw_ne e5 (z := 2) (by decide); have a3 := sw_ne e7 (z := 3) (by decide); have a4 := sw_ne e9 (z := 4) (by decide); have a5 := sw_ne e11 (z := 5) (by decide); omega) (tgt := 80) (by decide) ?_
  refine r_iload_n dX7_told_80 rfl ?_
  refine r_bipush dX7_told_81 cb_10 ?_
  refine r_iclt dX7_told_83 (tgt := 97) (by decide) (fun c13 => ?_) (fun c13 => ?_)
  · refine r_iconst dX7_told_97 ci_m1 ?_
    exact r_iret dX7_told_98 rfl rfl
  · refine r_aload_n dX7_told_86 rfl ?_
    refine r_iload_n dX7_told_87 rfl ?_
    refine r_bipush dX7_told_88 cb_10 ?_
    refine r_isub dX7_told_90 ?_
    refine u_X7_inOrder (ok_X7_inOrder g s0 (x1 - 10)) dX7_told_91 ml_X7_156 (Nat.le_of_ble_eq_true rfl) (fits_m (by decide) (by decide)) room_m (fun q14 => ?_)
    refine r_goto dX7_told_94 (tgt := 98) (by decide) ?_
    exact r_iret dX7_told_98 rfl rfl
theorem ok_X7_told (g : Gm) (s0 : Sto) (x1 : Int32) : Ok g yX7_told kX7_told 6 [.ref ((Em g 6).1.1 7 0 0), .int x1] s0 cvIw (f_X7_told s0 x1) := Ok.of (by decide) rfl (Nat.le_of_ble_eq_true rfl) (lv := [some (.ref ((Em g 6).1.1 7 0 0)), some (.int x1)]) rfl (s_X7_told g s0 x1)
theorem u_X7_told {α : Type} {cv : α → Res} {E : EE} {K : KK} {pc npc idx d : Nat} {lv : List (Option Value)} {st : List Value} {σ : Sto} {oc : Option (Int32 × Sto)} {kf : (Int32 × Sto) → Option α} {x1 : Int32} (hOk : Ok E.1 yX7_told kX7_told d [.ref (E.1.1 7 0 0), .int x1] σ cvIw oc) (hd : Dc K pc (.invokevirtual idx) 3 npc) (hlk : Cond.methodLink K.2.1 idx yX7_told ∈ lw_good) (hw : (st.map fun v => v.category).sum ≤ 8) (hfit : fits_ E d 2) (hrm : room_ok E) (kk : ∀ q : Int32 × Sto, Rf cv E K npc lv (.int q.1 :: st) q.2 (kf q)) : Rf cv E K pc lv (.int x1 :: .ref (E.1.1 7 0 0) :: st) σ (oc.bind kf) := c_V (n := 1) (as := [.int x1]) (c0 := 7) (i := 0) (CC := "ThawGives") (T := TX7) (N := 11) hd hOk hlk wi_X7_told wv_X7_told wn_X7 wc_X7_told rfl (by decide) (by decide) ⟨by decide, by decide, by decide⟩ rfl rfl hw hfit hrm (fun b _ => kk b)
def f_X7_pass_B32 (k32 : Sto → Int32 → Int32 → Option (Int32 × Sto)) (s0 : Sto) (x1 : Int32) (x2 : Int32) : Option (Int32 × Sto) :=
  (if (s0.1 6 1 0) ≤ x2 then
    nm (sF s0 6 2 0 ((s0.1 6 2 0) + x1)) fun s5 => some ((s5.1 6 2 0), s5)
  else
    (if 0 ≤ x2 ∧ x2 < 6 then (f_X7_goWeeks s0 (6 * 0 + Int32.toNatClampNeg x2) x1).bind fun q8 => nmI (x2 + 1) fun v9 => k32 q8 x1 v9 else none))
def f_X7_pass_L32 : Nat → Sto → Int32 → Int32 → Option (Int32 × Sto)
  | 0 => fun _ _ _ => none
  | n + 1 => f_X7_pass_B32 (f_X7_pass_L32 n)
def f_X7_pass (s0 : Sto) (x1 : Int32) : Option (Int32 × Sto) :=
  (f_X7_isUpTo x1 60).bind fun q1 => (if q1 = 0 then
    some ((-2 : Int32), s0)
  else
    (if ((s0.1 6 2 0) + x1) ≤ 9999 then
      f_X7_pass_L32 1000 s0 x1 0
    else
      some ((-3 : Int32), s0)))
set_option maxRecDepth 100000 in
theorem s_X7_pass_B32 (g : Gm) (k32 : Sto → Int32 → Int32 → Option (Int32 × Sto)) (hk32 : ∀ (s0 : Sto) (x1 : Int32) (x2 : Int32), Rf cvIw (Em g 4) kX7_pass 32 [some (.ref ((Em g 4).1.1 7 0 0)), some (.int x1), some (.int x2)] [] s0 (k32 s0 x1 x2)) (s0 : Sto) (x1 : Int32) (x2 : Int32) : Rf cvIw (Em g 4) kX7_pass 32 [some (.ref ((Em g 4).1.1 7 0 0)), some (.int x1), some (.int x2)] [] s0 (f_X7_pass_B32 k32 s0 x1 x2) := by
  unfold f_X7_pass_B32
  refine r_iload_n dX7_pass_32 rfl ?_
  refine r_aload_n dX7_pass_33 rfl ?_
  refine gf_X7_14 rfl dX7_pass_34 ?_
  refine gf_X7_78 rfl dX7_pass_37 (by decide) ?_
  refine r_icge dX7_pass_40 (tgt := 63) (by decide) (fun c4 => ?_) (fun c4 => ?_)
  · refine r_aload_n dX7_pass_63 rfl ?_
    refine gf_X7_14 rfl dX7_pass_64 ?_
    refine r_dup dX7_pass_67 rfl ?_
    refine gf_X7_105 rfl dX7_pass_68 (by decide) ?_
    refine r_iload_n dX7_pass_71 rfl ?_
    refine r_iadd dX7_pass_72 ?_
    refine pf_X7_105 rfl dX7_pass_73 (by decide) (fun s5 => ?_)
    refine r_aload_n dX7_pass_76 rfl ?_
    refine gf_X7_14 rfl dX7_pass_77 ?_
    refine gf_X7_105 rfl dX7_pass_80 (by decide) ?_
    exact r_iret dX7_pass_83 rfl rfl
  · refine r_aload_n dX7_pass_43 rfl ?_
    refine r_aload_n dX7_pass_44 rfl ?_
    refine gf_X7_14 rfl dX7_pass_45 ?_
    refine gf_X7_81 rfl dX7_pass_48 (by decide) ?_
    refine r_iload_n dX7_pass_51 rfl ?_
    refine al_6_0 dX7_pass_52 (by decide) (fun hg6 hj7 => ?_)
    refine r_iload_n dX7_pass_53 rfl ?_
    refine u_X7_goWeeks (ok_X7_goWeeks g s0 (6 * 0 + Int32.toNatClampNeg x2) x1 (by omega)) dX7_pass_54 ml_X7_159 (Nat.le_of_ble_eq_true rfl) (fits_m (by decide) (by decide)) room_m (fun q8 => ?_)
    refine r_iincN dX7_pass_57 rfl ci_1 rfl (lt_b rfl) (fun v9 => ?_)
    refine r_goto dX7_pass_60 (tgt := 32) (by decide) ?_
    exact r_mask [true, true, true] (hk32 q8 x1 v9)
theorem s_X7_pass_L32 (g : Gm) : ∀ (n : Nat) (s0 : Sto) (x1 : Int32) (x2 : Int32), Rf cvIw (Em g 4) kX7_pass 32 [some (.ref ((Em g 4).1.1 7 0 0)), some (.int x1), some (.int x2)] [] s0 (f_X7_pass_L32 n s0 x1 x2)
  | 0, _, _, _ => r_none
  | n + 1, s0, x1, x2 => s_X7_pass_B32 g (f_X7_pass_L32 n) (s_X7_pass_L32 g n) s0 x1 x2
set_option maxRecDepth 100000 in
theorem s_X7_pass (g : Gm) (s0 : Sto) (x1 : Int32) : Rf cvIw (Em g 4) kX7_pass 0 [some (.ref ((Em g 4).1.1 7 0 0)), some (.int x1), none] [] s0 (f_X7_pass s0 x1) := by
  unfold f_X7_pass
  refine r_iload_n dX7_pass_0 rfl ?_
  refine r_bipush dX7_pass_1 cb_60 ?_
  refine u_X7_isUpTo (ok_X7_isUpTo g s0 x1 60) dX7_pass_3 ml_X7_74 (Nat.le_of_ble_eq_true rfl) (fits_m (by decide) (by decide)) room_m (fun q1 => ?_)
  refine r_ifne dX7_pass_6 (tgt := 12) (by decide) (fun c2 => ?_) (fun c2 => ?_)
  · refine r_bipush dX7_pass_9 cb_m2 ?_
    exact r_iret dX7_pass_11 rfl rfl
  · refine r_aload_n dX7_pass_12 rfl ?_
    refine gf_X7_14 rfl dX7_pass_13 ?_
    refine gf_X7_105 rfl dX7_pass_16 (by decide) ?_
    refine r_iload_n dX7_pass_19 rfl ?_
    refine r_iadd dX7_pass_20 ?_
    refine r_sipush dX7_pass_21 cs_9999 ?_
    refine r_icle dX7_pass_24 (tgt := 30) (by decide) (fun c3 => ?_) (fun c3 => ?_)
    · refine r_iconst dX7_pass_30 ci_0 ?_
      refine r_istore_n dX7_pass_31 rfl (lt_b rfl) (lt_b rfl) ?_
      exact r_mask [true, true, true] (s_X7_pass_L32 g 1000 s0 x1 0)
    · refine r_bipush dX7_pass_27 cb_m3 ?_
      exact r_iret dX7_pass_29 rfl rfl
theorem ok_X7_pass (g : Gm) (s0 : Sto) (x1 : Int32) : Ok g yX7_pass kX7_pass 4 [.ref ((Em g 4).1.1 7 0 0), .int x1] s0 cvIw (f_X7_pass s0 x1) := Ok.of (by decide) rfl (Nat.le_of_ble_eq_true rfl) (lv := [some (.ref ((Em g 4).1.1 7 0 0)), some (.int x1), none]) rfl (s_X7_pass g s0 x1)
theorem u_X7_pass {α : Type} {cv : α → Res} {E : EE} {K : KK} {pc npc idx d : Nat} {lv : List (Option Value)} {st : List Value} {σ : Sto} {oc : Option (Int32 × Sto)} {kf : (Int32 × Sto) → Option α} {x1 : Int32} (hOk : Ok E.1 yX7_pass kX7_pass d [.ref (E.1.1 7 0 0), .int x1] σ cvIw oc) (hd : Dc K pc (.invokevirtual idx) 3 npc) (hlk : Cond.methodLink K.2.1 idx yX7_pass ∈ lw_good) (hw : (st.map fun v => v.category).sum ≤ 8) (hfit : fits_ E d 3) (hrm : room_ok E) (kk : ∀ q : Int32 × Sto, Rf cv E K npc lv (.int q.1 :: st) q.2 (kf q)) : Rf cv E K pc lv (.int x1 :: .ref (E.1.1 7 0 0) :: st) σ (oc.bind kf) := c_V (n := 1) (as := [.int x1]) (c0 := 7) (i := 0) (CC := "ThawGives") (T := TX7) (N := 11) hd hOk hlk wi_X7_pass wv_X7_pass wn_X7 wc_X7_pass rfl (by decide) (by decide) ⟨by decide, by decide, by decide⟩ rfl rfl hw hfit hrm (fun b _ => kk b)
def f_X7_on_L33 (s0 : Sto) (x1 : Int32) (x2 : Int32) (x3 : Int32) : Option (Int32 × Sto) :=
  (f_X7_isUpTo x1 60).bind fun q3 => (if q3 = 0 then
    some ((-2 : Int32), s0)
  else
    (if x3 = 0 then
      (f_X7_outBits s0 x1).bind fun q6 => some (q6.1, q6.2)
    else
      (f_X7_depthBehind s0 (x2 - 10) x1).bind fun q7 => some (q7.1, q7.2)))
def f_X7_on_L22 (s0 : Sto) (x1 : Int32) (x2 : Int32) (y0 : Int32) : Option (Int32 × Sto) :=
  (if x2 = 0 then
    f_X7_on_L33 s0 x1 x2 y0
  else
    (if y0 = 0 then
      some ((-1 : Int32), s0)
    else
      f_X7_on_L33 s0 x1 x2 y0))
def f_X7_on_L21 (s0 : Sto) (x1 : Int32) (x2 : Int32) : Option (Int32 × Sto) :=
  f_X7_on_L22 s0 x1 x2 0
def f_X7_on (s0 : Sto) (x1 : Int32) (x2 : Int32) : Option (Int32 × Sto) :=
  (if x2 < 10 then
    f_X7_on_L21 s0 x1 x2
  else
    (f_X7_isThing s0 (x2 - 10)).bind fun q9 => (if q9 = 0 then
      f_X7_on_L21 s0 x1 x2
    else
      f_X7_on_L22 s0 x1 x2 1))
set_option maxRecDepth 100000 in
theorem s_X7_on_L33 (g : Gm) (s0 : Sto) (x1 : Int32) (x2 : Int32) (x3 : Int32) : Rf cvIw (Em g 6) kX7_on 33 [some (.ref ((Em g 6).1.1 7 0 0)), some (.int x1), some (.int x2), some (.int x3)] [] s0 (f_X7_on_L33 s0 x1 x2 x3) := by
  unfold f_X7_on_L33
  refine r_iload_n dX7_on_33 rfl ?_
  refine r_bipush dX7_on_34 cb_60 ?_
  refine u_X7_isUpTo (ok_X7_isUpTo g s0 x1 60) dX7_on_36 ml_X7_74 (Nat.le_of_ble_eq_true rfl) (fits_m (by decide) (by decide)) room_m (fun q3 => ?_)
  refine r_ifne dX7_on_39 (tgt := 45) (by decide) (fun c4 => ?_) (fun c4 => ?_)
  · refine r_bipush dX7_on_42 cb_m2 ?_
    exact r_iret dX7_on_44 rfl rfl
  · refine r_iload_n dX7_on_45 rfl ?_
    refine r_ifeq dX7_on_46 (tgt := 61) (by decide) (fun c5 => ?_) (fun c5 => ?_)
    · refine r_aload_n dX7_on_61 rfl ?_
      refine r_iload_n dX7_on_62 rfl ?_
      refine u_X7_outBits (ok_X7_outBits g s0 x1) dX7_on_63 ml_X7_146 (Nat.le_of_ble_eq_true rfl) (fits_m (by decide) (by decide)) room_m (fun q6 => ?_)
      exact r_iret dX7_on_66 rfl rfl
    · refine r_aload_n dX7_on_49 rfl ?_
      refine r_iload_n dX7_on_50 rfl ?_
      refine r_bipush dX7_on_51 cb_10 ?_
      refine r_isub dX7_on_53 ?_
      refine r_iload_n dX7_on_54 rfl ?_
      refine u_X7_depthBehind (ok_X7_depthBehind g s0 (x2 - 10) x1) dX7_on_55 ml_X7_163 (Nat.le_of_ble_eq_true rfl) (fits_m (by decide) (by decide)) room_m (fun q7 => ?_)
      refine r_goto dX7_on_58 (tgt := 66) (by decide) ?_
      exact r_iret dX7_on_66 rfl rfl
set_option maxRecDepth 100000 in
theorem s_X7_on_L22 (g : Gm) (s0 : Sto) (x1 : Int32) (x2 : Int32) (y0 : Int32) : Rf cvIw (Em g 6) kX7_on 22 [some (.ref ((Em g 6).1.1 7 0 0)), some (.int x1), some (.int x2), none] [.int y0] s0 (f_X7_on_L22 s0 x1 x2 y0) := by
  unfold f_X7_on_L22
  refine r_istore_n dX7_on_22 rfl (lt_b rfl) (lt_b rfl) ?_
  refine r_iload_n dX7_on_23 rfl ?_
  refine r_ifeq dX7_on_24 (tgt := 33) (by decide) (fun c2 => ?_) (fun c2 => ?_)
  · exact r_mask [true, true, true, true] (s_X7_on_L33 g s0 x1 x2 y0)
  · refine r_iload_n dX7_on_27 rfl ?_
    refine r_ifne dX7_on_28 (tgt := 33) (by decide) (fun c8 => ?_) (fun c8 => ?_)
    · refine r_iconst dX7_on_31 ci_m1 ?_
      exact r_iret dX7_on_32 rfl rfl
    · exact r_mask [true, true, true, true] (s_X7_on_L33 g s0 x1 x2 y0)
set_option maxRecDepth 100000 in
theorem s_X7_on_L21 (g : Gm) (s0 : Sto) (x1 : Int32) (x2 : Int32) : Rf cvIw (Em g 6) kX7_on 21 [some (.ref ((Em g 6).1.1 7 0 0)), some (.int x1), some (.int x2), none] [] s0 (f_X7_on_L21 s0 x1 x2) := by
  unfold f_X7_on_L21
  refine r_iconst dX7_on_21 ci_0 ?_
  exact r_mask [true, true, true, false] (s_X7_on_L22 g s0 x1 x2 0)
set_option maxRecDepth 100000 in
theorem s_X7_on (g : Gm) (s0 : Sto) (x1 : Int32) (x2 : Int32) : Rf cvIw (Em g 6) kX7_on 0 [some (.ref ((Em g 6).1.1 7 0 0)), some (.int x1), some (.int x2), none] [] s0 (f_X7_on s0 x1 x2) := by
  unfold f_X7_on
  refine r_iload_n dX7_on_0 rfl ?_
  refine r_bipush dX7_on_1 cb_10 ?_
  refine r_iclt dX7_on_3 (tgt := 21) (by decide) (fun c1 => ?_) (fun c1 => ?_)
  · exact r_mask [true, true, true, false] (s_X7_on_L21 g s0 x1 x2)
  · refine r_aload_n dX7_on_6 rfl ?_
    refine r_iload_n dX7_on_7 rfl ?_
    refine r_bipush dX7_on_8 cb_10 ?_
    refine r_isub dX7_on_10 ?_
    refine u_X7_isThing (ok_X7_isThing g s0 (x2 - 10)) dX7_on_11 ml_X7_89 (Nat.le_of_ble_eq_true rfl) (fits_m (by decide) (by decide)) room_m (fun q9 => ?_)
    refine r_ifeq dX7_on_14 (tgt := 21) (by decide) (fun c10 => ?_) (fun c10 => ?_)
    · exact r_mask [true, true, true, false] (s_X7_on_L21 g s0 x1 x2)
    · refine r_iconst dX7_on_17 ci_1 ?_
      refine r_goto dX7_on_18 (tgt := 22) (by decide) ?_
      exact r_mask [true, true, true, false] (s_X7_on_L22 g s0 x1 x2 1)
theorem ok_X7_on (g : Gm) (s0 : Sto) (x1 : Int32) (x2 : Int32) : Ok g yX7_on kX7_on 6 [.ref ((Em g 6).1.1 7 0 0), .int x1, .int x2] s0 cvIw (f_X7_on s0 x1 x2) := Ok.of (by decide) rfl (Nat.le_of_ble_eq_true rfl) (lv := [some (.ref ((Em g 6).1.1 7 0 0)), some (.int x1), some (.int x2), none]) rfl (s_X7_on g s0 x1 x2)
theorem u_X7_on {α : Type} {cv : α → Res} {E : EE} {K : KK} {pc npc idx d : Nat} {lv : List (Option Value)} {st : List Value} {σ : Sto} {oc : Option (Int32 × Sto)} {kf : (Int32 × Sto) → Option α} {x1 : Int32} {x2 : Int32} (hOk : Ok E.1 yX7_on kX7_on d [.ref (E.1.1 7 0 0), .int x1, .int x2] σ cvIw oc) (hd : Dc K pc (.invokevirtual idx) 3 npc) (hlk : Cond.methodLink K.2.1 idx yX7_on ∈ lw_good) (hw : (st.map fun v => v.category).sum ≤ 8) (hfit : fits_ E d 4) (hrm : room_ok E) (kk : ∀ q : Int32 × Sto, Rf cv E K npc lv (.int q.1 :: st) q.2 (kf q)) : Rf cv E K pc lv (.int x2 :: .int x1 :: .ref (E.1.1 7 0 0) :: st) σ (oc.bind kf) := c_V (n := 2) (as := [.int x1, .int x2]) (c0 := 7) (i := 0) (CC := "ThawGives") (T := TX7) (N := 11) hd hOk hlk wi_X7_on wv_X7_on wn_X7 wc_X7_on rfl (by decide) (by decide) ⟨by decide, by decide, by decide⟩ rfl rfl hw hfit hrm (fun b _ => kk b)
def f_X7_isOutWith (s0 : Sto) (x1 : Int32) (x2 : Int32) (x3 : Int32) (x4 : Int32) : Option (Int32 × Sto) :=
  (if 0 ≤ x1 ∧ x1 < 6 then (f_X5_become s0 12 (6 * 0 + Int32.toNatClampNeg x1)).bind fun q3 => (f_X5_put q3 12 x2 x3).bind fun q4 => (f_X7_goWeeks q4 12 x4).bind fun q5 => (f_X5_isOut q5 12).bind fun q6 => (if q6 = 0 ∨ q6 = 1 then some (q6, q5) else none) else none)
set_option maxRecDepth 100000 in
theorem s_X7_isOutWith (g : Gm) (s0 : Sto) (x1 : Int32) (x2 : Int32) (x3 : Int32) (x4 : Int32) : Rf cvIw (Em g 4) kX7_isOutWith 0 [some (.ref ((Em g 4).1.1 7 0 0)), some (.int x1), some (.int x2), some (.int x3), some (.int x4)] [] s0 (f_X7_isOutWith s0 x1 x2 x3 x4) := by
  unfold f_X7_isOutWith
  refine r_aload_n dX7_isOutWith_0 rfl ?_
  refine gf_X7_30 rfl dX7_isOutWith_1 ?_
  refine r_aload_n dX7_isOutWith_4 rfl ?_
  refine gf_X7_14 rfl dX7_isOutWith_5 ?_
  refine gf_X7_81 rfl dX7_isOutWith_8 (by decide) ?_
  refine r_iload_n dX7_isOutWith_11 rfl ?_
  refine al_6_0 dX7_isOutWith_12 (by decide) (fun hg1 hj2 => ?_)
  refine un_X5_become (ok_X5_become g s0 12 (6 * 0 + Int32.toNatClampNeg x1) (by decide) (by omega)) dX7_isOutWith_13 mn_X7_266 (by decide) (Nat.le_of_ble_eq_true rfl) (fits_m (by decide) (by decide)) room_m (fun q3 => ?_)
  refine r_aload_n dX7_isOutWith_16 rfl ?_
  refine gf_X7_30 rfl dX7_isOutWith_17 ?_
  refine r_iload_n dX7_isOutWith_20 rfl ?_
  refine r_iload_n dX7_isOutWith_21 rfl ?_
  refine un_X5_put (ok_X5_put g q3 12 x2 x3 (by decide)) dX7_isOutWith_22 mn_X7_123 (by decide) (Nat.le_of_ble_eq_true rfl) (fits_m (by decide) (by decide)) room_m (fun q4 => ?_)
  refine r_aload_n dX7_isOutWith_25 rfl ?_
  refine r_aload_n dX7_isOutWith_26 rfl ?_
  refine gf_X7_30 rfl dX7_isOutWith_27 ?_
  refine r_iload dX7_isOutWith_30 rfl ?_
  refine u_X7_goWeeks (ok_X7_goWeeks g q4 12 x4 (by decide)) dX7_isOutWith_32 ml_X7_159 (Nat.le_of_ble_eq_true rfl) (fits_m (by decide) (by decide)) room_m (fun q5 => ?_)
  refine r_aload_n dX7_isOutWith_35 rfl ?_
  refine gf_X7_30 rfl dX7_isOutWith_36 ?_
  refine un_X5_isOut (ok_X5_isOut g q5 12 (by decide)) dX7_isOutWith_39 mn_X7_269 (by decide) (Nat.le_of_ble_eq_true rfl) (fits_m (by decide) (by decide)) room_m (fun q6 => ?_)
  exact r_gd (fun hz => r_zret dX7_isOutWith_42 rfl (nz01 hz) rfl)
theorem ok_X7_isOutWith (g : Gm) (s0 : Sto) (x1 : Int32) (x2 : Int32) (x3 : Int32) (x4 : Int32) : Ok g yX7_isOutWith kX7_isOutWith 4 [.ref ((Em g 4).1.1 7 0 0), .int x1, .int x2, .int x3, .int x4] s0 cvIw (f_X7_isOutWith s0 x1 x2 x3 x4) := Ok.of (by decide) rfl (Nat.le_of_ble_eq_true rfl) (lv := [some (.ref ((Em g 4).1.1 7 0 0)), some (.int x1), some (.int x2), some (.int x3), some (.int x4)]) rfl (s_X7_isOutWith g s0 x1 x2 x3 x4)
theorem u_X7_isOutWith {α : Type} {cv : α → Res} {E : EE} {K : KK} {pc npc idx d : Nat} {lv : List (Option Value)} {st : List Value} {σ : Sto} {oc : Option (Int32 × Sto)} {kf : (Int32 × Sto) → Option α} {x1 : Int32} {x2 : Int32} {x3 : Int32} {x4 : Int32} (hOk : Ok E.1 yX7_isOutWith kX7_isOutWith d [.ref (E.1.1 7 0 0), .int x1, .int x2, .int x3, .int x4] σ cvIw oc) (hd : Dc K pc (.invokevirtual idx) 3 npc) (hlk : Cond.methodLink K.2.1 idx yX7_isOutWith ∈ lw_good) (hw : (st.map fun v => v.category).sum ≤ 8) (hfit : fits_ E d 5) (hrm : room_ok E) (kk : ∀ q : Int32 × Sto, Rf cv E K npc lv (.int q.1 :: st) q.2 (kf q)) : Rf cv E K pc lv (.int x4 :: .int x3 :: .int x2 :: .int x1 :: .ref (E.1.1 7 0 0) :: st) σ (oc.bind kf) := c_V (n := 4) (as := [.int x1, .int x2, .int x3, .int x4]) (c0 := 7) (i := 0) (CC := "ThawGives") (T := TX7) (N := 11) hd hOk hlk wi_X7_isOutWith wv_X7_isOutWith wn_X7 wc_X7_isOutWith rfl (by decide) (by decide) ⟨by decide, by decide, by decide⟩ rfl rfl hw hfit hrm (fun b _ => kk b)
def f_X7_worthsOut_B5 (k5 : Sto → Int32 → Int32 → Int32 → Int32 → Option (Int32 × Sto)) (s0 : Sto) (x1 : Int32) (x2 : Int32) (x3 : Int32) (x4 : Int32) : Option (Int32 × Sto) :=
  (if (99 : Int32) < x4 then
    some (x3, s0)
  else
    (f_X7_isOutWith s0 x1 0 x4 x2).bind fun q2 => (if q2.1 = 0 then
      nmI (x4 + 1) fun v4 => k5 q2.2 x1 x2 x3 v4
    else
      nmI (x3 + 1) fun v5 => nmI (x4 + 1) fun v6 => k5 q2.2 x1 x2 v5 v6))
def f_X7_worthsOut_L5 : Nat → Sto → Int32 → Int32 → Int32 → Int32 → Option (Int32 × Sto)
  | 0 => fun _ _ _ _ _ => none
  | n + 1 => f_X7_worthsOut_B5 (f_X7_worthsOut_L5 n)
def f_X7_worthsOut (s0 : Sto) (x1 : Int32) (x2 : Int32) : Option (Int32 × Sto) :=
  f_X7_worthsOut_L5 1000 s0 x1 x2 0 0
set_option maxRecDepth 100000 in
theorem s_X7_worthsOut_B5 (g : Gm) (k5 : Sto → Int32 → Int32 → Int32 → Int32 → Option (Int32 × Sto)) (hk5 : ∀ (s0 : Sto) (x1 : Int32) (x2 : Int32) (x3 : Int32) (x4 : Int32), Rf cvIw (Em g 5) kX7_worthsOut 5 [some (.ref ((Em g 5).1.1 7 0 0)), some (.int x1), some (.int x2), some (.int x3), some (.int x4)] [] s0 (k5 s0 x1 x2 x3 x4)) (s0 : Sto) (x1 : Int32) (x2 : Int32) (x3 : Int32) (x4 : Int32) : Rf cvIw (Em g 5) kX7_worthsOut 5 [some (.ref ((Em g 5).1.1 7 0 0)), some (.int x1), some (.int x2), some (.int x3), some (.int x4)] [] s0 (f_X7_worthsOut_B5 k5 s0 x1 x2 x3 x4) := by
  unfold f_X7_worthsOut_B5
  refine r_iload dX7_worthsOut_5 rfl ?_
  refine r_bipush dX7_worthsOut_7 cb_99 ?_
  refine r_icgt dX7_worthsOut_9 (tgt := 33) (by decide) (fun c1 => ?_) (fun c1 => ?_)
  · refine r_iload_n dX7_worthsOut_33 rfl ?_
    exact r_iret dX7_worthsOut_34 rfl rfl
  · refine r_aload_n dX7_worthsOut_12 rfl ?_
    refine r_iload_n dX7_worthsOut_13 rfl ?_
    refine r_iconst dX7_worthsOut_14 ci_0 ?_
    refine r_iload dX7_worthsOut_15 rfl ?_
    refine r_iload_n dX7_worthsOut_17 rfl ?_
    refine u_X7_isOutWith (ok_X7_isOutWith g s0 x1 0 x4 x2) dX7_worthsOut_18 ml_X7_279 (Nat.le_of_ble_eq_true rfl) (fits_m (by decide) (by decide)) room_m (fun q2 => ?_)
    refine r_ifeq dX7_worthsOut_21 (tgt := 27) (by decide) (fun c3 => ?_) (fun c3 => ?_)
    · refine r_iincN dX7_worthsOut_27 rfl ci_1 rfl (lt_b rfl) (fun v4 => ?_)
      refine r_goto dX7_worthsOut_30 (tgt := 5) (by decide) ?_
      exact r_mask [true, true, true, true, true] (hk5 q2.2 x1 x2 x3 v4)
    · refine r_iincN dX7_worthsOut_24 rfl ci_1 rfl (lt_b rfl) (fun v5 => ?_)
      refine r_iincN dX7_worthsOut_27 rfl ci_1 rfl (lt_b rfl) (fun v6 => ?_)
      refine r_goto dX7_worthsOut_30 (tgt := 5) (by decide) ?_
      exact r_mask [true, true, true, true, true] (hk5 q2.2 x1 x2 v5 v6)
theorem s_X7_worthsOut_L5 (g : Gm) : ∀ (n : Nat) (s0 : Sto) (x1 : Int32) (x2 : Int32) (x3 : Int32) (x4 : Int32), Rf cvIw (Em g 5) kX7_worthsOut 5 [some (.ref ((Em g 5).1.1 7 0 0)), some (.int x1), some (.int x2), some (.int x3), some (.int x4)] [] s0 (f_X7_worthsOut_L5 n s0 x1 x2 x3 x4)
  | 0, _, _, _, _, _ => r_none
  | n + 1, s0, x1, x2, x3, x4 => s_X7_worthsOut_B5 g (f_X7_worthsOut_L5 n) (s_X7_worthsOut_L5 g n) s0 x1 x2 x3 x4
set_option maxRecDepth 100000 in
theorem s_X7_worthsOut (g : Gm) (s0 : Sto) (x1 : Int32) (x2 : Int32) : Rf cvIw (Em g 5) kX7_worthsOut 0 [some (.ref ((Em g 5).1.1 7 0 0)), some (.int x1), some (.int x2), none, none] [] s0 (f_X7_worthsOut s0 x1 x2) := by
  unfold f_X7_worthsOut
  refine r_iconst dX7_worthsOut_0 ci_0 ?_
  refine r_istore_n dX7_worthsOut_1 rfl (lt_b rfl) (lt_b rfl) ?_
  refine r_iconst dX7_worthsOut_2 ci_0 ?_
  refine r_istore dX7_worthsOut_3 rfl (lt_b rfl) (lt_b rfl) ?_
  exact r_mask [true, true, true, true, true] (s_X7_worthsOut_L5 g 1000 s0 x1 x2 0 0)
theorem ok_X7_worthsOut (g : Gm) (s0 : Sto) (x1 : Int32) (x2 : Int32) : Ok g yX7_worthsOut kX7_worthsOut 5 [.ref ((Em g 5).1.1 7 0 0), .int x1, .int x2] s0 cvIw (f_X7_worthsOut s0 x1 x2) := Ok.of (by decide) rfl (Nat.le_of_ble_eq_true rfl) (lv := [some (.ref ((Em g 5).1.1 7 0 0)), some (.int x1), some (.int x2), none, none]) rfl (s_X7_worthsOut g s0 x1 x2)
theorem u_X7_worthsOut {α : Type} {cv : α → Res} {E : EE} {K : KK} {pc npc idx d : Nat} {lv : List (Option Value)} {st : List Value} {σ : Sto} {oc : Option (Int32 × Sto)} {kf : (Int32 × Sto) → Option α} {x1 : Int32} {x2 : Int32} (hOk : Ok E.1 yX7_worthsOut kX7_worthsOut d [.ref (E.1.1 7 0 0), .int x1, .int x2] σ cvIw oc) (hd : Dc K pc (.invokevirtual idx) 3 npc) (hlk : Cond.methodLink K.2.1 idx yX7_worthsOut ∈ lw_good) (hw : (st.map fun v => v.category).sum ≤ 8) (hfit : fits_ E d 5) (hrm : room_ok E) (kk : ∀ q : Int32 × Sto, Rf cv E K npc lv (.int q.1 :: st) q.2 (kf q)) : Rf cv E K pc lv (.int x2 :: .int x1 :: .ref (E.1.1 7 0 0) :: st) σ (oc.bind kf) := c_V (n := 2) (as := [.int x1, .int x2]) (c0 := 7) (i := 0) (CC := "ThawGives") (T := TX7) (N := 11) hd hOk hlk wi_X7_worthsOut wv_X7_worthsOut wn_X7 wc_X7_worthsOut rfl (by decide) (by decide) ⟨by decide, by decide, by decide⟩ rfl rfl hw hfit hrm (fun b _ => kk b)
def f_X7_greatestWorthOut_B3 (k3 : Sto → Int32 → Int32 → Int32 → Option (Int32 × Sto)) (s0 : Sto) (x1 : Int32) (x2 : Int32) (x3 : Int32) : Option (Int32 × Sto) :=
  (if x3 < 0 then
    some ((-5 : Int32), s0)
  else
    (f_X7_isOutWith s0 x1 0 x3 x2).bind fun q2 => (if q2.1 = 0 then
      nmI (x3 + (-1 : Int32)) fun v4 => k3 q2.2 x1 x2 v4
    else
      some (x3, q2.2)))
def f_X7_greatestWorthOut_L3 : Nat → Sto → Int32 → Int32 → Int32 → Option (Int32 × Sto)
  | 0 => fun _ _ _ _ => none
  | n + 1 => f_X7_greatestWorthOut_B3 (f_X7_greatestWorthOut_L3 n)
def f_X7_greatestWorthOut (s0 : Sto) (x1 : Int32) (x2 : Int32) : Option (Int32 × Sto) :=
  f_X7_greatestWorthOut_L3 1000 s0 x1 x2 99
set_option maxRecDepth 100000 in
theorem s_X7_greatestWorthOut_B3 (g : Gm) (k3 : Sto → Int32 → Int32 → Int32 → Option (Int32 × Sto)) (hk3 : ∀ (s0 : Sto) (x1 : Int32) (x2 : Int32) (x3 : Int32), Rf cvIw (Em g 5) kX7_greatestWorthOut 3 [some (.ref ((Em g 5).1.1 7 0 0)), some (.int x1), some (.int x2), some (.int x3)] [] s0 (k3 s0 x1 x2 x3)) (s0 : Sto) (x1 : Int32) (x2 : Int32) (x3 : Int32) : Rf cvIw (Em g 5) kX7_greatestWorthOut 3 [some (.ref ((Em g 5).1.1 7 0 0)), some (.int x1), some (.int x2), some (.int x3)] [] s0 (f_X7_greatestWorthOut_B3 k3 s0 x1 x2 x3) := by
  unfold f_X7_greatestWorthOut_B3
  refine r_iload_n dX7_greatestWorthOut_3 rfl ?_
  refine r_iflt dX7_greatestWorthOut_4 (tgt := 26) (by decide) (fun c1 => ?_) (fun c1 => ?_)
  · refine r_bipush dX7_greatestWorthOut_26 cb_m5 ?_
    exact r_iret dX7_greatestWorthOut_28 rfl rfl
  · refine r_aload_n dX7_greatestWorthOut_7 rfl ?_
    refine r_iload_n dX7_greatestWorthOut_8 rfl ?_
    refine r_iconst dX7_greatestWorthOut_9 ci_0 ?_
    refine r_iload_n dX7_greatestWorthOut_10 rfl ?_
    refine r_iload_n dX7_greatestWorthOut_11 rfl ?_
    refine u_X7_isOutWith (ok_X7_isOutWith g s0 x1 0 x3 x2) dX7_greatestWorthOut_12 ml_X7_279 (Nat.le_of_ble_eq_true rfl) (fits_m (by decide) (by decide)) room_m (fun q2 => ?_)
    refine r_ifeq dX7_greatestWorthOut_15 (tgt := 20) (by decide) (fun c3 => ?_) (fun c3 => ?_)
    · refine r_iincN dX7_greatestWorthOut_20 rfl ci_m1 rfl (lt_b rfl) (fun v4 => ?_)
      refine r_goto dX7_greatestWorthOut_23 (tgt := 3) (by decide) ?_
      exact r_mask [true, true, true, true] (hk3 q2.2 x1 x2 v4)
    · refine r_iload_n dX7_greatestWorthOut_18 rfl ?_
      exact r_iret dX7_greatestWorthOut_19 rfl rfl
theorem s_X7_greatestWorthOut_L3 (g : Gm) : ∀ (n : Nat) (s0 : Sto) (x1 : Int32) (x2 : Int32) (x3 : Int32), Rf cvIw (Em g 5) kX7_greatestWorthOut 3 [some (.ref ((Em g 5).1.1 7 0 0)), some (.int x1), some (.int x2), some (.int x3)] [] s0 (f_X7_greatestWorthOut_L3 n s0 x1 x2 x3)
  | 0, _, _, _, _ => r_none
  | n + 1, s0, x1, x2, x3 => s_X7_greatestWorthOut_B3 g (f_X7_greatestWorthOut_L3 n) (s_X7_greatestWorthOut_L3 g n) s0 x1 x2 x3
set_option maxRecDepth 100000 in
theorem s_X7_greatestWorthOut (g : Gm) (s0 : Sto) (x1 : Int32) (x2 : Int32) : Rf cvIw (Em g 5) kX7_greatestWorthOut 0 [some (.ref ((Em g 5).1.1 7 0 0)), some (.int x1), some (.int x2), none] [] s0 (f_X7_greatestWorthOut s0 x1 x2) := by
  unfold f_X7_greatestWorthOut
  refine r_bipush dX7_greatestWorthOut_0 cb_99 ?_
  refine r_istore_n dX7_greatestWorthOut_2 rfl (lt_b rfl) (lt_b rfl) ?_
  exact r_mask [true, true, true, true] (s_X7_greatestWorthOut_L3 g 1000 s0 x1 x2 99)
theorem ok_X7_greatestWorthOut (g : Gm) (s0 : Sto) (x1 : Int32) (x2 : Int32) : Ok g yX7_greatestWorthOut kX7_greatestWorthOut 5 [.ref ((Em g 5).1.1 7 0 0), .int x1, .int x2] s0 cvIw (f_X7_greatestWorthOut s0 x1 x2) := Ok.of (by decide) rfl (Nat.le_of_ble_eq_true rfl) (lv := [some (.ref ((Em g 5).1.1 7 0 0)), some (.int x1), some (.int x2), none]) rfl (s_X7_greatestWorthOut g s0 x1 x2)
theorem u_X7_greatestWorthOut {α : Type} {cv : α → Res} {E : EE} {K : KK} {pc npc idx d : Nat} {lv : List (Option Value)} {st : List Value} {σ : Sto} {oc : Option (Int32 × Sto)} {kf : (Int32 × Sto) → Option α} {x1 : Int32} {x2 : Int32} (hOk : Ok E.1 yX7_greatestWorthOut kX7_greatestWorthOut d [.ref (E.1.1 7 0 0), .int x1, .int x2] σ cvIw oc) (hd : Dc K pc (.invokevirtual idx) 3 npc) (hlk : Cond.methodLink K.2.1 idx yX7_greatestWorthOut ∈ lw_good) (hw : (st.map fun v => v.category).sum ≤ 8) (hfit : fits_ E d 4) (hrm : room_ok E) (kk : ∀ q : Int32 × Sto, Rf cv E K npc lv (.int q.1 :: st) q.2 (kf q)) : Rf cv E K pc lv (.int x2 :: .int x1 :: .ref (E.1.1 7 0 0) :: st) σ (oc.bind kf) := c_V (n := 2) (as := [.int x1, .int x2]) (c0 := 7) (i := 0) (CC := "ThawGives") (T := TX7) (N := 11) hd hOk hlk wi_X7_greatestWorthOut wv_X7_greatestWorthOut wn_X7 wc_X7_greatestWorthOut rfl (by decide) (by decide) ⟨by decide, by decide, by decide⟩ rfl rfl hw hfit hrm (fun b _ => kk b)
def f_X7_by (s0 : Sto) (x1 : Int32) (x2 : Int32) (x3 : Int32) : Option (Int32 × Sto) :=
  (f_X7_isThing s0 x1).bind fun q1 => (if q1 = 0 then
    some ((-1 : Int32), s0)
  else
    (f_X7_isUpTo x3 1).bind fun q3 => (if q3 = 0 then
      some ((-1 : Int32), s0)
    else
      (f_X7_isUpTo x2 30).bind fun q5 => (if q5 = 0 then
        some ((-2 : Int32), s0)
      else
        (if x3 = 0 then
          (f_X7_worthsOut s0 x1 x2).bind fun q9 => some (q9.1, q9.2)
        else
          (f_X7_greatestWorthOut s0 x1 x2).bind fun q8 => some (q8.1, q8.2)))))
set_option maxRecDepth 100000 in
theorem s_X7_by (g : Gm) (s0 : Sto) (x1 : Int32) (x2 : Int32) (x3 : Int32) : Rf cvIw (Em g 6) kX7_by 0 [some (.ref ((Em g 6).1.1 7 0 0)), some (.int x1), some (.int x2), some (.int x3)] [] s0 (f_X7_by s0 x1 x2 x3) := by
  unfold f_X7_by
  refine r_aload_n dX7_by_0 rfl ?_
  refine r_iload_n dX7_by_1 rfl ?_
  refine u_X7_isThing (ok_X7_isThing g s0 x1) dX7_by_2 ml_X7_89 (Nat.le_of_ble_eq_true rfl) (fits_m (by decide) (by decide)) room_m (fun q1 => ?_)
  refine r_ifeq dX7_by_5 (tgt := 16) (by decide) (fun c2 => ?_) (fun c2 => ?_)
  · refine r_iconst dX7_by_16 ci_m1 ?_
    exact r_iret dX7_by_17 rfl rfl
  · refine r_iload_n dX7_by_8 rfl ?_
    refine r_iconst dX7_by_9 ci_1 ?_
    refine u_X7_isUpTo (ok_X7_isUpTo g s0 x3 1) dX7_by_10 ml_X7_74 (Nat.le_of_ble_eq_true rfl) (fits_m (by decide) (by decide)) room_m (fun q3 => ?_)
    refine r_ifne dX7_by_13 (tgt := 18) (by decide) (fun c4 => ?_) (fun c4 => ?_)
    · refine r_iconst dX7_by_16 ci_m1 ?_
      exact r_iret dX7_by_17 rfl rfl
    · refine r_iload_n dX7_by_18 rfl ?_
      refine r_bipush dX7_by_19 cb_30 ?_
      refine u_X7_isUpTo (ok_X7_isUpTo g s0 x2 30) dX7_by_21 ml_X7_74 (Nat.le_of_ble_eq_true rfl) (fits_m (by decide) (by decide)) room_m (fun q5 => ?_)
      refine r_ifne dX7_by_24 (tgt := 30) (by decide) (fun c6 => ?_) (fun c6 => ?_)
      · refine r_bipush dX7_by_27 cb_m2 ?_
        exact r_iret dX7_by_29 rfl rfl
      · refine r_iload_n dX7_by_30 rfl ?_
        refine r_ifne dX7_by_31 (tgt := 43) (by decide) (fun c7 => ?_) (fun c7 => ?_)
        · refine r_aload_n dX7_by_34 rfl ?_
          refine r_iload_n dX7_by_35 rfl ?_
          refine r_iload_n dX7_by_36 rfl ?_
          refine u_X7_worthsOut (ok_X7_worthsOut g s0 x1 x2) dX7_by_37 ml_X7_167 (Nat.le_of_ble_eq_true rfl) (fits_m (by decide) (by decide)) room_m (fun q9 => ?_)
          refine r_goto dX7_by_40 (tgt := 49) (by decide) ?_
          exact r_iret dX7_by_49 rfl rfl
        · refine r_aload_n dX7_by_43 rfl ?_
          refine r_iload_n dX7_by_44 rfl ?_
          refine r_iload_n dX7_by_45 rfl ?_
          refine u_X7_greatestWorthOut (ok_X7_greatestWorthOut g s0 x1 x2) dX7_by_46 ml_X7_170 (Nat.le_of_ble_eq_true rfl) (fits_m (by decide) (by decide)) room_m (fun q8 => ?_)
          exact r_iret dX7_by_49 rfl rfl
theorem ok_X7_by (g : Gm) (s0 : Sto) (x1 : Int32) (x2 : Int32) (x3 : Int32) : Ok g yX7_by kX7_by 6 [.ref ((Em g 6).1.1 7 0 0), .int x1, .int x2, .int x3] s0 cvIw (f_X7_by s0 x1 x2 x3) := Ok.of (by decide) rfl (Nat.le_of_ble_eq_true rfl) (lv := [some (.ref ((Em g 6).1.1 7 0 0)), some (.int x1), some (.int x2), some (.int x3)]) rfl (s_X7_by g s0 x1 x2 x3)
theorem u_X7_by {α : Type} {cv : α → Res} {E : EE} {K : KK} {pc npc idx d : Nat} {lv : List (Option Value)} {st : List Value} {σ : Sto} {oc : Option (Int32 × Sto)} {kf : (Int32 × Sto) → Option α} {x1 : Int32} {x2 : Int32} {x3 : Int32} (hOk : Ok E.1 yX7_by kX7_by d [.ref (E.1.1 7 0 0), .int x1, .int x2, .int x3] σ cvIw oc) (hd : Dc K pc (.invokevirtual idx) 3 npc) (hlk : Cond.methodLink K.2.1 idx yX7_by ∈ lw_good) (hw : (st.map fun v => v.category).sum ≤ 8) (hfit : fits_ E d 4) (hrm : room_ok E) (kk : ∀ q : Int32 × Sto, Rf cv E K npc lv (.int q.1 :: st) q.2 (kf q)) : Rf cv E K pc lv (.int x3 :: .int x2 :: .int x1 :: .ref (E.1.1 7 0 0) :: st) σ (oc.bind kf) := c_V (n := 3) (as := [.int x1, .int x2, .int x3]) (c0 := 7) (i := 0) (CC := "ThawGives") (T := TX7) (N := 11) hd hOk hlk wi_X7_by wv_X7_by wn_X7 wc_X7_by rfl (by decide) (by decide) ⟨by decide, by decide, by decide⟩ rfl rfl hw hfit hrm (fun b _ => kk b)
def f_X7_less_B16 (k16 : Sto → Int32 → Int32 → Int32 → Int32 → Option (Int32 × Sto)) (s0 : Sto) (x1 : Int32) (x2 : Int32) (x3 : Int32) (x4 : Int32) : Option (Int32 × Sto) :=
  (if (99 : Int32) < x4 then
    some ((-5 : Int32), s0)
  else
    (f_J9_max_7cf53 (x3 - x4) 0).bind fun q5 => (f_X7_isOutWith s0 x1 0 q5 x2).bind fun q6 => (if q6.1 = 0 then
      nmI (x4 + 1) fun v8 => k16 q6.2 x1 x2 x3 v8
    else
      some (x4, q6.2)))
def f_X7_less_L16 : Nat → Sto → Int32 → Int32 → Int32 → Int32 → Option (Int32 × Sto)
  | 0 => fun _ _ _ _ _ => none
  | n + 1 => f_X7_less_B16 (f_X7_less_L16 n)
def f_X7_less (s0 : Sto) (x1 : Int32) (x2 : Int32) : Option (Int32 × Sto) :=
  (if 0 ≤ x1 ∧ x1 < 6 then nmI ((s0.1 5 3 (6 * 0 + Int32.toNatClampNeg x1))) fun v3 => f_X7_less_L16 1000 s0 x1 x2 v3 0 else none)
set_option maxRecDepth 100000 in
theorem s_X7_less_B16 (g : Gm) (k16 : Sto → Int32 → Int32 → Int32 → Int32 → Option (Int32 × Sto)) (hk16 : ∀ (s0 : Sto) (x1 : Int32) (x2 : Int32) (x3 : Int32) (x4 : Int32), Rf cvIw (Em g 5) kX7_less 16 [some (.ref ((Em g 5).1.1 7 0 0)), some (.int x1), some (.int x2), some (.int x3), some (.int x4)] [] s0 (k16 s0 x1 x2 x3 x4)) (s0 : Sto) (x1 : Int32) (x2 : Int32) (x3 : Int32) (x4 : Int32) : Rf cvIw (Em g 5) kX7_less 16 [some (.ref ((Em g 5).1.1 7 0 0)), some (.int x1), some (.int x2), some (.int x3), some (.int x4)] [] s0 (f_X7_less_B16 k16 s0 x1 x2 x3 x4) := by
  unfold f_X7_less_B16
  refine r_iload dX7_less_16 rfl ?_
  refine r_bipush dX7_less_18 cb_99 ?_
  refine r_icgt dX7_less_20 (tgt := 50) (by decide) (fun c4 => ?_) (fun c4 => ?_)
  · refine r_bipush dX7_less_50 cb_m5 ?_
    exact r_iret dX7_less_52 rfl rfl
  · refine r_aload_n dX7_less_23 rfl ?_
    refine r_iload_n dX7_less_24 rfl ?_
    refine r_iconst dX7_less_25 ci_0 ?_
    refine r_iload_n dX7_less_26 rfl ?_
    refine r_iload dX7_less_27 rfl ?_
    refine r_isub dX7_less_29 ?_
    refine r_iconst dX7_less_30 ci_0 ?_
    refine u_J9_max_7cf53 (ok_J9_max_7cf53 g s0 (x3 - x4) 0) dX7_less_31 ml_X7_283 (Nat.le_of_ble_eq_true rfl) (fits_m (by decide) (by decide)) room_m (fun q5 => ?_)
    refine r_iload_n dX7_less_34 rfl ?_
    refine u_X7_isOutWith (ok_X7_isOutWith g s0 x1 0 q5 x2) dX7_less_35 ml_X7_279 (Nat.le_of_ble_eq_true rfl) (fits_m (by decide) (by decide)) room_m (fun q6 => ?_)
    refine r_ifeq dX7_less_38 (tgt := 44) (by decide) (fun c7 => ?_) (fun c7 => ?_)
    · refine r_iincN dX7_less_44 rfl ci_1 rfl (lt_b rfl) (fun v8 => ?_)
      refine r_goto dX7_less_47 (tgt := 16) (by decide) ?_
      exact r_mask [true, true, true, true, true] (hk16 q6.2 x1 x2 x3 v8)
    · refine r_iload dX7_less_41 rfl ?_
      exact r_iret dX7_less_43 rfl rfl
theorem s_X7_less_L16 (g : Gm) : ∀ (n : Nat) (s0 : Sto) (x1 : Int32) (x2 : Int32) (x3 : Int32) (x4 : Int32), Rf cvIw (Em g 5) kX7_less 16 [some (.ref ((Em g 5).1.1 7 0 0)), some (.int x1), some (.int x2), some (.int x3), some (.int x4)] [] s0 (f_X7_less_L16 n s0 x1 x2 x3 x4)
  | 0, _, _, _, _, _ => r_none
  | n + 1, s0, x1, x2, x3, x4 => s_X7_less_B16 g (f_X7_less_L16 n) (s_X7_less_L16 g n) s0 x1 x2 x3 x4
set_option maxRecDepth 100000 in
theorem s_X7_less (g : Gm) (s0 : Sto) (x1 : Int32) (x2 : Int32) : Rf cvIw (Em g 5) kX7_less 0 [some (.ref ((Em g 5).1.1 7 0 0)), some (.int x1), some (.int x2), none, none] [] s0 (f_X7_less s0 x1 x2) := by
  unfold f_X7_less
  refine r_aload_n dX7_less_0 rfl ?_
  refine gf_X7_14 rfl dX7_less_1 ?_
  refine gf_X7_81 rfl dX7_less_4 (by decide) ?_
  refine r_iload_n dX7_less_7 rfl ?_
  refine al_6_0 dX7_less_8 (by decide) (fun hg1 hj2 => ?_)
  refine gf_X7_99 rfl dX7_less_9 (by omega) ?_
  refine r_istore_nN dX7_less_12 rfl (lt_b rfl) (lt_b rfl) (fun v3 => ?_)
  refine r_iconst dX7_less_13 ci_0 ?_
  refine r_istore dX7_less_14 rfl (lt_b rfl) (lt_b rfl) ?_
  exact r_mask [true, true, true, true, true] (s_X7_less_L16 g 1000 s0 x1 x2 v3 0)
theorem ok_X7_less (g : Gm) (s0 : Sto) (x1 : Int32) (x2 : Int32) : Ok g yX7_less kX7_less 5 [.ref ((Em g 5).1.1 7 0 0), .int x1, .int x2] s0 cvIw (f_X7_less s0 x1 x2) := Ok.of (by decide) rfl (Nat.le_of_ble_eq_true rfl) (lv := [some (.ref ((Em g 5).1.1 7 0 0)), some (.int x1), some (.int x2), none, none]) rfl (s_X7_less g s0 x1 x2)
theorem u_X7_less {α : Type} {cv : α → Res} {E : EE} {K : KK} {pc npc idx d : Nat} {lv : List (Option Value)} {st : List Value} {σ : Sto} {oc : Option (Int32 × Sto)} {kf : (Int32 × Sto) → Option α} {x1 : Int32} {x2 : Int32} (hOk : Ok E.1 yX7_less kX7_less d [.ref (E.1.1 7 0 0), .int x1, .int x2] σ cvIw oc) (hd : Dc K pc (.invokevirtual idx) 3 npc) (hlk : Cond.methodLink K.2.1 idx yX7_less ∈ lw_good) (hw : (st.map fun v => v.category).sum ≤ 8) (hfit : fits_ E d 5) (hrm : room_ok E) (kk : ∀ q : Int32 × Sto, Rf cv E K npc lv (.int q.1 :: st) q.2 (kf q)) : Rf cv E K pc lv (.int x2 :: .int x1 :: .ref (E.1.1 7 0 0) :: st) σ (oc.bind kf) := c_V (n := 2) (as := [.int x1, .int x2]) (c0 := 7) (i := 0) (CC := "ThawGives") (T := TX7) (N := 11) hd hOk hlk wi_X7_less wv_X7_less wn_X7 wc_X7_less rfl (by decide) (by decide) ⟨by decide, by decide, by decide⟩ rfl rfl hw hfit hrm (fun b _ => kk b)
def f_X7_moreToKeep_B16 (k16 : Sto → Int32 → Int32 → Int32 → Int32 → Option (Int32 × Sto)) (s0 : Sto) (x1 : Int32) (x2 : Int32) (x3 : Int32) (x4 : Int32) : Option (Int32 × Sto) :=
  (if (99 : Int32) < x4 then
    some ((-5 : Int32), s0)
  else
    (f_J9_min_7cf53 (x3 + x4) 99).bind fun q5 => (f_X7_isOutWith s0 x1 1 q5 x2).bind fun q6 => (if q6.1 = 0 then
      some (x4, q6.2)
    else
      nmI (x4 + 1) fun v8 => k16 q6.2 x1 x2 x3 v8))
def f_X7_moreToKeep_L16 : Nat → Sto → Int32 → Int32 → Int32 → Int32 → Option (Int32 × Sto)
  | 0 => fun _ _ _ _ _ => none
  | n + 1 => f_X7_moreToKeep_B16 (f_X7_moreToKeep_L16 n)
def f_X7_moreToKeep (s0 : Sto) (x1 : Int32) (x2 : Int32) : Option (Int32 × Sto) :=
  (if 0 ≤ x1 ∧ x1 < 6 then nmI ((s0.1 5 4 (6 * 0 + Int32.toNatClampNeg x1))) fun v3 => f_X7_moreToKeep_L16 1000 s0 x1 x2 v3 0 else none)
set_option maxRecDepth 100000 in
theorem s_X7_moreToKeep_B16 (g : Gm) (k16 : Sto → Int32 → Int32 → Int32 → Int32 → Option (Int32 × Sto)) (hk16 : ∀ (s0 : Sto) (x1 : Int32) (x2 : Int32) (x3 : Int32) (x4 : Int32), Rf cvIw (Em g 5) kX7_moreToKeep 16 [some (.ref ((Em g 5).1.1 7 0 0)), some (.int x1), some (.int x2), some (.int x3), some (.int x4)] [] s0 (k16 s0 x1 x2 x3 x4)) (s0 : Sto) (x1 : Int32) (x2 : Int32) (x3 : Int32) (x4 : Int32) : Rf cvIw (Em g 5) kX7_moreToKeep 16 [some (.ref ((Em g 5).1.1 7 0 0)), some (.int x1), some (.int x2), some (.int x3), some (.int x4)] [] s0 (f_X7_moreToKeep_B16 k16 s0 x1 x2 x3 x4) := by
  unfold f_X7_moreToKeep_B16
  refine r_iload dX7_moreToKeep_16 rfl ?_
  refine r_bipush dX7_moreToKeep_18 cb_99 ?_
  refine r_icgt dX7_moreToKeep_20 (tgt := 51) (by decide) (fun c4 => ?_) (fun c4 => ?_)
  · refine r_bipush dX7_moreToKeep_51 cb_m5 ?_
    exact r_iret dX7_moreToKeep_53 rfl rfl
  · refine r_aload_n dX7_moreToKeep_23 rfl ?_
    refine r_iload_n dX7_moreToKeep_24 rfl ?_
    refine r_iconst dX7_moreToKeep_25 ci_1 ?_
    refine r_iload_n dX7_moreToKeep_26 rfl ?_
    refine r_iload dX7_moreToKeep_27 rfl ?_
    refine r_iadd dX7_moreToKeep_29 ?_
    refine r_bipush dX7_moreToKeep_30 cb_99 ?_
    refine u_J9_min_7cf53 (ok_J9_min_7cf53 g s0 (x3 + x4) 99) dX7_moreToKeep_32 ml_X7_288 (Nat.le_of_ble_eq_true rfl) (fits_m (by decide) (by decide)) room_m (fun q5 => ?_)
    refine r_iload_n dX7_moreToKeep_35 rfl ?_
    refine u_X7_isOutWith (ok_X7_isOutWith g s0 x1 1 q5 x2) dX7_moreToKeep_36 ml_X7_279 (Nat.le_of_ble_eq_true rfl) (fits_m (by decide) (by decide)) room_m (fun q6 => ?_)
    refine r_ifne dX7_moreToKeep_39 (tgt := 45) (by decide) (fun c7 => ?_) (fun c7 => ?_)
    · refine r_iload dX7_moreToKeep_42 rfl ?_
      exact r_iret dX7_moreToKeep_44 rfl rfl
    · refine r_iincN dX7_moreToKeep_45 rfl ci_1 rfl (lt_b rfl) (fun v8 => ?_)
      refine r_goto dX7_moreToKeep_48 (tgt := 16) (by decide) ?_
      exact r_mask [true, true, true, true, true] (hk16 q6.2 x1 x2 x3 v8)
theorem s_X7_moreToKeep_L16 (g : Gm) : ∀ (n : Nat) (s0 : Sto) (x1 : Int32) (x2 : Int32) (x3 : Int32) (x4 : Int32), Rf cvIw (Em g 5) kX7_moreToKeep 16 [some (.ref ((Em g 5).1.1 7 0 0)), some (.int x1), some (.int x2), some (.int x3), some (.int x4)] [] s0 (f_X7_moreToKeep_L16 n s0 x1 x2 x3 x4)
  | 0, _, _, _, _, _ => r_none
  | n + 1, s0, x1, x2, x3, x4 => s_X7_moreToKeep_B16 g (f_X7_moreToKeep_L16 n) (s_X7_moreToKeep_L16 g n) s0 x1 x2 x3 x4
set_option maxRecDepth 100000 in
theorem s_X7_moreToKeep (g : Gm) (s0 : Sto) (x1 : Int32) (x2 : Int32) : Rf cvIw (Em g 5) kX7_moreToKeep 0 [some (.ref ((Em g 5).1.1 7 0 0)), some (.int x1), some (.int x2), none, none] [] s0 (f_X7_moreToKeep s0 x1 x2) := by
  unfold f_X7_moreToKeep
  refine r_aload_n dX7_moreToKeep_0 rfl ?_
  refine gf_X7_14 rfl dX7_moreToKeep_1 ?_
  refine gf_X7_81 rfl dX7_moreToKeep_4 (by decide) ?_
  refine r_iload_n dX7_moreToKeep_7 rfl ?_
  refine al_6_0 dX7_moreToKeep_8 (by decide) (fun hg1 hj2 => ?_)
  refine gf_X7_102 rfl dX7_moreToKeep_9 (by omega) ?_
  refine r_istore_nN dX7_moreToKeep_12 rfl (lt_b rfl) (lt_b rfl) (fun v3 => ?_)
  refine r_iconst dX7_moreToKeep_13 ci_0 ?_
  refine r_istore dX7_moreToKeep_14 rfl (lt_b rfl) (lt_b rfl) ?_
  exact r_mask [true, true, true, true, true] (s_X7_moreToKeep_L16 g 1000 s0 x1 x2 v3 0)
theorem ok_X7_moreToKeep (g : Gm) (s0 : Sto) (x1 : Int32) (x2 : Int32) : Ok g yX7_moreToKeep kX7_moreToKeep 5 [.ref ((Em g 5).1.1 7 0 0), .int x1, .int x2] s0 cvIw (f_X7_moreToKeep s0 x1 x2) := Ok.of (by decide) rfl (Nat.le_of_ble_eq_true rfl) (lv := [some (.ref ((Em g 5).1.1 7 0 0)), some (.int x1), some (.int x2), none, none]) rfl (s_X7_moreToKeep g s0 x1 x2)
theorem u_X7_moreToKeep {α : Type} {cv : α → Res} {E : EE} {K : KK} {pc npc idx d : Nat} {lv : List (Option Value)} {st : List Value} {σ : Sto} {oc : Option (Int32 × Sto)} {kf : (Int32 × Sto) → Option α} {x1 : Int32} {x2 : Int32} (hOk : Ok E.1 yX7_moreToKeep kX7_moreToKeep d [.ref (E.1.1 7 0 0), .int x1, .int x2] σ cvIw oc) (hd : Dc K pc (.invokevirtual idx) 3 npc) (hlk : Cond.methodLink K.2.1 idx yX7_moreToKeep ∈ lw_good) (hw : (st.map fun v => v.category).sum ≤ 8) (hfit : fits_ E d 5) (hrm : room_ok E) (kk : ∀ q : Int32 × Sto, Rf cv E K npc lv (.int q.1 :: st) q.2 (kf q)) : Rf cv E K pc lv (.int x2 :: .int x1 :: .ref (E.1.1 7 0 0) :: st) σ (oc.bind kf) := c_V (n := 2) (as := [.int x1, .int x2]) (c0 := 7) (i := 0) (CC := "ThawGives") (T := TX7) (N := 11) hd hOk hlk wi_X7_moreToKeep wv_X7_moreToKeep wn_X7 wc_X7_moreToKeep rfl (by decide) (by decide) ⟨by decide, by decide, by decide⟩ rfl rfl hw hfit hrm (fun b _ => kk b)
def f_X7_need (s0 : Sto) (x1 : Int32) (x2 : Int32) (x3 : Int32) : Option (Int32 × Sto) :=
  (f_X7_isThing s0 x1).bind fun q1 => (if q1 = 0 then
    some ((-1 : Int32), s0)
  else
    (f_X7_isUpTo x3 1).bind fun q3 => (if q3 = 0 then
      some ((-1 : Int32), s0)
    else
      (f_X7_isUpTo x2 30).bind fun q5 => (if q5 = 0 then
        some ((-2 : Int32), s0)
      else
        (if x3 = 0 then
          (f_X7_less s0 x1 x2).bind fun q9 => some (q9.1, q9.2)
        else
          (f_X7_moreToKeep s0 x1 x2).bind fun q8 => some (q8.1, q8.2)))))
set_option maxRecDepth 100000 in
theorem s_X7_need (g : Gm) (s0 : Sto) (x1 : Int32) (x2 : Int32) (x3 : Int32) : Rf cvIw (Em g 6) kX7_need 0 [some (.ref ((Em g 6).1.1 7 0 0)), some (.int x1), some (.int x2), some (.int x3)] [] s0 (f_X7_need s0 x1 x2 x3) := by
  unfold f_X7_need
  refine r_aload_n dX7_need_0 rfl ?_
  refine r_iload_n dX7_need_1 rfl ?_
  refine u_X7_isThing (ok_X7_isThing g s0 x1) dX7_need_2 ml_X7_89 (Nat.le_of_ble_eq_true rfl) (fits_m (by decide) (by decide)) room_m (fun q1 => ?_)
  refine r_ifeq dX7_need_5 (tgt := 16) (by decide) (fun c2 => ?_) (fun c2 => ?_)
  · refine r_iconst dX7_need_16 ci_m1 ?_
    exact r_iret dX7_need_17 rfl rfl
  · refine r_iload_n dX7_need_8 rfl ?_
    refine r_iconst dX7_need_9 ci_1 ?_
    refine u_X7_isUpTo (ok_X7_isUpTo g s0 x3 1) dX7_need_10 ml_X7_74 (Nat.le_of_ble_eq_true rfl) (fits_m (by decide) (by decide)) room_m (fun q3 => ?_)
    refine r_ifne dX7_need_13 (tgt := 18) (by decide) (fun c4 => ?_) (fun c4 => ?_)
    · refine r_iconst dX7_need_16 ci_m1 ?_
      exact r_iret dX7_need_17 rfl rfl
    · refine r_iload_n dX7_need_18 rfl ?_
      refine r_bipush dX7_need_19 cb_30 ?_
      refine u_X7_isUpTo (ok_X7_isUpTo g s0 x2 30) dX7_need_21 ml_X7_74 (Nat.le_of_ble_eq_true rfl) (fits_m (by decide) (by decide)) room_m (fun q5 => ?_)
      refine r_ifne dX7_need_24 (tgt := 30) (by decide) (fun c6 => ?_) (fun c6 => ?_)
      · refine r_bipush dX7_need_27 cb_m2 ?_
        exact r_iret dX7_need_29 rfl rfl
      · refine r_iload_n dX7_need_30 rfl ?_
        refine r_ifne dX7_need_31 (tgt := 43) (by decide) (fun c7 => ?_) (fun c7 => ?_)
        · refine r_aload_n dX7_need_34 rfl ?_
          refine r_iload_n dX7_need_35 rfl ?_
          refine r_iload_n dX7_need_36 rfl ?_
          refine u_X7_less (ok_X7_less g s0 x1 x2) dX7_need_37 ml_X7_173 (Nat.le_of_ble_eq_true rfl) (fits_m (by decide) (by decide)) room_m (fun q9 => ?_)
          refine r_goto dX7_need_40 (tgt := 49) (by decide) ?_
          exact r_iret dX7_need_49 rfl rfl
        · refine r_aload_n dX7_need_43 rfl ?_
          refine r_iload_n dX7_need_44 rfl ?_
          refine r_iload_n dX7_need_45 rfl ?_
          refine u_X7_moreToKeep (ok_X7_moreToKeep g s0 x1 x2) dX7_need_46 ml_X7_176 (Nat.le_of_ble_eq_true rfl) (fits_m (by decide) (by decide)) room_m (fun q8 => ?_)
          exact r_iret dX7_need_49 rfl rfl
theorem ok_X7_need (g : Gm) (s0 : Sto) (x1 : Int32) (x2 : Int32) (x3 : Int32) : Ok g yX7_need kX7_need 6 [.ref ((Em g 6).1.1 7 0 0), .int x1, .int x2, .int x3] s0 cvIw (f_X7_need s0 x1 x2 x3) := Ok.of (by decide) rfl (Nat.le_of_ble_eq_true rfl) (lv := [some (.ref ((Em g 6).1.1 7 0 0)), some (.int x1), some (.int x2), some (.int x3)]) rfl (s_X7_need g s0 x1 x2 x3)
theorem u_X7_need {α : Type} {cv : α → Res} {E : EE} {K : KK} {pc npc idx d : Nat} {lv : List (Option Value)} {st : List Value} {σ : Sto} {oc : Option (Int32 × Sto)} {kf : (Int32 × Sto) → Option α} {x1 : Int32} {x2 : Int32} {x3 : Int32} (hOk : Ok E.1 yX7_need kX7_need d [.ref (E.1.1 7 0 0), .int x1, .int x2, .int x3] σ cvIw oc) (hd : Dc K pc (.invokevirtual idx) 3 npc) (hlk : Cond.methodLink K.2.1 idx yX7_need ∈ lw_good) (hw : (st.map fun v => v.category).sum ≤ 8) (hfit : fits_ E d 4) (hrm : room_ok E) (kk : ∀ q : Int32 × Sto, Rf cv E K npc lv (.int q.1 :: st) q.2 (kf q)) : Rf cv E K pc lv (.int x3 :: .int x2 :: .int x1 :: .ref (E.1.1 7 0 0) :: st) σ (oc.bind kf) := c_V (n := 3) (as := [.int x1, .int x2, .int x3]) (c0 := 7) (i := 0) (CC := "ThawGives") (T := TX7) (N := 11) hd hOk hlk wi_X7_need wv_X7_need wn_X7 wc_X7_need rfl (by decide) (by decide) ⟨by decide, by decide, by decide⟩ rfl rfl hw hfit hrm (fun b _ => kk b)
def f_X2_add (s0 : Sto) (i0 : Nat) (x1 : Int32) (x2 : Int32) (x3 : Int32) : Option (Int32 × Sto) :=
  (if (s0.1 2 4 i0) < (s0.1 2 0 i0) then
    (if 0 ≤ (s0.1 2 4 i0) ∧ (s0.1 2 4 i0) < 10 then nm (sA s0 2 1 i0 (upd (s0.2.1 2 1 i0) (Int32.toNatClampNeg (s0.1 2 4 i0)) x1)) fun s4 => (if 0 ≤ (s4.1 2 4 i0) ∧ (s4.1 2 4 i0) < 10 then nm (sA s4 2 2 i0 (upd (s4.2.1 2 2 i0) (Int32.toNatClampNeg (s4.1 2 4 i0)) x2)) fun s7 => (if 0 ≤ (s7.1 2 4 i0) ∧ (s7.1 2 4 i0) < 10 then nm (sA s7 2 3 i0 (upd (s7.2.1 2 3 i0) (Int32.toNatClampNeg (s7.1 2 4 i0)) x3)) fun s10 => nm (sF s10 2 4 i0 ((s10.1 2 4 i0) + 1)) fun s11 => some ((s11.1 2 4 i0), s11) else none) else none) else none)
  else
    some ((-4 : Int32), s0))
set_option maxRecDepth 100000 in
theorem s_X2_add (g : Gm) (s0 : Sto) (i0 : Nat) (x1 : Int32) (x2 : Int32) (x3 : Int32) (hi0 : i0 < 6) : Rf cvIw (Em g 0) kX2_add 0 [some (.ref ((Em g 0).1.1 2 0 i0)), some (.int x1), some (.int x2), some (.int x3)] [] s0 (f_X2_add s0 i0 x1 x2 x3) := by
  unfold f_X2_add
  refine r_aload_n dX2_add_0 rfl ?_
  refine gf_X2_21 rfl dX2_add_1 hi0 ?_
  refine r_aload_n dX2_add_4 rfl ?_
  refine gf_X2_31 rfl dX2_add_5 hi0 ?_
  refine r_iclt dX2_add_8 (tgt := 14) (by decide) (fun c1 => ?_) (fun c1 => ?_)
  · refine r_aload_n dX2_add_14 rfl ?_
    refine gf_X2_11 rfl dX2_add_15 hi0 ?_
    refine r_aload_n dX2_add_18 rfl ?_
    refine gf_X2_21 rfl dX2_add_19 hi0 ?_
    refine r_iload_n dX2_add_22 rfl ?_
    refine as_2_1 dX2_add_23 hi0 (fun hg2 hj3 s4 => ?_)
    refine r_aload_n dX2_add_24 rfl ?_
    refine gf_X2_15 rfl dX2_add_25 hi0 ?_
    refine r_aload_n dX2_add_28 rfl ?_
    refine gf_X2_21 rfl dX2_add_29 hi0 ?_
    refine r_iload_n dX2_add_32 rfl ?_
    refine as_2_2 dX2_add_33 hi0 (fun hg5 hj6 s7 => ?_)
    refine r_aload_n dX2_add_34 rfl ?_
    refine gf_X2_18 rfl dX2_add_35 hi0 ?_
    refine r_aload_n dX2_add_38 rfl ?_
    refine gf_X2_21 rfl dX2_add_39 hi0 ?_
    refine r_iload_n dX2_add_42 rfl ?_
    refine as_2_3 dX2_add_43 hi0 (fun hg8 hj9 s10 => ?_)
    refine r_aload_n dX2_add_44 rfl ?_
    refine r_dup dX2_add_45 rfl ?_
    refine gf_X2_21 rfl dX2_add_46 hi0 ?_
    refine r_iconst dX2_add_49 ci_1 ?_
    refine r_iadd dX2_add_50 ?_
    refine pf_X2_21 rfl dX2_add_51 hi0 (fun s11 => ?_)
    refine r_aload_n dX2_add_54 rfl ?_
    refine gf_X2_21 rfl dX2_add_55 hi0 ?_
    exact r_iret dX2_add_58 rfl rfl
  · refine r_bipush dX2_add_11 cb_m4 ?_
    exact r_iret dX2_add_13 rfl rfl
theorem ok_X2_add (g : Gm) (s0 : Sto) (i0 : Nat) (x1 : Int32) (x2 : Int32) (x3 : Int32) (hi0 : i0 < 6) : Ok g yX2_add kX2_add 0 [.ref ((Em g 0).1.1 2 0 i0), .int x1, .int x2, .int x3] s0 cvIw (f_X2_add s0 i0 x1 x2 x3) := Ok.of (by decide) rfl (Nat.le_of_ble_eq_true rfl) (lv := [some (.ref ((Em g 0).1.1 2 0 i0)), some (.int x1), some (.int x2), some (.int x3)]) rfl (s_X2_add g s0 i0 x1 x2 x3 hi0)
theorem u_X2_add {α : Type} {cv : α → Res} {E : EE} {K : KK} {pc npc idx d : Nat} {lv : List (Option Value)} {st : List Value} {σ : Sto} {oc : Option (Int32 × Sto)} {kf : (Int32 × Sto) → Option α} {i0 : Nat} {x1 : Int32} {x2 : Int32} {x3 : Int32} (hOk : Ok E.1 yX2_add kX2_add d [.ref (E.1.1 2 0 i0), .int x1, .int x2, .int x3] σ cvIw oc) (hd : Dc K pc (.invokevirtual idx) 3 npc) (hlk : Cond.methodLink K.2.1 idx yX2_add ∈ lw_good) (hi : i0 < 6) (hw : (st.map fun v => v.category).sum ≤ 8) (hfit : fits_ E d 4) (hrm : room_ok E) (kk : ∀ q : Int32 × Sto, Rf cv E K npc lv (.int q.1 :: st) q.2 (kf q)) : Rf cv E K pc lv (.int x3 :: .int x2 :: .int x1 :: .ref (E.1.1 2 0 i0) :: st) σ (oc.bind kf) := c_V (n := 3) (as := [.int x1, .int x2, .int x3]) (c0 := 2) (i := i0) (CC := "ThawGives$Rows") (T := TX2) (N := 5) hd hOk hlk wi_X2_add wv_X2_add wn_X2 wc_X2_add rfl (by decide) hi ⟨by decide, by decide, by decide⟩ rfl rfl hw hfit hrm (fun b _ => kk b)
theorem un_X2_add {α : Type} {cv : α → Res} {E : EE} {K : KK} {pc npc idx d : Nat} {lv : List (Option Value)} {st : List Value} {σ : Sto} {oc : Option (Int32 × Sto)} {kf : (Int32 × Sto) → Option α} {i0 : Nat} {x1 : Int32} {x2 : Int32} {x3 : Int32} (hOk : Ok E.1 yX2_add kX2_add d [.ref (E.1.1 2 0 i0), .int x1, .int x2, .int x3] σ cvIw oc) (hd : Dc K pc (.invokevirtual idx) 3 npc) (hlk : Cond.methodLinkNest K.2.1 idx yX2_add "ThawGives" ∈ lw_nest) (hi : i0 < 6) (hw : (st.map fun v => v.category).sum ≤ 8) (hfit : fits_ E d 4) (hrm : room_ok E) (kk : ∀ q : Int32 × Sto, Rf cv E K npc lv (.int q.1 :: st) q.2 (kf q)) : Rf cv E K pc lv (.int x3 :: .int x2 :: .int x1 :: .ref (E.1.1 2 0 i0) :: st) σ (oc.bind kf) := c_N (n := 3) (as := [.int x1, .int x2, .int x3]) (c0 := 2) (i := i0) (CC := "ThawGives$Rows") (T := TX2) (N := 5) hd hOk hlk wi_X2_add wv_X2_add wn_X2 wc_X2_add rfl (by decide) hi ⟨by decide, by decide, by decide⟩ rfl rfl hw hfit hrm (fun b _ => kk b)
def f_X7_see_L58 (s0 : Sto) (j0 : Nat) (y1 : Int32) (y2 : Int32) (y3 : Int32) : Option (Int32 × Sto) :=
  (f_X2_add s0 j0 y1 y2 y3).bind fun q7 => some (q7.1, q7.2)
def f_X7_see (s0 : Sto) (x1 : Int32) (x2 : Int32) (x3 : Int32) : Option (Int32 × Sto) :=
  (if x1 = (-1 : Int32) then
    nm (sF s0 2 4 (3 * 0) 0) fun s8 => some (0, s8)
  else
    (f_X7_isThing s0 x1).bind fun q2 => (if q2 = 0 then
      some ((-1 : Int32), s0)
    else
      (f_X7_isUpTo x2 20).bind fun q4 => (if q4 = 0 then
        some ((-2 : Int32), s0)
      else
        (if x3 = 0 then
          f_X7_see_L58 s0 (3 * 0) x1 x2 0
        else
          f_X7_see_L58 s0 (3 * 0) x1 x2 1))))
set_option maxRecDepth 100000 in
theorem s_X7_see_L58 (g : Gm) (s0 : Sto) (j0 : Nat) (y1 : Int32) (y2 : Int32) (y3 : Int32) (hj0 : j0 < 6) : Rf cvIw (Em g 1) kX7_see 58 [none, none, none, none] [.int y3, .int y2, .int y1, .ref ((Em g 1).1.1 2 0 j0)] s0 (f_X7_see_L58 s0 j0 y1 y2 y3) := by
  unfold f_X7_see_L58
  refine un_X2_add (ok_X2_add g s0 j0 y1 y2 y3 hj0) dX7_see_58 mn_X7_188 hj0 (Nat.le_of_ble_eq_true rfl) (fits_m (by decide) (by decide)) room_m (fun q7 => ?_)
  exact r_iret dX7_see_61 rfl rfl
set_option maxRecDepth 100000 in
theorem s_X7_see (g : Gm) (s0 : Sto) (x1 : Int32) (x2 : Int32) (x3 : Int32) : Rf cvIw (Em g 1) kX7_see 0 [some (.ref ((Em g 1).1.1 7 0 0)), some (.int x1), some (.int x2), some (.int x3)] [] s0 (f_X7_see s0 x1 x2 x3) := by
  unfold f_X7_see
  refine r_iload_n dX7_see_0 rfl ?_
  refine r_iconst dX7_see_1 ci_m1 ?_
  refine r_icne dX7_see_2 (tgt := 18) (by decide) (fun c1 => ?_) (fun c1 => ?_)
  · refine r_aload_n dX7_see_5 rfl ?_
    refine gf_X7_14 rfl dX7_see_6 ?_
    refine gf_X7_179 rfl dX7_see_9 (by decide) ?_
    refine r_iconst dX7_see_12 ci_0 ?_
    refine pf_X7_183 rfl dX7_see_13 (by omega) (fun s8 => ?_)
    refine r_iconst dX7_see_16 ci_0 ?_
    exact r_iret dX7_see_17 rfl rfl
  · refine r_aload_n dX7_see_18 rfl ?_
    refine r_iload_n dX7_see_19 rfl ?_
    refine u_X7_isThing (ok_X7_isThing g s0 x1) dX7_see_20 ml_X7_89 (Nat.le_of_ble_eq_true rfl) (fits_m (by decide) (by decide)) room_m (fun q2 => ?_)
    refine r_ifne dX7_see_23 (tgt := 28) (by decide) (fun c3 => ?_) (fun c3 => ?_)
    · refine r_iconst dX7_see_26 ci_m1 ?_
      exact r_iret dX7_see_27 rfl rfl
    · refine r_iload_n dX7_see_28 rfl ?_
      refine r_bipush dX7_see_29 cb_20 ?_
      refine u_X7_isUpTo (ok_X7_isUpTo g s0 x2 20) dX7_see_31 ml_X7_74 (Nat.le_of_ble_eq_true rfl) (fits_m (by decide) (by decide)) room_m (fun q4 => ?_)
      refine r_ifne dX7_see_34 (tgt := 40) (by decide) (fun c5 => ?_) (fun c5 => ?_)
      · refine r_bipush dX7_see_37 cb_m2 ?_
        exact r_iret dX7_see_39 rfl rfl
      · refine r_aload_n dX7_see_40 rfl ?_
        refine gf_X7_14 rfl dX7_see_41 ?_
        refine gf_X7_179 rfl dX7_see_44 (by decide) ?_
        refine r_iload_n dX7_see_47 rfl ?_
        refine r_iload_n dX7_see_48 rfl ?_
        refine r_iload_n dX7_see_49 rfl ?_
        refine r_ifeq dX7_see_50 (tgt := 57) (by decide) (fun c6 => ?_) (fun c6 => ?_)
        · refine r_iconst dX7_see_57 ci_0 ?_
          exact r_mask [false, false, false, false] (s_X7_see_L58 g s0 (3 * 0) x1 x2 0 (by omega))
        · refine r_iconst dX7_see_53 ci_1 ?_
          refine r_goto dX7_see_54 (tgt := 58) (by decide) ?_
          exact r_mask [false, false, false, false] (s_X7_see_L58 g s0 (3 * 0) x1 x2 1 (by omega))
theorem ok_X7_see (g : Gm) (s0 : Sto) (x1 : Int32) (x2 : Int32) (x3 : Int32) : Ok g yX7_see kX7_see 1 [.ref ((Em g 1).1.1 7 0 0), .int x1, .int x2, .int x3] s0 cvIw (f_X7_see s0 x1 x2 x3) := Ok.of (by decide) rfl (Nat.le_of_ble_eq_true rfl) (lv := [some (.ref ((Em g 1).1.1 7 0 0)), some (.int x1), some (.int x2), some (.int x3)]) rfl (s_X7_see g s0 x1 x2 x3)
theorem u_X7_see {α : Type} {cv : α → Res} {E : EE} {K : KK} {pc npc idx d : Nat} {lv : List (Option Value)} {st : List Value} {σ : Sto} {oc : Option (Int32 × Sto)} {kf : (Int32 × Sto) → Option α} {x1 : Int32} {x2 : Int32} {x3 : Int32} (hOk : Ok E.1 yX7_see kX7_see d [.ref (E.1.1 7 0 0), .int x1, .int x2, .int x3] σ cvIw oc) (hd : Dc K pc (.invokevirtual idx) 3 npc) (hlk : Cond.methodLink K.2.1 idx yX7_see ∈ lw_good) (hw : (st.map fun v => v.category).sum ≤ 8) (hfit : fits_ E d 4) (hrm : room_ok E) (kk : ∀ q : Int32 × Sto, Rf cv E K npc lv (.int q.1 :: st) q.2 (kf q)) : Rf cv E K pc lv (.int x3 :: .int x2 :: .int x1 :: .ref (E.1.1 7 0 0) :: st) σ (oc.bind kf) := c_V (n := 3) (as := [.int x1, .int x2, .int x3]) (c0 := 7) (i := 0) (CC := "ThawGives") (T := TX7) (N := 11) hd hOk hlk wi_X7_see wv_X7_see wn_X7 wc_X7_see rfl (by decide) (by decide) ⟨by decide, by decide, by decide⟩ rfl rfl hw hfit hrm (fun b _ => kk b)
def f_X7_isAllSeenSo_L39 (k12 : Sto → Int32 → Int32 → Int32 → Nat → Int32 → Option (Int32 × Sto)) (s0 : Sto) (x1 : Int32) (x2 : Int32) (x3 : Int32) (i4 : Nat) (x5 : Int32) (y0 : Int32) : Option (Int32 × Sto) :=
  (if 0 ≤ x5 ∧ x5 < 10 then (if (s0.2.1 2 1 i4 (Int32.toNatClampNeg x5)) = x1 then
    (if 0 ≤ x5 ∧ x5 < 10 then (f_X7_isOutWith s0 x1 x2 x3 (s0.2.1 2 2 i4 (Int32.toNatClampNeg x5))).bind fun q11 => (if q11.1 = y0 then
      nmI (x5 + 1) fun v13 => k12 q11.2 x1 x2 x3 i4 v13
    else
      some (0, q11.2)) else none)
  else
    nmI (x5 + 1) fun v8 => k12 s0 x1 x2 x3 i4 v8) else none)
def f_X7_isAllSeenSo_B12 (k12 : Sto → Int32 → Int32 → Int32 → Nat → Int32 → Option (Int32 × Sto)) (s0 : Sto) (x1 : Int32) (x2 : Int32) (x3 : Int32) (i4 : Nat) (x5 : Int32) : Option (Int32 × Sto) :=
  (if (s0.1 2 4 i4) ≤ x5 then
    some (1, s0)
  else
    (if 0 ≤ x5 ∧ x5 < 10 then (if (s0.2.1 2 3 i4 (Int32.toNatClampNeg x5)) = 1 then
      f_X7_isAllSeenSo_L39 k12 s0 x1 x2 x3 i4 x5 1
    else
      f_X7_isAllSeenSo_L39 k12 s0 x1 x2 x3 i4 x5 0) else none))
def f_X7_isAllSeenSo_L12 : Nat → Sto → Int32 → Int32 → Int32 → Nat → Int32 → Option (Int32 × Sto)
  | 0 => fun _ _ _ _ _ _ => none
  | n + 1 => f_X7_isAllSeenSo_B12 (f_X7_isAllSeenSo_L12 n)
def f_X7_isAllSeenSo (s0 : Sto) (x1 : Int32) (x2 : Int32) (x3 : Int32) : Option (Int32 × Sto) :=
  f_X7_isAllSeenSo_L12 1000 s0 x1 x2 x3 (3 * 0) 0
set_option maxRecDepth 100000 in
theorem s_X7_isAllSeenSo_L39 (g : Gm) (k12 : Sto → Int32 → Int32 → Int32 → Nat → Int32 → Option (Int32 × Sto)) (hk12 : ∀ (s0 : Sto) (x1 : Int32) (x2 : Int32) (x3 : Int32) (i4 : Nat) (x5 : Int32) (hi4 : i4 < 6), Rf cvIw (Em g 5) kX7_isAllSeenSo 12 [some (.ref ((Em g 5).1.1 7 0 0)), some (.int x1), some (.int x2), some (.int x3), some (.ref ((Em g 5).1.1 2 0 i4)), some (.int x5), none] [] s0 (k12 s0 x1 x2 x3 i4 x5)) (s0 : Sto) (x1 : Int32) (x2 : Int32) (x3 : Int32) (i4 : Nat) (x5 : Int32) (y0 : Int32) (hi4 : i4 < 6) : Rf cvIw (Em g 5) kX7_isAllSeenSo 39 [some (.ref ((Em g 5).1.1 7 0 0)), some (.int x1), some (.int x2), some (.int x3), some (.ref ((Em g 5).1.1 2 0 i4)), some (.int x5), none] [.int y0] s0 (f_X7_isAllSeenSo_L39 k12 s0 x1 x2 x3 i4 x5 y0) := by
  unfold f_X7_isAllSeenSo_L39
  refine r_istore dX7_isAllSeenSo_39 rfl (lt_b rfl) (lt_b rfl) ?_
  refine r_aload dX7_isAllSeenSo_41 rfl ?_
  refine gf_X7_209 rfl dX7_isAllSeenSo_43 hi4 ?_
  refine r_iload dX7_isAllSeenSo_46 rfl ?_
  refine al_2_1 dX7_isAllSeenSo_48 hi4 (fun hg5 hj6 => ?_)
  refine r_iload_n dX7_isAllSeenSo_49 rfl ?_
  refine r_icne dX7_isAllSeenSo_50 (tgt := 75) (by decide) (fun c7 => ?_) (fun c7 => ?_)
  · refine r_aload_n dX7_isAllSeenSo_53 rfl ?_
    refine r_iload_n dX7_isAllSeenSo_54 rfl ?_
    refine r_iload_n dX7_isAllSeenSo_55 rfl ?_
    refine r_iload_n dX7_isAllSeenSo_56 rfl ?_
    refine r_aload dX7_isAllSeenSo_57 rfl ?_
    refine gf_X7_212 rfl dX7_isAllSeenSo_59 hi4 ?_
    refine r_iload dX7_isAllSeenSo_62 rfl ?_
    refine al_2_2 dX7_isAllSeenSo_64 hi4 (fun hg9 hj10 => ?_)
    refine u_X7_isOutWith (ok_X7_isOutWith g s0 x1 x2 x3 (s0.2.1 2 2 i4 (Int32.toNatClampNeg x5))) dX7_isAllSeenSo_65 ml_X7_279 (Nat.le_of_ble_eq_true rfl) (fits_m (by decide) (by decide)) room_m (fun q11 => ?_)
    refine r_iload dX7_isAllSeenSo_68 rfl ?_
    refine r_iceq dX7_isAllSeenSo_70 (tgt := 75) (by decide) (fun c12 => ?_) (fun c12 => ?_)
    · refine r_iincN dX7_isAllSeenSo_75 rfl ci_1 rfl (lt_b rfl) (fun v13 => ?_)
      refine r_goto dX7_isAllSeenSo_78 (tgt := 12) (by decide) ?_
      exact r_mask [true, true, true, true, true, true, false] (hk12 q11.2 x1 x2 x3 i4 v13 hi4)
    · refine r_iconst dX7_isAllSeenSo_73 ci_0 ?_
      exact r_zret dX7_isAllSeenSo_74 rfl rfl rfl
  · refine r_iincN dX7_isAllSeenSo_75 rfl ci_1 rfl (lt_b rfl) (fun v8 => ?_)
    refine r_goto dX7_isAllSeenSo_78 (tgt := 12) (by decide) ?_
    exact r_mask [true, true, true, true, true, true, false] (hk12 s0 x1 x2 x3 i4 v8 hi4)
set_option maxRecDepth 100000 in
theorem s_X7_isAllSeenSo_B12 (g : Gm) (k12 : Sto → Int32 → Int32 → Int32 → Nat → Int32 → Option (Int32 × Sto)) (hk12 : ∀ (s0 : Sto) (x1 : Int32) (x2 : Int32) (x3 : Int32) (i4 : Nat) (x5 : Int32) (hi4 : i4 < 6), Rf cvIw (Em g 5) kX7_isAllSeenSo 12 [some (.ref ((Em g 5).1.1 7 0 0)), some (.int x1), some (.int x2), some (.int x3), some (.ref ((Em g 5).1.1 2 0 i4)), some (.int x5), none] [] s0 (k12 s0 x1 x2 x3 i4 x5)) (s0 : Sto) (x1 : Int32) (x2 : Int32) (x3 : Int32) (i4 : Nat) (x5 : Int32) (hi4 : i4 < 6) : Rf cvIw (Em g 5) kX7_isAllSeenSo 12 [some (.ref ((Em g 5).1.1 7 0 0)), some (.int x1), some (.int x2), some (.int x3), some (.ref ((Em g 5).1.1 2 0 i4)), some (.int x5), none] [] s0 (f_X7_isAllSeenSo_B12 k12 s0 x1 x2 x3 i4 x5) := by
  unfold f_X7_isAllSeenSo_B12
  refine r_iload dX7_isAllSeenSo_12 rfl ?_
  refine r_aload dX7_isAllSeenSo_14 rfl ?_
  refine gf_X7_183 rfl dX7_isAllSeenSo_16 hi4 ?_
  refine r_icge dX7_isAllSeenSo_19 (tgt := 81) (by decide) (fun c1 => ?_) (fun c1 => ?_)
  · refine r_iconst dX7_isAllSeenSo_81 ci_1 ?_
    exact r_zret dX7_isAllSeenSo_82 rfl rfl rfl
  · refine r_aload dX7_isAllSeenSo_22 rfl ?_
    refine gf_X7_291 rfl dX7_isAllSeenSo_24 hi4 ?_
    refine r_iload dX7_isAllSeenSo_27 rfl ?_
    refine al_2_3 dX7_isAllSeenSo_29 hi4 (fun hg2 hj3 => ?_)
    refine r_iconst dX7_isAllSeenSo_30 ci_1 ?_
    refine r_icne dX7_isAllSeenSo_31 (tgt := 38) (by decide) (fun c4 => ?_) (fun c4 => ?_)
    · refine r_iconst dX7_isAllSeenSo_34 ci_1 ?_
      refine r_goto dX7_isAllSeenSo_35 (tgt := 39) (by decide) ?_
      exact r_mask [true, true, true, true, true, true, false] (s_X7_isAllSeenSo_L39 g k12 hk12 s0 x1 x2 x3 i4 x5 1 hi4)
    · refine r_iconst dX7_isAllSeenSo_38 ci_0 ?_
      exact r_mask [true, true, true, true, true, true, false] (s_X7_isAllSeenSo_L39 g k12 hk12 s0 x1 x2 x3 i4 x5 0 hi4)
theorem s_X7_isAllSeenSo_L12 (g : Gm) : ∀ (n : Nat) (s0 : Sto) (x1 : Int32) (x2 : Int32) (x3 : Int32) (i4 : Nat) (x5 : Int32) (hi4 : i4 < 6), Rf cvIw (Em g 5) kX7_isAllSeenSo 12 [some (.ref ((Em g 5).1.1 7 0 0)), some (.int x1), some (.int x2), some (.int x3), some (.ref ((Em g 5).1.1 2 0 i4)), some (.int x5), none] [] s0 (f_X7_isAllSeenSo_L12 n s0 x1 x2 x3 i4 x5)
  | 0, _, _, _, _, _, _, _ => r_none
  | n + 1, s0, x1, x2, x3, i4, x5, hi4 => s_X7_isAllSeenSo_B12 g (f_X7_isAllSeenSo_L12 n) (s_X7_isAllSeenSo_L12 g n) s0 x1 x2 x3 i4 x5 hi4
set_option maxRecDepth 100000 in
theorem s_X7_isAllSeenSo (g : Gm) (s0 : Sto) (x1 : Int32) (x2 : Int32) (x3 : Int32) : Rf cvIw (Em g 5) kX7_isAllSeenSo 0 [some (.ref ((Em g 5).1.1 7 0 0)), some (.int x1), some (.int x2), some (.int x3), none, none, none] [] s0 (f_X7_isAllSeenSo s0 x1 x2 x3) := by
  unfold f_X7_isAllSeenSo
  refine r_aload_n dX7_isAllSeenSo_0 rfl ?_
  refine gf_X7_14 rfl dX7_isAllSeenSo_1 ?_
  refine gf_X7_179 rfl dX7_isAllSeenSo_4 (by decide) ?_
  refine r_astore dX7_isAllSeenSo_7 rfl (lt_b rfl) (lt_b rfl) ?_
  refine r_iconst dX7_isAllSeenSo_9 ci_0 ?_
  refine r_istore dX7_isAllSeenSo_10 rfl (lt_b rfl) (lt_b rfl) ?_
  exact r_mask [true, true, true, true, true, true, false] (s_X7_isAllSeenSo_L12 g 1000 s0 x1 x2 x3 (3 * 0) 0 (by omega))
theorem ok_X7_isAllSeenSo (g : Gm) (s0 : Sto) (x1 : Int32) (x2 : Int32) (x3 : Int32) : Ok g yX7_isAllSeenSo kX7_isAllSeenSo 5 [.ref ((Em g 5).1.1 7 0 0), .int x1, .int x2, .int x3] s0 cvIw (f_X7_isAllSeenSo s0 x1 x2 x3) := Ok.of (by decide) rfl (Nat.le_of_ble_eq_true rfl) (lv := [some (.ref ((Em g 5).1.1 7 0 0)), some (.int x1), some (.int x2), some (.int x3), none, none, none]) rfl (s_X7_isAllSeenSo g s0 x1 x2 x3)
theorem u_X7_isAllSeenSo {α : Type} {cv : α → Res} {E : EE} {K : KK} {pc npc idx d : Nat} {lv : List (Option Value)} {st : List Value} {σ : Sto} {oc : Option (Int32 × Sto)} {kf : (Int32 × Sto) → Option α} {x1 : Int32} {x2 : Int32} {x3 : Int32} (hOk : Ok E.1 yX7_isAllSeenSo kX7_isAllSeenSo d [.ref (E.1.1 7 0 0), .int x1, .int x2, .int x3] σ cvIw oc) (hd : Dc K pc (.invokevirtual idx) 3 npc) (hlk : Cond.methodLink K.2.1 idx yX7_isAllSeenSo ∈ lw_good) (hw : (st.map fun v => v.category).sum ≤ 8) (hfit : fits_ E d 7) (hrm : room_ok E) (kk : ∀ q : Int32 × Sto, Rf cv E K npc lv (.int q.1 :: st) q.2 (kf q)) : Rf cv E K pc lv (.int x3 :: .int x2 :: .int x1 :: .ref (E.1.1 7 0 0) :: st) σ (oc.bind kf) := c_V (n := 3) (as := [.int x1, .int x2, .int x3]) (c0 := 7) (i := 0) (CC := "ThawGives") (T := TX7) (N := 11) hd hOk hlk wi_X7_isAllSeenSo wv_X7_isAllSeenSo wn_X7 wc_X7_isAllSeenSo rfl (by decide) (by decide) ⟨by decide, by decide, by decide⟩ rfl rfl hw hfit hrm (fun b _ => kk b)
def f_X7_can_B51 (k51 : Sto → Int32 → Int32 → Int32 → Int32 → Int32 → Int32 → Option (Int32 × Sto)) (s0 : Sto) (x1 : Int32) (x2 : Int32) (x3 : Int32) (x5 : Int32) (x6 : Int32) (x7 : Int32) : Option (Int32 × Sto) :=
  (if x7 < 0 then
    (if x3 = 0 then
      some (x6, s0)
    else
      some (x5, s0))
  else
    (f_X7_isAllSeenSo s0 x1 x2 x7).bind fun q10 => (if q10.1 = 0 then
      nmI (x7 + (-1 : Int32)) fun v12 => k51 q10.2 x1 x2 x3 x5 x6 v12
    else
      nmI (x6 + 1) fun v13 => nmI (x7 + (-1 : Int32)) fun v14 => k51 q10.2 x1 x2 x3 x7 v13 v14))
def f_X7_can_L51 : Nat → Sto → Int32 → Int32 → Int32 → Int32 → Int32 → Int32 → Option (Int32 × Sto)
  | 0 => fun _ _ _ _ _ _ _ => none
  | n + 1 => f_X7_can_B51 (f_X7_can_L51 n)
def f_X7_can (s0 : Sto) (x1 : Int32) (x2 : Int32) (x3 : Int32) : Option (Int32 × Sto) :=
  (f_X7_isThing s0 x1).bind fun q1 => (if q1 = 0 then
    some ((-1 : Int32), s0)
  else
    (f_X7_isUpTo x2 2).bind fun q3 => (if q3 = 0 then
      some ((-1 : Int32), s0)
    else
      (f_X7_isUpTo x3 1).bind fun q5 => (if q5 = 0 then
        some ((-1 : Int32), s0)
      else
        (if x2 = 2 then
          f_X7_can_L51 1000 s0 x1 x2 x3 (-5 : Int32) 0 9
        else
          f_X7_can_L51 1000 s0 x1 x2 x3 (-5 : Int32) 0 99))))
set_option maxRecDepth 100000 in
theorem s_X7_can_B51 (g : Gm) (k51 : Sto → Int32 → Int32 → Int32 → Int32 → Int32 → Int32 → Option (Int32 × Sto)) (hk51 : ∀ (s0 : Sto) (x1 : Int32) (x2 : Int32) (x3 : Int32) (x5 : Int32) (x6 : Int32) (x7 : Int32), Rf cvIw (Em g 6) kX7_can 51 [some (.ref ((Em g 6).1.1 7 0 0)), some (.int x1), some (.int x2), some (.int x3), none, some (.int x5), some (.int x6), some (.int x7)] [] s0 (k51 s0 x1 x2 x3 x5 x6 x7)) (s0 : Sto) (x1 : Int32) (x2 : Int32) (x3 : Int32) (x5 : Int32) (x6 : Int32) (x7 : Int32) : Rf cvIw (Em g 6) kX7_can 51 [some (.ref ((Em g 6).1.1 7 0 0)), some (.int x1), some (.int x2), some (.int x3), none, some (.int x5), some (.int x6), some (.int x7)] [] s0 (f_X7_can_B51 k51 s0 x1 x2 x3 x5 x6 x7) := by
  unfold f_X7_can_B51
  refine r_iload dX7_can_51 rfl ?_
  refine r_iflt dX7_can_53 (tgt := 80) (by decide) (fun c8 => ?_) (fun c8 => ?_)
  · refine r_iload_n dX7_can_80 rfl ?_
    refine r_ifne dX7_can_81 (tgt := 89) (by decide) (fun c9 => ?_) (fun c9 => ?_)
    · refine r_iload dX7_can_84 rfl ?_
      refine r_goto dX7_can_86 (tgt := 91) (by decide) ?_
      exact r_iret dX7_can_91 rfl rfl
    · refine r_iload dX7_can_89 rfl ?_
      exact r_iret dX7_can_91 rfl rfl
  · refine r_aload_n dX7_can_56 rfl ?_
    refine r_iload_n dX7_can_57 rfl ?_
    refine r_iload_n dX7_can_58 rfl ?_
    refine r_iload dX7_can_59 rfl ?_
    refine u_X7_isAllSeenSo (ok_X7_isAllSeenSo g s0 x1 x2 x7) dX7_can_61 ml_X7_191 (Nat.le_of_ble_eq_true rfl) (fits_m (by decide) (by decide)) room_m (fun q10 => ?_)
    refine r_ifeq dX7_can_64 (tgt := 74) (by decide) (fun c11 => ?_) (fun c11 => ?_)
    · refine r_iincN dX7_can_74 rfl ci_m1 rfl (lt_b rfl) (fun v12 => ?_)
      refine r_goto dX7_can_77 (tgt := 51) (by decide) ?_
      exact r_mask [true, true, true, true, false, true, true, true] (hk51 q10.2 x1 x2 x3 x5 x6 v12)
    · refine r_iload dX7_can_67 rfl ?_
      refine r_istore dX7_can_69 rfl (lt_b rfl) (lt_b rfl) ?_
      refine r_iincN dX7_can_71 rfl ci_1 rfl (lt_b rfl) (fun v13 => ?_)
      refine r_iincN dX7_can_74 rfl ci_m1 rfl (lt_b rfl) (fun v14 => ?_)
      refine r_goto dX7_can_77 (tgt := 51) (by decide) ?_
      exact r_mask [true, true, true, true, false, true, true, true] (hk51 q10.2 x1 x2 x3 x7 v13 v14)
theorem s_X7_can_L51 (g : Gm) : ∀ (n : Nat) (s0 : Sto) (x1 : Int32) (x2 : Int32) (x3 : Int32) (x5 : Int32) (x6 : Int32) (x7 : Int32), Rf cvIw (Em g 6) kX7_can 51 [some (.ref ((Em g 6).1.1 7 0 0)), some (.int x1), some (.int x2), some (.int x3), none, some (.int x5), some (.int x6), some (.int x7)] [] s0 (f_X7_can_L51 n s0 x1 x2 x3 x5 x6 x7)
  | 0, _, _, _, _, _, _, _ => r_none
  | n + 1, s0, x1, x2, x3, x5, x6, x7 => s_X7_can_B51 g (f_X7_can_L51 n) (s_X7_can_L51 g n) s0 x1 x2 x3 x5 x6 x7
set_option maxRecDepth 100000 in
theorem s_X7_can (g : Gm) (s0 : Sto) (x1 : Int32) (x2 : Int32) (x3 : Int32) : Rf cvIw (Em g 6) kX7_can 0 [some (.ref ((Em g 6).1.1 7 0 0)), some (.int x1), some (.int x2), some (.int x3), none, none, none, none] [] s0 (f_X7_can s0 x1 x2 x3) := by
  unfold f_X7_can
  refine r_aload_n dX7_can_0 rfl ?_
  refine r_iload_n dX7_can_1 rfl ?_
  refine u_X7_isThing (ok_X7_isThing g s0 x1) dX7_can_2 ml_X7_89 (Nat.le_of_ble_eq_true rfl) (fits_m (by decide) (by decide)) room_m (fun q1 => ?_)
  refine r_ifeq dX7_can_5 (tgt := 24) (by decide) (fun c2 => ?_) (fun c2 => ?_)
  · refine r_iconst dX7_can_24 ci_m1 ?_
    exact r_iret dX7_can_25 rfl rfl
  · refine r_iload_n dX7_can_8 rfl ?_
    refine r_iconst dX7_can_9 ci_2 ?_
    refine u_X7_isUpTo (ok_X7_isUpTo g s0 x2 2) dX7_can_10 ml_X7_74 (Nat.le_of_ble_eq_true rfl) (fits_m (by decide) (by decide)) room_m (fun q3 => ?_)
    refine r_ifeq dX7_can_13 (tgt := 24) (by decide) (fun c4 => ?_) (fun c4 => ?_)
    · refine r_iconst dX7_can_24 ci_m1 ?_
      exact r_iret dX7_can_25 rfl rfl
    · refine r_iload_n dX7_can_16 rfl ?_
      refine r_iconst dX7_can_17 ci_1 ?_
      refine u_X7_isUpTo (ok_X7_isUpTo g s0 x3 1) dX7_can_18 ml_X7_74 (Nat.le_of_ble_eq_true rfl) (fits_m (by decide) (by decide)) room_m (fun q5 => ?_)
      refine r_ifne dX7_can_21 (tgt := 26) (by decide) (fun c6 => ?_) (fun c6 => ?_)
      · refine r_iconst dX7_can_24 ci_m1 ?_
        exact r_iret dX7_can_25 rfl rfl
      · refine r_iload_n dX7_can_26 rfl ?_
        refine r_iconst dX7_can_27 ci_2 ?_
        refine r_icne dX7_can_28 (tgt := 36) (by decide) (fun c7 => ?_) (fun c7 => ?_)
        · refine r_bipush dX7_can_31 cb_9 ?_
          refine r_goto dX7_can_33 (tgt := 38) (by decide) ?_
          refine r_istore dX7_can_38 rfl (lt_b rfl) (lt_b rfl) ?_
          refine r_bipush dX7_can_40 cb_m5 ?_
          refine r_istore dX7_can_42 rfl (lt_b rfl) (lt_b rfl) ?_
          refine r_iconst dX7_can_44 ci_0 ?_
          refine r_istore dX7_can_45 rfl (lt_b rfl) (lt_b rfl) ?_
          refine r_iload dX7_can_47 rfl ?_
          refine r_istore dX7_can_49 rfl (lt_b rfl) (lt_b rfl) ?_
          exact r_mask [true, true, true, true, false, true, true, true] (s_X7_can_L51 g 1000 s0 x1 x2 x3 (-5 : Int32) 0 9)
        · refine r_bipush dX7_can_36 cb_99 ?_
          refine r_istore dX7_can_38 rfl (lt_b rfl) (lt_b rfl) ?_
          refine r_bipush dX7_can_40 cb_m5 ?_
          refine r_istore dX7_can_42 rfl (lt_b rfl) (lt_b rfl) ?_
          refine r_iconst dX7_can_44 ci_0 ?_
          refine r_istore dX7_can_45 rfl (lt_b rfl) (lt_b rfl) ?_
          refine r_iload dX7_can_47 rfl ?_
          refine r_istore dX7_can_49 rfl (lt_b rfl) (lt_b rfl) ?_
          exact r_mask [true, true, true, true, false, true, true, true] (s_X7_can_L51 g 1000 s0 x1 x2 x3 (-5 : Int32) 0 99)
theorem ok_X7_can (g : Gm) (s0 : Sto) (x1 : Int32) (x2 : Int32) (x3 : Int32) : Ok g yX7_can kX7_can 6 [.ref ((Em g 6).1.1 7 0 0), .int x1, .int x2, .int x3] s0 cvIw (f_X7_can s0 x1 x2 x3) := Ok.of (by decide) rfl (Nat.le_of_ble_eq_true rfl) (lv := [some (.ref ((Em g 6).1.1 7 0 0)), some (.int x1), some (.int x2), some (.int x3), none, none, none, none]) rfl (s_X7_can g s0 x1 x2 x3)
theorem u_X7_can {α : Type} {cv : α → Res} {E : EE} {K : KK} {pc npc idx d : Nat} {lv : List (Option Value)} {st : List Value} {σ : Sto} {oc : Option (Int32 × Sto)} {kf : (Int32 × Sto) → Option α} {x1 : Int32} {x2 : Int32} {x3 : Int32} (hOk : Ok E.1 yX7_can kX7_can d [.ref (E.1.1 7 0 0), .int x1, .int x2, .int x3] σ cvIw oc) (hd : Dc K pc (.invokevirtual idx) 3 npc) (hlk : Cond.methodLink K.2.1 idx yX7_can ∈ lw_good) (hw : (st.map fun v => v.category).sum ≤ 8) (hfit : fits_ E d 8) (hrm : room_ok E) (kk : ∀ q : Int32 × Sto, Rf cv E K npc lv (.int q.1 :: st) q.2 (kf q)) : Rf cv E K pc lv (.int x3 :: .int x2 :: .int x1 :: .ref (E.1.1 7 0 0) :: st) σ (oc.bind kf) := c_V (n := 3) (as := [.int x1, .int x2, .int x3]) (c0 := 7) (i := 0) (CC := "ThawGives") (T := TX7) (N := 11) hd hOk hlk wi_X7_can wv_X7_can wn_X7 wc_X7_can rfl (by decide) (by decide) ⟨by decide, by decide, by decide⟩ rfl rfl hw hfit hrm (fun b _ => kk b)
def f_X7_partOf_B13 (k13 : Int32 → Int32 → Int32 → Int32 → Option (Int32)) (x0 : Int32) (x1 : Int32) (x3 : Int32) (x4 : Int32) : Option (Int32) :=
  (if x4 ≤ 1 then
    some x3
  else
    (if ¬ x4 = 0 then (if (x0 - x0 / x4 * x4) = 0 then
      (if ¬ x4 = 0 then (if (x1 - x1 / x4 * x4) = 0 then
        (if ¬ x4 = 0 then some (x3 / x4) else none)
      else
        nmI (x4 + (-1 : Int32)) fun v8 => k13 x0 x1 x3 v8) else none)
    else
      nmI (x4 + (-1 : Int32)) fun v5 => k13 x0 x1 x3 v5) else none))
def f_X7_partOf_L13 : Nat → Int32 → Int32 → Int32 → Int32 → Option (Int32)
  | 0 => fun _ _ _ _ => none
  | n + 1 => f_X7_partOf_B13 (f_X7_partOf_L13 n)
def f_X7_partOf (x0 : Int32) (x1 : Int32) (x2 : Int32) : Option (Int32) :=
  (if x2 = 0 then
    f_X7_partOf_L13 1000 x0 x1 x0 x1
  else
    f_X7_partOf_L13 1000 x0 x1 x1 x1)
set_option maxRecDepth 100000 in
theorem s_X7_partOf_B13 (g : Gm) (sz : Sto) (k13 : Int32 → Int32 → Int32 → Int32 → Option (Int32)) (hk13 : ∀ (x0 : Int32) (x1 : Int32) (x3 : Int32) (x4 : Int32), Rf (cvI sz) (Em g 0) kX7_partOf 13 [some (.int x0), some (.int x1), none, some (.int x3), some (.int x4)] [] sz (k13 x0 x1 x3 x4)) (x0 : Int32) (x1 : Int32) (x3 : Int32) (x4 : Int32) : Rf (cvI sz) (Em g 0) kX7_partOf 13 [some (.int x0), some (.int x1), none, some (.int x3), some (.int x4)] [] sz (f_X7_partOf_B13 k13 x0 x1 x3 x4) := by
  unfold f_X7_partOf_B13
  refine r_iload dX7_partOf_13 rfl ?_
  refine r_iconst dX7_partOf_15 ci_1 ?_
  refine r_icle dX7_partOf_16 (tgt := 44) (by decide) (fun c2 => ?_) (fun c2 => ?_)
  · refine r_iload_n dX7_partOf_44 rfl ?_
    exact r_iret dX7_partOf_45 rfl rfl
  · refine r_iload_n dX7_partOf_19 rfl ?_
    refine r_iload dX7_partOf_20 rfl ?_
    refine r_gd (fun hz3 => ?_)
    refine r_irem dX7_partOf_22 hz3 ?_
    refine r_ifne dX7_partOf_23 (tgt := 38) (by decide) (fun c4 => ?_) (fun c4 => ?_)
    · refine r_iload_n dX7_partOf_26 rfl ?_
      refine r_iload dX7_partOf_27 rfl ?_
      refine r_gd (fun hz6 => ?_)
      refine r_irem dX7_partOf_29 hz6 ?_
      refine r_ifne dX7_partOf_30 (tgt := 38) (by decide) (fun c7 => ?_) (fun c7 => ?_)
      · refine r_iload_n dX7_partOf_33 rfl ?_
        refine r_iload dX7_partOf_34 rfl ?_
        refine r_gd (fun hz9 => ?_)
        refine r_idiv dX7_partOf_36 hz9 ?_
        exact r_iret dX7_partOf_37 rfl rfl
      · refine r_iincN dX7_partOf_38 rfl ci_m1 rfl (lt_b rfl) (fun v8 => ?_)
        refine r_goto dX7_partOf_41 (tgt := 13) (by decide) ?_
        exact r_mask [true, true, false, true, true] (hk13 x0 x1 x3 v8)
    · refine r_iincN dX7_partOf_38 rfl ci_m1 rfl (lt_b rfl) (fun v5 => ?_)
      refine r_goto dX7_partOf_41 (tgt := 13) (by decide) ?_
      exact r_mask [true, true, false, true, true] (hk13 x0 x1 x3 v5)
theorem s_X7_partOf_L13 (g : Gm) (sz : Sto) : ∀ (n : Nat) (x0 : Int32) (x1 : Int32) (x3 : Int32) (x4 : Int32), Rf (cvI sz) (Em g 0) kX7_partOf 13 [some (.int x0), some (.int x1), none, some (.int x3), some (.int x4)] [] sz (f_X7_partOf_L13 n x0 x1 x3 x4)
  | 0, _, _, _, _ => r_none
  | n + 1, x0, x1, x3, x4 => s_X7_partOf_B13 g sz (f_X7_partOf_L13 n) (s_X7_partOf_L13 g sz n) x0 x1 x3 x4
set_option maxRecDepth 100000 in
theorem s_X7_partOf (g : Gm) (sz : Sto) (x0 : Int32) (x1 : Int32) (x2 : Int32) : Rf (cvI sz) (Em g 0) kX7_partOf 0 [some (.int x0), some (.int x1), some (.int x2), none, none] [] sz (f_X7_partOf x0 x1 x2) := by
  unfold f_X7_partOf
  refine r_iload_n dX7_partOf_0 rfl ?_
  refine r_ifne dX7_partOf_1 (tgt := 8) (by decide) (fun c1 => ?_) (fun c1 => ?_)
  · refine r_iload_n dX7_partOf_4 rfl ?_
    refine r_goto dX7_partOf_5 (tgt := 9) (by decide) ?_
    refine r_istore_n dX7_partOf_9 rfl (lt_b rfl) (lt_b rfl) ?_
    refine r_iload_n dX7_partOf_10 rfl ?_
    refine r_istore dX7_partOf_11 rfl (lt_b rfl) (lt_b rfl) ?_
    exact r_mask [true, true, false, true, true] (s_X7_partOf_L13 g sz 1000 x0 x1 x0 x1)
  · refine r_iload_n dX7_partOf_8 rfl ?_
    refine r_istore_n dX7_partOf_9 rfl (lt_b rfl) (lt_b rfl) ?_
    refine r_iload_n dX7_partOf_10 rfl ?_
    refine r_istore dX7_partOf_11 rfl (lt_b rfl) (lt_b rfl) ?_
    exact r_mask [true, true, false, true, true] (s_X7_partOf_L13 g sz 1000 x0 x1 x1 x1)
theorem ok_X7_partOf (g : Gm) (sz : Sto) (x0 : Int32) (x1 : Int32) (x2 : Int32) : Ok g yX7_partOf kX7_partOf 0 [.int x0, .int x1, .int x2] sz (cvI sz) (f_X7_partOf x0 x1 x2) := Ok.of (by decide) rfl (Nat.le_of_ble_eq_true rfl) (lv := [some (.int x0), some (.int x1), some (.int x2), none, none]) rfl (s_X7_partOf g sz x0 x1 x2)
theorem u_X7_partOf {α : Type} {cv : α → Res} {E : EE} {K : KK} {pc npc idx d : Nat} {lv : List (Option Value)} {st : List Value} {σ : Sto} {oc : Option (Int32)} {kf : Int32 → Option α} {x0 : Int32} {x1 : Int32} {x2 : Int32} (hOk : Ok E.1 yX7_partOf kX7_partOf d [.int x0, .int x1, .int x2] σ (cvI σ) oc) (hd : Dc K pc (.invokestatic idx) 3 npc) (hlk : Cond.methodLink K.2.1 idx yX7_partOf ∈ lw_good) (hw : (st.map fun v => v.category).sum ≤ 8) (hfit : fits_ E d 5) (hrm : room_ok E) (kk : ∀ q : Int32, Rf cv E K npc lv (.int q :: st) σ (kf q)) : Rf cv E K pc lv (.int x2 :: .int x1 :: .int x0 :: st) σ (oc.bind kf) := c_S (n := 3) (as := [.int x0, .int x1, .int x2]) hd hOk hlk wt_X7_partOf wn_X7 wc_X7_partOf ⟨by decide, by decide, by decide⟩ rfl rfl hw hfit hrm (fun b _ => kk b)
def f_X7_odds (s0 : Sto) (x1 : Int32) (x2 : Int32) (x3 : Int32) : Option (Int64 × Sto) :=
  (f_X7_isThing s0 x1).bind fun q1 => (if q1 = 0 then
    some ((-9223372036854775808 : Int64), s0)
  else
    (f_X7_isUpTo x2 30).bind fun q3 => (if q3 = 0 then
      some ((-9223372036854775808 : Int64), s0)
    else
      (f_X7_isUpTo x3 1).bind fun q5 => (if q5 = 0 then
        some ((-9223372036854775808 : Int64), s0)
      else
        (f_X7_worthsOut s0 x1 x2).bind fun q7 => (f_X7_partOf q7.1 100 x3).bind fun q8 => some ((Int32.toInt64 q8), q7.2))))
set_option maxRecDepth 100000 in
theorem s_X7_odds (g : Gm) (s0 : Sto) (x1 : Int32) (x2 : Int32) (x3 : Int32) : Rf cvLw (Em g 6) kX7_odds 0 [some (.ref ((Em g 6).1.1 7 0 0)), some (.int x1), some (.int x2), some (.int x3)] [] s0 (f_X7_odds s0 x1 x2 x3) := by
  unfold f_X7_odds
  refine r_aload_n dX7_odds_0 rfl ?_
  refine r_iload_n dX7_odds_1 rfl ?_
  refine u_X7_isThing (ok_X7_isThing g s0 x1) dX7_odds_2 ml_X7_89 (Nat.le_of_ble_eq_true rfl) (fits_m (by decide) (by decide)) room_m (fun q1 => ?_)
  refine r_ifeq dX7_odds_5 (tgt := 25) (by decide) (fun c2 => ?_) (fun c2 => ?_)
  · refine r_ldc2 dX7_odds_25 co_X7_195 ?_
    exact r_lret dX7_odds_28 rfl rfl
  · refine r_iload_n dX7_odds_8 rfl ?_
    refine r_bipush dX7_odds_9 cb_30 ?_
    refine u_X7_isUpTo (ok_X7_isUpTo g s0 x2 30) dX7_odds_11 ml_X7_74 (Nat.le_of_ble_eq_true rfl) (fits_m (by decide) (by decide)) room_m (fun q3 => ?_)
    refine r_ifeq dX7_odds_14 (tgt := 25) (by decide) (fun c4 => ?_) (fun c4 => ?_)
    · refine r_ldc2 dX7_odds_25 co_X7_195 ?_
      exact r_lret dX7_odds_28 rfl rfl
    · refine r_iload_n dX7_odds_17 rfl ?_
      refine r_iconst dX7_odds_18 ci_1 ?_
      refine u_X7_isUpTo (ok_X7_isUpTo g s0 x3 1) dX7_odds_19 ml_X7_74 (Nat.le_of_ble_eq_true rfl) (fits_m (by decide) (by decide)) room_m (fun q5 => ?_)
      refine r_ifne dX7_odds_22 (tgt := 29) (by decide) (fun c6 => ?_) (fun c6 => ?_)
      · refine r_ldc2 dX7_odds_25 co_X7_195 ?_
        exact r_lret dX7_odds_28 rfl rfl
      · refine r_aload_n dX7_odds_29 rfl ?_
        refine r_iload_n dX7_odds_30 rfl ?_
        refine r_iload_n dX7_odds_31 rfl ?_
        refine u_X7_worthsOut (ok_X7_worthsOut g s0 x1 x2) dX7_odds_32 ml_X7_167 (Nat.le_of_ble_eq_true rfl) (fits_m (by decide) (by decide)) room_m (fun q7 => ?_)
        refine r_bipush dX7_odds_35 cb_100 ?_
        refine r_iload_n dX7_odds_37 rfl ?_
        refine u_X7_partOf (ok_X7_partOf g q7.2 q7.1 100 x3) dX7_odds_38 ml_X7_197 (Nat.le_of_ble_eq_true rfl) (fits_m (by decide) (by decide)) room_m (fun q8 => ?_)
        refine r_i2l dX7_odds_41 ?_
        exact r_lret dX7_odds_42 rfl rfl
theorem ok_X7_odds (g : Gm) (s0 : Sto) (x1 : Int32) (x2 : Int32) (x3 : Int32) : Ok g yX7_odds kX7_odds 6 [.ref ((Em g 6).1.1 7 0 0), .int x1, .int x2, .int x3] s0 cvLw (f_X7_odds s0 x1 x2 x3) := Ok.of (by decide) rfl (Nat.le_of_ble_eq_true rfl) (lv := [some (.ref ((Em g 6).1.1 7 0 0)), some (.int x1), some (.int x2), some (.int x3)]) rfl (s_X7_odds g s0 x1 x2 x3)
theorem u_X7_odds {α : Type} {cv : α → Res} {E : EE} {K : KK} {pc npc idx d : Nat} {lv : List (Option Value)} {st : List Value} {σ : Sto} {oc : Option (Int64 × Sto)} {kf : (Int64 × Sto) → Option α} {x1 : Int32} {x2 : Int32} {x3 : Int32} (hOk : Ok E.1 yX7_odds kX7_odds d [.ref (E.1.1 7 0 0), .int x1, .int x2, .int x3] σ cvLw oc) (hd : Dc K pc (.invokevirtual idx) 3 npc) (hlk : Cond.methodLink K.2.1 idx yX7_odds ∈ lw_good) (hw : (st.map fun v => v.category).sum ≤ 8) (hfit : fits_ E d 4) (hrm : room_ok E) (kk : ∀ q : Int64 × Sto, Rf cv E K npc lv (.long q.1 :: st) q.2 (kf q)) : Rf cv E K pc lv (.int x3 :: .int x2 :: .int x1 :: .ref (E.1.1 7 0 0) :: st) σ (oc.bind kf) := c_V (n := 3) (as := [.int x1, .int x2, .int x3]) (c0 := 7) (i := 0) (CC := "ThawGives") (T := TX7) (N := 11) hd hOk hlk wi_X7_odds wv_X7_odds wn_X7 wc_X7_odds rfl (by decide) (by decide) ⟨by decide, by decide, by decide⟩ rfl rfl hw hfit hrm (fun b _ => kk b)
def f_X7_mean (s0 : Sto) (x1 : Int32) (x2 : Int32) : Option (Int64 × Sto) :=
  (f_X7_isUpTo x1 60).bind fun q1 => (if q1 = 0 then
    some ((-9223372036854775808 : Int64), s0)
  else
    (f_X7_isUpTo x2 1).bind fun q3 => (if q3 = 0 then
      some ((-9223372036854775808 : Int64), s0)
    else
      (if (s0.1 6 1 0) = 0 then
        some ((-9223372036854775808 : Int64), s0)
      else
        (f_X7_depthOfAll s0 x1).bind fun q6 => (f_X7_partOf q6.1 (q6.2.1 6 1 0) x2).bind fun q7 => some ((Int32.toInt64 q7), q6.2))))
set_option maxRecDepth 100000 in
theorem s_X7_mean (g : Gm) (s0 : Sto) (x1 : Int32) (x2 : Int32) : Rf cvLw (Em g 6) kX7_mean 0 [some (.ref ((Em g 6).1.1 7 0 0)), some (.int x1), some (.int x2)] [] s0 (f_X7_mean s0 x1 x2) := by
  unfold f_X7_mean
  refine r_iload_n dX7_mean_0 rfl ?_
  refine r_bipush dX7_mean_1 cb_60 ?_
  refine u_X7_isUpTo (ok_X7_isUpTo g s0 x1 60) dX7_mean_3 ml_X7_74 (Nat.le_of_ble_eq_true rfl) (fits_m (by decide) (by decide)) room_m (fun q1 => ?_)
  refine r_ifeq dX7_mean_6 (tgt := 27) (by decide) (fun c2 => ?_) (fun c2 => ?_)
  · refine r_ldc2 dX7_mean_27 co_X7_195 ?_
    exact r_lret dX7_mean_30 rfl rfl
  · refine r_iload_n dX7_mean_9 rfl ?_
    refine r_iconst dX7_mean_10 ci_1 ?_
    refine u_X7_isUpTo (ok_X7_isUpTo g s0 x2 1) dX7_mean_11 ml_X7_74 (Nat.le_of_ble_eq_true rfl) (fits_m (by decide) (by decide)) room_m (fun q3 => ?_)
    refine r_ifeq dX7_mean_14 (tgt := 27) (by decide) (fun c4 => ?_) (fun c4 => ?_)
    · refine r_ldc2 dX7_mean_27 co_X7_195 ?_
      exact r_lret dX7_mean_30 rfl rfl
    · refine r_aload_n dX7_mean_17 rfl ?_
      refine gf_X7_14 rfl dX7_mean_18 ?_
      refine gf_X7_78 rfl dX7_mean_21 (by decide) ?_
      refine r_ifne dX7_mean_24 (tgt := 31) (by decide) (fun c5 => ?_) (fun c5 => ?_)
      · refine r_ldc2 dX7_mean_27 co_X7_195 ?_
        exact r_lret dX7_mean_30 rfl rfl
      · refine r_aload_n dX7_mean_31 rfl ?_
        refine r_iload_n dX7_mean_32 rfl ?_
        refine u_X7_depthOfAll (ok_X7_depthOfAll g s0 x1) dX7_mean_33 ml_X7_149 (Nat.le_of_ble_eq_true rfl) (fits_m (by decide) (by decide)) room_m (fun q6 => ?_)
        refine r_aload_n dX7_mean_36 rfl ?_
        refine gf_X7_14 rfl dX7_mean_37 ?_
        refine gf_X7_78 rfl dX7_mean_40 (by decide) ?_
        refine r_iload_n dX7_mean_43 rfl ?_
        refine u_X7_partOf (ok_X7_partOf g q6.2 q6.1 (q6.2.1 6 1 0) x2) dX7_mean_44 ml_X7_197 (Nat.le_of_ble_eq_true rfl) (fits_m (by decide) (by decide)) room_m (fun q7 => ?_)
        refine r_i2l dX7_mean_47 ?_
        exact r_lret dX7_mean_48 rfl rfl
theorem ok_X7_mean (g : Gm) (s0 : Sto) (x1 : Int32) (x2 : Int32) : Ok g yX7_mean kX7_mean 6 [.ref ((Em g 6).1.1 7 0 0), .int x1, .int x2] s0 cvLw (f_X7_mean s0 x1 x2) := Ok.of (by decide) rfl (Nat.le_of_ble_eq_true rfl) (lv := [some (.ref ((Em g 6).1.1 7 0 0)), some (.int x1), some (.int x2)]) rfl (s_X7_mean g s0 x1 x2)
theorem u_X7_mean {α : Type} {cv : α → Res} {E : EE} {K : KK} {pc npc idx d : Nat} {lv : List (Option Value)} {st : List Value} {σ : Sto} {oc : Option (Int64 × Sto)} {kf : (Int64 × Sto) → Option α} {x1 : Int32} {x2 : Int32} (hOk : Ok E.1 yX7_mean kX7_mean d [.ref (E.1.1 7 0 0), .int x1, .int x2] σ cvLw oc) (hd : Dc K pc (.invokevirtual idx) 3 npc) (hlk : Cond.methodLink K.2.1 idx yX7_mean ∈ lw_good) (hw : (st.map fun v => v.category).sum ≤ 8) (hfit : fits_ E d 3) (hrm : room_ok E) (kk : ∀ q : Int64 × Sto, Rf cv E K npc lv (.long q.1 :: st) q.2 (kf q)) : Rf cv E K pc lv (.int x2 :: .int x1 :: .ref (E.1.1 7 0 0) :: st) σ (oc.bind kf) := c_V (n := 2) (as := [.int x1, .int x2]) (c0 := 7) (i := 0) (CC := "ThawGives") (T := TX7) (N := 11) hd hOk hlk wi_X7_mean wv_X7_mean wn_X7 wc_X7_mean rfl (by decide) (by decide) ⟨by decide, by decide, by decide⟩ rfl rfl hw hfit hrm (fun b _ => kk b)
def f_X7_plan_L58 (s0 : Sto) (x1 : Int32) (x2 : Int32) : Option (Int32 × Sto) :=
  (f_X2_add s0 (3 * 0 + 1) x1 x2 0).bind fun q6 => some (q6.1, q6.2)
def f_X7_plan_L43 (s0 : Sto) (x1 : Int32) (x2 : Int32) (y0 : Int32) : Option (Int32 × Sto) :=
  (if y0 = 0 then
    f_X7_plan_L58 s0 x1 x2
  else
    (f_X7_isThing s0 x2).bind fun q7 => (if q7 = 0 then
      some ((-1 : Int32), s0)
    else
      f_X7_plan_L58 s0 x1 x2))
def f_X7_plan_L38 (s0 : Sto) (x1 : Int32) (x2 : Int32) : Option (Int32 × Sto) :=
  f_X7_plan_L43 s0 x1 x2 1
def f_X7_plan (s0 : Sto) (x1 : Int32) (x2 : Int32) : Option (Int32 × Sto) :=
  (if x1 = (-1 : Int32) then
    nm (sF s0 2 4 (3 * 0 + 1) 0) fun s10 => some (0, s10)
  else
    (f_X7_isUpTo x1 3).bind fun q2 => (if q2 = 0 then
      some ((-1 : Int32), s0)
    else
      (if x1 = 1 then
        f_X7_plan_L38 s0 x1 x2
      else
        (if x1 = 2 then
          f_X7_plan_L38 s0 x1 x2
        else
          f_X7_plan_L43 s0 x1 x2 0))))
set_option maxRecDepth 100000 in
theorem s_X7_plan_L58 (g : Gm) (s0 : Sto) (x1 : Int32) (x2 : Int32) : Rf cvIw (Em g 1) kX7_plan 58 [some (.ref ((Em g 1).1.1 7 0 0)), some (.int x1), some (.int x2), none] [] s0 (f_X7_plan_L58 s0 x1 x2) := by
  unfold f_X7_plan_L58
  refine r_aload_n dX7_plan_58 rfl ?_
  refine gf_X7_14 rfl dX7_plan_59 ?_
  refine gf_X7_200 rfl dX7_plan_62 (by decide) ?_
  refine r_iload_n dX7_plan_65 rfl ?_
  refine r_iload_n dX7_plan_66 rfl ?_
  refine r_iconst dX7_plan_67 ci_0 ?_
  refine un_X2_add (ok_X2_add g s0 (3 * 0 + 1) x1 x2 0 (by omega)) dX7_plan_68 mn_X7_188 (by omega) (Nat.le_of_ble_eq_true rfl) (fits_m (by decide) (by decide)) room_m (fun q6 => ?_)
  exact r_iret dX7_plan_71 rfl rfl
set_option maxRecDepth 100000 in
theorem s_X7_plan_L43 (g : Gm) (s0 : Sto) (x1 : Int32) (x2 : Int32) (y0 : Int32) : Rf cvIw (Em g 1) kX7_plan 43 [some (.ref ((Em g 1).1.1 7 0 0)), some (.int x1), some (.int x2), none] [.int y0] s0 (f_X7_plan_L43 s0 x1 x2 y0) := by
  unfold f_X7_plan_L43
  refine r_istore_n dX7_plan_43 rfl (lt_b rfl) (lt_b rfl) ?_
  refine r_iload_n dX7_plan_44 rfl ?_
  refine r_ifeq dX7_plan_45 (tgt := 58) (by decide) (fun c5 => ?_) (fun c5 => ?_)
  · exact r_mask [true, true, true, false] (s_X7_plan_L58 g s0 x1 x2)
  · refine r_aload_n dX7_plan_48 rfl ?_
    refine r_iload_n dX7_plan_49 rfl ?_
    refine u_X7_isThing (ok_X7_isThing g s0 x2) dX7_plan_50 ml_X7_89 (Nat.le_of_ble_eq_true rfl) (fits_m (by decide) (by decide)) room_m (fun q7 => ?_)
    refine r_ifne dX7_plan_53 (tgt := 58) (by decide) (fun c8 => ?_) (fun c8 => ?_)
    · refine r_iconst dX7_plan_56 ci_m1 ?_
      exact r_iret dX7_plan_57 rfl rfl
    · exact r_mask [true, true, true, false] (s_X7_plan_L58 g s0 x1 x2)
set_option maxRecDepth 100000 in
theorem s_X7_plan_L38 (g : Gm) (s0 : Sto) (x1 : Int32) (x2 : Int32) : Rf cvIw (Em g 1) kX7_plan 38 [some (.ref ((Em g 1).1.1 7 0 0)), some (.int x1), some (.int x2), none] [] s0 (f_X7_plan_L38 s0 x1 x2) := by
  unfold f_X7_plan_L38
  refine r_iconst dX7_plan_38 ci_1 ?_
  refine r_goto dX7_plan_39 (tgt := 43) (by decide) ?_
  exact r_mask [true, true, true, false] (s_X7_plan_L43 g s0 x1 x2 1)
set_option maxRecDepth 100000 in
theorem s_X7_plan (g : Gm) (s0 : Sto) (x1 : Int32) (x2 : Int32) : Rf cvIw (Em g 1) kX7_plan 0 [some (.ref ((Em g 1).1.1 7 0 0)), some (.int x1), some (.int x2), none] [] s0 (f_X7_plan s0 x1 x2) := by
  unfold f_X7_plan
  refine r_iload_n dX7_plan_0 rfl ?_
  refine r_iconst dX7_plan_1 ci_m1 ?_
  refine r_icne dX7_plan_2 (tgt := 18) (by decide) (fun c1 => ?_) (fun c1 => ?_)
  · refine r_aload_n dX7_plan_5 rfl ?_
    refine gf_X7_14 rfl dX7_plan_6 ?_
    refine gf_X7_200 rfl dX7_plan_9 (by decide) ?_
    refine r_iconst dX7_plan_12 ci_0 ?_
    refine pf_X7_183 rfl dX7_plan_13 (by omega) (fun s10 => ?_)
    refine r_iconst dX7_plan_16 ci_0 ?_
    exact r_iret dX7_plan_17 rfl rfl
  · refine r_iload_n dX7_plan_18 rfl ?_
    refine r_iconst dX7_plan_19 ci_3 ?_
    refine u_X7_isUpTo (ok_X7_isUpTo g s0 x1 3) dX7_plan_20 ml_X7_74 (Nat.le_of_ble_eq_true rfl) (fits_m (by decide) (by decide)) room_m (fun q2 => ?_)
    refine r_ifne dX7_plan_23 (tgt := 28) (by decide) (fun c3 => ?_) (fun c3 => ?_)
    · refine r_iconst dX7_plan_26 ci_m1 ?_
      exact r_iret dX7_plan_27 rfl rfl
    · refine r_iload_n dX7_plan_28 rfl ?_
      refine r_iconst dX7_plan_29 ci_1 ?_
      refine r_iceq dX7_plan_30 (tgt := 38) (by decide) (fun c4 => ?_) (fun c4 => ?_)
      · exact r_mask [true, true, true, false] (s_X7_plan_L38 g s0 x1 x2)
      · refine r_iload_n dX7_plan_33 rfl ?_
        refine r_iconst dX7_plan_34 ci_2 ?_
        refine r_icne dX7_plan_35 (tgt := 42) (by decide) (fun c9 => ?_) (fun c9 => ?_)
        · exact r_mask [true, true, true, false] (s_X7_plan_L38 g s0 x1 x2)
        · refine r_iconst dX7_plan_42 ci_0 ?_
          exact r_mask [true, true, true, false] (s_X7_plan_L43 g s0 x1 x2 0)
theorem ok_X7_plan (g : Gm) (s0 : Sto) (x1 : Int32) (x2 : Int32) : Ok g yX7_plan kX7_plan 1 [.ref ((Em g 1).1.1 7 0 0), .int x1, .int x2] s0 cvIw (f_X7_plan s0 x1 x2) := Ok.of (by decide) rfl (Nat.le_of_ble_eq_true rfl) (lv := [some (.ref ((Em g 1).1.1 7 0 0)), some (.int x1), some (.int x2), none]) rfl (s_X7_plan g s0 x1 x2)
theorem u_X7_plan {α : Type} {cv : α → Res} {E : EE} {K : KK} {pc npc idx d : Nat} {lv : List (Option Value)} {st : List Value} {σ : Sto} {oc : Option (Int32 × Sto)} {kf : (Int32 × Sto) → Option α} {x1 : Int32} {x2 : Int32} (hOk : Ok E.1 yX7_plan kX7_plan d [.ref (E.1.1 7 0 0), .int x1, .int x2] σ cvIw oc) (hd : Dc K pc (.invokevirtual idx) 3 npc) (hlk : Cond.methodLink K.2.1 idx yX7_plan ∈ lw_good) (hw : (st.map fun v => v.category).sum ≤ 8) (hfit : fits_ E d 4) (hrm : room_ok E) (kk : ∀ q : Int32 × Sto, Rf cv E K npc lv (.int q.1 :: st) q.2 (kf q)) : Rf cv E K pc lv (.int x2 :: .int x1 :: .ref (E.1.1 7 0 0) :: st) σ (oc.bind kf) := c_V (n := 2) (as := [.int x1, .int x2]) (c0 := 7) (i := 0) (CC := "ThawGives") (T := TX7) (N := 11) hd hOk hlk wi_X7_plan wv_X7_plan wn_X7 wc_X7_plan rfl (by decide) (by decide) ⟨by decide, by decide, by decide⟩ rfl rfl hw hfit hrm (fun b _ => kk b)
def f_X7_depthByPlan_L66 (k41 : Sto → Int32 → Nat → Nat → Int32 → Int32 → Option (Int32 × Sto)) (s0 : Sto) (x1 : Int32) (i2 : Nat) (i3 : Nat) (x4 : Int32) (x5 : Int32) (y0 : Int32) : Option (Int32 × Sto) :=
  (if 0 ≤ x5 ∧ x5 < 10 then (if (s0.2.1 2 1 i2 (Int32.toNatClampNeg x5)) = 0 then
    (f_X5_goWeek s0 12 x4 i3).bind fun q14 => nmI (x4 + 1) fun v15 => nmI (x5 + 1) fun v16 => k41 q14 x1 i2 i3 v15 v16
  else (if (s0.2.1 2 1 i2 (Int32.toNatClampNeg x5)) = 1 then
    (if y0 = 0 then
      nm (sF s0 5 4 12 (s0.1 5 4 12)) fun s19 => nmI (x5 + 1) fun v20 => k41 s19 x1 i2 i3 x4 v20
    else
      nm (sF s0 5 4 12 0) fun s21 => nmI (x5 + 1) fun v22 => k41 s21 x1 i2 i3 x4 v22)
  else (if (s0.2.1 2 1 i2 (Int32.toNatClampNeg x5)) = 2 then
    (if y0 = 0 then
      nm (sF s0 5 3 12 (s0.1 5 3 12)) fun s25 => nmI (x5 + 1) fun v26 => k41 s25 x1 i2 i3 x4 v26
    else
      (f_J9_max_7cf53 ((s0.1 5 3 12) - 10) 0).bind fun q27 => nm (sF s0 5 3 12 q27) fun s28 => nmI (x5 + 1) fun v29 => k41 s28 x1 i2 i3 x4 v29)
  else (f_X5_snowOn s0 12 10).bind fun q30 => nmI (x5 + 1) fun v31 => k41 q30 x1 i2 i3 x4 v31))) else none)
def f_X7_depthByPlan_B41 (k41 : Sto → Int32 → Nat → Nat → Int32 → Int32 → Option (Int32 × Sto)) (s0 : Sto) (x1 : Int32) (i2 : Nat) (i3 : Nat) (x4 : Int32) (x5 : Int32) : Option (Int32 × Sto) :=
  (if (s0.1 2 4 i2) ≤ x5 then
    some ((s0.1 5 4 12), s0)
  else
    (if 0 ≤ x5 ∧ x5 < 10 then (if (s0.2.1 2 2 i2 (Int32.toNatClampNeg x5)) = x1 then
      f_X7_depthByPlan_L66 k41 s0 x1 i2 i3 x4 x5 1
    else
      f_X7_depthByPlan_L66 k41 s0 x1 i2 i3 x4 x5 0) else none))
def f_X7_depthByPlan_L41 : Nat → Sto → Int32 → Nat → Nat → Int32 → Int32 → Option (Int32 × Sto)
  | 0 => fun _ _ _ _ _ _ => none
  | n + 1 => f_X7_depthByPlan_B41 (f_X7_depthByPlan_L41 n)
def f_X7_depthByPlan (s0 : Sto) (x1 : Int32) : Option (Int32 × Sto) :=
  (f_X7_holding s0).bind fun q1 => (if q1 < 8 then nmI ((s0.1 6 2 0)) fun v3 => (if 0 ≤ x1 ∧ x1 < 6 then (f_X5_become s0 12 (6 * 0 + Int32.toNatClampNeg x1)).bind fun q6 => f_X7_depthByPlan_L41 1000 q6 x1 (3 * 0 + 1) q1 v3 0 else none) else none)
set_option maxRecDepth 100000 in
theorem s_X7_depthByPlan_L66 (g : Gm) (k41 : Sto → Int32 → Nat → Nat → Int32 → Int32 → Option (Int32 × Sto)) (hk41 : ∀ (s0 : Sto) (x1 : Int32) (i2 : Nat) (i3 : Nat) (x4 : Int32) (x5 : Int32) (hi2 : i2 < 6) (hi3 : i3 < 8), Rf cvIw (Em g 3) kX7_depthByPlan 41 [some (.ref ((Em g 3).1.1 7 0 0)), some (.int x1), some (.ref ((Em g 3).1.1 2 0 i2)), some (.ref ((Em g 3).1.1 1 0 i3)), some (.int x4), some (.int x5), none] [] s0 (k41 s0 x1 i2 i3 x4 x5)) (s0 : Sto) (x1 : Int32) (i2 : Nat) (i3 : Nat) (x4 : Int32) (x5 : Int32) (y0 : Int32) (hi2 : i2 < 6) (hi3 : i3 < 8) : Rf cvIw (Em g 3) kX7_depthByPlan 66 [some (.ref ((Em g 3).1.1 7 0 0)), some (.int x1), some (.ref ((Em g 3).1.1 2 0 i2)), some (.ref ((Em g 3).1.1 1 0 i3)), some (.int x4), some (.int x5), none] [.int y0] s0 (f_X7_depthByPlan_L66 k41 s0 x1 i2 i3 x4 x5 y0) := by
  unfold f_X7_depthByPlan_L66
  refine r_istore dX7_depthByPlan_66 rfl (lt_b rfl) (lt_b rfl) ?_
  refine r_aload_n dX7_depthByPlan_68 rfl ?_
  refine gf_X7_209 rfl dX7_depthByPlan_69 hi2 ?_
  refine r_iload dX7_depthByPlan_72 rfl ?_
  refine al_2_1 dX7_depthByPlan_74 hi2 (fun hg11 hj12 => ?_)
  refine r_by (fun e13 => ?_) (fun e13 => ?_)
  · refine r_tabIn dX7_depthByPlan_75 e13 (z := 0) (by decide) (by decide) (by decide) (off := 25) rfl (tgt := 100) (by decide) ?_
    refine r_aload_n dX7_depthByPlan_100 rfl ?_
    refine gf_X7_30 rfl dX7_depthByPlan_101 ?_
    refine r_iload dX7_depthByPlan_104 rfl ?_
    refine r_aload_n dX7_depthByPlan_106 rfl ?_
    refine un_X5_goWeek (ok_X5_goWeek g s0 12 x4 i3 (by decide) hi3) dX7_depthByPlan_107 mn_X7_262 (by decide) (Nat.le_of_ble_eq_true rfl) (fits_m (by decide) (by decide)) room_m (fun q14 => ?_)
    refine r_iincN dX7_depthByPlan_110 rfl ci_1 rfl (lt_b rfl) (fun v15 => ?_)
    refine r_goto dX7_depthByPlan_113 (tgt := 190) (by decide) ?_
    refine r_iincN dX7_depthByPlan_190 rfl ci_1 rfl (lt_b rfl) (fun v16 => ?_)
    refine r_goto dX7_depthByPlan_193 (tgt := 41) (by decide) ?_
    exact r_mask [true, true, true, true, true, true, false] (hk41 q14 x1 i2 i3 v15 v16 hi2 hi3)
  refine r_by (fun e17 => ?_) (fun e17 => ?_)
  · refine r_tabIn dX7_depthByPlan_75 e17 (z := 1) (by decide) (by decide) (by decide) (off := 41) rfl (tgt := 116) (by decide) ?_
    refine r_aload_n dX7_depthByPlan_116 rfl ?_
    refine gf_X7_30 rfl dX7_depthByPlan_117 ?_
    refine r_iload dX7_depthByPlan_120 rfl ?_
    refine r_ifeq dX7_depthByPlan_122 (tgt := 129) (by decide) (fun c18 => ?_) (fun c18 => ?_)
    · refine r_aload_n dX7_depthByPlan_129 rfl ?_
      refine gf_X7_30 rfl dX7_depthByPlan_130 ?_
      refine gf_X7_102 rfl dX7_depthByPlan_133 (by decide) ?_
      refine pf_X7_102 rfl dX7_depthByPlan_136 (by decide) (fun s19 => ?_)
      refine r_goto dX7_depthByPlan_139 (tgt := 190) (by decide) ?_
      refine r_iincN dX7_depthByPlan_190 rfl ci_1 rfl (lt_b rfl) (fun v20 => ?_)
      refine r_goto dX7_depthByPlan_193 (tgt := 41) (by decide) ?_
      exact r_mask [true, true, true, true, true, true, false] (hk41 s19 x1 i2 i3 x4 v20 hi2 hi3)
    · refine r_iconst dX7_depthByPlan_125 ci_0 ?_
      refine r_goto dX7_depthByPlan_126 (tgt := 136) (by decide) ?_
      refine pf_X7_102 rfl dX7_depthByPlan_136 (by decide) (fun s21 => ?_)
      refine r_goto dX7_depthByPlan_139 (tgt := 190) (by decide) ?_
      refine r_iincN dX7_depthByPlan_190 rfl ci_1 rfl (lt_b rfl) (fun v22 => ?_)
      refine r_goto dX7_depthByPlan_193 (tgt := 41) (by decide) ?_
      exact r_mask [true, true, true, true, true, true, false] (hk41 s21 x1 i2 i3 x4 v22 hi2 hi3)
  refine r_by (fun e23 => ?_) (fun e23 => ?_)
  · refine r_tabIn dX7_depthByPlan_75 e23 (z := 2) (by decide) (by decide) (by decide) (off := 67) rfl (tgt := 142) (by decide) ?_
    refine r_aload_n dX7_depthByPlan_142 rfl ?_
    refine gf_X7_30 rfl dX7_depthByPlan_143 ?_
    refine r_iload dX7_depthByPlan_146 rfl ?_
    refine r_ifeq dX7_depthByPlan_148 (tgt := 168) (by decide) (fun c24 => ?_) (fun c24 => ?_)
    · refine r_aload_n dX7_depthByPlan_168 rfl ?_
      refine gf_X7_30 rfl dX7_depthByPlan_169 ?_
      refine gf_X7_99 rfl dX7_depthByPlan_172 (by decide) ?_
      refine pf_X7_99 rfl dX7_depthByPlan_175 (by decide) (fun s25 => ?_)
      refine r_goto dX7_depthByPlan_178 (tgt := 190) (by decide) ?_
      refine r_iincN dX7_depthByPlan_190 rfl ci_1 rfl (lt_b rfl) (fun v26 => ?_)
      refine r_goto dX7_depthByPlan_193 (tgt := 41) (by decide) ?_
      exact r_mask [true, true, true, true, true, true, false] (hk41 s25 x1 i2 i3 x4 v26 hi2 hi3)
    · refine r_aload_n dX7_depthByPlan_151 rfl ?_
      refine gf_X7_30 rfl dX7_depthByPlan_152 ?_
      refine gf_X7_99 rfl dX7_depthByPlan_155 (by decide) ?_
      refine r_bipush dX7_depthByPlan_158 cb_10 ?_
      refine r_isub dX7_depthByPlan_160 ?_
      refine r_iconst dX7_depthByPlan_161 ci_0 ?_
      refine u_J9_max_7cf53 (ok_J9_max_7cf53 g s0 ((s0.1 5 3 12) - 10) 0) dX7_depthByPlan_162 ml_X7_283 (Nat.le_of_ble_eq_true rfl) (fits_m (by decide) (by decide)) room_m (fun q27 => ?_)
      refine r_goto dX7_depthByPlan_165 (tgt := 175) (by decide) ?_
      refine pf_X7_99 rfl dX7_depthByPlan_175 (by decide) (fun s28 => ?_)
      refine r_goto dX7_depthByPlan_178 (tgt := 190) (by decide) ?_
      refine r_iincN dX7_depthByPlan_190 rfl ci_1 rfl (lt_b rfl) (fun v29 => ?_)
      refine r_goto dX7_depthByPlan_193 (tgt := 41) (by decide) ?_
      exact r_mask [true, true, true, true, true, true, false] (hk41 s28 x1 i2 i3 x4 v29 hi2 hi3)
  refine r_tabOut dX7_depthByPlan_75 (by have a0 := sw_ne e13 (z := 0) (by decide); have a1 := sw_ne e17 (z := 1) (by decide); have a2 := sw_ne e23 (z := 2) (by decide); omega) (tgt := 181) (by decide) ?_
  refine r_aload_n dX7_depthByPlan_181 rfl ?_
  refine gf_X7_30 rfl dX7_depthByPlan_182 ?_
  refine r_bipush dX7_depthByPlan_185 cb_10 ?_
  refine un_X5_snowOn (ok_X5_snowOn g s0 12 10 (by decide)) dX7_depthByPlan_187 mn_X7_294 (by decide) (Nat.le_of_ble_eq_true rfl) (fits_m (by decide) (by decide)) room_m (fun q30 => ?_)
  refine r_iincN dX7_depthByPlan_190 rfl ci_1 rfl (lt_b rfl) (fun v31 => ?_)
  refine r_goto dX7_depthByPlan_193 (tgt := 41) (by decide) ?_
  exact r_mask [true, true, true, true, true, true, false] (hk41 q30 x1 i2 i3 x4 v31 hi2 hi3)
set_option maxRecDepth 100000 in
theorem s_X7_depthByPlan_B41 (g : Gm) (k41 : Sto → Int32 → Nat → Nat → Int32 → Int32 → Option (Int32 × Sto)) (hk41 : ∀ (s0 : Sto) (x1 : Int32) (i2 : Nat) (i3 : Nat) (x4 : Int32) (x5 : Int32) (hi2 : i2 < 6) (hi3 : i3 < 8), Rf cvIw (Em g 3) kX7_depthByPlan 41 [some (.ref ((Em g 3).1.1 7 0 0)), some (.int x1), some (.ref ((Em g 3).1.1 2 0 i2)), some (.ref ((Em g 3).1.1 1 0 i3)), some (.int x4), some (.int x5), none] [] s0 (k41 s0 x1 i2 i3 x4 x5)) (s0 : Sto) (x1 : Int32) (i2 : Nat) (i3 : Nat) (x4 : Int32) (x5 : Int32) (hi2 : i2 < 6) (hi3 : i3 < 8) : Rf cvIw (Em g 3) kX7_depthByPlan 41 [some (.ref ((Em g 3).1.1 7 0 0)), some (.int x1), some (.ref ((Em g 3).1.1 2 0 i2)), some (.ref ((Em g 3).1.1 1 0 i3)), some (.int x4), some (.int x5), none] [] s0 (f_X7_depthByPlan_B41 k41 s0 x1 i2 i3 x4 x5) := by
  unfold f_X7_depthByPlan_B41
  refine r_iload dX7_depthByPlan_41 rfl ?_
  refine r_aload_n dX7_depthByPlan_43 rfl ?_
  refine gf_X7_183 rfl dX7_depthByPlan_44 hi2 ?_
  refine r_icge dX7_depthByPlan_47 (tgt := 196) (by decide) (fun c7 => ?_) (fun c7 => ?_)
  · refine r_aload_n dX7_depthByPlan_196 rfl ?_
    refine gf_X7_30 rfl dX7_depthByPlan_197 ?_
    refine gf_X7_102 rfl dX7_depthByPlan_200 (by decide) ?_
    exact r_iret dX7_depthByPlan_203 rfl rfl
  · refine r_aload_n dX7_depthByPlan_50 rfl ?_
    refine gf_X7_212 rfl dX7_depthByPlan_51 hi2 ?_
    refine r_iload dX7_depthByPlan_54 rfl ?_
    refine al_2_2 dX7_depthByPlan_56 hi2 (fun hg8 hj9 => ?_)
    refine r_iload_n dX7_depthByPlan_57 rfl ?_
    refine r_icne dX7_depthByPlan_58 (tgt := 65) (by decide) (fun c10 => ?_) (fun c10 => ?_)
    · refine r_iconst dX7_depthByPlan_61 ci_1 ?_
      refine r_goto dX7_depthByPlan_62 (tgt := 66) (by decide) ?_
      exact r_mask [true, true, true, true, true, true, false] (s_X7_depthByPlan_L66 g k41 hk41 s0 x1 i2 i3 x4 x5 1 hi2 hi3)
    · refine r_iconst dX7_depthByPlan_65 ci_0 ?_
      exact r_mask [true, true, true, true, true, true, false] (s_X7_depthByPlan_L66 g k41 hk41 s0 x1 i2 i3 x4 x5 0 hi2 hi3)
theorem s_X7_depthByPlan_L41 (g : Gm) : ∀ (n : Nat) (s0 : Sto) (x1 : Int32) (i2 : Nat) (i3 : Nat) (x4 : Int32) (x5 : Int32) (hi2 : i2 < 6) (hi3 : i3 < 8), Rf cvIw (Em g 3) kX7_depthByPlan 41 [some (.ref ((Em g 3).1.1 7 0 0)), some (.int x1), some (.ref ((Em g 3).1.1 2 0 i2)), some (.ref ((Em g 3).1.1 1 0 i3)), some (.int x4), some (.int x5), none] [] s0 (f_X7_depthByPlan_L41 n s0 x1 i2 i3 x4 x5)
  | 0, _, _, _, _, _, _, _, _ => r_none
  | n + 1, s0, x1, i2, i3, x4, x5, hi2, hi3 => s_X7_depthByPlan_B41 g (f_X7_depthByPlan_L41 n) (s_X7_depthByPlan_L41 g n) s0 x1 i2 i3 x4 x5 hi2 hi3
set_option maxRecDepth 100000 in
theorem s_X7_depthByPlan (g : Gm) (s0 : Sto) (x1 : Int32) : Rf cvIw (Em g 3) kX7_depthByPlan 0 [some (.ref ((Em g 3).1.1 7 0 0)), some (.int x1), none, none, none, none, none] [] s0 (f_X7_depthByPlan s0 x1) := by
  unfold f_X7_depthByPlan
  refine r_aload_n dX7_depthByPlan_0 rfl ?_
  refine gf_X7_14 rfl dX7_depthByPlan_1 ?_
  refine gf_X7_200 rfl dX7_depthByPlan_4 (by decide) ?_
  refine r_astore_n dX7_depthByPlan_7 rfl (lt_b rfl) (lt_b rfl) ?_
  refine r_aload_n dX7_depthByPlan_8 rfl ?_
  refine u_X7_holding (ok_X7_holding g s0) dX7_depthByPlan_9 ml_X7_108 (Nat.le_of_ble_eq_true rfl) (fits_m (by decide) (by decide)) room_m (fun q1 => ?_)
  refine r_gd (fun h2 => ?_)
  refine r_astore_n dX7_depthByPlan_12 rfl (lt_b rfl) (lt_b rfl) ?_
  refine r_aload_n dX7_depthByPlan_13 rfl ?_
  refine gf_X7_14 rfl dX7_depthByPlan_14 ?_
  refine gf_X7_105 rfl dX7_depthByPlan_17 (by decide) ?_
  refine r_istoreN dX7_depthByPlan_20 rfl (lt_b rfl) (lt_b rfl) (fun v3 => ?_)
  refine r_aload_n dX7_depthByPlan_22 rfl ?_
  refine gf_X7_30 rfl dX7_depthByPlan_23 ?_
  refine r_aload_n dX7_depthByPlan_26 rfl ?_
  refine gf_X7_14 rfl dX7_depthByPlan_27 ?_
  refine gf_X7_81 rfl dX7_depthByPlan_30 (by decide) ?_
  refine r_iload_n dX7_depthByPlan_33 rfl ?_
  refine al_6_0 dX7_depthByPlan_34 (by decide) (fun hg4 hj5 => ?_)
  refine un_X5_become (ok_X5_become g s0 12 (6 * 0 + Int32.toNatClampNeg x1) (by decide) (by omega)) dX7_depthByPlan_35 mn_X7_266 (by decide) (Nat.le_of_ble_eq_true rfl) (fits_m (by decide) (by decide)) room_m (fun q6 => ?_)
  refine r_iconst dX7_depthByPlan_38 ci_0 ?_
  refine r_istore dX7_depthByPlan_39 rfl (lt_b rfl) (lt_b rfl) ?_
  exact r_mask [true, true, true, true, true, true, false] (s_X7_depthByPlan_L41 g 1000 q6 x1 (3 * 0 + 1) q1 v3 0 (by omega) h2)
theorem ok_X7_depthByPlan (g : Gm) (s0 : Sto) (x1 : Int32) : Ok g yX7_depthByPlan kX7_depthByPlan 3 [.ref ((Em g 3).1.1 7 0 0), .int x1] s0 cvIw (f_X7_depthByPlan s0 x1) := Ok.of (by decide) rfl (Nat.le_of_ble_eq_true rfl) (lv := [some (.ref ((Em g 3).1.1 7 0 0)), some (.int x1), none, none, none, none, none]) rfl (s_X7_depthByPlan g s0 x1)
theorem u_X7_depthByPlan {α : Type} {cv : α → Res} {E : EE} {K : KK} {pc npc idx d : Nat} {lv : List (Option Value)} {st : List Value} {σ : Sto} {oc : Option (Int32 × Sto)} {kf : (Int32 × Sto) → Option α} {x1 : Int32} (hOk : Ok E.1 yX7_depthByPlan kX7_depthByPlan d [.ref (E.1.1 7 0 0), .int x1] σ cvIw oc) (hd : Dc K pc (.invokevirtual idx) 3 npc) (hlk : Cond.methodLink K.2.1 idx yX7_depthByPlan ∈ lw_good) (hw : (st.map fun v => v.category).sum ≤ 8) (hfit : fits_ E d 7) (hrm : room_ok E) (kk : ∀ q : Int32 × Sto, Rf cv E K npc lv (.int q.1 :: st) q.2 (kf q)) : Rf cv E K pc lv (.int x1 :: .ref (E.1.1 7 0 0) :: st) σ (oc.bind kf) := c_V (n := 1) (as := [.int x1]) (c0 := 7) (i := 0) (CC := "ThawGives") (T := TX7) (N := 11) hd hOk hlk wi_X7_depthByPlan wv_X7_depthByPlan wn_X7 wc_X7_depthByPlan rfl (by decide) (by decide) ⟨by decide, by decide, by decide⟩ rfl rfl hw hfit hrm (fun b _ => kk b)
def f_X7_ends_B17 (k17 : Sto → Int32 → Int32 → Int32 → Int32 → Option (Int32 × Sto)) (s0 : Sto) (x1 : Int32) (x2 : Int32) (x3 : Int32) (x4 : Int32) : Option (Int32 × Sto) :=
  (if (s0.1 6 1 0) ≤ x4 then
    (if x1 = 0 then
      some (x2, s0)
    else
      some (x3, s0))
  else
    (f_X7_depthByPlan s0 x4).bind fun q5 => nmI (q5.1) fun v6 => nmI ((x2 + v6)) fun v7 => (if v6 = 0 then
      nmI ((x3 ||| (1 <<< (x4 &&& 31)))) fun v10 => nmI (x4 + 1) fun v11 => k17 q5.2 x1 v7 v10 v11
    else
      nmI (x4 + 1) fun v9 => k17 q5.2 x1 v7 x3 v9))
def f_X7_ends_L17 : Nat → Sto → Int32 → Int32 → Int32 → Int32 → Option (Int32 × Sto)
  | 0 => fun _ _ _ _ _ => none
  | n + 1 => f_X7_ends_B17 (f_X7_ends_L17 n)
def f_X7_ends (s0 : Sto) (x1 : Int32) : Option (Int32 × Sto) :=
  (f_X7_isUpTo x1 1).bind fun q1 => (if q1 = 0 then
    some ((-1 : Int32), s0)
  else
    f_X7_ends_L17 1000 s0 x1 0 0 0)
set_option maxRecDepth 100000 in
theorem s_X7_ends_B17 (g : Gm) (k17 : Sto → Int32 → Int32 → Int32 → Int32 → Option (Int32 × Sto)) (hk17 : ∀ (s0 : Sto) (x1 : Int32) (x2 : Int32) (x3 : Int32) (x4 : Int32), Rf cvIw (Em g 4) kX7_ends 17 [some (.ref ((Em g 4).1.1 7 0 0)), some (.int x1), some (.int x2), some (.int x3), some (.int x4), none] [] s0 (k17 s0 x1 x2 x3 x4)) (s0 : Sto) (x1 : Int32) (x2 : Int32) (x3 : Int32) (x4 : Int32) : Rf cvIw (Em g 4) kX7_ends 17 [some (.ref ((Em g 4).1.1 7 0 0)), some (.int x1), some (.int x2), some (.int x3), some (.int x4), none] [] s0 (f_X7_ends_B17 k17 s0 x1 x2 x3 x4) := by
  unfold f_X7_ends_B17
  refine r_iload dX7_ends_17 rfl ?_
  refine r_aload_n dX7_ends_19 rfl ?_
  refine gf_X7_14 rfl dX7_ends_20 ?_
  refine gf_X7_78 rfl dX7_ends_23 (by decide) ?_
  refine r_icge dX7_ends_26 (tgt := 60) (by decide) (fun c3 => ?_) (fun c3 => ?_)
  · refine r_iload_n dX7_ends_60 rfl ?_
    refine r_ifne dX7_ends_61 (tgt := 68) (by decide) (fun c4 => ?_) (fun c4 => ?_)
    · refine r_iload_n dX7_ends_64 rfl ?_
      refine r_goto dX7_ends_65 (tgt := 69) (by decide) ?_
      exact r_iret dX7_ends_69 rfl rfl
    · refine r_iload_n dX7_ends_68 rfl ?_
      exact r_iret dX7_ends_69 rfl rfl
  · refine r_aload_n dX7_ends_29 rfl ?_
    refine r_iload dX7_ends_30 rfl ?_
    refine u_X7_depthByPlan (ok_X7_depthByPlan g s0 x4) dX7_ends_32 ml_X7_203 (Nat.le_of_ble_eq_true rfl) (fits_m (by decide) (by decide)) room_m (fun q5 => ?_)
    refine r_istoreN dX7_ends_35 rfl (lt_b rfl) (lt_b rfl) (fun v6 => ?_)
    refine r_iload_n dX7_ends_37 rfl ?_
    refine r_iload dX7_ends_38 rfl ?_
    refine r_iadd dX7_ends_40 ?_
    refine r_istore_nN dX7_ends_41 rfl (lt_b rfl) (lt_b rfl) (fun v7 => ?_)
    refine r_iload dX7_ends_42 rfl ?_
    refine r_ifne dX7_ends_44 (tgt := 54) (by decide) (fun c8 => ?_) (fun c8 => ?_)
    · refine r_iload_n dX7_ends_47 rfl ?_
      refine r_iconst dX7_ends_48 ci_1 ?_
      refine r_iload dX7_ends_49 rfl ?_
      refine r_ishl dX7_ends_51 ?_
      refine r_ior dX7_ends_52 ?_
      refine r_istore_nN dX7_ends_53 rfl (lt_b rfl) (lt_b rfl) (fun v10 => ?_)
      refine r_iincN dX7_ends_54 rfl ci_1 rfl (lt_b rfl) (fun v11 => ?_)
      refine r_goto dX7_ends_57 (tgt := 17) (by decide) ?_
      exact r_mask [true, true, true, true, true, false] (hk17 q5.2 x1 v7 v10 v11)
    · refine r_iincN dX7_ends_54 rfl ci_1 rfl (lt_b rfl) (fun v9 => ?_)
      refine r_goto dX7_ends_57 (tgt := 17) (by decide) ?_
      exact r_mask [true, true, true, true, true, false] (hk17 q5.2 x1 v7 x3 v9)
theorem s_X7_ends_L17 (g : Gm) : ∀ (n : Nat) (s0 : Sto) (x1 : Int32) (x2 : Int32) (x3 : Int32) (x4 : Int32), Rf cvIw (Em g 4) kX7_ends 17 [some (.ref ((Em g 4).1.1 7 0 0)), some (.int x1), some (.int x2), some (.int x3), some (.int x4), none] [] s0 (f_X7_ends_L17 n s0 x1 x2 x3 x4)
  | 0, _, _, _, _, _ => r_none
  | n + 1, s0, x1, x2, x3, x4 => s_X7_ends_B17 g (f_X7_ends_L17 n) (s_X7_ends_L17 g n) s0 x1 x2 x3 x4
set_option maxRecDepth 100000 in
theorem s_X7_ends (g : Gm) (s0 : Sto) (x1 : Int32) : Rf cvIw (Em g 4) kX7_ends 0 [some (.ref ((Em g 4).1.1 7 0 0)), some (.int x1), none, none, none, none] [] s0 (f_X7_ends s0 x1) := by
  unfold f_X7_ends
  refine r_iload_n dX7_ends_0 rfl ?_
  refine r_iconst dX7_ends_1 ci_1 ?_
  refine u_X7_isUpTo (ok_X7_isUpTo g s0 x1 1) dX7_ends_2 ml_X7_74 (Nat.le_of_ble_eq_true rfl) (fits_m (by decide) (by decide)) room_m (fun q1 => ?_)
  refine r_ifne dX7_ends_5 (tgt := 10) (by decide) (fun c2 => ?_) (fun c2 => ?_)
  · refine r_iconst dX7_ends_8 ci_m1 ?_
    exact r_iret dX7_ends_9 rfl rfl
  · refine r_iconst dX7_ends_10 ci_0 ?_
    refine r_istore_n dX7_ends_11 rfl (lt_b rfl) (lt_b rfl) ?_
    refine r_iconst dX7_ends_12 ci_0 ?_
    refine r_istore_n dX7_ends_13 rfl (lt_b rfl) (lt_b rfl) ?_
    refine r_iconst dX7_ends_14 ci_0 ?_
    refine r_istore dX7_ends_15 rfl (lt_b rfl) (lt_b rfl) ?_
    exact r_mask [true, true, true, true, true, false] (s_X7_ends_L17 g 1000 s0 x1 0 0 0)
theorem ok_X7_ends (g : Gm) (s0 : Sto) (x1 : Int32) : Ok g yX7_ends kX7_ends 4 [.ref ((Em g 4).1.1 7 0 0), .int x1] s0 cvIw (f_X7_ends s0 x1) := Ok.of (by decide) rfl (Nat.le_of_ble_eq_true rfl) (lv := [some (.ref ((Em g 4).1.1 7 0 0)), some (.int x1), none, none, none, none]) rfl (s_X7_ends g s0 x1)
theorem u_X7_ends {α : Type} {cv : α → Res} {E : EE} {K : KK} {pc npc idx d : Nat} {lv : List (Option Value)} {st : List Value} {σ : Sto} {oc : Option (Int32 × Sto)} {kf : (Int32 × Sto) → Option α} {x1 : Int32} (hOk : Ok E.1 yX7_ends kX7_ends d [.ref (E.1.1 7 0 0), .int x1] σ cvIw oc) (hd : Dc K pc (.invokevirtual idx) 3 npc) (hlk : Cond.methodLink K.2.1 idx yX7_ends ∈ lw_good) (hw : (st.map fun v => v.category).sum ≤ 8) (hfit : fits_ E d 6) (hrm : room_ok E) (kk : ∀ q : Int32 × Sto, Rf cv E K npc lv (.int q.1 :: st) q.2 (kf q)) : Rf cv E K pc lv (.int x1 :: .ref (E.1.1 7 0 0) :: st) σ (oc.bind kf) := c_V (n := 1) (as := [.int x1]) (c0 := 7) (i := 0) (CC := "ThawGives") (T := TX7) (N := 11) hd hOk hlk wi_X7_ends wv_X7_ends wn_X7 wc_X7_ends rfl (by decide) (by decide) ⟨by decide, by decide, by decide⟩ rfl rfl hw hfit hrm (fun b _ => kk b)
def f_X7_book (s0 : Sto) (x1 : Int32) (x2 : Int32) : Option (Int32 × Sto) :=
  (if x1 = (-1 : Int32) then
    nm (sF s0 2 4 (3 * 0 + 2) 0) fun s7 => some (0, s7)
  else
    (f_X7_isThing s0 x1).bind fun q2 => (if q2 = 0 then
      some ((-1 : Int32), s0)
    else
      (f_X7_isUpTo x2 99).bind fun q4 => (if q4 = 0 then
        some ((-2 : Int32), s0)
      else
        (f_X2_add s0 (3 * 0 + 2) x1 x2 0).bind fun q6 => some (q6.1, q6.2))))
set_option maxRecDepth 100000 in
theorem s_X7_book (g : Gm) (s0 : Sto) (x1 : Int32) (x2 : Int32) : Rf cvIw (Em g 1) kX7_book 0 [some (.ref ((Em g 1).1.1 7 0 0)), some (.int x1), some (.int x2)] [] s0 (f_X7_book s0 x1 x2) := by
  unfold f_X7_book
  refine r_iload_n dX7_book_0 rfl ?_
  refine r_iconst dX7_book_1 ci_m1 ?_
  refine r_icne dX7_book_2 (tgt := 18) (by decide) (fun c1 => ?_) (fun c1 => ?_)
  · refine r_aload_n dX7_book_5 rfl ?_
    refine gf_X7_14 rfl dX7_book_6 ?_
    refine gf_X7_206 rfl dX7_book_9 (by decide) ?_
    refine r_iconst dX7_book_12 ci_0 ?_
    refine pf_X7_183 rfl dX7_book_13 (by omega) (fun s7 => ?_)
    refine r_iconst dX7_book_16 ci_0 ?_
    exact r_iret dX7_book_17 rfl rfl
  · refine r_aload_n dX7_book_18 rfl ?_
    refine r_iload_n dX7_book_19 rfl ?_
    refine u_X7_isThing (ok_X7_isThing g s0 x1) dX7_book_20 ml_X7_89 (Nat.le_of_ble_eq_true rfl) (fits_m (by decide) (by decide)) room_m (fun q2 => ?_)
    refine r_ifne dX7_book_23 (tgt := 28) (by decide) (fun c3 => ?_) (fun c3 => ?_)
    · refine r_iconst dX7_book_26 ci_m1 ?_
      exact r_iret dX7_book_27 rfl rfl
    · refine r_iload_n dX7_book_28 rfl ?_
      refine r_bipush dX7_book_29 cb_99 ?_
      refine u_X7_isUpTo (ok_X7_isUpTo g s0 x2 99) dX7_book_31 ml_X7_74 (Nat.le_of_ble_eq_true rfl) (fits_m (by decide) (by decide)) room_m (fun q4 => ?_)
      refine r_ifne dX7_book_34 (tgt := 40) (by decide) (fun c5 => ?_) (fun c5 => ?_)
      · refine r_bipush dX7_book_37 cb_m2 ?_
        exact r_iret dX7_book_39 rfl rfl
      · refine r_aload_n dX7_book_40 rfl ?_
        refine gf_X7_14 rfl dX7_book_41 ?_
        refine gf_X7_206 rfl dX7_book_44 (by decide) ?_
        refine r_iload_n dX7_book_47 rfl ?_
        refine r_iload_n dX7_book_48 rfl ?_
        refine r_iconst dX7_book_49 ci_0 ?_
        refine un_X2_add (ok_X2_add g s0 (3 * 0 + 2) x1 x2 0 (by omega)) dX7_book_50 mn_X7_188 (by omega) (Nat.le_of_ble_eq_true rfl) (fits_m (by decide) (by decide)) room_m (fun q6 => ?_)
        exact r_iret dX7_book_53 rfl rfl
theorem ok_X7_book (g : Gm) (s0 : Sto) (x1 : Int32) (x2 : Int32) : Ok g yX7_book kX7_book 1 [.ref ((Em g 1).1.1 7 0 0), .int x1, .int x2] s0 cvIw (f_X7_book s0 x1 x2) := Ok.of (by decide) rfl (Nat.le_of_ble_eq_true rfl) (lv := [some (.ref ((Em g 1).1.1 7 0 0)), some (.int x1), some (.int x2)]) rfl (s_X7_book g s0 x1 x2)
theorem u_X7_book {α : Type} {cv : α → Res} {E : EE} {K : KK} {pc npc idx d : Nat} {lv : List (Option Value)} {st : List Value} {σ : Sto} {oc : Option (Int32 × Sto)} {kf : (Int32 × Sto) → Option α} {x1 : Int32} {x2 : Int32} (hOk : Ok E.1 yX7_book kX7_book d [.ref (E.1.1 7 0 0), .int x1, .int x2] σ cvIw oc) (hd : Dc K pc (.invokevirtual idx) 3 npc) (hlk : Cond.methodLink K.2.1 idx yX7_book ∈ lw_good) (hw : (st.map fun v => v.category).sum ≤ 8) (hfit : fits_ E d 3) (hrm : room_ok E) (kk : ∀ q : Int32 × Sto, Rf cv E K npc lv (.int q.1 :: st) q.2 (kf q)) : Rf cv E K pc lv (.int x2 :: .int x1 :: .ref (E.1.1 7 0 0) :: st) σ (oc.bind kf) := c_V (n := 2) (as := [.int x1, .int x2]) (c0 := 7) (i := 0) (CC := "ThawGives") (T := TX7) (N := 11) hd hOk hlk wi_X7_book wv_X7_book wn_X7 wc_X7_book rfl (by decide) (by decide) ⟨by decide, by decide, by decide⟩ rfl rfl hw hfit hrm (fun b _ => kk b)
