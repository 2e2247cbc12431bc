def f_X8_plan_L40 (s0 : Sto) (x1 : Int32) (x2 : Int32) : Option (Int32 × Sto) :=
  (if (s0.1 8 27 0) = 10 then
    some ((-4 : Int32), s0)
  else
    (if 0 ≤ (s0.1 8 27 0) ∧ (s0.1 8 27 0) < 10 then nm (sA s0 8 28 0 (upd (s0.2.1 8 28 0) (Int32.toNatClampNeg (s0.1 8 27 0)) x1)) fun s9 => nm (sF s9 8 27 0 ((s9.1 8 27 0) + 1)) fun s10 => (f_X8_within x1 1 2).bind fun q11 => (if q11 = 0 then
      (if 0 ≤ (s9.1 8 27 0) ∧ (s9.1 8 27 0) < 10 then nm (sA s10 8 29 0 (upd (s10.2.1 8 29 0) (Int32.toNatClampNeg (s9.1 8 27 0)) 0)) fun s15 => some ((s15.1 8 27 0), s15) else none)
    else
      (if 0 ≤ (s9.1 8 27 0) ∧ (s9.1 8 27 0) < 10 then nm (sA s10 8 29 0 (upd (s10.2.1 8 29 0) (Int32.toNatClampNeg (s9.1 8 27 0)) x2)) fun s18 => some ((s18.1 8 27 0), s18) else none)) else none))
def f_X8_plan (s0 : Sto) (x1 : Int32) (x2 : Int32) : Option (Int32 × Sto) :=
  (if x1 = (-1 : Int32) then
    nm (sF s0 8 27 0 0) fun s21 => some (0, s21)
  else
    (f_X8_within x1 0 3).bind fun q2 => (if q2 = 0 then
      some ((-1 : Int32), s0)
    else
      (f_X8_within x1 1 2).bind fun q4 => (if q4 = 0 then
        f_X8_plan_L40 s0 x1 x2
      else
        (f_X8_isOne s0 x2).bind fun q19 => (if q19 = 0 then
          some ((-1 : Int32), s0)
        else
          f_X8_plan_L40 s0 x1 x2))))
set_option maxRecDepth 100000 in
theorem s_X8_plan_L40 (g : Gm) (s0 : Sto) (x1 : Int32) (x2 : Int32) : Rf cvIw (Em g 2) kX8_plan 40 [some (.ref ((Em g 2).1.1 8 0 0)), some (.int x1), some (.int x2)] [] s0 (f_X8_plan_L40 s0 x1 x2) := by
  unfold f_X8_plan_L40
  refine r_aload_n dX8_plan_40 rfl ?_
  refine gf_X8_270 rfl dX8_plan_41 ?_
  refine r_bipush dX8_plan_44 cb_10 ?_
  refine r_icne dX8_plan_46 (tgt := 52) (by decide) (fun c6 => ?_) (fun c6 => ?_)
  · refine r_bipush dX8_plan_49 cb_m4 ?_
    exact r_iret dX8_plan_51 rfl rfl
  · refine r_aload_n dX8_plan_52 rfl ?_
    refine gf_X8_61 rfl dX8_plan_53 ?_
    refine r_aload_n dX8_plan_56 rfl ?_
    refine gf_X8_270 rfl dX8_plan_57 ?_
    refine r_iload_n dX8_plan_60 rfl ?_
    refine as_8_28 dX8_plan_61 (fun hg7 hj8 s9 => ?_)
    refine r_aload_n dX8_plan_62 rfl ?_
    refine gf_X8_64 rfl dX8_plan_63 ?_
    refine r_aload_n dX8_plan_66 rfl ?_
    refine r_dup dX8_plan_67 rfl ?_
    refine gf_X8_270 rfl dX8_plan_68 ?_
    refine r_dup_x1 dX8_plan_71 rfl rfl ?_
    refine r_iconst dX8_plan_72 ci_1 ?_
    refine r_iadd dX8_plan_73 ?_
    refine pf_X8_270 rfl dX8_plan_74 (fun s10 => ?_)
    refine r_iload_n dX8_plan_77 rfl ?_
    refine r_iconst dX8_plan_78 ci_1 ?_
    refine r_iconst dX8_plan_79 ci_2 ?_
    refine u_X8_within (ok_X8_within g s10 x1 1 2) dX8_plan_80 ml_X8_105 (Nat.le_of_ble_eq_true rfl) (fits_m (by decide) (by decide)) room_m (fun q11 => ?_)
    refine r_ifeq dX8_plan_83 (tgt := 90) (by decide) (fun c12 => ?_) (fun c12 => ?_)
    · refine r_iconst dX8_plan_90 ci_0 ?_
      refine as_8_29 dX8_plan_91 (fun hg13 hj14 s15 => ?_)
      refine r_aload_n dX8_plan_92 rfl ?_
      refine gf_X8_270 rfl dX8_plan_93 ?_
      exact r_iret dX8_plan_96 rfl rfl
    · refine r_iload_n dX8_plan_86 rfl ?_
      refine r_goto dX8_plan_87 (tgt := 91) (by decide) ?_
      refine as_8_29 dX8_plan_91 (fun hg16 hj17 s18 => ?_)
      refine r_aload_n dX8_plan_92 rfl ?_
      refine gf_X8_270 rfl dX8_plan_93 ?_
      exact r_iret dX8_plan_96 rfl rfl
set_option maxRecDepth 100000 in
theorem s_X8_plan (g : Gm) (s0 : Sto) (x1 : Int32) (x2 : Int32) : Rf cvIw (Em g 2) kX8_plan 0 [some (.ref ((Em g 2).1.1 8 0 0)), some (.int x1), some (.int x2)] [] s0 (f_X8_plan s0 x1 x2) := by
  unfold f_X8_plan
  refine r_iload_n dX8_plan_0 rfl ?_
  refine r_iconst dX8_plan_1 ci_m1 ?_
  refine r_icne dX8_plan_2 (tgt := 12) (by decide) (fun c1 => ?_) (fun c1 => ?_)
  · refine r_aload_n dX8_plan_5 rfl ?_
    refine r_iconst dX8_plan_6 ci_0 ?_
    refine pf_X8_270 rfl dX8_plan_7 (fun s21 => ?_)
    refine r_iconst dX8_plan_10 ci_0 ?_
    exact r_iret dX8_plan_11 rfl rfl
  · refine r_iload_n dX8_plan_12 rfl ?_
    refine r_iconst dX8_plan_13 ci_0 ?_
    refine r_iconst dX8_plan_14 ci_3 ?_
    refine u_X8_within (ok_X8_within g s0 x1 0 3) dX8_plan_15 ml_X8_105 (Nat.le_of_ble_eq_true rfl) (fits_m (by decide) (by decide)) room_m (fun q2 => ?_)
    refine r_ifeq dX8_plan_18 (tgt := 38) (by decide) (fun c3 => ?_) (fun c3 => ?_)
    · refine r_iconst dX8_plan_38 ci_m1 ?_
      exact r_iret dX8_plan_39 rfl rfl
    · refine r_iload_n dX8_plan_21 rfl ?_
      refine r_iconst dX8_plan_22 ci_1 ?_
      refine r_iconst dX8_plan_23 ci_2 ?_
      refine u_X8_within (ok_X8_within g s0 x1 1 2) dX8_plan_24 ml_X8_105 (Nat.le_of_ble_eq_true rfl) (fits_m (by decide) (by decide)) room_m (fun q4 => ?_)
      refine r_ifeq dX8_plan_27 (tgt := 40) (by decide) (fun c5 => ?_) (fun c5 => ?_)
      · exact r_mask [true, true, true] (s_X8_plan_L40 g s0 x1 x2)
      · refine r_aload_n dX8_plan_30 rfl ?_
        refine r_iload_n dX8_plan_31 rfl ?_
        refine u_X8_isOne (ok_X8_isOne g s0 x2) dX8_plan_32 ml_X8_109 (Nat.le_of_ble_eq_true rfl) (fits_m (by decide) (by decide)) room_m (fun q19 => ?_)
        refine r_ifne dX8_plan_35 (tgt := 40) (by decide) (fun c20 => ?_) (fun c20 => ?_)
        · refine r_iconst dX8_plan_38 ci_m1 ?_
          exact r_iret dX8_plan_39 rfl rfl
        · exact r_mask [true, true, true] (s_X8_plan_L40 g s0 x1 x2)
theorem ok_X8_plan (g : Gm) (s0 : Sto) (x1 : Int32) (x2 : Int32) : Ok g yX8_plan kX8_plan 2 [.ref ((Em g 2).1.1 8 0 0), .int x1, .int x2] s0 cvIw (f_X8_plan s0 x1 x2) := Ok.of (by decide) rfl (Nat.le_of_ble_eq_true rfl) (lv := [some (.ref ((Em g 2).1.1 8 0 0)), some (.int x1), some (.int x2)]) rfl (s_X8_plan g s0 x1 x2)
theorem u_X8_plan {α : Type} {cv : α → Res} {E : EE} {K : KK} {pc npc idx d : Nat} {lv : List (Option Value)} {st : List Value} {σ : Sto} {oc : Option (Int32 × Sto)} {kf : (Int32 × Sto) → Option α} {x1 : Int32} {x2 : Int32} (hOk : Ok E.1 yX8_plan kX8_plan d [.ref (E.1.1 8 0 0), .int x1, .int x2] σ cvIw oc) (hd : Dc K pc (.invokevirtual idx) 3 npc) (hlk : Cond.methodLink K.2.1 idx yX8_plan ∈ lw_good) (hw : (st.map fun v => v.category).sum ≤ 8) (hfit : fits_ E d 3) (hrm : room_ok E) (kk : ∀ q : Int32 × Sto, Rf cv E K npc lv (.int q.1 :: st) q.2 (kf q)) : Rf cv E K pc lv (.int x2 :: .int x1 :: .ref (E.1.1 8 0 0) :: st) σ (oc.bind kf) := c_V (n := 2) (as := [.int x1, .int x2]) (c0 := 8) (i := 0) (CC := "ThawGivesModel") (T := TX8) (N := 43) hd hOk hlk wi_X8_plan wv_X8_plan wn_X8 wc_X8_plan rfl (by decide) (by decide) ⟨by decide, by decide, by decide⟩ rfl rfl hw hfit hrm (fun b _ => kk b)
def f_X8_ends_L173 (s0 : Sto) (y0 : Int32) : Option (Int32 × Sto) :=
  (f_X8_again_38 s0).bind fun q7 => some (y0, q7)
def f_X8_ends_B107 (k21 : Sto → Int32 → Int32 → Option (Int32 × Sto)) (k107 : Sto → Int32 → Int32 → Int32 → Option (Int32 × Sto)) (s0 : Sto) (x1 : Int32) (x2 : Int32) (x4 : Int32) : Option (Int32 × Sto) :=
  (if (s0.1 8 0 0) ≤ x4 then
    nmI (x2 + 1) fun v22 => k21 s0 x1 v22
  else
    (if 0 ≤ x4 ∧ x4 < 6 then (if (s0.2.1 8 4 0 (Int32.toNatClampNeg x4)) ≤ 0 then
      nmI (x4 + 1) fun v26 => k107 s0 x1 x2 v26
    else
      (if 0 ≤ x4 ∧ x4 < 6 then (f_X8_held ((s0.2.1 8 4 0 (Int32.toNatClampNeg x4)) + 10)).bind fun q29 => (if 0 ≤ x4 ∧ x4 < 6 then nm (sA s0 8 4 0 (upd (s0.2.1 8 4 0) (Int32.toNatClampNeg x4) q29)) fun s32 => nmI (x4 + 1) fun v33 => k107 s32 x1 x2 v33 else none) else none)) else none))
def f_X8_ends_L107 (k21 : Sto → Int32 → Int32 → Option (Int32 × Sto)) : Nat → Sto → Int32 → Int32 → Int32 → Option (Int32 × Sto)
  | 0 => fun _ _ _ _ => none
  | n + 1 => f_X8_ends_B107 k21 (f_X8_ends_L107 k21 n)
def f_X8_ends_B21 (k21 : Sto → Int32 → Int32 → Option (Int32 × Sto)) (s0 : Sto) (x1 : Int32) (x2 : Int32) : Option (Int32 × Sto) :=
  (if (s0.1 8 27 0) ≤ x2 then
    (if x1 = 0 then
      (f_X8_allDepth s0).bind fun q8 => f_X8_ends_L173 s0 q8
    else
      (f_X8_outs s0).bind fun q6 => f_X8_ends_L173 s0 q6)
  else
    (if 0 ≤ x2 ∧ x2 < 10 then nmI ((s0.2.1 8 29 0 (Int32.toNatClampNeg x2))) fun v11 => (if 0 ≤ x2 ∧ x2 < 10 then (if (s0.2.1 8 28 0 (Int32.toNatClampNeg x2)) = 0 then
      (f_X8_goesWeek s0).bind fun q45 => nmI (x2 + 1) fun v46 => k21 q45 x1 v46
    else
      (if 0 ≤ x2 ∧ x2 < 10 then (if (s0.2.1 8 28 0 (Int32.toNatClampNeg x2)) = 1 then
        (if 0 ≤ v11 ∧ v11 < 6 then nm (sA s0 8 4 0 (upd (s0.2.1 8 4 0) (Int32.toNatClampNeg v11) 0)) fun s43 => nmI (x2 + 1) fun v44 => k21 s43 x1 v44 else none)
      else
        (if 0 ≤ x2 ∧ x2 < 10 then (if (s0.2.1 8 28 0 (Int32.toNatClampNeg x2)) = 2 then
          (if 0 ≤ v11 ∧ v11 < 6 then (f_J9_max_7cf53 0 ((s0.2.1 8 3 0 (Int32.toNatClampNeg v11)) - 10)).bind fun q36 => (if 0 ≤ v11 ∧ v11 < 6 then nm (sA s0 8 3 0 (upd (s0.2.1 8 3 0) (Int32.toNatClampNeg v11) q36)) fun s39 => nmI (x2 + 1) fun v40 => k21 s39 x1 v40 else none) else none)
        else
          f_X8_ends_L107 k21 1000 s0 x1 x2 0) else none)) else none)) else none) else none))
def f_X8_ends_L21 : Nat → Sto → Int32 → Int32 → Option (Int32 × Sto)
  | 0 => fun _ _ _ => none
  | n + 1 => f_X8_ends_B21 (f_X8_ends_L21 n)
def f_X8_ends (s0 : Sto) (x1 : Int32) : Option (Int32 × Sto) :=
  (f_X8_within x1 0 1).bind fun q1 => (if q1 = 0 then
    some ((-1 : Int32), s0)
  else
    (f_X8_keep_38 s0).bind fun q3 => f_X8_ends_L21 1000 q3 x1 0)
set_option maxRecDepth 100000 in
theorem s_X8_ends_L173 (g : Gm) (s0 : Sto) (y0 : Int32) : Rf cvIw (Em g 5) kX8_ends 173 [some (.ref ((Em g 5).1.1 8 0 0)), none, none, none, none] [.int y0] s0 (f_X8_ends_L173 s0 y0) := by
  unfold f_X8_ends_L173
  refine r_istore_n dX8_ends_173 rfl (lt_b rfl) (lt_b rfl) ?_
  refine r_aload_n dX8_ends_174 rfl ?_
  refine r_aload_n dX8_ends_175 rfl ?_
  refine gf_X8_79 rfl dX8_ends_176 ?_
  refine u_X8_again_38 (ok_X8_again_38 g s0) dX8_ends_179 ml_X8_233 (Nat.le_of_ble_eq_true rfl) (fits_m (by decide) (by decide)) room_m (fun q7 => ?_)
  refine r_iload_n dX8_ends_182 rfl ?_
  exact r_iret dX8_ends_183 rfl rfl
set_option maxRecDepth 100000 in
theorem s_X8_ends_B107 (g : Gm) (k21 : Sto → Int32 → Int32 → Option (Int32 × Sto)) (hk21 : ∀ (s0 : Sto) (x1 : Int32) (x2 : Int32), Rf cvIw (Em g 5) kX8_ends 21 [some (.ref ((Em g 5).1.1 8 0 0)), some (.int x1), some (.int x2), none, none] [] s0 (k21 s0 x1 x2)) (k107 : Sto → Int32 → Int32 → Int32 → Option (Int32 × Sto)) (hk107 : ∀ (s0 : Sto) (x1 : Int32) (x2 : Int32) (x4 : Int32), Rf cvIw (Em g 5) kX8_ends 107 [some (.ref ((Em g 5).1.1 8 0 0)), some (.int x1), some (.int x2), none, some (.int x4)] [] s0 (k107 s0 x1 x2 x4)) (s0 : Sto) (x1 : Int32) (x2 : Int32) (x4 : Int32) : Rf cvIw (Em g 5) kX8_ends 107 [some (.ref ((Em g 5).1.1 8 0 0)), some (.int x1), some (.int x2), none, some (.int x4)] [] s0 (f_X8_ends_B107 k21 k107 s0 x1 x2 x4) := by
  unfold f_X8_ends_B107
  refine r_iload dX8_ends_107 rfl ?_
  refine r_aload_n dX8_ends_109 rfl ?_
  refine gf_X8_102 rfl dX8_ends_110 ?_
  refine r_icge dX8_ends_113 (tgt := 152) (by decide) (fun c21 => ?_) (fun c21 => ?_)
  · refine r_iincN dX8_ends_152 rfl ci_1 rfl (lt_b rfl) (fun v22 => ?_)
    refine r_goto dX8_ends_155 (tgt := 21) (by decide) ?_
    exact r_mask [true, true, true, false, false] (hk21 s0 x1 v22)
  · refine r_aload_n dX8_ends_116 rfl ?_
    refine gf_X8_21 rfl dX8_ends_117 ?_
    refine r_iload dX8_ends_120 rfl ?_
    refine al_8_4 dX8_ends_122 (fun hg23 hj24 => ?_)
    refine r_ifle dX8_ends_123 (tgt := 146) (by decide) (fun c25 => ?_) (fun c25 => ?_)
    · refine r_iincN dX8_ends_146 rfl ci_1 rfl (lt_b rfl) (fun v26 => ?_)
      refine r_goto dX8_ends_149 (tgt := 107) (by decide) ?_
      exact r_mask [true, true, true, false, true] (hk107 s0 x1 x2 v26)
    · refine r_aload_n dX8_ends_126 rfl ?_
      refine gf_X8_21 rfl dX8_ends_127 ?_
      refine r_iload dX8_ends_130 rfl ?_
      refine r_aload_n dX8_ends_132 rfl ?_
      refine gf_X8_21 rfl dX8_ends_133 ?_
      refine r_iload dX8_ends_136 rfl ?_
      refine al_8_4 dX8_ends_138 (fun hg27 hj28 => ?_)
      refine r_bipush dX8_ends_139 cb_10 ?_
      refine r_iadd dX8_ends_141 ?_
      refine u_X8_held (ok_X8_held g s0 ((s0.2.1 8 4 0 (Int32.toNatClampNeg x4)) + 10)) dX8_ends_142 ml_X8_223 (Nat.le_of_ble_eq_true rfl) (fits_m (by decide) (by decide)) room_m (fun q29 => ?_)
      refine as_8_4 dX8_ends_145 (fun hg30 hj31 s32 => ?_)
      refine r_iincN dX8_ends_146 rfl ci_1 rfl (lt_b rfl) (fun v33 => ?_)
      refine r_goto dX8_ends_149 (tgt := 107) (by decide) ?_
      exact r_mask [true, true, true, false, true] (hk107 s32 x1 x2 v33)
theorem s_X8_ends_L107 (g : Gm) (k21 : Sto → Int32 → Int32 → Option (Int32 × Sto)) (hk21 : ∀ (s0 : Sto) (x1 : Int32) (x2 : Int32), Rf cvIw (Em g 5) kX8_ends 21 [some (.ref ((Em g 5).1.1 8 0 0)), some (.int x1), some (.int x2), none, none] [] s0 (k21 s0 x1 x2)) : ∀ (n : Nat) (s0 : Sto) (x1 : Int32) (x2 : Int32) (x4 : Int32), Rf cvIw (Em g 5) kX8_ends 107 [some (.ref ((Em g 5).1.1 8 0 0)), some (.int x1), some (.int x2), none, some (.int x4)] [] s0 (f_X8_ends_L107 k21 n s0 x1 x2 x4)
  | 0, _, _, _, _ => r_none
  | n + 1, s0, x1, x2, x4 => s_X8_ends_B107 g k21 hk21 (f_X8_ends_L107 k21 n) (s_X8_ends_L107 g k21 hk21 n) s0 x1 x2 x4
set_option maxRecDepth 100000 in
theorem s_X8_ends_B21 (g : Gm) (k21 : Sto → Int32 → Int32 → Option (Int32 × Sto)) (hk21 : ∀ (s0 : Sto) (x1 : Int32) (x2 : Int32), Rf cvIw (Em g 5) kX8_ends 21 [some (.ref ((Em g 5).1.1 8 0 0)), some (.int x1), some (.int x2), none, none] [] s0 (k21 s0 x1 x2)) (s0 : Sto) (x1 : Int32) (x2 : Int32) : Rf cvIw (Em g 5) kX8_ends 21 [some (.ref ((Em g 5).1.1 8 0 0)), some (.int x1), some (.int x2), none, none] [] s0 (f_X8_ends_B21 k21 s0 x1 x2) := by
  unfold f_X8_ends_B21
  refine r_iload_n dX8_ends_21 rfl ?_
  refine r_aload_n dX8_ends_22 rfl ?_
  refine gf_X8_270 rfl dX8_ends_23 ?_
  refine r_icge dX8_ends_26 (tgt := 158) (by decide) (fun c4 => ?_) (fun c4 => ?_)
  · refine r_iload_n dX8_ends_158 rfl ?_
    refine r_ifne dX8_ends_159 (tgt := 169) (by decide) (fun c5 => ?_) (fun c5 => ?_)
    · refine r_aload_n dX8_ends_162 rfl ?_
      refine u_X8_allDepth (ok_X8_allDepth g s0) dX8_ends_163 ml_X8_242 (Nat.le_of_ble_eq_true rfl) (fits_m (by decide) (by decide)) room_m (fun q8 => ?_)
      refine r_goto dX8_ends_166 (tgt := 173) (by decide) ?_
      exact r_mask [true, false, false, false, false] (s_X8_ends_L173 g s0 q8)
    · refine r_aload_n dX8_ends_169 rfl ?_
      refine u_X8_outs (ok_X8_outs g s0) dX8_ends_170 ml_X8_239 (Nat.le_of_ble_eq_true rfl) (fits_m (by decide) (by decide)) room_m (fun q6 => ?_)
      exact r_mask [true, false, false, false, false] (s_X8_ends_L173 g s0 q6)
  · refine r_aload_n dX8_ends_29 rfl ?_
    refine gf_X8_64 rfl dX8_ends_30 ?_
    refine r_iload_n dX8_ends_33 rfl ?_
    refine al_8_29 dX8_ends_34 (fun hg9 hj10 => ?_)
    refine r_istore_nN dX8_ends_35 rfl (lt_b rfl) (lt_b rfl) (fun v11 => ?_)
    refine r_aload_n dX8_ends_36 rfl ?_
    refine gf_X8_61 rfl dX8_ends_37 ?_
    refine r_iload_n dX8_ends_40 rfl ?_
    refine al_8_28 dX8_ends_41 (fun hg12 hj13 => ?_)
    refine r_ifne dX8_ends_42 (tgt := 52) (by decide) (fun c14 => ?_) (fun c14 => ?_)
    · refine r_aload_n dX8_ends_45 rfl ?_
      refine u_X8_goesWeek (ok_X8_goesWeek g s0) dX8_ends_46 ml_X8_226 (Nat.le_of_ble_eq_true rfl) (fits_m (by decide) (by decide)) room_m (fun q45 => ?_)
      refine r_goto dX8_ends_49 (tgt := 152) (by decide) ?_
      refine r_iincN dX8_ends_152 rfl ci_1 rfl (lt_b rfl) (fun v46 => ?_)
      refine r_goto dX8_ends_155 (tgt := 21) (by decide) ?_
      exact r_mask [true, true, true, false, false] (hk21 q45 x1 v46)
    · refine r_aload_n dX8_ends_52 rfl ?_
      refine gf_X8_61 rfl dX8_ends_53 ?_
      refine r_iload_n dX8_ends_56 rfl ?_
      refine al_8_28 dX8_ends_57 (fun hg15 hj16 => ?_)
      refine r_iconst dX8_ends_58 ci_1 ?_
      refine r_icne dX8_ends_59 (tgt := 72) (by decide) (fun c17 => ?_) (fun c17 => ?_)
      · refine r_aload_n dX8_ends_62 rfl ?_
        refine gf_X8_21 rfl dX8_ends_63 ?_
        refine r_iload_n dX8_ends_66 rfl ?_
        refine r_iconst dX8_ends_67 ci_0 ?_
        refine as_8_4 dX8_ends_68 (fun hg41 hj42 s43 => ?_)
        refine r_goto dX8_ends_69 (tgt := 152) (by decide) ?_
        refine r_iincN dX8_ends_152 rfl ci_1 rfl (lt_b rfl) (fun v44 => ?_)
        refine r_goto dX8_ends_155 (tgt := 21) (by decide) ?_
        exact r_mask [true, true, true, false, false] (hk21 s43 x1 v44)
      · refine r_aload_n dX8_ends_72 rfl ?_
        refine gf_X8_61 rfl dX8_ends_73 ?_
        refine r_iload_n dX8_ends_76 rfl ?_
        refine al_8_28 dX8_ends_77 (fun hg18 hj19 => ?_)
        refine r_iconst dX8_ends_78 ci_2 ?_
        refine r_icne dX8_ends_79 (tgt := 104) (by decide) (fun c20 => ?_) (fun c20 => ?_)
        · refine r_aload_n dX8_ends_82 rfl ?_
          refine gf_X8_18 rfl dX8_ends_83 ?_
          refine r_iload_n dX8_ends_86 rfl ?_
          refine r_iconst dX8_ends_87 ci_0 ?_
          refine r_aload_n dX8_ends_88 rfl ?_
          refine gf_X8_18 rfl dX8_ends_89 ?_
          refine r_iload_n dX8_ends_92 rfl ?_
          refine al_8_3 dX8_ends_93 (fun hg34 hj35 => ?_)
          refine r_bipush dX8_ends_94 cb_10 ?_
          refine r_isub dX8_ends_96 ?_
          refine u_J9_max_7cf53 (ok_J9_max_7cf53 g s0 0 ((s0.2.1 8 3 0 (Int32.toNatClampNeg v11)) - 10)) dX8_ends_97 ml_X8_217 (Nat.le_of_ble_eq_true rfl) (fits_m (by decide) (by decide)) room_m (fun q36 => ?_)
          refine as_8_3 dX8_ends_100 (fun hg37 hj38 s39 => ?_)
          refine r_goto dX8_ends_101 (tgt := 152) (by decide) ?_
          refine r_iincN dX8_ends_152 rfl ci_1 rfl (lt_b rfl) (fun v40 => ?_)
          refine r_goto dX8_ends_155 (tgt := 21) (by decide) ?_
          exact r_mask [true, true, true, false, false] (hk21 s39 x1 v40)
        · refine r_iconst dX8_ends_104 ci_0 ?_
          refine r_istore dX8_ends_105 rfl (lt_b rfl) (lt_b rfl) ?_
          exact r_mask [true, true, true, false, true] (s_X8_ends_L107 g k21 hk21 1000 s0 x1 x2 0)
theorem s_X8_ends_L21 (g : Gm) : ∀ (n : Nat) (s0 : Sto) (x1 : Int32) (x2 : Int32), Rf cvIw (Em g 5) kX8_ends 21 [some (.ref ((Em g 5).1.1 8 0 0)), some (.int x1), some (.int x2), none, none] [] s0 (f_X8_ends_L21 n s0 x1 x2)
  | 0, _, _, _ => r_none
  | n + 1, s0, x1, x2 => s_X8_ends_B21 g (f_X8_ends_L21 n) (s_X8_ends_L21 g n) s0 x1 x2
set_option maxRecDepth 100000 in
theorem s_X8_ends (g : Gm) (s0 : Sto) (x1 : Int32) : Rf cvIw (Em g 5) kX8_ends 0 [some (.ref ((Em g 5).1.1 8 0 0)), some (.int x1), none, none, none] [] s0 (f_X8_ends s0 x1) := by
  unfold f_X8_ends
  refine r_iload_n dX8_ends_0 rfl ?_
  refine r_iconst dX8_ends_1 ci_0 ?_
  refine r_iconst dX8_ends_2 ci_1 ?_
  refine u_X8_within (ok_X8_within g s0 x1 0 1) dX8_ends_3 ml_X8_105 (Nat.le_of_ble_eq_true rfl) (fits_m (by decide) (by decide)) room_m (fun q1 => ?_)
  refine r_ifne dX8_ends_6 (tgt := 11) (by decide) (fun c2 => ?_) (fun c2 => ?_)
  · refine r_iconst dX8_ends_9 ci_m1 ?_
    exact r_iret dX8_ends_10 rfl rfl
  · refine r_aload_n dX8_ends_11 rfl ?_
    refine r_aload_n dX8_ends_12 rfl ?_
    refine gf_X8_79 rfl dX8_ends_13 ?_
    refine u_X8_keep_38 (ok_X8_keep_38 g s0) dX8_ends_16 ml_X8_229 (Nat.le_of_ble_eq_true rfl) (fits_m (by decide) (by decide)) room_m (fun q3 => ?_)
    refine r_iconst dX8_ends_19 ci_0 ?_
    refine r_istore_n dX8_ends_20 rfl (lt_b rfl) (lt_b rfl) ?_
    exact r_mask [true, true, true, false, false] (s_X8_ends_L21 g 1000 q3 x1 0)
theorem ok_X8_ends (g : Gm) (s0 : Sto) (x1 : Int32) : Ok g yX8_ends kX8_ends 5 [.ref ((Em g 5).1.1 8 0 0), .int x1] s0 cvIw (f_X8_ends s0 x1) := Ok.of (by decide) rfl (Nat.le_of_ble_eq_true rfl) (lv := [some (.ref ((Em g 5).1.1 8 0 0)), some (.int x1), none, none, none]) rfl (s_X8_ends g s0 x1)
theorem u_X8_ends {α : Type} {cv : α → Res} {E : EE} {K : KK} {pc npc idx d : Nat} {lv : List (Option Value)} {st : List Value} {σ : Sto} {oc : Option (Int32 × Sto)} {kf : (Int32 × Sto) → Option α} {x1 : Int32} (hOk : Ok E.1 yX8_ends kX8_ends d [.ref (E.1.1 8 0 0), .int x1] σ cvIw oc) (hd : Dc K pc (.invokevirtual idx) 3 npc) (hlk : Cond.methodLink K.2.1 idx yX8_ends ∈ lw_good) (hw : (st.map fun v => v.category).sum ≤ 8) (hfit : fits_ E d 5) (hrm : room_ok E) (kk : ∀ q : Int32 × Sto, Rf cv E K npc lv (.int q.1 :: st) q.2 (kf q)) : Rf cv E K pc lv (.int x1 :: .ref (E.1.1 8 0 0) :: st) σ (oc.bind kf) := c_V (n := 1) (as := [.int x1]) (c0 := 8) (i := 0) (CC := "ThawGivesModel") (T := TX8) (N := 43) hd hOk hlk wi_X8_ends wv_X8_ends wn_X8 wc_X8_ends rfl (by decide) (by decide) ⟨by decide, by decide, by decide⟩ rfl rfl hw hfit hrm (fun b _ => kk b)
def f_X8_book (s0 : Sto) (x1 : Int32) (x2 : Int32) : Option (Int32 × Sto) :=
  (if x1 = (-1 : Int32) then
    nm (sF s0 8 30 0 0) fun s14 => some (0, s14)
  else
    (f_X8_isOne s0 x1).bind fun q2 => (if q2 = 0 then
      some ((-1 : Int32), s0)
    else
      (f_X8_within x2 0 99).bind fun q4 => (if q4 = 0 then
        some ((-2 : Int32), s0)
      else
        (if (s0.1 8 30 0) = 8 then
          some ((-4 : Int32), s0)
        else
          (if 0 ≤ (s0.1 8 30 0) ∧ (s0.1 8 30 0) < 8 then nm (sA s0 8 31 0 (upd (s0.2.1 8 31 0) (Int32.toNatClampNeg (s0.1 8 30 0)) x1)) fun s9 => nm (sF s9 8 30 0 ((s9.1 8 30 0) + 1)) fun s10 => (if 0 ≤ (s9.1 8 30 0) ∧ (s9.1 8 30 0) < 8 then nm (sA s10 8 32 0 (upd (s10.2.1 8 32 0) (Int32.toNatClampNeg (s9.1 8 30 0)) x2)) fun s13 => some ((s13.1 8 30 0), s13) else none) else none)))))
set_option maxRecDepth 100000 in
theorem s_X8_book (g : Gm) (s0 : Sto) (x1 : Int32) (x2 : Int32) : Rf cvIw (Em g 2) kX8_book 0 [some (.ref ((Em g 2).1.1 8 0 0)), some (.int x1), some (.int x2)] [] s0 (f_X8_book s0 x1 x2) := by
  unfold f_X8_book
  refine r_iload_n dX8_book_0 rfl ?_
  refine r_iconst dX8_book_1 ci_m1 ?_
  refine r_icne dX8_book_2 (tgt := 12) (by decide) (fun c1 => ?_) (fun c1 => ?_)
  · refine r_aload_n dX8_book_5 rfl ?_
    refine r_iconst dX8_book_6 ci_0 ?_
    refine pf_X8_273 rfl dX8_book_7 (fun s14 => ?_)
    refine r_iconst dX8_book_10 ci_0 ?_
    exact r_iret dX8_book_11 rfl rfl
  · refine r_aload_n dX8_book_12 rfl ?_
    refine r_iload_n dX8_book_13 rfl ?_
    refine u_X8_isOne (ok_X8_isOne g s0 x1) dX8_book_14 ml_X8_109 (Nat.le_of_ble_eq_true rfl) (fits_m (by decide) (by decide)) room_m (fun q2 => ?_)
    refine r_ifne dX8_book_17 (tgt := 22) (by decide) (fun c3 => ?_) (fun c3 => ?_)
    · refine r_iconst dX8_book_20 ci_m1 ?_
      exact r_iret dX8_book_21 rfl rfl
    · refine r_iload_n dX8_book_22 rfl ?_
      refine r_iconst dX8_book_23 ci_0 ?_
      refine r_bipush dX8_book_24 cb_99 ?_
      refine u_X8_within (ok_X8_within g s0 x2 0 99) dX8_book_26 ml_X8_105 (Nat.le_of_ble_eq_true rfl) (fits_m (by decide) (by decide)) room_m (fun q4 => ?_)
      refine r_ifne dX8_book_29 (tgt := 35) (by decide) (fun c5 => ?_) (fun c5 => ?_)
      · refine r_bipush dX8_book_32 cb_m2 ?_
        exact r_iret dX8_book_34 rfl rfl
      · refine r_aload_n dX8_book_35 rfl ?_
        refine gf_X8_273 rfl dX8_book_36 ?_
        refine r_bipush dX8_book_39 cb_8 ?_
        refine r_icne dX8_book_41 (tgt := 47) (by decide) (fun c6 => ?_) (fun c6 => ?_)
        · refine r_bipush dX8_book_44 cb_m4 ?_
          exact r_iret dX8_book_46 rfl rfl
        · refine r_aload_n dX8_book_47 rfl ?_
          refine gf_X8_67 rfl dX8_book_48 ?_
          refine r_aload_n dX8_book_51 rfl ?_
          refine gf_X8_273 rfl dX8_book_52 ?_
          refine r_iload_n dX8_book_55 rfl ?_
          refine as_8_31 dX8_book_56 (fun hg7 hj8 s9 => ?_)
          refine r_aload_n dX8_book_57 rfl ?_
          refine gf_X8_70 rfl dX8_book_58 ?_
          refine r_aload_n dX8_book_61 rfl ?_
          refine r_dup dX8_book_62 rfl ?_
          refine gf_X8_273 rfl dX8_book_63 ?_
          refine r_dup_x1 dX8_book_66 rfl rfl ?_
          refine r_iconst dX8_book_67 ci_1 ?_
          refine r_iadd dX8_book_68 ?_
          refine pf_X8_273 rfl dX8_book_69 (fun s10 => ?_)
          refine r_iload_n dX8_book_72 rfl ?_
          refine as_8_32 dX8_book_73 (fun hg11 hj12 s13 => ?_)
          refine r_aload_n dX8_book_74 rfl ?_
          refine gf_X8_273 rfl dX8_book_75 ?_
          exact r_iret dX8_book_78 rfl rfl
theorem ok_X8_book (g : Gm) (s0 : Sto) (x1 : Int32) (x2 : Int32) : Ok g yX8_book kX8_book 2 [.ref ((Em g 2).1.1 8 0 0), .int x1, .int x2] s0 cvIw (f_X8_book s0 x1 x2) := Ok.of (by decide) rfl (Nat.le_of_ble_eq_true rfl) (lv := [some (.ref ((Em g 2).1.1 8 0 0)), some (.int x1), some (.int x2)]) rfl (s_X8_book g s0 x1 x2)
theorem u_X8_book {α : Type} {cv : α → Res} {E : EE} {K : KK} {pc npc idx d : Nat} {lv : List (Option Value)} {st : List Value} {σ : Sto} {oc : Option (Int32 × Sto)} {kf : (Int32 × Sto) → Option α} {x1 : Int32} {x2 : Int32} (hOk : Ok E.1 yX8_book kX8_book d [.ref (E.1.1 8 0 0), .int x1, .int x2] σ cvIw oc) (hd : Dc K pc (.invokevirtual idx) 3 npc) (hlk : Cond.methodLink K.2.1 idx yX8_book ∈ lw_good) (hw : (st.map fun v => v.category).sum ≤ 8) (hfit : fits_ E d 3) (hrm : room_ok E) (kk : ∀ q : Int32 × Sto, Rf cv E K npc lv (.int q.1 :: st) q.2 (kf q)) : Rf cv E K pc lv (.int x2 :: .int x1 :: .ref (E.1.1 8 0 0) :: st) σ (oc.bind kf) := c_V (n := 2) (as := [.int x1, .int x2]) (c0 := 8) (i := 0) (CC := "ThawGivesModel") (T := TX8) (N := 43) hd hOk hlk wi_X8_book wv_X8_book wn_X8 wc_X8_book rfl (by decide) (by decide) ⟨by decide, by decide, by decide⟩ rfl rfl hw hfit hrm (fun b _ => kk b)
def f_X8_looked_B2 (s0 : Sto) (k2 : Int32 → Option (Int32)) (x1 : Int32) : Option (Int32) :=
  (if (s0.1 8 30 0) ≤ x1 then
    some (-5 : Int32)
  else
    (if 0 ≤ x1 ∧ x1 < 8 then (if 0 ≤ (s0.2.1 8 31 0 (Int32.toNatClampNeg x1)) ∧ (s0.2.1 8 31 0 (Int32.toNatClampNeg x1)) < 6 then (if 0 ≤ x1 ∧ x1 < 8 then (if (s0.2.1 8 4 0 (Int32.toNatClampNeg (s0.2.1 8 31 0 (Int32.toNatClampNeg x1)))) = (s0.2.1 8 32 0 (Int32.toNatClampNeg x1)) then
      nmI (x1 + 1) fun v9 => k2 v9
    else
      some x1) else none) else none) else none))
def f_X8_looked_L2 (s0 : Sto) : Nat → Int32 → Option (Int32)
  | 0 => fun _ => none
  | n + 1 => f_X8_looked_B2 s0 (f_X8_looked_L2 s0 n)
def f_X8_looked (s0 : Sto) : Option (Int32) :=
  f_X8_looked_L2 s0 1000 0
set_option maxRecDepth 100000 in
theorem s_X8_looked_B2 (g : Gm) (s0 : Sto) (k2 : Int32 → Option (Int32)) (hk2 : ∀ (x1 : Int32), Rf (cvI s0) (Em g 0) kX8_looked 2 [some (.ref ((Em g 0).1.1 8 0 0)), some (.int x1)] [] s0 (k2 x1)) (x1 : Int32) : Rf (cvI s0) (Em g 0) kX8_looked 2 [some (.ref ((Em g 0).1.1 8 0 0)), some (.int x1)] [] s0 (f_X8_looked_B2 s0 k2 x1) := by
  unfold f_X8_looked_B2
  refine r_iload_n dX8_looked_2 rfl ?_
  refine r_aload_n dX8_looked_3 rfl ?_
  refine gf_X8_273 rfl dX8_looked_4 ?_
  refine r_icge dX8_looked_7 (tgt := 38) (by decide) (fun c1 => ?_) (fun c1 => ?_)
  · refine r_bipush dX8_looked_38 cb_m5 ?_
    exact r_iret dX8_looked_40 rfl rfl
  · refine r_aload_n dX8_looked_10 rfl ?_
    refine gf_X8_21 rfl dX8_looked_11 ?_
    refine r_aload_n dX8_looked_14 rfl ?_
    refine gf_X8_67 rfl dX8_looked_15 ?_
    refine r_iload_n dX8_looked_18 rfl ?_
    refine al_8_31 dX8_looked_19 (fun hg2 hj3 => ?_)
    refine al_8_4 dX8_looked_20 (fun hg4 hj5 => ?_)
    refine r_aload_n dX8_looked_21 rfl ?_
    refine gf_X8_70 rfl dX8_looked_22 ?_
    refine r_iload_n dX8_looked_25 rfl ?_
    refine al_8_32 dX8_looked_26 (fun hg6 hj7 => ?_)
    refine r_iceq dX8_looked_27 (tgt := 32) (by decide) (fun c8 => ?_) (fun c8 => ?_)
    · refine r_iincN dX8_looked_32 rfl ci_1 rfl (lt_b rfl) (fun v9 => ?_)
      refine r_goto dX8_looked_35 (tgt := 2) (by decide) ?_
      exact r_mask [true, true] (hk2 v9)
    · refine r_iload_n dX8_looked_30 rfl ?_
      exact r_iret dX8_looked_31 rfl rfl
theorem s_X8_looked_L2 (g : Gm) (s0 : Sto) : ∀ (n : Nat) (x1 : Int32), Rf (cvI s0) (Em g 0) kX8_looked 2 [some (.ref ((Em g 0).1.1 8 0 0)), some (.int x1)] [] s0 (f_X8_looked_L2 s0 n x1)
  | 0, _ => r_none
  | n + 1, x1 => s_X8_looked_B2 g s0 (f_X8_looked_L2 s0 n) (s_X8_looked_L2 g s0 n) x1
set_option maxRecDepth 100000 in
theorem s_X8_looked (g : Gm) (s0 : Sto) : Rf (cvI s0) (Em g 0) kX8_looked 0 [some (.ref ((Em g 0).1.1 8 0 0)), none] [] s0 (f_X8_looked s0) := by
  unfold f_X8_looked
  refine r_iconst dX8_looked_0 ci_0 ?_
  refine r_istore_n dX8_looked_1 rfl (lt_b rfl) (lt_b rfl) ?_
  exact r_mask [true, true] (s_X8_looked_L2 g s0 1000 0)
theorem ok_X8_looked (g : Gm) (s0 : Sto) : Ok g yX8_looked kX8_looked 0 [.ref ((Em g 0).1.1 8 0 0)] s0 (cvI s0) (f_X8_looked s0) := Ok.of (by decide) rfl (Nat.le_of_ble_eq_true rfl) (lv := [some (.ref ((Em g 0).1.1 8 0 0)), none]) rfl (s_X8_looked g s0)
theorem u_X8_looked {α : Type} {cv : α → Res} {E : EE} {K : KK} {pc npc idx d : Nat} {lv : List (Option Value)} {st : List Value} {σ : Sto} {oc : Option (Int32)} {kf : Int32 → Option α} (hOk : Ok E.1 yX8_looked kX8_looked d [.ref (E.1.1 8 0 0)] σ (cvI σ) oc) (hd : Dc K pc (.invokevirtual idx) 3 npc) (hlk : Cond.methodLink K.2.1 idx yX8_looked ∈ lw_good) (hw : (st.map fun v => v.category).sum ≤ 8) (hfit : fits_ E d 2) (hrm : room_ok E) (kk : ∀ q : Int32, Rf cv E K npc lv (.int q :: st) σ (kf q)) : Rf cv E K pc lv (.ref (E.1.1 8 0 0) :: st) σ (oc.bind kf) := c_V (n := 0) (as := []) (c0 := 8) (i := 0) (CC := "ThawGivesModel") (T := TX8) (N := 43) hd hOk hlk wi_X8_looked wv_X8_looked wn_X8 wc_X8_looked rfl (by decide) (by decide) ⟨by decide, by decide, by decide⟩ rfl rfl hw hfit hrm (fun b _ => kk b)
def f_X8_judge_B35 (s0 : Sto) (k35 : Int32 → Int32 → Int32 → Option (Int32)) (x1 : Int32) (x2 : Int32) (x3 : Int32) : Option (Int32) :=
  (if (s0.1 8 0 0) ≤ x3 then
    some (-5 : Int32)
  else
    (if 0 ≤ x1 ∧ x1 < 6 then (if (s0.2.1 8 40 0 (Int32.toNatClampNeg x1)) = (-1 : Int32) then
      some (100 + x3)
    else
      (if x2 < 0 then
        some (100 + x3)
      else
        (if 0 ≤ x1 ∧ x1 < 6 then (if (lg_cmp ((Int32.toInt64 x2) + (Int32.toInt64 x3)) (Int32.toInt64 (s0.2.1 8 41 0 (Int32.toNatClampNeg x1)))) < 0 then
          (if 0 ≤ (((60 * x1) + x2) + x3) ∧ (((60 * x1) + x2) + x3) < 360 then (if 0 ≤ x3 ∧ x3 < 6 then (if (lg_cmp (s0.2.2.1 8 42 0 (Int32.toNatClampNeg (((60 * x1) + x2) + x3))) (Int32.toInt64 (s0.2.1 8 4 0 (Int32.toNatClampNeg x3)))) = 0 then
            nmI (x3 + 1) fun v19 => k35 x1 x2 v19
          else
            some x3) else none) else none)
        else
          some (100 + x3)) else none))) else none))
def f_X8_judge_L35 (s0 : Sto) : Nat → Int32 → Int32 → Int32 → Option (Int32)
  | 0 => fun _ _ _ => none
  | n + 1 => f_X8_judge_B35 s0 (f_X8_judge_L35 s0 n)
def f_X8_judge (s0 : Sto) (x1 : Int32) (x2 : Int32) : Option (Int32) :=
  (f_X8_within x1 0 5).bind fun q1 => (if q1 = 0 then
    some (-1 : Int32)
  else
    (if 0 ≤ x1 ∧ x1 < 6 then (if (s0.2.1 8 40 0 (Int32.toNatClampNeg x1)) = (-1 : Int32) then
      f_X8_judge_L35 s0 1000 x1 x2 0
    else
      (if 0 ≤ x1 ∧ x1 < 6 then (if (s0.2.1 8 40 0 (Int32.toNatClampNeg x1)) = 0 then
        f_X8_judge_L35 s0 1000 x1 x2 0
      else
        some (-12 : Int32)) else none)) else none))
set_option maxRecDepth 100000 in
theorem s_X8_judge_B35 (g : Gm) (s0 : Sto) (k35 : Int32 → Int32 → Int32 → Option (Int32)) (hk35 : ∀ (x1 : Int32) (x2 : Int32) (x3 : Int32), Rf (cvI s0) (Em g 1) kX8_judge 35 [some (.ref ((Em g 1).1.1 8 0 0)), some (.int x1), some (.int x2), some (.int x3)] [] s0 (k35 x1 x2 x3)) (x1 : Int32) (x2 : Int32) (x3 : Int32) : Rf (cvI s0) (Em g 1) kX8_judge 35 [some (.ref ((Em g 1).1.1 8 0 0)), some (.int x1), some (.int x2), some (.int x3)] [] s0 (f_X8_judge_B35 s0 k35 x1 x2 x3) := by
  unfold f_X8_judge_B35
  refine r_iload_n dX8_judge_35 rfl ?_
  refine r_aload_n dX8_judge_36 rfl ?_
  refine gf_X8_102 rfl dX8_judge_37 ?_
  refine r_icge dX8_judge_40 (tgt := 110) (by decide) (fun c6 => ?_) (fun c6 => ?_)
  · refine r_bipush dX8_judge_110 cb_m5 ?_
    exact r_iret dX8_judge_112 rfl rfl
  · refine r_aload_n dX8_judge_43 rfl ?_
    refine gf_X8_88 rfl dX8_judge_44 ?_
    refine r_iload_n dX8_judge_47 rfl ?_
    refine al_8_40 dX8_judge_48 (fun hg7 hj8 => ?_)
    refine r_iconst dX8_judge_49 ci_m1 ?_
    refine r_iceq dX8_judge_50 (tgt := 73) (by decide) (fun c9 => ?_) (fun c9 => ?_)
    · refine r_bipush dX8_judge_73 cb_100 ?_
      refine r_iload_n dX8_judge_75 rfl ?_
      refine r_iadd dX8_judge_76 ?_
      exact r_iret dX8_judge_77 rfl rfl
    · refine r_iload_n dX8_judge_53 rfl ?_
      refine r_iflt dX8_judge_54 (tgt := 73) (by decide) (fun c10 => ?_) (fun c10 => ?_)
      · refine r_bipush dX8_judge_73 cb_100 ?_
        refine r_iload_n dX8_judge_75 rfl ?_
        refine r_iadd dX8_judge_76 ?_
        exact r_iret dX8_judge_77 rfl rfl
      · refine r_iload_n dX8_judge_57 rfl ?_
        refine r_i2l dX8_judge_58 ?_
        refine r_iload_n dX8_judge_59 rfl ?_
        refine r_i2l dX8_judge_60 ?_
        refine r_ladd dX8_judge_61 ?_
        refine r_aload_n dX8_judge_62 rfl ?_
        refine gf_X8_91 rfl dX8_judge_63 ?_
        refine r_iload_n dX8_judge_66 rfl ?_
        refine al_8_41 dX8_judge_67 (fun hg11 hj12 => ?_)
        refine r_i2l dX8_judge_68 ?_
        refine r_lcmp dX8_judge_69 ?_
        refine r_iflt dX8_judge_70 (tgt := 78) (by decide) (fun c13 => ?_) (fun c13 => ?_)
        · refine r_aload_n dX8_judge_78 rfl ?_
          refine gf_X8_94 rfl dX8_judge_79 ?_
          refine r_bipush dX8_judge_82 cb_60 ?_
          refine r_iload_n dX8_judge_84 rfl ?_
          refine r_imul dX8_judge_85 ?_
          refine r_iload_n dX8_judge_86 rfl ?_
          refine r_iadd dX8_judge_87 ?_
          refine r_iload_n dX8_judge_88 rfl ?_
          refine r_iadd dX8_judge_89 ?_
          refine al_8_42 dX8_judge_90 (fun hg14 hj15 => ?_)
          refine r_aload_n dX8_judge_91 rfl ?_
          refine gf_X8_21 rfl dX8_judge_92 ?_
          refine r_iload_n dX8_judge_95 rfl ?_
          refine al_8_4 dX8_judge_96 (fun hg16 hj17 => ?_)
          refine r_i2l dX8_judge_97 ?_
          refine r_lcmp dX8_judge_98 ?_
          refine r_ifeq dX8_judge_99 (tgt := 104) (by decide) (fun c18 => ?_) (fun c18 => ?_)
          · refine r_iincN dX8_judge_104 rfl ci_1 rfl (lt_b rfl) (fun v19 => ?_)
            refine r_goto dX8_judge_107 (tgt := 35) (by decide) ?_
            exact r_mask [true, true, true, true] (hk35 x1 x2 v19)
          · refine r_iload_n dX8_judge_102 rfl ?_
            exact r_iret dX8_judge_103 rfl rfl
        · refine r_bipush dX8_judge_73 cb_100 ?_
          refine r_iload_n dX8_judge_75 rfl ?_
          refine r_iadd dX8_judge_76 ?_
          exact r_iret dX8_judge_77 rfl rfl
theorem s_X8_judge_L35 (g : Gm) (s0 : Sto) : ∀ (n : Nat) (x1 : Int32) (x2 : Int32) (x3 : Int32), Rf (cvI s0) (Em g 1) kX8_judge 35 [some (.ref ((Em g 1).1.1 8 0 0)), some (.int x1), some (.int x2), some (.int x3)] [] s0 (f_X8_judge_L35 s0 n x1 x2 x3)
  | 0, _, _, _ => r_none
  | n + 1, x1, x2, x3 => s_X8_judge_B35 g s0 (f_X8_judge_L35 s0 n) (s_X8_judge_L35 g s0 n) x1 x2 x3
set_option maxRecDepth 100000 in
theorem s_X8_judge (g : Gm) (s0 : Sto) (x1 : Int32) (x2 : Int32) : Rf (cvI s0) (Em g 1) kX8_judge 0 [some (.ref ((Em g 1).1.1 8 0 0)), some (.int x1), some (.int x2), none] [] s0 (f_X8_judge s0 x1 x2) := by
  unfold f_X8_judge
  refine r_iload_n dX8_judge_0 rfl ?_
  refine r_iconst dX8_judge_1 ci_0 ?_
  refine r_iconst dX8_judge_2 ci_5 ?_
  refine u_X8_within (ok_X8_within g s0 x1 0 5) dX8_judge_3 ml_X8_105 (Nat.le_of_ble_eq_true rfl) (fits_m (by decide) (by decide)) room_m (fun q1 => ?_)
  refine r_ifne dX8_judge_6 (tgt := 11) (by decide) (fun c2 => ?_) (fun c2 => ?_)
  · refine r_iconst dX8_judge_9 ci_m1 ?_
    exact r_iret dX8_judge_10 rfl rfl
  · refine r_aload_n dX8_judge_11 rfl ?_
    refine gf_X8_88 rfl dX8_judge_12 ?_
    refine r_iload_n dX8_judge_15 rfl ?_
    refine al_8_40 dX8_judge_16 (fun hg3 hj4 => ?_)
    refine r_iconst dX8_judge_17 ci_m1 ?_
    refine r_iceq dX8_judge_18 (tgt := 33) (by decide) (fun c5 => ?_) (fun c5 => ?_)
    · refine r_iconst dX8_judge_33 ci_0 ?_
      refine r_istore_n dX8_judge_34 rfl (lt_b rfl) (lt_b rfl) ?_
      exact r_mask [true, true, true, true] (s_X8_judge_L35 g s0 1000 x1 x2 0)
    · refine r_aload_n dX8_judge_21 rfl ?_
      refine gf_X8_88 rfl dX8_judge_22 ?_
      refine r_iload_n dX8_judge_25 rfl ?_
      refine al_8_40 dX8_judge_26 (fun hg20 hj21 => ?_)
      refine r_ifeq dX8_judge_27 (tgt := 33) (by decide) (fun c22 => ?_) (fun c22 => ?_)
      · refine r_iconst dX8_judge_33 ci_0 ?_
        refine r_istore_n dX8_judge_34 rfl (lt_b rfl) (lt_b rfl) ?_
        exact r_mask [true, true, true, true] (s_X8_judge_L35 g s0 1000 x1 x2 0)
      · refine r_bipush dX8_judge_30 cb_m12 ?_
        exact r_iret dX8_judge_32 rfl rfl
theorem ok_X8_judge (g : Gm) (s0 : Sto) (x1 : Int32) (x2 : Int32) : Ok g yX8_judge kX8_judge 1 [.ref ((Em g 1).1.1 8 0 0), .int x1, .int x2] s0 (cvI s0) (f_X8_judge s0 x1 x2) := Ok.of (by decide) rfl (Nat.le_of_ble_eq_true rfl) (lv := [some (.ref ((Em g 1).1.1 8 0 0)), some (.int x1), some (.int x2), none]) rfl (s_X8_judge g s0 x1 x2)
theorem u_X8_judge {α : Type} {cv : α → Res} {E : EE} {K : KK} {pc npc idx d : Nat} {lv : List (Option Value)} {st : List Value} {σ : Sto} {oc : Option (Int32)} {kf : Int32 → Option α} {x1 : Int32} {x2 : Int32} (hOk : Ok E.1 yX8_judge kX8_judge d [.ref (E.1.1 8 0 0), .int x1, .int x2] σ (cvI σ) oc) (hd : Dc K pc (.invokevirtual idx) 3 npc) (hlk : Cond.methodLink K.2.1 idx yX8_judge ∈ lw_good) (hw : (st.map fun v => v.category).sum ≤ 8) (hfit : fits_ E d 4) (hrm : room_ok E) (kk : ∀ q : Int32, Rf cv E K npc lv (.int q :: st) σ (kf q)) : Rf cv E K pc lv (.int x2 :: .int x1 :: .ref (E.1.1 8 0 0) :: st) σ (oc.bind kf) := c_V (n := 2) (as := [.int x1, .int x2]) (c0 := 8) (i := 0) (CC := "ThawGivesModel") (T := TX8) (N := 43) hd hOk hlk wi_X8_judge wv_X8_judge wn_X8 wc_X8_judge rfl (by decide) (by decide) ⟨by decide, by decide, by decide⟩ rfl rfl hw hfit hrm (fun b _ => kk b)
def f_X8_image (s0 : Sto) : Option (Int32 × Sto) :=
  nm (sF s0 8 35 0 1) fun s1 => (f_X8_keep_37 s1).bind fun q2 => some ((q2.1 8 0 0), q2)
set_option maxRecDepth 100000 in
theorem s_X8_image (g : Gm) (s0 : Sto) : Rf cvIw (Em g 1) kX8_image 0 [some (.ref ((Em g 1).1.1 8 0 0))] [] s0 (f_X8_image s0) := by
  unfold f_X8_image
  refine r_aload_n dX8_image_0 rfl ?_
  refine r_iconst dX8_image_1 ci_1 ?_
  refine pf_X8_276 rfl dX8_image_2 rfl rfl (fun s1 => ?_)
  refine r_aload_n dX8_image_5 rfl ?_
  refine r_aload_n dX8_image_6 rfl ?_
  refine gf_X8_76 rfl dX8_image_7 ?_
  refine u_X8_keep_37 (ok_X8_keep_37 g s1) dX8_image_10 ml_X8_229 (Nat.le_of_ble_eq_true rfl) (fits_m (by decide) (by decide)) room_m (fun q2 => ?_)
  refine r_aload_n dX8_image_13 rfl ?_
  refine gf_X8_102 rfl dX8_image_14 ?_
  exact r_iret dX8_image_17 rfl rfl
theorem ok_X8_image (g : Gm) (s0 : Sto) : Ok g yX8_image kX8_image 1 [.ref ((Em g 1).1.1 8 0 0)] s0 cvIw (f_X8_image s0) := Ok.of (by decide) rfl (Nat.le_of_ble_eq_true rfl) (lv := [some (.ref ((Em g 1).1.1 8 0 0))]) rfl (s_X8_image g s0)
theorem u_X8_image {α : Type} {cv : α → Res} {E : EE} {K : KK} {pc npc idx d : Nat} {lv : List (Option Value)} {st : List Value} {σ : Sto} {oc : Option (Int32 × Sto)} {kf : (Int32 × Sto) → Option α} (hOk : Ok E.1 yX8_image kX8_image d [.ref (E.1.1 8 0 0)] σ cvIw oc) (hd : Dc K pc (.invokevirtual idx) 3 npc) (hlk : Cond.methodLink K.2.1 idx yX8_image ∈ lw_good) (hw : (st.map fun v => v.category).sum ≤ 8) (hfit : fits_ E d 1) (hrm : room_ok E) (kk : ∀ q : Int32 × Sto, Rf cv E K npc lv (.int q.1 :: st) q.2 (kf q)) : Rf cv E K pc lv (.ref (E.1.1 8 0 0) :: st) σ (oc.bind kf) := c_V (n := 0) (as := []) (c0 := 8) (i := 0) (CC := "ThawGivesModel") (T := TX8) (N := 43) hd hOk hlk wi_X8_image wv_X8_image wn_X8 wc_X8_image rfl (by decide) (by decide) ⟨by decide, by decide, by decide⟩ rfl rfl hw hfit hrm (fun b _ => kk b)
def f_X8_undo (s0 : Sto) : Option (Int32 × Sto) :=
  (if (s0.1 8 35 0) = 0 then
    some ((-3 : Int32), s0)
  else
    (f_X8_again_37 s0).bind fun q2 => some ((q2.1 8 0 0), q2))
set_option maxRecDepth 100000 in
theorem s_X8_undo (g : Gm) (s0 : Sto) : Rf cvIw (Em g 1) kX8_undo 0 [some (.ref ((Em g 1).1.1 8 0 0))] [] s0 (f_X8_undo s0) := by
  unfold f_X8_undo
  refine r_aload_n dX8_undo_0 rfl ?_
  refine gf_X8_276 rfl dX8_undo_1 ?_
  refine r_ifne dX8_undo_4 (tgt := 10) (by decide) (fun c1 => ?_) (fun c1 => ?_)
  · refine r_bipush dX8_undo_7 cb_m3 ?_
    exact r_iret dX8_undo_9 rfl rfl
  · refine r_aload_n dX8_undo_10 rfl ?_
    refine r_aload_n dX8_undo_11 rfl ?_
    refine gf_X8_76 rfl dX8_undo_12 ?_
    refine u_X8_again_37 (ok_X8_again_37 g s0) dX8_undo_15 ml_X8_233 (Nat.le_of_ble_eq_true rfl) (fits_m (by decide) (by decide)) room_m (fun q2 => ?_)
    refine r_aload_n dX8_undo_18 rfl ?_
    refine gf_X8_102 rfl dX8_undo_19 ?_
    exact r_iret dX8_undo_22 rfl rfl
theorem ok_X8_undo (g : Gm) (s0 : Sto) : Ok g yX8_undo kX8_undo 1 [.ref ((Em g 1).1.1 8 0 0)] s0 cvIw (f_X8_undo s0) := Ok.of (by decide) rfl (Nat.le_of_ble_eq_true rfl) (lv := [some (.ref ((Em g 1).1.1 8 0 0))]) rfl (s_X8_undo g s0)
theorem u_X8_undo {α : Type} {cv : α → Res} {E : EE} {K : KK} {pc npc idx d : Nat} {lv : List (Option Value)} {st : List Value} {σ : Sto} {oc : Option (Int32 × Sto)} {kf : (Int32 × Sto) → Option α} (hOk : Ok E.1 yX8_undo kX8_undo d [.ref (E.1.1 8 0 0)] σ cvIw oc) (hd : Dc K pc (.invokevirtual idx) 3 npc) (hlk : Cond.methodLink K.2.1 idx yX8_undo ∈ lw_good) (hw : (st.map fun v => v.category).sum ≤ 8) (hfit : fits_ E d 1) (hrm : room_ok E) (kk : ∀ q : Int32 × Sto, Rf cv E K npc lv (.int q.1 :: st) q.2 (kf q)) : Rf cv E K pc lv (.ref (E.1.1 8 0 0) :: st) σ (oc.bind kf) := c_V (n := 0) (as := []) (c0 := 8) (i := 0) (CC := "ThawGivesModel") (T := TX8) (N := 43) hd hOk hlk wi_X8_undo wv_X8_undo wn_X8 wc_X8_undo rfl (by decide) (by decide) ⟨by decide, by decide, by decide⟩ rfl rfl hw hfit hrm (fun b _ => kk b)
def f_X8_ran (s0 : Sto) (x1 : Int32) : Option (Sto) :=
  (if (20 : Int32) ≤ (s0.1 8 33 0) then
    nm (sF s0 8 33 0 ((s0.1 8 33 0) + 1)) fun s2 => some s2
  else
    (if 0 ≤ (s0.1 8 33 0) ∧ (s0.1 8 33 0) < 20 then nm (sA s0 8 34 0 (upd (s0.2.1 8 34 0) (Int32.toNatClampNeg (s0.1 8 33 0)) x1)) fun s5 => nm (sF s5 8 33 0 ((s5.1 8 33 0) + 1)) fun s6 => some s6 else none))
set_option maxRecDepth 100000 in
theorem s_X8_ran (g : Gm) (s0 : Sto) (x1 : Int32) : Rf cvV (Em g 0) kX8_ran 0 [some (.ref ((Em g 0).1.1 8 0 0)), some (.int x1)] [] s0 (f_X8_ran s0 x1) := by
  unfold f_X8_ran
  refine r_aload_n dX8_ran_0 rfl ?_
  refine gf_X8_280 rfl dX8_ran_1 ?_
  refine r_bipush dX8_ran_4 cb_20 ?_
  refine r_icge dX8_ran_6 (tgt := 19) (by decide) (fun c1 => ?_) (fun c1 => ?_)
  · refine r_aload_n dX8_ran_19 rfl ?_
    refine r_dup dX8_ran_20 rfl ?_
    refine gf_X8_280 rfl dX8_ran_21 ?_
    refine r_iconst dX8_ran_24 ci_1 ?_
    refine r_iadd dX8_ran_25 ?_
    refine pf_X8_280 rfl dX8_ran_26 (fun s2 => ?_)
    exact r_vret dX8_ran_29 rfl rfl
  · refine r_aload_n dX8_ran_9 rfl ?_
    refine gf_X8_73 rfl dX8_ran_10 ?_
    refine r_aload_n dX8_ran_13 rfl ?_
    refine gf_X8_280 rfl dX8_ran_14 ?_
    refine r_iload_n dX8_ran_17 rfl ?_
    refine as_8_34 dX8_ran_18 (fun hg3 hj4 s5 => ?_)
    refine r_aload_n dX8_ran_19 rfl ?_
    refine r_dup dX8_ran_20 rfl ?_
    refine gf_X8_280 rfl dX8_ran_21 ?_
    refine r_iconst dX8_ran_24 ci_1 ?_
    refine r_iadd dX8_ran_25 ?_
    refine pf_X8_280 rfl dX8_ran_26 (fun s6 => ?_)
    exact r_vret dX8_ran_29 rfl rfl
theorem ok_X8_ran (g : Gm) (s0 : Sto) (x1 : Int32) : Ok g yX8_ran kX8_ran 0 [.ref ((Em g 0).1.1 8 0 0), .int x1] s0 cvV (f_X8_ran s0 x1) := Ok.of (by decide) rfl (Nat.le_of_ble_eq_true rfl) (lv := [some (.ref ((Em g 0).1.1 8 0 0)), some (.int x1)]) rfl (s_X8_ran g s0 x1)
theorem u_X8_ran {α : Type} {cv : α → Res} {E : EE} {K : KK} {pc npc idx d : Nat} {lv : List (Option Value)} {st : List Value} {σ : Sto} {oc : Option (Sto)} {kf : Sto → Option α} {x1 : Int32} (hOk : Ok E.1 yX8_ran kX8_ran d [.ref (E.1.1 8 0 0), .int x1] σ cvV oc) (hd : Dc K pc (.invokevirtual idx) 3 npc) (hlk : Cond.methodLink K.2.1 idx yX8_ran ∈ lw_good) (hw : (st.map fun v => v.category).sum ≤ 8) (hfit : fits_ E d 2) (hrm : room_ok E) (kk : ∀ τ : Sto, Rf cv E K npc lv st τ (kf τ)) : Rf cv E K pc lv (.int x1 :: .ref (E.1.1 8 0 0) :: st) σ (oc.bind kf) := c_V (n := 1) (as := [.int x1]) (c0 := 8) (i := 0) (CC := "ThawGivesModel") (T := TX8) (N := 43) hd hOk hlk wi_X8_ran wv_X8_ran wn_X8 wc_X8_ran rfl (by decide) (by decide) ⟨by decide, by decide, by decide⟩ rfl rfl hw hfit hrm (fun b _ => kk b)
def f_X8_above (x0 : Int32) : Option (Int32) :=
  (if x0 = 4 then
    some 1
  else
    (if x0 = 5 then
      some 2
    else
      (if x0 = 6 then
        some 3
      else
        some 0)))
set_option maxRecDepth 100000 in
theorem s_X8_above (g : Gm) (sz : Sto) (x0 : Int32) : Rf (cvI sz) (Em g 0) kX8_above 0 [some (.int x0)] [] sz (f_X8_above x0) := by
  unfold f_X8_above
  refine r_iload_n dX8_above_0 rfl ?_
  refine r_iconst dX8_above_1 ci_4 ?_
  refine r_icne dX8_above_2 (tgt := 9) (by decide) (fun c1 => ?_) (fun c1 => ?_)
  · refine r_iconst dX8_above_5 ci_1 ?_
    refine r_goto dX8_above_6 (tgt := 29) (by decide) ?_
    exact r_iret dX8_above_29 rfl rfl
  · refine r_iload_n dX8_above_9 rfl ?_
    refine r_iconst dX8_above_10 ci_5 ?_
    refine r_icne dX8_above_11 (tgt := 18) (by decide) (fun c2 => ?_) (fun c2 => ?_)
    · refine r_iconst dX8_above_14 ci_2 ?_
      refine r_goto dX8_above_15 (tgt := 29) (by decide) ?_
      exact r_iret dX8_above_29 rfl rfl
    · refine r_iload_n dX8_above_18 rfl ?_
      refine r_bipush dX8_above_19 cb_6 ?_
      refine r_icne dX8_above_21 (tgt := 28) (by decide) (fun c3 => ?_) (fun c3 => ?_)
      · refine r_iconst dX8_above_24 ci_3 ?_
        refine r_goto dX8_above_25 (tgt := 29) (by decide) ?_
        exact r_iret dX8_above_29 rfl rfl
      · refine r_iconst dX8_above_28 ci_0 ?_
        exact r_iret dX8_above_29 rfl rfl
theorem ok_X8_above (g : Gm) (sz : Sto) (x0 : Int32) : Ok g yX8_above kX8_above 0 [.int x0] sz (cvI sz) (f_X8_above x0) := Ok.of (by decide) rfl (Nat.le_of_ble_eq_true rfl) (lv := [some (.int x0)]) rfl (s_X8_above g sz x0)
theorem u_X8_above {α : Type} {cv : α → Res} {E : EE} {K : KK} {pc npc idx d : Nat} {lv : List (Option Value)} {st : List Value} {σ : Sto} {oc : Option (Int32)} {kf : Int32 → Option α} {x0 : Int32} (hOk : Ok E.1 yX8_above kX8_above d [.int x0] σ (cvI σ) oc) (hd : Dc K pc (.invokestatic idx) 3 npc) (hlk : Cond.methodLink K.2.1 idx yX8_above ∈ lw_good) (hw : (st.map fun v => v.category).sum ≤ 8) (hfit : fits_ E d 1) (hrm : room_ok E) (kk : ∀ q : Int32, Rf cv E K npc lv (.int q :: st) σ (kf q)) : Rf cv E K pc lv (.int x0 :: st) σ (oc.bind kf) := c_S (n := 1) (as := [.int x0]) hd hOk hlk wt_X8_above wn_X8 wc_X8_above ⟨by decide, by decide, by decide⟩ rfl rfl hw hfit hrm (fun b _ => kk b)
theorem u_X8_sinks {α : Type} {cv : α → Res} {E : EE} {K : KK} {pc npc idx d : Nat} {lv : List (Option Value)} {st : List Value} {σ : Sto} {oc : Option (Int32 × Sto)} {kf : (Int32 × Sto) → Option α} {x1 : Int32} {x2 : Int32} {x3 : Int32} (hOk : Ok E.1 yX8_sinks kX8_sinks d [.ref (E.1.1 8 0 0), .int x1, .int x2, .int x3] σ cvIw oc) (hd : Dc K pc (.invokevirtual idx) 3 npc) (hlk : Cond.methodLink K.2.1 idx yX8_sinks ∈ lw_good) (hw : (st.map fun v => v.category).sum ≤ 8) (hfit : fits_ E d 4) (hrm : room_ok E) (kk : ∀ q : Int32 × Sto, Rf cv E K npc lv (.int q.1 :: st) q.2 (kf q)) : Rf cv E K pc lv (.int x3 :: .int x2 :: .int x1 :: .ref (E.1.1 8 0 0) :: st) σ (oc.bind kf) := c_V (n := 3) (as := [.int x1, .int x2, .int x3]) (c0 := 8) (i := 0) (CC := "ThawGivesModel") (T := TX8) (N := 43) hd hOk hlk wi_X8_sinks wv_X8_sinks wn_X8 wc_X8_sinks rfl (by decide) (by decide) ⟨by decide, by decide, by decide⟩ rfl rfl hw hfit hrm (fun b _ => kk b)
def f_X8_sinks_K (q : Sto → Int32 → Int32 → Int32 → Option (Int32 × Sto)) (s0 : Sto) (x1 : Int32) (x2 : Int32) (x3 : Int32) : Option (Int32 × Sto) :=
  (if x2 = 0 then
    (f_X8_ran s0 10).bind fun q2 => some ((x3 + x1), q2)
  else (if x2 = 1 then
    (f_X8_above x2).bind fun q4 => (q s0 x1 q4 x3).bind fun q5 => some (q5.1, q5.2)
  else (if x2 = 2 then
    (f_X8_ran s0 30).bind fun q7 => (q q7 x1 0 (x3 * 3)).bind fun q8 => some (q8.1, q8.2)
  else (if x2 = 3 then
    (f_X8_above x2).bind fun q10 => (q s0 x1 q10 x3).bind fun q11 => some (q11.1, q11.2)
  else (if x2 = 4 then
    (f_X8_ran s0 50).bind fun q13 => (q q13 x1 1 x3).bind fun q14 => some ((-q14.1), q14.2)
  else (if x2 = 5 then
    (f_X8_above x2).bind fun q16 => (q s0 x1 q16 x3).bind fun q17 => some (q17.1, q17.2)
  else (if x2 = 6 then
    (f_X8_ran s0 71).bind fun q19 => (q q19 x1 3 x3).bind fun q20 => (if 0 ≤ x1 ∧ x1 < 6 then some ((q20.1 ^^^ (q20.2.2.1 8 2 0 (Int32.toNatClampNeg x1))), q20.2) else none)
  else (f_X8_above x2).bind fun q23 => (q s0 x1 q23 x3).bind fun q24 => some (q24.1, q24.2))))))))
set_option maxRecDepth 100000 in
theorem s_X8_sinks (g : Gm) (D0 : Nat) (hD0 : 1 ≤ D0) (q : Sto → Int32 → Int32 → Int32 → Option (Int32 × Sto)) (hq : ∀ (s0 : Sto) (x1 : Int32) (x2 : Int32) (x3 : Int32), Ok g yX8_sinks kX8_sinks D0 [.ref (g.1 8 0 0), .int x1, .int x2, .int x3] s0 cvIw (q s0 x1 x2 x3)) (s0 : Sto) (x1 : Int32) (x2 : Int32) (x3 : Int32) : Rf cvIw (Em g (D0 + 1)) kX8_sinks 0 [some (.ref ((Em g (D0 + 1)).1.1 8 0 0)), some (.int x1), some (.int x2), some (.int x3)] [] s0 (f_X8_sinks_K q s0 x1 x2 x3) := by
  unfold f_X8_sinks_K
  refine r_iload_n dX8_sinks_0 rfl ?_
  refine r_by (fun e1 => ?_) (fun e1 => ?_)
  · refine r_tabIn dX8_sinks_1 e1 (z := 0) (by decide) (by decide) (by decide) (off := 95) rfl (tgt := 96) (by decide) ?_
    refine r_aload_n dX8_sinks_96 rfl ?_
    refine r_bipush dX8_sinks_97 cb_10 ?_
    refine u_X8_ran (ok_X8_ran g s0 10) dX8_sinks_99 ml_X8_283 (Nat.le_of_ble_eq_true rfl) (fits_m (by omega) (by decide)) room_m (fun q2 => ?_)
    refine r_iload_n dX8_sinks_102 rfl ?_
    refine r_iload_n dX8_sinks_103 rfl ?_
    refine r_iadd dX8_sinks_104 ?_
    exact r_iret dX8_sinks_105 rfl rfl
  refine r_by (fun e3 => ?_) (fun e3 => ?_)
  · refine r_tabIn dX8_sinks_1 e3 (z := 1) (by decide) (by decide) (by decide) (off := 105) rfl (tgt := 106) (by decide) ?_
    refine r_aload_n dX8_sinks_106 rfl ?_
    refine r_iload_n dX8_sinks_107 rfl ?_
    refine r_iload_n dX8_sinks_108 rfl ?_
    refine u_X8_above (ok_X8_above g s0 x2) dX8_sinks_109 ml_X8_290 (Nat.le_of_ble_eq_true rfl) (fits_m (by omega) (by decide)) room_m (fun q4 => ?_)
    refine r_iload_n dX8_sinks_112 rfl ?_
    refine u_X8_sinks (hq s0 x1 q4 x3) dX8_sinks_113 ml_X8_287 (Nat.le_of_ble_eq_true rfl) (fits_m (by omega) (by decide)) room_m (fun q5 => ?_)
    exact r_iret dX8_sinks_116 rfl rfl
  refine r_by (fun e6 => ?_) (fun e6 => ?_)
  · refine r_tabIn dX8_sinks_1 e6 (z := 2) (by decide) (by decide) (by decide) (off := 43) rfl (tgt := 44) (by decide) ?_
    refine r_aload_n dX8_sinks_44 rfl ?_
    refine r_bipush dX8_sinks_45 cb_30 ?_
    refine u_X8_ran (ok_X8_ran g s0 30) dX8_sinks_47 ml_X8_283 (Nat.le_of_ble_eq_true rfl) (fits_m (by omega) (by decide)) room_m (fun q7 => ?_)
    refine r_aload_n dX8_sinks_50 rfl ?_
    refine r_iload_n dX8_sinks_51 rfl ?_
    refine r_iconst dX8_sinks_52 ci_0 ?_
    refine r_iload_n dX8_sinks_53 rfl ?_
    refine r_iconst dX8_sinks_54 ci_3 ?_
    refine r_imul dX8_sinks_55 ?_
    refine u_X8_sinks (hq q7 x1 0 (x3 * 3)) dX8_sinks_56 ml_X8_287 (Nat.le_of_ble_eq_true rfl) (fits_m (by omega) (by decide)) room_m (fun q8 => ?_)
    exact r_iret dX8_sinks_59 rfl rfl
  refine r_by (fun e9 => ?_) (fun e9 => ?_)
  · refine r_tabIn dX8_sinks_1 e9 (z := 3) (by decide) (by decide) (by decide) (off := 105) rfl (tgt := 106) (by decide) ?_
    refine r_aload_n dX8_sinks_106 rfl ?_
    refine r_iload_n dX8_sinks_107 rfl ?_
    refine r_iload_n dX8_sinks_108 rfl ?_
    refine u_X8_above (ok_X8_above g s0 x2) dX8_sinks_109 ml_X8_290 (Nat.le_of_ble_eq_true rfl) (fits_m (by omega) (by decide)) room_m (fun q10 => ?_)
    refine r_iload_n dX8_sinks_112 rfl ?_
    refine u_X8_sinks (hq s0 x1 q10 x3) dX8_sinks_113 ml_X8_287 (Nat.le_of_ble_eq_true rfl) (fits_m (by omega) (by decide)) room_m (fun q11 => ?_)
    exact r_iret dX8_sinks_116 rfl rfl
  refine r_by (fun e12 => ?_) (fun e12 => ?_)
  · refine r_tabIn dX8_sinks_1 e12 (z := 4) (by decide) (by decide) (by decide) (off := 59) rfl (tgt := 60) (by decide) ?_
    refine r_aload_n dX8_sinks_60 rfl ?_
    refine r_bipush dX8_sinks_61 cb_50 ?_
    refine u_X8_ran (ok_X8_ran g s0 50) dX8_sinks_63 ml_X8_283 (Nat.le_of_ble_eq_true rfl) (fits_m (by omega) (by decide)) room_m (fun q13 => ?_)
    refine r_aload_n dX8_sinks_66 rfl ?_
    refine r_iload_n dX8_sinks_67 rfl ?_
    refine r_iconst dX8_sinks_68 ci_1 ?_
    refine r_iload_n dX8_sinks_69 rfl ?_
    refine u_X8_sinks (hq q13 x1 1 x3) dX8_sinks_70 ml_X8_287 (Nat.le_of_ble_eq_true rfl) (fits_m (by omega) (by decide)) room_m (fun q14 => ?_)
    refine r_ineg dX8_sinks_73 ?_
    exact r_iret dX8_sinks_74 rfl rfl
  refine r_by (fun e15 => ?_) (fun e15 => ?_)
  · refine r_tabIn dX8_sinks_1 e15 (z := 5) (by decide) (by decide) (by decide) (off := 105) rfl (tgt := 106) (by decide) ?_
    refine r_aload_n dX8_sinks_106 rfl ?_
    refine r_iload_n dX8_sinks_107 rfl ?_
    refine r_iload_n dX8_sinks_108 rfl ?_
    refine u_X8_above (ok_X8_above g s0 x2) dX8_sinks_109 ml_X8_290 (Nat.le_of_ble_eq_true rfl) (fits_m (by omega) (by decide)) room_m (fun q16 => ?_)
    refine r_iload_n dX8_sinks_112 rfl ?_
    refine u_X8_sinks (hq s0 x1 q16 x3) dX8_sinks_113 ml_X8_287 (Nat.le_of_ble_eq_true rfl) (fits_m (by omega) (by decide)) room_m (fun q17 => ?_)
    exact r_iret dX8_sinks_116 rfl rfl
  refine r_by (fun e18 => ?_) (fun e18 => ?_)
  · refine r_tabIn dX8_sinks_1 e18 (z := 6) (by decide) (by decide) (by decide) (off := 74) rfl (tgt := 75) (by decide) ?_
    refine r_aload_n dX8_sinks_75 rfl ?_
    refine r_bipush dX8_sinks_76 cb_71 ?_
    refine u_X8_ran (ok_X8_ran g s0 71) dX8_sinks_78 ml_X8_283 (Nat.le_of_ble_eq_true rfl) (fits_m (by omega) (by decide)) room_m (fun q19 => ?_)
    refine r_aload_n dX8_sinks_81 rfl ?_
    refine r_iload_n dX8_sinks_82 rfl ?_
    refine r_iconst dX8_sinks_83 ci_3 ?_
    refine r_iload_n dX8_sinks_84 rfl ?_
    refine u_X8_sinks (hq q19 x1 3 x3) dX8_sinks_85 ml_X8_287 (Nat.le_of_ble_eq_true rfl) (fits_m (by omega) (by decide)) room_m (fun q20 => ?_)
    refine r_aload_n dX8_sinks_88 rfl ?_
    refine gf_X8_15 rfl dX8_sinks_89 ?_
    refine r_iload_n dX8_sinks_92 rfl ?_
    refine al_8_2 dX8_sinks_93 (fun hg21 hj22 => ?_)
    refine r_ixor dX8_sinks_94 ?_
    exact r_iret dX8_sinks_95 rfl rfl
  refine r_tabOut dX8_sinks_1 (by have a0 := sw_ne e1 (z := 0) (by decide); have a1 := sw_ne e3 (z := 1) (by decide); have a2 := sw_ne e6 (z := 2) (by decide); have a3 := sw_ne e9 (z := 3) (by decide); have a4 := sw_ne e12 (z := 4) (by decide); have a5 := sw_ne e15 (z := 5) (by decide); have a6 := sw_ne e18 (z := 6) (by decide); omega) (tgt := 106) (by decide) ?_
  refine r_aload_n dX8_sinks_106 rfl ?_
  refine r_iload_n dX8_sinks_107 rfl ?_
  refine r_iload_n dX8_sinks_108 rfl ?_
  refine u_X8_above (ok_X8_above g s0 x2) dX8_sinks_109 ml_X8_290 (Nat.le_of_ble_eq_true rfl) (fits_m (by omega) (by decide)) room_m (fun q23 => ?_)
  refine r_iload_n dX8_sinks_112 rfl ?_
  refine u_X8_sinks (hq s0 x1 q23 x3) dX8_sinks_113 ml_X8_287 (Nat.le_of_ble_eq_true rfl) (fits_m (by omega) (by decide)) room_m (fun q24 => ?_)
  exact r_iret dX8_sinks_116 rfl rfl
theorem ok_X8_sinks_K (g : Gm) (D0 : Nat) (hD0 : 1 ≤ D0) (q : Sto → Int32 → Int32 → Int32 → Option (Int32 × Sto)) (hq : ∀ (s0 : Sto) (x1 : Int32) (x2 : Int32) (x3 : Int32), Ok g yX8_sinks kX8_sinks D0 [.ref (g.1 8 0 0), .int x1, .int x2, .int x3] s0 cvIw (q s0 x1 x2 x3)) (s0 : Sto) (x1 : Int32) (x2 : Int32) (x3 : Int32) : Ok g yX8_sinks kX8_sinks (D0 + 1) [.ref ((Em g (D0 + 1)).1.1 8 0 0), .int x1, .int x2, .int x3] s0 cvIw (f_X8_sinks_K q s0 x1 x2 x3) := Ok.of (by decide) rfl (Nat.le_of_ble_eq_true rfl) (lv := [some (.ref ((Em g (D0 + 1)).1.1 8 0 0)), some (.int x1), some (.int x2), some (.int x3)]) rfl (s_X8_sinks g D0 hD0 q hq s0 x1 x2 x3)
def f_X8_sinks : Nat → Sto → Int32 → Int32 → Int32 → Option (Int32 × Sto)
  | 0 => fun _ _ _ _ => none
  | n + 1 => f_X8_sinks_K (f_X8_sinks n)
theorem ok_X8_sinks (g : Gm) : ∀ (n : Nat) (s0 : Sto) (x1 : Int32) (x2 : Int32) (x3 : Int32), Ok g yX8_sinks kX8_sinks (1 + 1 * n) [.ref (g.1 8 0 0), .int x1, .int x2, .int x3] s0 cvIw (f_X8_sinks n s0 x1 x2 x3)
  | 0, _, _, _, _ => fun a h => nomatch h
  | n + 1, s0, x1, x2, x3 => ok_X8_sinks_K g (1 + 1 * n) (by omega) (f_X8_sinks n) (ok_X8_sinks g n) s0 x1 x2 x3
theorem u_X8_shows {α : Type} {cv : α → Res} {E : EE} {K : KK} {pc npc idx d : Nat} {lv : List (Option Value)} {st : List Value} {σ : Sto} {oc : Option (Int32 × Sto)} {kf : (Int32 × Sto) → Option α} {x1 : Int32} {x2 : Int32} {x3 : Int32} (hOk : Ok E.1 yX8_shows kX8_shows d [.ref (E.1.1 8 0 0), .int x1, .int x2, .int x3] σ cvIw oc) (hd : Dc K pc (.invokevirtual idx) 3 npc) (hlk : Cond.methodLink K.2.1 idx yX8_shows ∈ lw_good) (hw : (st.map fun v => v.category).sum ≤ 8) (hfit : fits_ E d 5) (hrm : room_ok E) (kk : ∀ q : Int32 × Sto, Rf cv E K npc lv (.int q.1 :: st) q.2 (kf q)) : Rf cv E K pc lv (.int x3 :: .int x2 :: .int x1 :: .ref (E.1.1 8 0 0) :: st) σ (oc.bind kf) := c_V (n := 3) (as := [.int x1, .int x2, .int x3]) (c0 := 8) (i := 0) (CC := "ThawGivesModel") (T := TX8) (N := 43) hd hOk hlk wi_X8_shows wv_X8_shows wn_X8 wc_X8_shows rfl (by decide) (by decide) ⟨by decide, by decide, by decide⟩ rfl rfl hw hfit hrm (fun b _ => kk b)
def f_X8_shows_K (q : Sto → Int32 → Int32 → Int32 → Option (Int32 × Sto)) (s0 : Sto) (x1 : Int32) (x2 : Int32) (x3 : Int32) : Option (Int32 × Sto) :=
  (if x2 = 0 then
    (f_X8_ran s0 11).bind fun q2 => (if 0 ≤ x1 ∧ x1 < 6 then (f_X8_sinks 12 q2 x1 (q2.2.1 8 1 0 (Int32.toNatClampNeg x1)) x3).bind fun q5 => (if 0 ≤ x1 ∧ x1 < 6 then some ((q5.1 - (q5.2.2.1 8 2 0 (Int32.toNatClampNeg x1))), q5.2) else none) else none)
  else (if x2 = 1 then
    (f_X8_ran s0 20).bind fun q9 => (q q9 x1 0 x3).bind fun q10 => some ((q10.1 ^^^ 6), q10.2)
  else (if x2 = 2 then
    (f_X8_above x2).bind fun q12 => (q s0 x1 q12 x3).bind fun q13 => some (q13.1, q13.2)
  else (if x2 = 3 then
    (f_X8_above x2).bind fun q15 => (q s0 x1 q15 x3).bind fun q16 => some (q16.1, q16.2)
  else (if x2 = 4 then
    (f_X8_ran s0 51).bind fun q18 => (q q18 x1 1 (x3 + 1)).bind fun q19 => some (q19.1, q19.2)
  else (if x2 = 5 then
    (f_X8_above x2).bind fun q21 => (q s0 x1 q21 x3).bind fun q22 => some (q22.1, q22.2)
  else (if x2 = 6 then
    (f_X8_ran s0 70).bind fun q24 => (q q24 x1 3 x3).bind fun q25 => nmI (q25.1) fun v26 => (f_X8_sinks 12 q25.2 x1 3 2).bind fun q27 => some ((v26 + q27.1), q27.2)
  else (f_X8_above x2).bind fun q28 => (q s0 x1 q28 x3).bind fun q29 => some (q29.1, q29.2))))))))
set_option maxRecDepth 100000 in
theorem s_X8_shows (g : Gm) (D0 : Nat) (hD0 : 14 ≤ D0) (q : Sto → Int32 → Int32 → Int32 → Option (Int32 × Sto)) (hq : ∀ (s0 : Sto) (x1 : Int32) (x2 : Int32) (x3 : Int32), Ok g yX8_shows kX8_shows D0 [.ref (g.1 8 0 0), .int x1, .int x2, .int x3] s0 cvIw (q s0 x1 x2 x3)) (s0 : Sto) (x1 : Int32) (x2 : Int32) (x3 : Int32) : Rf cvIw (Em g (D0 + 1)) kX8_shows 0 [some (.ref ((Em g (D0 + 1)).1.1 8 0 0)), some (.int x1), some (.int x2), some (.int x3), none] [] s0 (f_X8_shows_K q s0 x1 x2 x3) := by
  unfold f_X8_shows_K
  refine r_iload_n dX8_shows_0 rfl ?_
  refine r_by (fun e1 => ?_) (fun e1 => ?_)
  · refine r_tabIn dX8_shows_1 e1 (z := 0) (by decide) (by decide) (by decide) (off := 102) rfl (tgt := 103) (by decide) ?_
    refine r_aload_n dX8_shows_103 rfl ?_
    refine r_bipush dX8_shows_104 cb_11 ?_
    refine u_X8_ran (ok_X8_ran g s0 11) dX8_shows_106 ml_X8_283 (Nat.le_of_ble_eq_true rfl) (fits_m (by omega) (by decide)) room_m (fun q2 => ?_)
    refine r_aload_n dX8_shows_109 rfl ?_
    refine r_iload_n dX8_shows_110 rfl ?_
    refine r_aload_n dX8_shows_111 rfl ?_
    refine gf_X8_9 rfl dX8_shows_112 ?_
    refine r_iload_n dX8_shows_115 rfl ?_
    refine al_8_1 dX8_shows_116 (fun hg3 hj4 => ?_)
    refine r_iload_n dX8_shows_117 rfl ?_
    refine u_X8_sinks (ok_X8_sinks g 12 q2 x1 (q2.2.1 8 1 0 (Int32.toNatClampNeg x1)) x3) dX8_shows_118 ml_X8_287 (Nat.le_of_ble_eq_true rfl) (fits_m (by omega) (by decide)) room_m (fun q5 => ?_)
    refine r_aload_n dX8_shows_121 rfl ?_
    refine gf_X8_15 rfl dX8_shows_122 ?_
    refine r_iload_n dX8_shows_125 rfl ?_
    refine al_8_2 dX8_shows_126 (fun hg6 hj7 => ?_)
    refine r_isub dX8_shows_127 ?_
    exact r_iret dX8_shows_128 rfl rfl
  refine r_by (fun e8 => ?_) (fun e8 => ?_)
  · refine r_tabIn dX8_shows_1 e8 (z := 1) (by decide) (by decide) (by decide) (off := 43) rfl (tgt := 44) (by decide) ?_
    refine r_aload_n dX8_shows_44 rfl ?_
    refine r_bipush dX8_shows_45 cb_20 ?_
    refine u_X8_ran (ok_X8_ran g s0 20) dX8_shows_47 ml_X8_283 (Nat.le_of_ble_eq_true rfl) (fits_m (by omega) (by decide)) room_m (fun q9 => ?_)
    refine r_aload_n dX8_shows_50 rfl ?_
    refine r_iload_n dX8_shows_51 rfl ?_
    refine r_iconst dX8_shows_52 ci_0 ?_
    refine r_iload_n dX8_shows_53 rfl ?_
    refine u_X8_shows (hq q9 x1 0 x3) dX8_shows_54 ml_X8_293 (Nat.le_of_ble_eq_true rfl) (fits_m (by omega) (by decide)) room_m (fun q10 => ?_)
    refine r_bipush dX8_shows_57 cb_6 ?_
    refine r_ixor dX8_shows_59 ?_
    exact r_iret dX8_shows_60 rfl rfl
  refine r_by (fun e11 => ?_) (fun e11 => ?_)
  · refine r_tabIn dX8_shows_1 e11 (z := 2) (by decide) (by decide) (by decide) (off := 128) rfl (tgt := 129) (by decide) ?_
    refine r_aload_n dX8_shows_129 rfl ?_
    refine r_iload_n dX8_shows_130 rfl ?_
    refine r_iload_n dX8_shows_131 rfl ?_
    refine u_X8_above (ok_X8_above g s0 x2) dX8_shows_132 ml_X8_290 (Nat.le_of_ble_eq_true rfl) (fits_m (by omega) (by decide)) room_m (fun q12 => ?_)
    refine r_iload_n dX8_shows_135 rfl ?_
    refine u_X8_shows (hq s0 x1 q12 x3) dX8_shows_136 ml_X8_293 (Nat.le_of_ble_eq_true rfl) (fits_m (by omega) (by decide)) room_m (fun q13 => ?_)
    exact r_iret dX8_shows_139 rfl rfl
  refine r_by (fun e14 => ?_) (fun e14 => ?_)
  · refine r_tabIn dX8_shows_1 e14 (z := 3) (by decide) (by decide) (by decide) (off := 128) rfl (tgt := 129) (by decide) ?_
    refine r_aload_n dX8_shows_129 rfl ?_
    refine r_iload_n dX8_shows_130 rfl ?_
    refine r_iload_n dX8_shows_131 rfl ?_
    refine u_X8_above (ok_X8_above g s0 x2) dX8_shows_132 ml_X8_290 (Nat.le_of_ble_eq_true rfl) (fits_m (by omega) (by decide)) room_m (fun q15 => ?_)
    refine r_iload_n dX8_shows_135 rfl ?_
    refine u_X8_shows (hq s0 x1 q15 x3) dX8_shows_136 ml_X8_293 (Nat.le_of_ble_eq_true rfl) (fits_m (by omega) (by decide)) room_m (fun q16 => ?_)
    exact r_iret dX8_shows_139 rfl rfl
  refine r_by (fun e17 => ?_) (fun e17 => ?_)
  · refine r_tabIn dX8_shows_1 e17 (z := 4) (by decide) (by decide) (by decide) (off := 60) rfl (tgt := 61) (by decide) ?_
    refine r_aload_n dX8_shows_61 rfl ?_
    refine r_bipush dX8_shows_62 cb_51 ?_
    refine u_X8_ran (ok_X8_ran g s0 51) dX8_shows_64 ml_X8_283 (Nat.le_of_ble_eq_true rfl) (fits_m (by omega) (by decide)) room_m (fun q18 => ?_)
    refine r_aload_n dX8_shows_67 rfl ?_
    refine r_iload_n dX8_shows_68 rfl ?_
    refine r_iconst dX8_shows_69 ci_1 ?_
    refine r_iload_n dX8_shows_70 rfl ?_
    refine r_iconst dX8_shows_71 ci_1 ?_
    refine r_iadd dX8_shows_72 ?_
    refine u_X8_shows (hq q18 x1 1 (x3 + 1)) dX8_shows_73 ml_X8_293 (Nat.le_of_ble_eq_true rfl) (fits_m (by omega) (by decide)) room_m (fun q19 => ?_)
    exact r_iret dX8_shows_76 rfl rfl
  refine r_by (fun e20 => ?_) (fun e20 => ?_)
  · refine r_tabIn dX8_shows_1 e20 (z := 5) (by decide) (by decide) (by decide) (off := 128) rfl (tgt := 129) (by decide) ?_
    refine r_aload_n dX8_shows_129 rfl ?_
    refine r_iload_n dX8_shows_130 rfl ?_
    refine r_iload_n dX8_shows_131 rfl ?_
    refine u_X8_above (ok_X8_above g s0 x2) dX8_shows_132 ml_X8_290 (Nat.le_of_ble_eq_true rfl) (fits_m (by omega) (by decide)) room_m (fun q21 => ?_)
    refine r_iload_n dX8_shows_135 rfl ?_
    refine u_X8_shows (hq s0 x1 q21 x3) dX8_shows_136 ml_X8_293 (Nat.le_of_ble_eq_true rfl) (fits_m (by omega) (by decide)) room_m (fun q22 => ?_)
    exact r_iret dX8_shows_139 rfl rfl
  refine r_by (fun e23 => ?_) (fun e23 => ?_)
  · refine r_tabIn dX8_shows_1 e23 (z := 6) (by decide) (by decide) (by decide) (off := 76) rfl (tgt := 77) (by decide) ?_
    refine r_aload_n dX8_shows_77 rfl ?_
    refine r_bipush dX8_shows_78 cb_70 ?_
    refine u_X8_ran (ok_X8_ran g s0 70) dX8_shows_80 ml_X8_283 (Nat.le_of_ble_eq_true rfl) (fits_m (by omega) (by decide)) room_m (fun q24 => ?_)
    refine r_aload_n dX8_shows_83 rfl ?_
    refine r_iload_n dX8_shows_84 rfl ?_
    refine r_iconst dX8_shows_85 ci_3 ?_
    refine r_iload_n dX8_shows_86 rfl ?_
    refine u_X8_shows (hq q24 x1 3 x3) dX8_shows_87 ml_X8_293 (Nat.le_of_ble_eq_true rfl) (fits_m (by omega) (by decide)) room_m (fun q25 => ?_)
    refine r_istoreN dX8_shows_90 rfl (lt_b rfl) (lt_b rfl) (fun v26 => ?_)
    refine r_iload dX8_shows_92 rfl ?_
    refine r_aload_n dX8_shows_94 rfl ?_
    refine r_iload_n dX8_shows_95 rfl ?_
    refine r_iconst dX8_shows_96 ci_3 ?_
    refine r_iconst dX8_shows_97 ci_2 ?_
    refine u_X8_sinks (ok_X8_sinks g 12 q25.2 x1 3 2) dX8_shows_98 ml_X8_287 (Nat.le_of_ble_eq_true rfl) (fits_m (by omega) (by decide)) room_m (fun q27 => ?_)
    refine r_iadd dX8_shows_101 ?_
    exact r_iret dX8_shows_102 rfl rfl
  refine r_tabOut dX8_shows_1 (by have a0 := sw_ne e1 (z := 0) (by decide); have a1 := sw_ne e8 (z := 1) (by decide); have a2 := sw_ne e11 (z := 2) (by decide); have a3 := sw_ne e14 (z := 3) (by decide); have a4 := sw_ne e17 (z := 4) (by decide); have a5 := sw_ne e20 (z := 5) (by decide); have a6 := sw_ne e23 (z := 6) (by decide); omega) (tgt := 129) (by decide) ?_
  refine r_aload_n dX8_shows_129 rfl ?_
  refine r_iload_n dX8_shows_130 rfl ?_
  refine r_iload_n dX8_shows_131 rfl ?_
  refine u_X8_above (ok_X8_above g s0 x2) dX8_shows_132 ml_X8_290 (Nat.le_of_ble_eq_true rfl) (fits_m (by omega) (by decide)) room_m (fun q28 => ?_)
  refine r_iload_n dX8_shows_135 rfl ?_
  refine u_X8_shows (hq s0 x1 q28 x3) dX8_shows_136 ml_X8_293 (Nat.le_of_ble_eq_true rfl) (fits_m (by omega) (by decide)) room_m (fun q29 => ?_)
  exact r_iret dX8_shows_139 rfl rfl
theorem ok_X8_shows_K (g : Gm) (D0 : Nat) (hD0 : 14 ≤ D0) (q : Sto → Int32 → Int32 → Int32 → Option (Int32 × Sto)) (hq : ∀ (s0 : Sto) (x1 : Int32) (x2 : Int32) (x3 : Int32), Ok g yX8_shows kX8_shows D0 [.ref (g.1 8 0 0), .int x1, .int x2, .int x3] s0 cvIw (q s0 x1 x2 x3)) (s0 : Sto) (x1 : Int32) (x2 : Int32) (x3 : Int32) : Ok g yX8_shows kX8_shows (D0 + 1) [.ref ((Em g (D0 + 1)).1.1 8 0 0), .int x1, .int x2, .int x3] s0 cvIw (f_X8_shows_K q s0 x1 x2 x3) := Ok.of (by decide) rfl (Nat.le_of_ble_eq_true rfl) (lv := [some (.ref ((Em g (D0 + 1)).1.1 8 0 0)), some (.int x1), some (.int x2), some (.int x3), none]) rfl (s_X8_shows g D0 hD0 q hq s0 x1 x2 x3)
def f_X8_shows : Nat → Sto → Int32 → Int32 → Int32 → Option (Int32 × Sto)
  | 0 => fun _ _ _ _ => none
  | n + 1 => f_X8_shows_K (f_X8_shows n)
theorem ok_X8_shows (g : Gm) : ∀ (n : Nat) (s0 : Sto) (x1 : Int32) (x2 : Int32) (x3 : Int32), Ok g yX8_shows kX8_shows (14 + 1 * n) [.ref (g.1 8 0 0), .int x1, .int x2, .int x3] s0 cvIw (f_X8_shows n s0 x1 x2 x3)
  | 0, _, _, _, _ => fun a h => nomatch h
  | n + 1, s0, x1, x2, x3 => ok_X8_shows_K g (14 + 1 * n) (by omega) (f_X8_shows n) (ok_X8_shows g n) s0 x1 x2 x3
theorem u_X8_tells {α : Type} {cv : α → Res} {E : EE} {K : KK} {pc npc idx d : Nat} {lv : List (Option Value)} {st : List Value} {σ : Sto} {oc : Option (Int32 × Sto)} {kf : (Int32 × Sto) → Option α} {x1 : Int32} {x2 : Int32} {x3 : Int32} (hOk : Ok E.1 yX8_tells kX8_tells d [.ref (E.1.1 8 0 0), .int x1, .int x2, .int x3] σ cvIw oc) (hd : Dc K pc (.invokevirtual idx) 3 npc) (hlk : Cond.methodLink K.2.1 idx yX8_tells ∈ lw_good) (hw : (st.map fun v => v.category).sum ≤ 8) (hfit : fits_ E d 5) (hrm : room_ok E) (kk : ∀ q : Int32 × Sto, Rf cv E K npc lv (.int q.1 :: st) q.2 (kf q)) : Rf cv E K pc lv (.int x3 :: .int x2 :: .int x1 :: .ref (E.1.1 8 0 0) :: st) σ (oc.bind kf) := c_V (n := 3) (as := [.int x1, .int x2, .int x3]) (c0 := 8) (i := 0) (CC := "ThawGivesModel") (T := TX8) (N := 43) hd hOk hlk wi_X8_tells wv_X8_tells wn_X8 wc_X8_tells rfl (by decide) (by decide) ⟨by decide, by decide, by decide⟩ rfl rfl hw hfit hrm (fun b _ => kk b)
def f_X8_tells_K (q : Sto → Int32 → Int32 → Int32 → Option (Int32 × Sto)) (s0 : Sto) (x1 : Int32) (x2 : Int32) (x3 : Int32) : Option (Int32 × Sto) :=
  (if x2 = 0 then
    (f_X8_ran s0 12).bind fun q2 => (if 0 ≤ x1 ∧ x1 < 6 then (f_X8_shows 12 q2 x1 (q2.2.1 8 1 0 (Int32.toNatClampNeg x1)) x3).bind fun q5 => some ((q5.1 * 2), q5.2) else none)
  else (if x2 = 3 then
    (f_X8_ran s0 40).bind fun q7 => (q q7 x1 0 x3).bind fun q8 => nmI (q8.1) fun v9 => (if 0 ≤ x1 ∧ x1 < 6 then (f_X8_shows 12 q8.2 x1 (q8.2.2.1 8 1 0 (Int32.toNatClampNeg x1)) 1).bind fun q12 => some ((v9 + q12.1), q12.2) else none)
  else (if x2 = 5 then
    (f_X8_ran s0 60).bind fun q14 => (q q14 x1 2 (x3 - x1)).bind fun q15 => some (q15.1, q15.2)
  else (f_X8_above x2).bind fun q16 => (q s0 x1 q16 x3).bind fun q17 => some (q17.1, q17.2))))
set_option maxRecDepth 100000 in
theorem s_X8_tells (g : Gm) (D0 : Nat) (hD0 : 27 ≤ D0) (q : Sto → Int32 → Int32 → Int32 → Option (Int32 × Sto)) (hq : ∀ (s0 : Sto) (x1 : Int32) (x2 : Int32) (x3 : Int32), Ok g yX8_tells kX8_tells D0 [.ref (g.1 8 0 0), .int x1, .int x2, .int x3] s0 cvIw (q s0 x1 x2 x3)) (s0 : Sto) (x1 : Int32) (x2 : Int32) (x3 : Int32) : Rf cvIw (Em g (D0 + 1)) kX8_tells 0 [some (.ref ((Em g (D0 + 1)).1.1 8 0 0)), some (.int x1), some (.int x2), some (.int x3), none] [] s0 (f_X8_tells_K q s0 x1 x2 x3) := by
  unfold f_X8_tells_K
  refine r_iload_n dX8_tells_0 rfl ?_
  refine r_by (fun e1 => ?_) (fun e1 => ?_)
  · refine r_look dX8_tells_1 (by decide) (off := 82) (by rw [e1]; rfl) (tgt := 83) (by decide) ?_
    refine r_aload_n dX8_tells_83 rfl ?_
    refine r_bipush dX8_tells_84 cb_12 ?_
    refine u_X8_ran (ok_X8_ran g s0 12) dX8_tells_86 ml_X8_283 (Nat.le_of_ble_eq_true rfl) (fits_m (by omega) (by decide)) room_m (fun q2 => ?_)
    refine r_aload_n dX8_tells_89 rfl ?_
    refine r_iload_n dX8_tells_90 rfl ?_
    refine r_aload_n dX8_tells_91 rfl ?_
    refine gf_X8_9 rfl dX8_tells_92 ?_
    refine r_iload_n dX8_tells_95 rfl ?_
    refine al_8_1 dX8_tells_96 (fun hg3 hj4 => ?_)
    refine r_iload_n dX8_tells_97 rfl ?_
    refine u_X8_shows (ok_X8_shows g 12 q2 x1 (q2.2.1 8 1 0 (Int32.toNatClampNeg x1)) x3) dX8_tells_98 ml_X8_293 (Nat.le_of_ble_eq_true rfl) (fits_m (by omega) (by decide)) room_m (fun q5 => ?_)
    refine r_iconst dX8_tells_101 ci_2 ?_
    refine r_imul dX8_tells_102 ?_
    exact r_iret dX8_tells_103 rfl rfl
  refine r_by (fun e6 => ?_) (fun e6 => ?_)
  · refine r_look dX8_tells_1 (by decide) (off := 35) (by rw [e6]; rfl) (tgt := 36) (by decide) ?_
    refine r_aload_n dX8_tells_36 rfl ?_
    refine r_bipush dX8_tells_37 cb_40 ?_
    refine u_X8_ran (ok_X8_ran g s0 40) dX8_tells_39 ml_X8_283 (Nat.le_of_ble_eq_true rfl) (fits_m (by omega) (by decide)) room_m (fun q7 => ?_)
    refine r_aload_n dX8_tells_42 rfl ?_
    refine r_iload_n dX8_tells_43 rfl ?_
    refine r_iconst dX8_tells_44 ci_0 ?_
    refine r_iload_n dX8_tells_45 rfl ?_
    refine u_X8_tells (hq q7 x1 0 x3) dX8_tells_46 ml_X8_296 (Nat.le_of_ble_eq_true rfl) (fits_m (by omega) (by decide)) room_m (fun q8 => ?_)
    refine r_istoreN dX8_tells_49 rfl (lt_b rfl) (lt_b rfl) (fun v9 => ?_)
    refine r_iload dX8_tells_51 rfl ?_
    refine r_aload_n dX8_tells_53 rfl ?_
    refine r_iload_n dX8_tells_54 rfl ?_
    refine r_aload_n dX8_tells_55 rfl ?_
    refine gf_X8_9 rfl dX8_tells_56 ?_
    refine r_iload_n dX8_tells_59 rfl ?_
    refine al_8_1 dX8_tells_60 (fun hg10 hj11 => ?_)
    refine r_iconst dX8_tells_61 ci_1 ?_
    refine u_X8_shows (ok_X8_shows g 12 q8.2 x1 (q8.2.2.1 8 1 0 (Int32.toNatClampNeg x1)) 1) dX8_tells_62 ml_X8_293 (Nat.le_of_ble_eq_true rfl) (fits_m (by omega) (by decide)) room_m (fun q12 => ?_)
    refine r_iadd dX8_tells_65 ?_
    exact r_iret dX8_tells_66 rfl rfl
  refine r_by (fun e13 => ?_) (fun e13 => ?_)
  · refine r_look dX8_tells_1 (by decide) (off := 66) (by rw [e13]; rfl) (tgt := 67) (by decide) ?_
    refine r_aload_n dX8_tells_67 rfl ?_
    refine r_bipush dX8_tells_68 cb_60 ?_
    refine u_X8_ran (ok_X8_ran g s0 60) dX8_tells_70 ml_X8_283 (Nat.le_of_ble_eq_true rfl) (fits_m (by omega) (by decide)) room_m (fun q14 => ?_)
    refine r_aload_n dX8_tells_73 rfl ?_
    refine r_iload_n dX8_tells_74 rfl ?_
    refine r_iconst dX8_tells_75 ci_2 ?_
    refine r_iload_n dX8_tells_76 rfl ?_
    refine r_iload_n dX8_tells_77 rfl ?_
    refine r_isub dX8_tells_78 ?_
    refine u_X8_tells (hq q14 x1 2 (x3 - x1)) dX8_tells_79 ml_X8_296 (Nat.le_of_ble_eq_true rfl) (fits_m (by omega) (by decide)) room_m (fun q15 => ?_)
    exact r_iret dX8_tells_82 rfl rfl
  refine r_look dX8_tells_1 (by decide) (off := 103) ((lv_osw e1 (by decide)).trans ((lv_osw e6 (by decide)).trans ((lv_osw e13 (by decide)).trans (rfl)))) (tgt := 104) (by decide) ?_
  refine r_aload_n dX8_tells_104 rfl ?_
  refine r_iload_n dX8_tells_105 rfl ?_
  refine r_iload_n dX8_tells_106 rfl ?_
  refine u_X8_above (ok_X8_above g s0 x2) dX8_tells_107 ml_X8_290 (Nat.le_of_ble_eq_true rfl) (fits_m (by omega) (by decide)) room_m (fun q16 => ?_)
  refine r_iload_n dX8_tells_110 rfl ?_
  refine u_X8_tells (hq s0 x1 q16 x3) dX8_tells_111 ml_X8_296 (Nat.le_of_ble_eq_true rfl) (fits_m (by omega) (by decide)) room_m (fun q17 => ?_)
  exact r_iret dX8_tells_114 rfl rfl
theorem ok_X8_tells_K (g : Gm) (D0 : Nat) (hD0 : 27 ≤ D0) (q : Sto → Int32 → Int32 → Int32 → Option (Int32 × Sto)) (hq : ∀ (s0 : Sto) (x1 : Int32) (x2 : Int32) (x3 : Int32), Ok g yX8_tells kX8_tells D0 [.ref (g.1 8 0 0), .int x1, .int x2, .int x3] s0 cvIw (q s0 x1 x2 x3)) (s0 : Sto) (x1 : Int32) (x2 : Int32) (x3 : Int32) : Ok g yX8_tells kX8_tells (D0 + 1) [.ref ((Em g (D0 + 1)).1.1 8 0 0), .int x1, .int x2, .int x3] s0 cvIw (f_X8_tells_K q s0 x1 x2 x3) := Ok.of (by decide) rfl (Nat.le_of_ble_eq_true rfl) (lv := [some (.ref ((Em g (D0 + 1)).1.1 8 0 0)), some (.int x1), some (.int x2), some (.int x3), none]) rfl (s_X8_tells g D0 hD0 q hq s0 x1 x2 x3)
def f_X8_tells : Nat → Sto → Int32 → Int32 → Int32 → Option (Int32 × Sto)
  | 0 => fun _ _ _ _ => none
  | n + 1 => f_X8_tells_K (f_X8_tells n)
theorem ok_X8_tells (g : Gm) : ∀ (n : Nat) (s0 : Sto) (x1 : Int32) (x2 : Int32) (x3 : Int32), Ok g yX8_tells kX8_tells (27 + 1 * n) [.ref (g.1 8 0 0), .int x1, .int x2, .int x3] s0 cvIw (f_X8_tells n s0 x1 x2 x3)
  | 0, _, _, _, _ => fun a h => nomatch h
  | n + 1, s0, x1, x2, x3 => ok_X8_tells_K g (27 + 1 * n) (by omega) (f_X8_tells n) (ok_X8_tells g n) s0 x1 x2 x3
def f_X8_act (s0 : Sto) (x1 : Int32) (x2 : Int32) (x3 : Int32) : Option (Int32 × Sto) :=
  nm (sF s0 8 33 0 0) fun s1 => (f_X8_isOne s1 x1).bind fun q2 => (if q2 = 0 then
    some (0, s1)
  else
    (f_X8_within x2 0 2).bind fun q4 => (if q4 = 0 then
      some (0, s1)
    else
      (if 0 ≤ x1 ∧ x1 < 6 then nmI ((s1.2.1 8 1 0 (Int32.toNatClampNeg x1))) fun v8 => (if x2 = 0 then
        (f_X8_sinks 12 s1 x1 v8 x3).bind fun q13 => some (q13.1, q13.2)
      else
        (if x2 = 1 then
          (f_X8_shows 12 s1 x1 v8 x3).bind fun q12 => some (q12.1, q12.2)
        else
          (f_X8_tells 12 s1 x1 v8 x3).bind fun q11 => some (q11.1, q11.2))) else none)))
set_option maxRecDepth 100000 in
theorem s_X8_act (g : Gm) (s0 : Sto) (x1 : Int32) (x2 : Int32) (x3 : Int32) : Rf cvIw (Em g 40) kX8_act 0 [some (.ref ((Em g 40).1.1 8 0 0)), some (.int x1), some (.int x2), some (.int x3), none] [] s0 (f_X8_act s0 x1 x2 x3) := by
  unfold f_X8_act
  refine r_aload_n dX8_act_0 rfl ?_
  refine r_iconst dX8_act_1 ci_0 ?_
  refine pf_X8_280 rfl dX8_act_2 (fun s1 => ?_)
  refine r_aload_n dX8_act_5 rfl ?_
  refine r_iload_n dX8_act_6 rfl ?_
  refine u_X8_isOne (ok_X8_isOne g s1 x1) dX8_act_7 ml_X8_109 (Nat.le_of_ble_eq_true rfl) (fits_m (by decide) (by decide)) room_m (fun q2 => ?_)
  refine r_ifeq dX8_act_10 (tgt := 22) (by decide) (fun c3 => ?_) (fun c3 => ?_)
  · refine r_iconst dX8_act_22 ci_0 ?_
    exact r_iret dX8_act_23 rfl rfl
  · refine r_iload_n dX8_act_13 rfl ?_
    refine r_iconst dX8_act_14 ci_0 ?_
    refine r_iconst dX8_act_15 ci_2 ?_
    refine u_X8_within (ok_X8_within g s1 x2 0 2) dX8_act_16 ml_X8_105 (Nat.le_of_ble_eq_true rfl) (fits_m (by decide) (by decide)) room_m (fun q4 => ?_)
    refine r_ifne dX8_act_19 (tgt := 24) (by decide) (fun c5 => ?_) (fun c5 => ?_)
    · refine r_iconst dX8_act_22 ci_0 ?_
      exact r_iret dX8_act_23 rfl rfl
    · refine r_aload_n dX8_act_24 rfl ?_
      refine gf_X8_9 rfl dX8_act_25 ?_
      refine r_iload_n dX8_act_28 rfl ?_
      refine al_8_1 dX8_act_29 (fun hg6 hj7 => ?_)
      refine r_istoreN dX8_act_30 rfl (lt_b rfl) (lt_b rfl) (fun v8 => ?_)
      refine r_iload_n dX8_act_32 rfl ?_
      refine r_ifne dX8_act_33 (tgt := 47) (by decide) (fun c9 => ?_) (fun c9 => ?_)
      · refine r_aload_n dX8_act_36 rfl ?_
        refine r_iload_n dX8_act_37 rfl ?_
        refine r_iload dX8_act_38 rfl ?_
        refine r_iload_n dX8_act_40 rfl ?_
        refine u_X8_sinks (ok_X8_sinks g 12 s1 x1 v8 x3) dX8_act_41 ml_X8_287 (Nat.le_of_ble_eq_true rfl) (fits_m (by decide) (by decide)) room_m (fun q13 => ?_)
        refine r_goto dX8_act_44 (tgt := 71) (by decide) ?_
        exact r_iret dX8_act_71 rfl rfl
      · refine r_iload_n dX8_act_47 rfl ?_
        refine r_iconst dX8_act_48 ci_1 ?_
        refine r_icne dX8_act_49 (tgt := 63) (by decide) (fun c10 => ?_) (fun c10 => ?_)
        · refine r_aload_n dX8_act_52 rfl ?_
          refine r_iload_n dX8_act_53 rfl ?_
          refine r_iload dX8_act_54 rfl ?_
          refine r_iload_n dX8_act_56 rfl ?_
          refine u_X8_shows (ok_X8_shows g 12 s1 x1 v8 x3) dX8_act_57 ml_X8_293 (Nat.le_of_ble_eq_true rfl) (fits_m (by decide) (by decide)) room_m (fun q12 => ?_)
          refine r_goto dX8_act_60 (tgt := 71) (by decide) ?_
          exact r_iret dX8_act_71 rfl rfl
        · refine r_aload_n dX8_act_63 rfl ?_
          refine r_iload_n dX8_act_64 rfl ?_
          refine r_iload dX8_act_65 rfl ?_
          refine r_iload_n dX8_act_67 rfl ?_
          refine u_X8_tells (ok_X8_tells g 12 s1 x1 v8 x3) dX8_act_68 ml_X8_296 (Nat.le_of_ble_eq_true rfl) (fits_m (by decide) (by decide)) room_m (fun q11 => ?_)
          exact r_iret dX8_act_71 rfl rfl
theorem ok_X8_act (g : Gm) (s0 : Sto) (x1 : Int32) (x2 : Int32) (x3 : Int32) : Ok g yX8_act kX8_act 40 [.ref ((Em g 40).1.1 8 0 0), .int x1, .int x2, .int x3] s0 cvIw (f_X8_act s0 x1 x2 x3) := Ok.of (by decide) rfl (Nat.le_of_ble_eq_true rfl) (lv := [some (.ref ((Em g 40).1.1 8 0 0)), some (.int x1), some (.int x2), some (.int x3), none]) rfl (s_X8_act g s0 x1 x2 x3)
theorem u_X8_act {α : Type} {cv : α → Res} {E : EE} {K : KK} {pc npc idx d : Nat} {lv : List (Option Value)} {st : List Value} {σ : Sto} {oc : Option (Int32 × Sto)} {kf : (Int32 × Sto) → Option α} {x1 : Int32} {x2 : Int32} {x3 : Int32} (hOk : Ok E.1 yX8_act kX8_act d [.ref (E.1.1 8 0 0), .int x1, .int x2, .int x3] σ cvIw oc) (hd : Dc K pc (.invokevirtual idx) 3 npc) (hlk : Cond.methodLink K.2.1 idx yX8_act ∈ lw_good) (hw : (st.map fun v => v.category).sum ≤ 8) (hfit : fits_ E d 5) (hrm : room_ok E) (kk : ∀ q : Int32 × Sto, Rf cv E K npc lv (.int q.1 :: st) q.2 (kf q)) : Rf cv E K pc lv (.int x3 :: .int x2 :: .int x1 :: .ref (E.1.1 8 0 0) :: st) σ (oc.bind kf) := c_V (n := 3) (as := [.int x1, .int x2, .int x3]) (c0 := 8) (i := 0) (CC := "ThawGivesModel") (T := TX8) (N := 43) hd hOk hlk wi_X8_act wv_X8_act wn_X8 wc_X8_act rfl (by decide) (by decide) ⟨by decide, by decide, by decide⟩ rfl rfl hw hfit hrm (fun b _ => kk b)
def f_X8_trace (s0 : Sto) (x1 : Int32) : Option (Int32) :=
  (f_J9_min_7cf53 20 (s0.1 8 33 0)).bind fun q1 => (f_X8_within x1 0 (q1 - 1)).bind fun q2 => (if q2 = 0 then
    some (-1 : Int32)
  else
    (if 0 ≤ x1 ∧ x1 < 20 then some (s0.2.1 8 34 0 (Int32.toNatClampNeg x1)) else none))
set_option maxRecDepth 100000 in
theorem s_X8_trace (g : Gm) (s0 : Sto) (x1 : Int32) : Rf (cvI s0) (Em g 1) kX8_trace 0 [some (.ref ((Em g 1).1.1 8 0 0)), some (.int x1)] [] s0 (f_X8_trace s0 x1) := by
  unfold f_X8_trace
  refine r_iload_n dX8_trace_0 rfl ?_
  refine r_iconst dX8_trace_1 ci_0 ?_
  refine r_bipush dX8_trace_2 cb_20 ?_
  refine r_aload_n dX8_trace_4 rfl ?_
  refine gf_X8_280 rfl dX8_trace_5 ?_
  refine u_J9_min_7cf53 (ok_J9_min_7cf53 g s0 20 (s0.1 8 33 0)) dX8_trace_8 ml_X8_212 (Nat.le_of_ble_eq_true rfl) (fits_m (by decide) (by decide)) room_m (fun q1 => ?_)
  refine r_iconst dX8_trace_11 ci_1 ?_
  refine r_isub dX8_trace_12 ?_
  refine u_X8_within (ok_X8_within g s0 x1 0 (q1 - 1)) dX8_trace_13 ml_X8_105 (Nat.le_of_ble_eq_true rfl) (fits_m (by decide) (by decide)) room_m (fun q2 => ?_)
  refine r_ifeq dX8_trace_16 (tgt := 28) (by decide) (fun c3 => ?_) (fun c3 => ?_)
  · refine r_iconst dX8_trace_28 ci_m1 ?_
    exact r_iret dX8_trace_29 rfl rfl
  · refine r_aload_n dX8_trace_19 rfl ?_
    refine gf_X8_73 rfl dX8_trace_20 ?_
    refine r_iload_n dX8_trace_23 rfl ?_
    refine al_8_34 dX8_trace_24 (fun hg4 hj5 => ?_)
    refine r_goto dX8_trace_25 (tgt := 29) (by decide) ?_
    exact r_iret dX8_trace_29 rfl rfl
theorem ok_X8_trace (g : Gm) (s0 : Sto) (x1 : Int32) : Ok g yX8_trace kX8_trace 1 [.ref ((Em g 1).1.1 8 0 0), .int x1] s0 (cvI s0) (f_X8_trace s0 x1) := Ok.of (by decide) rfl (Nat.le_of_ble_eq_true rfl) (lv := [some (.ref ((Em g 1).1.1 8 0 0)), some (.int x1)]) rfl (s_X8_trace g s0 x1)
theorem u_X8_trace {α : Type} {cv : α → Res} {E : EE} {K : KK} {pc npc idx d : Nat} {lv : List (Option Value)} {st : List Value} {σ : Sto} {oc : Option (Int32)} {kf : Int32 → Option α} {x1 : Int32} (hOk : Ok E.1 yX8_trace kX8_trace d [.ref (E.1.1 8 0 0), .int x1] σ (cvI σ) oc) (hd : Dc K pc (.invokevirtual idx) 3 npc) (hlk : Cond.methodLink K.2.1 idx yX8_trace ∈ lw_good) (hw : (st.map fun v => v.category).sum ≤ 8) (hfit : fits_ E d 2) (hrm : room_ok E) (kk : ∀ q : Int32, Rf cv E K npc lv (.int q :: st) σ (kf q)) : Rf cv E K pc lv (.int x1 :: .ref (E.1.1 8 0 0) :: st) σ (oc.bind kf) := c_V (n := 1) (as := [.int x1]) (c0 := 8) (i := 0) (CC := "ThawGivesModel") (T := TX8) (N := 43) hd hOk hlk wi_X8_trace wv_X8_trace wn_X8 wc_X8_trace rfl (by decide) (by decide) ⟨by decide, by decide, by decide⟩ rfl rfl hw hfit hrm (fun b _ => kk b)
def f_X8_taken_L48 (s0 : Sto) (x1 : Int32) (x2 : Int32) (x3 : Int32) : Option (Int32) :=
  (if x3 = x2 then
    (if 0 ≤ x1 ∧ x1 < 6 then some (s0.2.1 8 1 0 (Int32.toNatClampNeg x1)) else none)
  else
    some (-12 : Int32))
def f_X8_taken_B31 (s0 : Sto) (k31 : Int32 → Int32 → Int32 → Option (Int32)) (x1 : Int32) (x2 : Int32) (x3 : Int32) : Option (Int32) :=
  (if x3 = x2 then
    f_X8_taken_L48 s0 x1 x2 x3
  else
    (if x3 ≤ 0 then
      f_X8_taken_L48 s0 x1 x2 x3
    else
      (f_X8_above x3).bind fun q13 => k31 x1 x2 q13))
def f_X8_taken_L31 (s0 : Sto) : Nat → Int32 → Int32 → Int32 → Option (Int32)
  | 0 => fun _ _ _ => none
  | n + 1 => f_X8_taken_B31 s0 (f_X8_taken_L31 s0 n)
def f_X8_taken (s0 : Sto) (x1 : Int32) (x2 : Int32) : Option (Int32) :=
  (f_X8_within x2 0 6).bind fun q1 => (if q1 = 0 then
    some (-2 : Int32)
  else
    (f_X8_isOne s0 x1).bind fun q3 => (if q3 = 0 then
      some (-11 : Int32)
    else
      (if 0 ≤ x1 ∧ x1 < 6 then nmI ((s0.2.1 8 1 0 (Int32.toNatClampNeg x1))) fun v7 => f_X8_taken_L31 s0 1000 x1 x2 v7 else none)))
set_option maxRecDepth 100000 in
theorem s_X8_taken_L48 (g : Gm) (s0 : Sto) (x1 : Int32) (x2 : Int32) (x3 : Int32) : Rf (cvI s0) (Em g 2) kX8_taken 48 [some (.ref ((Em g 2).1.1 8 0 0)), some (.int x1), some (.int x2), some (.int x3)] [] s0 (f_X8_taken_L48 s0 x1 x2 x3) := by
  unfold f_X8_taken_L48
  refine r_iload_n dX8_taken_48 rfl ?_
  refine r_iload_n dX8_taken_49 rfl ?_
  refine r_icne dX8_taken_50 (tgt := 62) (by decide) (fun c9 => ?_) (fun c9 => ?_)
  · refine r_aload_n dX8_taken_53 rfl ?_
    refine gf_X8_9 rfl dX8_taken_54 ?_
    refine r_iload_n dX8_taken_57 rfl ?_
    refine al_8_1 dX8_taken_58 (fun hg10 hj11 => ?_)
    refine r_goto dX8_taken_59 (tgt := 64) (by decide) ?_
    exact r_iret dX8_taken_64 rfl rfl
  · refine r_bipush dX8_taken_62 cb_m12 ?_
    exact r_iret dX8_taken_64 rfl rfl
set_option maxRecDepth 100000 in
theorem s_X8_taken_B31 (g : Gm) (s0 : Sto) (k31 : Int32 → Int32 → Int32 → Option (Int32)) (hk31 : ∀ (x1 : Int32) (x2 : Int32) (x3 : Int32), Rf (cvI s0) (Em g 2) kX8_taken 31 [some (.ref ((Em g 2).1.1 8 0 0)), some (.int x1), some (.int x2), some (.int x3)] [] s0 (k31 x1 x2 x3)) (x1 : Int32) (x2 : Int32) (x3 : Int32) : Rf (cvI s0) (Em g 2) kX8_taken 31 [some (.ref ((Em g 2).1.1 8 0 0)), some (.int x1), some (.int x2), some (.int x3)] [] s0 (f_X8_taken_B31 s0 k31 x1 x2 x3) := by
  unfold f_X8_taken_B31
  refine r_iload_n dX8_taken_31 rfl ?_
  refine r_iload_n dX8_taken_32 rfl ?_
  refine r_iceq dX8_taken_33 (tgt := 48) (by decide) (fun c8 => ?_) (fun c8 => ?_)
  · exact r_mask [true, true, true, true] (s_X8_taken_L48 g s0 x1 x2 x3)
  · refine r_iload_n dX8_taken_36 rfl ?_
    refine r_ifle dX8_taken_37 (tgt := 48) (by decide) (fun c12 => ?_) (fun c12 => ?_)
    · exact r_mask [true, true, true, true] (s_X8_taken_L48 g s0 x1 x2 x3)
    · refine r_iload_n dX8_taken_40 rfl ?_
      refine u_X8_above (ok_X8_above g s0 x3) dX8_taken_41 ml_X8_290 (Nat.le_of_ble_eq_true rfl) (fits_m (by decide) (by decide)) room_m (fun q13 => ?_)
      refine r_istore_n dX8_taken_44 rfl (lt_b rfl) (lt_b rfl) ?_
      refine r_goto dX8_taken_45 (tgt := 31) (by decide) ?_
      exact r_mask [true, true, true, true] (hk31 x1 x2 q13)
theorem s_X8_taken_L31 (g : Gm) (s0 : Sto) : ∀ (n : Nat) (x1 : Int32) (x2 : Int32) (x3 : Int32), Rf (cvI s0) (Em g 2) kX8_taken 31 [some (.ref ((Em g 2).1.1 8 0 0)), some (.int x1), some (.int x2), some (.int x3)] [] s0 (f_X8_taken_L31 s0 n x1 x2 x3)
  | 0, _, _, _ => r_none
  | n + 1, x1, x2, x3 => s_X8_taken_B31 g s0 (f_X8_taken_L31 s0 n) (s_X8_taken_L31 g s0 n) x1 x2 x3
set_option maxRecDepth 100000 in
theorem s_X8_taken (g : Gm) (s0 : Sto) (x1 : Int32) (x2 : Int32) : Rf (cvI s0) (Em g 2) kX8_taken 0 [some (.ref ((Em g 2).1.1 8 0 0)), some (.int x1), some (.int x2), none] [] s0 (f_X8_taken s0 x1 x2) := by
  unfold f_X8_taken
  refine r_iload_n dX8_taken_0 rfl ?_
  refine r_iconst dX8_taken_1 ci_0 ?_
  refine r_bipush dX8_taken_2 cb_6 ?_
  refine u_X8_within (ok_X8_within g s0 x2 0 6) dX8_taken_4 ml_X8_105 (Nat.le_of_ble_eq_true rfl) (fits_m (by decide) (by decide)) room_m (fun q1 => ?_)
  refine r_ifne dX8_taken_7 (tgt := 13) (by decide) (fun c2 => ?_) (fun c2 => ?_)
  · refine r_bipush dX8_taken_10 cb_m2 ?_
    exact r_iret dX8_taken_12 rfl rfl
  · refine r_aload_n dX8_taken_13 rfl ?_
    refine r_iload_n dX8_taken_14 rfl ?_
    refine u_X8_isOne (ok_X8_isOne g s0 x1) dX8_taken_15 ml_X8_109 (Nat.le_of_ble_eq_true rfl) (fits_m (by decide) (by decide)) room_m (fun q3 => ?_)
    refine r_ifne dX8_taken_18 (tgt := 24) (by decide) (fun c4 => ?_) (fun c4 => ?_)
    · refine r_bipush dX8_taken_21 cb_m11 ?_
      exact r_iret dX8_taken_23 rfl rfl
    · refine r_aload_n dX8_taken_24 rfl ?_
      refine gf_X8_9 rfl dX8_taken_25 ?_
      refine r_iload_n dX8_taken_28 rfl ?_
      refine al_8_1 dX8_taken_29 (fun hg5 hj6 => ?_)
      refine r_istore_nN dX8_taken_30 rfl (lt_b rfl) (lt_b rfl) (fun v7 => ?_)
      exact r_mask [true, true, true, true] (s_X8_taken_L31 g s0 1000 x1 x2 v7)
theorem ok_X8_taken (g : Gm) (s0 : Sto) (x1 : Int32) (x2 : Int32) : Ok g yX8_taken kX8_taken 2 [.ref ((Em g 2).1.1 8 0 0), .int x1, .int x2] s0 (cvI s0) (f_X8_taken s0 x1 x2) := Ok.of (by decide) rfl (Nat.le_of_ble_eq_true rfl) (lv := [some (.ref ((Em g 2).1.1 8 0 0)), some (.int x1), some (.int x2), none]) rfl (s_X8_taken g s0 x1 x2)
theorem u_X8_taken {α : Type} {cv : α → Res} {E : EE} {K : KK} {pc npc idx d : Nat} {lv : List (Option Value)} {st : List Value} {σ : Sto} {oc : Option (Int32)} {kf : Int32 → Option α} {x1 : Int32} {x2 : Int32} (hOk : Ok E.1 yX8_taken kX8_taken d [.ref (E.1.1 8 0 0), .int x1, .int x2] σ (cvI σ) oc) (hd : Dc K pc (.invokevirtual idx) 3 npc) (hlk : Cond.methodLink K.2.1 idx yX8_taken ∈ lw_good) (hw : (st.map fun v => v.category).sum ≤ 8) (hfit : fits_ E d 4) (hrm : room_ok E) (kk : ∀ q : Int32, Rf cv E K npc lv (.int q :: st) σ (kf q)) : Rf cv E K pc lv (.int x2 :: .int x1 :: .ref (E.1.1 8 0 0) :: st) σ (oc.bind kf) := c_V (n := 2) (as := [.int x1, .int x2]) (c0 := 8) (i := 0) (CC := "ThawGivesModel") (T := TX8) (N := 43) hd hOk hlk wi_X8_taken wv_X8_taken wn_X8 wc_X8_taken rfl (by decide) (by decide) ⟨by decide, by decide, by decide⟩ rfl rfl hw hfit hrm (fun b _ => kk b)
def f_X8_count (s0 : Sto) (x1 : Int32) : Option (Int32) :=
  (if x1 = 0 then
    some (s0.1 8 0 0)
  else (if x1 = 1 then
    some (s0.1 8 13 0)
  else (if x1 = 2 then
    some (s0.1 8 23 0)
  else (if x1 = 3 then
    some (s0.1 8 27 0)
  else (if x1 = 4 then
    some (s0.1 8 30 0)
  else (if x1 = 5 then
    some (s0.1 8 7 0)
  else (if x1 = 6 then
    some (s0.1 8 33 0)
  else some (-2 : Int32))))))))
set_option maxRecDepth 100000 in
theorem s_X8_count (g : Gm) (s0 : Sto) (x1 : Int32) : Rf (cvI s0) (Em g 0) kX8_count 0 [some (.ref ((Em g 0).1.1 8 0 0)), some (.int x1)] [] s0 (f_X8_count s0 x1) := by
  unfold f_X8_count
  refine r_iload_n dX8_count_0 rfl ?_
  refine r_by (fun e1 => ?_) (fun e1 => ?_)
  · refine r_tabIn dX8_count_1 e1 (z := 0) (by decide) (by decide) (by decide) (off := 43) rfl (tgt := 44) (by decide) ?_
    refine r_aload_n dX8_count_44 rfl ?_
    refine gf_X8_102 rfl dX8_count_45 ?_
    exact r_iret dX8_count_48 rfl rfl
  refine r_by (fun e2 => ?_) (fun e2 => ?_)
  · refine r_tabIn dX8_count_1 e2 (z := 1) (by decide) (by decide) (by decide) (off := 48) rfl (tgt := 49) (by decide) ?_
    refine r_aload_n dX8_count_49 rfl ?_
    refine gf_X8_196 rfl dX8_count_50 ?_
    exact r_iret dX8_count_53 rfl rfl
  refine r_by (fun e3 => ?_) (fun e3 => ?_)
  · refine r_tabIn dX8_count_1 e3 (z := 2) (by decide) (by decide) (by decide) (off := 53) rfl (tgt := 54) (by decide) ?_
    refine r_aload_n dX8_count_54 rfl ?_
    refine gf_X8_255 rfl dX8_count_55 ?_
    exact r_iret dX8_count_58 rfl rfl
  refine r_by (fun e4 => ?_) (fun e4 => ?_)
  · refine r_tabIn dX8_count_1 e4 (z := 3) (by decide) (by decide) (by decide) (off := 58) rfl (tgt := 59) (by decide) ?_
    refine r_aload_n dX8_count_59 rfl ?_
    refine gf_X8_270 rfl dX8_count_60 ?_
    exact r_iret dX8_count_63 rfl rfl
  refine r_by (fun e5 => ?_) (fun e5 => ?_)
  · refine r_tabIn dX8_count_1 e5 (z := 4) (by decide) (by decide) (by decide) (off := 63) rfl (tgt := 64) (by decide) ?_
    refine r_aload_n dX8_count_64 rfl ?_
    refine gf_X8_273 rfl dX8_count_65 ?_
    exact r_iret dX8_count_68 rfl rfl
  refine r_by (fun e6 => ?_) (fun e6 => ?_)
  · refine r_tabIn dX8_count_1 e6 (z := 5) (by decide) (by decide) (by decide) (off := 68) rfl (tgt := 69) (by decide) ?_
    refine r_aload_n dX8_count_69 rfl ?_
    refine gf_X8_124 rfl dX8_count_70 ?_
    exact r_iret dX8_count_73 rfl rfl
  refine r_by (fun e7 => ?_) (fun e7 => ?_)
  · refine r_tabIn dX8_count_1 e7 (z := 6) (by decide) (by decide) (by decide) (off := 73) rfl (tgt := 74) (by decide) ?_
    refine r_aload_n dX8_count_74 rfl ?_
    refine gf_X8_280 rfl dX8_count_75 ?_
    exact r_iret dX8_count_78 rfl rfl
  refine r_tabOut dX8_count_1 (by have a0 := sw_ne e1 (z := 0) (by decide); have a1 := sw_ne e2 (z := 1) (by decide); have a2 := sw_ne e3 (z := 2) (by decide); have a3 := sw_ne e4 (z := 3) (by decide); have a4 := sw_ne e5 (z := 4) (by decide); have a5 := sw_ne e6 (z := 5) (by decide); have a6 := sw_ne e7 (z := 6) (by decide); omega) (tgt := 79) (by decide) ?_
  refine r_bipush dX8_count_79 cb_m2 ?_
  exact r_iret dX8_count_81 rfl rfl
theorem ok_X8_count (g : Gm) (s0 : Sto) (x1 : Int32) : Ok g yX8_count kX8_count 0 [.ref ((Em g 0).1.1 8 0 0), .int x1] s0 (cvI s0) (f_X8_count s0 x1) := Ok.of (by decide) rfl (Nat.le_of_ble_eq_true rfl) (lv := [some (.ref ((Em g 0).1.1 8 0 0)), some (.int x1)]) rfl (s_X8_count g s0 x1)
theorem u_X8_count {α : Type} {cv : α → Res} {E : EE} {K : KK} {pc npc idx d : Nat} {lv : List (Option Value)} {st : List Value} {σ : Sto} {oc : Option (Int32)} {kf : Int32 → Option α} {x1 : Int32} (hOk : Ok E.1 yX8_count kX8_count d [.ref (E.1.1 8 0 0), .int x1] σ (cvI σ) oc) (hd : Dc K pc (.invokevirtual idx) 3 npc) (hlk : Cond.methodLink K.2.1 idx yX8_count ∈ lw_good) (hw : (st.map fun v => v.category).sum ≤ 8) (hfit : fits_ E d 2) (hrm : room_ok E) (kk : ∀ q : Int32, Rf cv E K npc lv (.int q :: st) σ (kf q)) : Rf cv E K pc lv (.int x1 :: .ref (E.1.1 8 0 0) :: st) σ (oc.bind kf) := c_V (n := 1) (as := [.int x1]) (c0 := 8) (i := 0) (CC := "ThawGivesModel") (T := TX8) (N := 43) hd hOk hlk wi_X8_count wv_X8_count wn_X8 wc_X8_count rfl (by decide) (by decide) ⟨by decide, by decide, by decide⟩ rfl rfl hw hfit hrm (fun b _ => kk b)
def f_X8_isTape (x0 : Int32) : Option (Int32) :=
  (f_X8_within x0 0 5).bind fun q1 => (if q1 = 0 ∨ q1 = 1 then some q1 else none)
set_option maxRecDepth 100000 in
theorem s_X8_isTape (g : Gm) (sz : Sto) (x0 : Int32) : Rf (cvI sz) (Em g 1) kX8_isTape 0 [some (.int x0)] [] sz (f_X8_isTape x0) := by
  unfold f_X8_isTape
  refine r_iload_n dX8_isTape_0 rfl ?_
  refine r_iconst dX8_isTape_1 ci_0 ?_
  refine r_iconst dX8_isTape_2 ci_5 ?_
  refine u_X8_within (ok_X8_within g sz x0 0 5) dX8_isTape_3 ml_X8_105 (Nat.le_of_ble_eq_true rfl) (fits_m (by decide) (by decide)) room_m (fun q1 => ?_)
  exact r_gd (fun hz => r_zret dX8_isTape_6 rfl (nz01 hz) rfl)
theorem ok_X8_isTape (g : Gm) (sz : Sto) (x0 : Int32) : Ok g yX8_isTape kX8_isTape 1 [.int x0] sz (cvI sz) (f_X8_isTape x0) := Ok.of (by decide) rfl (Nat.le_of_ble_eq_true rfl) (lv := [some (.int x0)]) rfl (s_X8_isTape g sz x0)
theorem u_X8_isTape {α : Type} {cv : α → Res} {E : EE} {K : KK} {pc npc idx d : Nat} {lv : List (Option Value)} {st : List Value} {σ : Sto} {oc : Option (Int32)} {kf : Int32 → Option α} {x0 : Int32} (hOk : Ok E.1 yX8_isTape kX8_isTape d [.int x0] σ (cvI σ) oc) (hd : Dc K pc (.invokestatic idx) 3 npc) (hlk : Cond.methodLink K.2.1 idx yX8_isTape ∈ lw_good) (hw : (st.map fun v => v.category).sum ≤ 8) (hfit : fits_ E d 1) (hrm : room_ok E) (kk : ∀ q : Int32, Rf cv E K npc lv (.int q :: st) σ (kf q)) : Rf cv E K pc lv (.int x0 :: st) σ (oc.bind kf) := c_S (n := 1) (as := [.int x0]) hd hOk hlk wt_X8_isTape wn_X8 wc_X8_isTape ⟨by decide, by decide, by decide⟩ rfl rfl hw hfit hrm (fun b _ => kk b)
def f_X8_tape_B67 (k67 : Sto → Int32 → Int32 → Option (Int32 × Sto)) (s0 : Sto) (x1 : Int32) (x4 : Int32) : Option (Int32 × Sto) :=
  (if (60 : Int32) ≤ x4 then
    some (1, s0)
  else
    (if 0 ≤ ((60 * x1) + x4) ∧ ((60 * x1) + x4) < 360 then nm (sL s0 8 42 0 (vp_updL (s0.2.2.1 8 42 0) (Int32.toNatClampNeg ((60 * x1) + x4)) (0 : Int64))) fun s17 => nmI (x4 + 1) fun v18 => k67 s17 x1 v18 else none))
def f_X8_tape_L67 : Nat → Sto → Int32 → Int32 → Option (Int32 × Sto)
  | 0 => fun _ _ _ => none
  | n + 1 => f_X8_tape_B67 (f_X8_tape_L67 n)
def f_X8_tape_L42 (s0 : Sto) (x1 : Int32) (x2 : Int32) (x3 : Int32) : Option (Int32 × Sto) :=
  (if 0 ≤ x1 ∧ x1 < 6 then nm (sA s0 8 40 0 (upd (s0.2.1 8 40 0) (Int32.toNatClampNeg x1) x2)) fun s9 => (if 0 ≤ x2 then
    (if 0 ≤ x1 ∧ x1 < 6 then nm (sA s9 8 41 0 (upd (s9.2.1 8 41 0) (Int32.toNatClampNeg x1) x3)) fun s13 => f_X8_tape_L67 1000 s13 x1 0 else none)
  else
    (if 0 ≤ x1 ∧ x1 < 6 then nm (sA s9 8 41 0 (upd (s9.2.1 8 41 0) (Int32.toNatClampNeg x1) 0)) fun s21 => f_X8_tape_L67 1000 s21 x1 0 else none)) else none)
def f_X8_tape_L31 (s0 : Sto) (x1 : Int32) (x2 : Int32) (x3 : Int32) : Option (Int32 × Sto) :=
  (if x2 < 0 then
    f_X8_tape_L42 s0 x1 x2 x3
  else
    (if 0 ≤ x3 then
      f_X8_tape_L42 s0 x1 x2 x3
    else
      some ((-14 : Int32), s0)))
def f_X8_tape (s0 : Sto) (x1 : Int32) (x2 : Int32) (x3 : Int32) : Option (Int32 × Sto) :=
  (f_X8_isTape x1).bind fun q1 => (if q1 = 0 then
    some ((-1 : Int32), s0)
  else
    (f_X8_within x2 (-1 : Int32) 4).bind fun q3 => (if q3 = 0 then
      some ((-2 : Int32), s0)
    else
      (if x2 < 0 then
        f_X8_tape_L31 s0 x1 x2 x3
      else
        (if x3 ≤ 60 then
          f_X8_tape_L31 s0 x1 x2 x3
        else
          some ((-2 : Int32), s0)))))
set_option maxRecDepth 100000 in
theorem s_X8_tape_B67 (g : Gm) (k67 : Sto → Int32 → Int32 → Option (Int32 × Sto)) (hk67 : ∀ (s0 : Sto) (x1 : Int32) (x4 : Int32), Rf cvIw (Em g 2) kX8_tape 67 [some (.ref ((Em g 2).1.1 8 0 0)), some (.int x1), none, none, some (.int x4)] [] s0 (k67 s0 x1 x4)) (s0 : Sto) (x1 : Int32) (x4 : Int32) : Rf cvIw (Em g 2) kX8_tape 67 [some (.ref ((Em g 2).1.1 8 0 0)), some (.int x1), none, none, some (.int x4)] [] s0 (f_X8_tape_B67 k67 s0 x1 x4) := by
  unfold f_X8_tape_B67
  refine r_iload dX8_tape_67 rfl ?_
  refine r_bipush dX8_tape_69 cb_60 ?_
  refine r_icge dX8_tape_71 (tgt := 93) (by decide) (fun c14 => ?_) (fun c14 => ?_)
  · refine r_iconst dX8_tape_93 ci_1 ?_
    exact r_iret dX8_tape_94 rfl rfl
  · refine r_aload_n dX8_tape_74 rfl ?_
    refine gf_X8_94 rfl dX8_tape_75 ?_
    refine r_bipush dX8_tape_78 cb_60 ?_
    refine r_iload_n dX8_tape_80 rfl ?_
    refine r_imul dX8_tape_81 ?_
    refine r_iload dX8_tape_82 rfl ?_
    refine r_iadd dX8_tape_84 ?_
    refine r_lconst dX8_tape_85 cl_0 ?_
    refine as_8_42 dX8_tape_86 (fun hg15 hj16 s17 => ?_)
    refine r_iincN dX8_tape_87 rfl ci_1 rfl (lt_b rfl) (fun v18 => ?_)
    refine r_goto dX8_tape_90 (tgt := 67) (by decide) ?_
    exact r_mask [true, true, false, false, true] (hk67 s17 x1 v18)
theorem s_X8_tape_L67 (g : Gm) : ∀ (n : Nat) (s0 : Sto) (x1 : Int32) (x4 : Int32), Rf cvIw (Em g 2) kX8_tape 67 [some (.ref ((Em g 2).1.1 8 0 0)), some (.int x1), none, none, some (.int x4)] [] s0 (f_X8_tape_L67 n s0 x1 x4)
  | 0, _, _, _ => r_none
  | n + 1, s0, x1, x4 => s_X8_tape_B67 g (f_X8_tape_L67 n) (s_X8_tape_L67 g n) s0 x1 x4
set_option maxRecDepth 100000 in
theorem s_X8_tape_L42 (g : Gm) (s0 : Sto) (x1 : Int32) (x2 : Int32) (x3 : Int32) : Rf cvIw (Em g 2) kX8_tape 42 [some (.ref ((Em g 2).1.1 8 0 0)), some (.int x1), some (.int x2), some (.int x3), none] [] s0 (f_X8_tape_L42 s0 x1 x2 x3) := by
  unfold f_X8_tape_L42
  refine r_aload_n dX8_tape_42 rfl ?_
  refine gf_X8_88 rfl dX8_tape_43 ?_
  refine r_iload_n dX8_tape_46 rfl ?_
  refine r_iload_n dX8_tape_47 rfl ?_
  refine as_8_40 dX8_tape_48 (fun hg7 hj8 s9 => ?_)
  refine r_aload_n dX8_tape_49 rfl ?_
  refine gf_X8_91 rfl dX8_tape_50 ?_
  refine r_iload_n dX8_tape_53 rfl ?_
  refine r_iload_n dX8_tape_54 rfl ?_
  refine r_ifge dX8_tape_55 (tgt := 62) (by decide) (fun c10 => ?_) (fun c10 => ?_)
  · refine r_iload_n dX8_tape_62 rfl ?_
    refine as_8_41 dX8_tape_63 (fun hg11 hj12 s13 => ?_)
    refine r_iconst dX8_tape_64 ci_0 ?_
    refine r_istore dX8_tape_65 rfl (lt_b rfl) (lt_b rfl) ?_
    exact r_mask [true, true, false, false, true] (s_X8_tape_L67 g 1000 s13 x1 0)
  · refine r_iconst dX8_tape_58 ci_0 ?_
    refine r_goto dX8_tape_59 (tgt := 63) (by decide) ?_
    refine as_8_41 dX8_tape_63 (fun hg19 hj20 s21 => ?_)
    refine r_iconst dX8_tape_64 ci_0 ?_
    refine r_istore dX8_tape_65 rfl (lt_b rfl) (lt_b rfl) ?_
    exact r_mask [true, true, false, false, true] (s_X8_tape_L67 g 1000 s21 x1 0)
set_option maxRecDepth 100000 in
theorem s_X8_tape_L31 (g : Gm) (s0 : Sto) (x1 : Int32) (x2 : Int32) (x3 : Int32) : Rf cvIw (Em g 2) kX8_tape 31 [some (.ref ((Em g 2).1.1 8 0 0)), some (.int x1), some (.int x2), some (.int x3), none] [] s0 (f_X8_tape_L31 s0 x1 x2 x3) := by
  unfold f_X8_tape_L31
  refine r_iload_n dX8_tape_31 rfl ?_
  refine r_iflt dX8_tape_32 (tgt := 42) (by decide) (fun c6 => ?_) (fun c6 => ?_)
  · exact r_mask [true, true, true, true, false] (s_X8_tape_L42 g s0 x1 x2 x3)
  · refine r_iload_n dX8_tape_35 rfl ?_
    refine r_ifge dX8_tape_36 (tgt := 42) (by decide) (fun c22 => ?_) (fun c22 => ?_)
    · exact r_mask [true, true, true, true, false] (s_X8_tape_L42 g s0 x1 x2 x3)
    · refine r_bipush dX8_tape_39 cb_m14 ?_
      exact r_iret dX8_tape_41 rfl rfl
set_option maxRecDepth 100000 in
theorem s_X8_tape (g : Gm) (s0 : Sto) (x1 : Int32) (x2 : Int32) (x3 : Int32) : Rf cvIw (Em g 2) kX8_tape 0 [some (.ref ((Em g 2).1.1 8 0 0)), some (.int x1), some (.int x2), some (.int x3), none] [] s0 (f_X8_tape s0 x1 x2 x3) := by
  unfold f_X8_tape
  refine r_iload_n dX8_tape_0 rfl ?_
  refine u_X8_isTape (ok_X8_isTape g s0 x1) dX8_tape_1 ml_X8_299 (Nat.le_of_ble_eq_true rfl) (fits_m (by decide) (by decide)) room_m (fun q1 => ?_)
  refine r_ifne dX8_tape_4 (tgt := 9) (by decide) (fun c2 => ?_) (fun c2 => ?_)
  · refine r_iconst dX8_tape_7 ci_m1 ?_
    exact r_iret dX8_tape_8 rfl rfl
  · refine r_iload_n dX8_tape_9 rfl ?_
    refine r_iconst dX8_tape_10 ci_m1 ?_
    refine r_iconst dX8_tape_11 ci_4 ?_
    refine u_X8_within (ok_X8_within g s0 x2 (-1 : Int32) 4) dX8_tape_12 ml_X8_105 (Nat.le_of_ble_eq_true rfl) (fits_m (by decide) (by decide)) room_m (fun q3 => ?_)
    refine r_ifeq dX8_tape_15 (tgt := 28) (by decide) (fun c4 => ?_) (fun c4 => ?_)
    · refine r_bipush dX8_tape_28 cb_m2 ?_
      exact r_iret dX8_tape_30 rfl rfl
    · refine r_iload_n dX8_tape_18 rfl ?_
      refine r_iflt dX8_tape_19 (tgt := 31) (by decide) (fun c5 => ?_) (fun c5 => ?_)
      · exact r_mask [true, true, true, true, false] (s_X8_tape_L31 g s0 x1 x2 x3)
      · refine r_iload_n dX8_tape_22 rfl ?_
        refine r_bipush dX8_tape_23 cb_60 ?_
        refine r_icle dX8_tape_25 (tgt := 31) (by decide) (fun c23 => ?_) (fun c23 => ?_)
        · exact r_mask [true, true, true, true, false] (s_X8_tape_L31 g s0 x1 x2 x3)
        · refine r_bipush dX8_tape_28 cb_m2 ?_
          exact r_iret dX8_tape_30 rfl rfl
theorem ok_X8_tape (g : Gm) (s0 : Sto) (x1 : Int32) (x2 : Int32) (x3 : Int32) : Ok g yX8_tape kX8_tape 2 [.ref ((Em g 2).1.1 8 0 0), .int x1, .int x2, .int x3] s0 cvIw (f_X8_tape s0 x1 x2 x3) := Ok.of (by decide) rfl (Nat.le_of_ble_eq_true rfl) (lv := [some (.ref ((Em g 2).1.1 8 0 0)), some (.int x1), some (.int x2), some (.int x3), none]) rfl (s_X8_tape g s0 x1 x2 x3)
theorem u_X8_tape {α : Type} {cv : α → Res} {E : EE} {K : KK} {pc npc idx d : Nat} {lv : List (Option Value)} {st : List Value} {σ : Sto} {oc : Option (Int32 × Sto)} {kf : (Int32 × Sto) → Option α} {x1 : Int32} {x2 : Int32} {x3 : Int32} (hOk : Ok E.1 yX8_tape kX8_tape d [.ref (E.1.1 8 0 0), .int x1, .int x2, .int x3] σ cvIw oc) (hd : Dc K pc (.invokevirtual idx) 3 npc) (hlk : Cond.methodLink K.2.1 idx yX8_tape ∈ lw_good) (hw : (st.map fun v => v.category).sum ≤ 8) (hfit : fits_ E d 5) (hrm : room_ok E) (kk : ∀ q : Int32 × Sto, Rf cv E K npc lv (.int q.1 :: st) q.2 (kf q)) : Rf cv E K pc lv (.int x3 :: .int x2 :: .int x1 :: .ref (E.1.1 8 0 0) :: st) σ (oc.bind kf) := c_V (n := 3) (as := [.int x1, .int x2, .int x3]) (c0 := 8) (i := 0) (CC := "ThawGivesModel") (T := TX8) (N := 43) hd hOk hlk wi_X8_tape wv_X8_tape wn_X8 wc_X8_tape rfl (by decide) (by decide) ⟨by decide, by decide, by decide⟩ rfl rfl hw hfit hrm (fun b _ => kk b)
def f_X8_kept (x0 : Int32) (x1 : Int64) : Option (Int64) :=
  (if x0 = 0 then
    some (Int32.toInt64 (Int8.toInt32 (Int32.toInt8 (Int64.toInt32 x1))))
  else (if x0 = 1 then
    some (Int32.toInt64 (Int16.toInt32 (Int32.toInt16 (Int64.toInt32 x1))))
  else (if x0 = 2 then
    some (Int32.toInt64 (Int64.toInt32 x1))
  else (if x0 = 3 then
    some x1
  else (if (lg_cmp x1 (0 : Int64)) = 0 then
    some (0 : Int64)
  else
    some (1 : Int64))))))
set_option maxRecDepth 100000 in
theorem s_X8_kept (g : Gm) (sz : Sto) (x0 : Int32) (x1 : Int64) : Rf (cvL sz) (Em g 0) kX8_kept 0 [some (.int x0), some (.long x1), none] [] sz (f_X8_kept x0 x1) := by
  unfold f_X8_kept
  refine r_iload_n dX8_kept_0 rfl ?_
  refine r_by (fun e1 => ?_) (fun e1 => ?_)
  · refine r_tabIn dX8_kept_1 e1 (z := 0) (by decide) (by decide) (by decide) (off := 31) rfl (tgt := 32) (by decide) ?_
    refine r_lload_n dX8_kept_32 rfl ?_
    refine r_l2i dX8_kept_33 ?_
    refine r_i2b dX8_kept_34 ?_
    refine r_i2l dX8_kept_35 ?_
    exact r_lret dX8_kept_36 rfl rfl
  refine r_by (fun e2 => ?_) (fun e2 => ?_)
  · refine r_tabIn dX8_kept_1 e2 (z := 1) (by decide) (by decide) (by decide) (off := 36) rfl (tgt := 37) (by decide) ?_
    refine r_lload_n dX8_kept_37 rfl ?_
    refine r_l2i dX8_kept_38 ?_
    refine r_i2s dX8_kept_39 ?_
    refine r_i2l dX8_kept_40 ?_
    exact r_lret dX8_kept_41 rfl rfl
  refine r_by (fun e3 => ?_) (fun e3 => ?_)
  · refine r_tabIn dX8_kept_1 e3 (z := 2) (by decide) (by decide) (by decide) (off := 41) rfl (tgt := 42) (by decide) ?_
    refine r_lload_n dX8_kept_42 rfl ?_
    refine r_l2i dX8_kept_43 ?_
    refine r_i2l dX8_kept_44 ?_
    exact r_lret dX8_kept_45 rfl rfl
  refine r_by (fun e4 => ?_) (fun e4 => ?_)
  · refine r_tabIn dX8_kept_1 e4 (z := 3) (by decide) (by decide) (by decide) (off := 45) rfl (tgt := 46) (by decide) ?_
    refine r_lload_n dX8_kept_46 rfl ?_
    exact r_lret dX8_kept_47 rfl rfl
  refine r_tabOut dX8_kept_1 (by have a0 := sw_ne e1 (z := 0) (by decide); have a1 := sw_ne e2 (z := 1) (by decide); have a2 := sw_ne e3 (z := 2) (by decide); have a3 := sw_ne e4 (z := 3) (by decide); omega) (tgt := 48) (by decide) ?_
  refine r_lload_n dX8_kept_48 rfl ?_
  refine r_lconst dX8_kept_49 cl_0 ?_
  refine r_lcmp dX8_kept_50 ?_
  refine r_ifeq dX8_kept_51 (tgt := 58) (by decide) (fun c5 => ?_) (fun c5 => ?_)
  · refine r_lconst dX8_kept_58 cl_0 ?_
    exact r_lret dX8_kept_59 rfl rfl
  · refine r_lconst dX8_kept_54 cl_1 ?_
    refine r_goto dX8_kept_55 (tgt := 59) (by decide) ?_
    exact r_lret dX8_kept_59 rfl rfl
theorem ok_X8_kept (g : Gm) (sz : Sto) (x0 : Int32) (x1 : Int64) : Ok g yX8_kept kX8_kept 0 [.int x0, .long x1] sz (cvL sz) (f_X8_kept x0 x1) := Ok.of (by decide) rfl (Nat.le_of_ble_eq_true rfl) (lv := [some (.int x0), some (.long x1), none]) rfl (s_X8_kept g sz x0 x1)
theorem u_X8_kept {α : Type} {cv : α → Res} {E : EE} {K : KK} {pc npc idx d : Nat} {lv : List (Option Value)} {st : List Value} {σ : Sto} {oc : Option (Int64)} {kf : Int64 → Option α} {x0 : Int32} {x1 : Int64} (hOk : Ok E.1 yX8_kept kX8_kept d [.int x0, .long x1] σ (cvL σ) oc) (hd : Dc K pc (.invokestatic idx) 3 npc) (hlk : Cond.methodLink K.2.1 idx yX8_kept ∈ lw_good) (hw : (st.map fun v => v.category).sum ≤ 8) (hfit : fits_ E d 3) (hrm : room_ok E) (kk : ∀ q : Int64, Rf cv E K npc lv (.long q :: st) σ (kf q)) : Rf cv E K pc lv (.long x1 :: .int x0 :: st) σ (oc.bind kf) := c_S (n := 2) (as := [.int x0, .long x1]) hd hOk hlk wt_X8_kept wn_X8 wc_X8_kept ⟨by decide, by decide, by decide⟩ rfl rfl hw hfit hrm (fun b _ => kk b)
def f_X8_item (s0 : Sto) (x1 : Int32) (x2 : Int32) (x3 : Int64) : Option (Int32 × Sto) :=
  (f_X8_isTape x1).bind fun q1 => (if q1 = 0 then
    some ((-1 : Int32), s0)
  else
    (if 0 ≤ x1 ∧ x1 < 6 then (if 0 ≤ (s0.2.1 8 40 0 (Int32.toNatClampNeg x1)) then
      (if 0 ≤ x1 ∧ x1 < 6 then (f_X8_within x2 0 ((s0.2.1 8 41 0 (Int32.toNatClampNeg x1)) - 1)).bind fun q8 => (if q8 = 0 then
        some ((-13 : Int32), s0)
      else
        (if 0 ≤ x1 ∧ x1 < 6 then (f_X8_kept (s0.2.1 8 40 0 (Int32.toNatClampNeg x1)) x3).bind fun q12 => (if 0 ≤ ((60 * x1) + x2) ∧ ((60 * x1) + x2) < 360 then nm (sL s0 8 42 0 (vp_updL (s0.2.2.1 8 42 0) (Int32.toNatClampNeg ((60 * x1) + x2)) q12)) fun s15 => some (1, s15) else none) else none)) else none)
    else
      some ((-11 : Int32), s0)) else none))
set_option maxRecDepth 100000 in
theorem s_X8_item (g : Gm) (s0 : Sto) (x1 : Int32) (x2 : Int32) (x3 : Int64) : Rf cvIw (Em g 2) kX8_item 0 [some (.ref ((Em g 2).1.1 8 0 0)), some (.int x1), some (.int x2), some (.long x3), none] [] s0 (f_X8_item s0 x1 x2 x3) := by
  unfold f_X8_item
  refine r_iload_n dX8_item_0 rfl ?_
  refine u_X8_isTape (ok_X8_isTape g s0 x1) dX8_item_1 ml_X8_299 (Nat.le_of_ble_eq_true rfl) (fits_m (by decide) (by decide)) room_m (fun q1 => ?_)
  refine r_ifne dX8_item_4 (tgt := 9) (by decide) (fun c2 => ?_) (fun c2 => ?_)
  · refine r_iconst dX8_item_7 ci_m1 ?_
    exact r_iret dX8_item_8 rfl rfl
  · refine r_aload_n dX8_item_9 rfl ?_
    refine gf_X8_88 rfl dX8_item_10 ?_
    refine r_iload_n dX8_item_13 rfl ?_
    refine al_8_40 dX8_item_14 (fun hg3 hj4 => ?_)
    refine r_ifge dX8_item_15 (tgt := 21) (by decide) (fun c5 => ?_) (fun c5 => ?_)
    · refine r_iload_n dX8_item_21 rfl ?_
      refine r_iconst dX8_item_22 ci_0 ?_
      refine r_aload_n dX8_item_23 rfl ?_
      refine gf_X8_91 rfl dX8_item_24 ?_
      refine r_iload_n dX8_item_27 rfl ?_
      refine al_8_41 dX8_item_28 (fun hg6 hj7 => ?_)
      refine r_iconst dX8_item_29 ci_1 ?_
      refine r_isub dX8_item_30 ?_
      refine u_X8_within (ok_X8_within g s0 x2 0 ((s0.2.1 8 41 0 (Int32.toNatClampNeg x1)) - 1)) dX8_item_31 ml_X8_105 (Nat.le_of_ble_eq_true rfl) (fits_m (by decide) (by decide)) room_m (fun q8 => ?_)
      refine r_ifne dX8_item_34 (tgt := 40) (by decide) (fun c9 => ?_) (fun c9 => ?_)
      · refine r_bipush dX8_item_37 cb_m13 ?_
        exact r_iret dX8_item_39 rfl rfl
      · refine r_aload_n dX8_item_40 rfl ?_
        refine gf_X8_94 rfl dX8_item_41 ?_
        refine r_bipush dX8_item_44 cb_60 ?_
        refine r_iload_n dX8_item_46 rfl ?_
        refine r_imul dX8_item_47 ?_
        refine r_iload_n dX8_item_48 rfl ?_
        refine r_iadd dX8_item_49 ?_
        refine r_aload_n dX8_item_50 rfl ?_
        refine gf_X8_88 rfl dX8_item_51 ?_
        refine r_iload_n dX8_item_54 rfl ?_
        refine al_8_40 dX8_item_55 (fun hg10 hj11 => ?_)
        refine r_lload_n dX8_item_56 rfl ?_
        refine u_X8_kept (ok_X8_kept g s0 (s0.2.1 8 40 0 (Int32.toNatClampNeg x1)) x3) dX8_item_57 ml_X8_302 (Nat.le_of_ble_eq_true rfl) (fits_m (by decide) (by decide)) room_m (fun q12 => ?_)
        refine as_8_42 dX8_item_60 (fun hg13 hj14 s15 => ?_)
        refine r_iconst dX8_item_61 ci_1 ?_
        exact r_iret dX8_item_62 rfl rfl
    · refine r_bipush dX8_item_18 cb_m11 ?_
      exact r_iret dX8_item_20 rfl rfl
theorem ok_X8_item (g : Gm) (s0 : Sto) (x1 : Int32) (x2 : Int32) (x3 : Int64) : Ok g yX8_item kX8_item 2 [.ref ((Em g 2).1.1 8 0 0), .int x1, .int x2, .long x3] s0 cvIw (f_X8_item s0 x1 x2 x3) := Ok.of (by decide) rfl (Nat.le_of_ble_eq_true rfl) (lv := [some (.ref ((Em g 2).1.1 8 0 0)), some (.int x1), some (.int x2), some (.long x3), none]) rfl (s_X8_item g s0 x1 x2 x3)
theorem u_X8_item {α : Type} {cv : α → Res} {E : EE} {K : KK} {pc npc idx d : Nat} {lv : List (Option Value)} {st : List Value} {σ : Sto} {oc : Option (Int32 × Sto)} {kf : (Int32 × Sto) → Option α} {x1 : Int32} {x2 : Int32} {x3 : Int64} (hOk : Ok E.1 yX8_item kX8_item d [.ref (E.1.1 8 0 0), .int x1, .int x2, .long x3] σ cvIw oc) (hd : Dc K pc (.invokevirtual idx) 3 npc) (hlk : Cond.methodLink K.2.1 idx yX8_item ∈ lw_good) (hw : (st.map fun v => v.category).sum ≤ 8) (hfit : fits_ E d 5) (hrm : room_ok E) (kk : ∀ q : Int32 × Sto, Rf cv E K npc lv (.int q.1 :: st) q.2 (kf q)) : Rf cv E K pc lv (.long x3 :: .int x2 :: .int x1 :: .ref (E.1.1 8 0 0) :: st) σ (oc.bind kf) := c_V (n := 3) (as := [.int x1, .int x2, .long x3]) (c0 := 8) (i := 0) (CC := "ThawGivesModel") (T := TX8) (N := 43) hd hOk hlk wi_X8_item wv_X8_item wn_X8 wc_X8_item rfl (by decide) (by decide) ⟨by decide, by decide, by decide⟩ rfl rfl hw hfit hrm (fun b _ => kk b)
def f_X8_read (s0 : Sto) (x1 : Int32) (x2 : Int32) : Option (Int64) :=
  (f_X8_isTape x1).bind fun q1 => (if q1 = 0 then
    some (-9223372036854775808 : Int64)
  else
    (if 0 ≤ x1 ∧ x1 < 6 then (if (s0.2.1 8 40 0 (Int32.toNatClampNeg x1)) < 0 then
      some (-9223372036854775808 : Int64)
    else
      (if 0 ≤ x1 ∧ x1 < 6 then (f_X8_within x2 0 ((s0.2.1 8 41 0 (Int32.toNatClampNeg x1)) - 1)).bind fun q8 => (if q8 = 0 then
        some (-9223372036854775808 : Int64)
      else
        (if 0 ≤ ((60 * x1) + x2) ∧ ((60 * x1) + x2) < 360 then some (s0.2.2.1 8 42 0 (Int32.toNatClampNeg ((60 * x1) + x2))) else none)) else none)) else none))
set_option maxRecDepth 100000 in
theorem s_X8_read (g : Gm) (s0 : Sto) (x1 : Int32) (x2 : Int32) : Rf (cvL s0) (Em g 2) kX8_read 0 [some (.ref ((Em g 2).1.1 8 0 0)), some (.int x1), some (.int x2)] [] s0 (f_X8_read s0 x1 x2) := by
  unfold f_X8_read
  refine r_iload_n dX8_read_0 rfl ?_
  refine u_X8_isTape (ok_X8_isTape g s0 x1) dX8_read_1 ml_X8_299 (Nat.le_of_ble_eq_true rfl) (fits_m (by decide) (by decide)) room_m (fun q1 => ?_)
  refine r_ifeq dX8_read_4 (tgt := 46) (by decide) (fun c2 => ?_) (fun c2 => ?_)
  · refine r_ldc2 dX8_read_46 co_X8_261 ?_
    exact r_lret dX8_read_49 rfl rfl
  · refine r_aload_n dX8_read_7 rfl ?_
    refine gf_X8_88 rfl dX8_read_8 ?_
    refine r_iload_n dX8_read_11 rfl ?_
    refine al_8_40 dX8_read_12 (fun hg3 hj4 => ?_)
    refine r_iflt dX8_read_13 (tgt := 46) (by decide) (fun c5 => ?_) (fun c5 => ?_)
    · refine r_ldc2 dX8_read_46 co_X8_261 ?_
      exact r_lret dX8_read_49 rfl rfl
    · refine r_iload_n dX8_read_16 rfl ?_
      refine r_iconst dX8_read_17 ci_0 ?_
      refine r_aload_n dX8_read_18 rfl ?_
      refine gf_X8_91 rfl dX8_read_19 ?_
      refine r_iload_n dX8_read_22 rfl ?_
      refine al_8_41 dX8_read_23 (fun hg6 hj7 => ?_)
      refine r_iconst dX8_read_24 ci_1 ?_
      refine r_isub dX8_read_25 ?_
      refine u_X8_within (ok_X8_within g s0 x2 0 ((s0.2.1 8 41 0 (Int32.toNatClampNeg x1)) - 1)) dX8_read_26 ml_X8_105 (Nat.le_of_ble_eq_true rfl) (fits_m (by decide) (by decide)) room_m (fun q8 => ?_)
      refine r_ifeq dX8_read_29 (tgt := 46) (by decide) (fun c9 => ?_) (fun c9 => ?_)
      · refine r_ldc2 dX8_read_46 co_X8_261 ?_
        exact r_lret dX8_read_49 rfl rfl
      · refine r_aload_n dX8_read_32 rfl ?_
        refine gf_X8_94 rfl dX8_read_33 ?_
        refine r_bipush dX8_read_36 cb_60 ?_
        refine r_iload_n dX8_read_38 rfl ?_
        refine r_imul dX8_read_39 ?_
        refine r_iload_n dX8_read_40 rfl ?_
        refine r_iadd dX8_read_41 ?_
        refine al_8_42 dX8_read_42 (fun hg10 hj11 => ?_)
        refine r_goto dX8_read_43 (tgt := 49) (by decide) ?_
        exact r_lret dX8_read_49 rfl rfl
theorem ok_X8_read (g : Gm) (s0 : Sto) (x1 : Int32) (x2 : Int32) : Ok g yX8_read kX8_read 2 [.ref ((Em g 2).1.1 8 0 0), .int x1, .int x2] s0 (cvL s0) (f_X8_read s0 x1 x2) := Ok.of (by decide) rfl (Nat.le_of_ble_eq_true rfl) (lv := [some (.ref ((Em g 2).1.1 8 0 0)), some (.int x1), some (.int x2)]) rfl (s_X8_read g s0 x1 x2)
theorem u_X8_read {α : Type} {cv : α → Res} {E : EE} {K : KK} {pc npc idx d : Nat} {lv : List (Option Value)} {st : List Value} {σ : Sto} {oc : Option (Int64)} {kf : Int64 → Option α} {x1 : Int32} {x2 : Int32} (hOk : Ok E.1 yX8_read kX8_read d [.ref (E.1.1 8 0 0), .int x1, .int x2] σ (cvL σ) oc) (hd : Dc K pc (.invokevirtual idx) 3 npc) (hlk : Cond.methodLink K.2.1 idx yX8_read ∈ lw_good) (hw : (st.map fun v => v.category).sum ≤ 8) (hfit : fits_ E d 3) (hrm : room_ok E) (kk : ∀ q : Int64, Rf cv E K npc lv (.long q :: st) σ (kf q)) : Rf cv E K pc lv (.int x2 :: .int x1 :: .ref (E.1.1 8 0 0) :: st) σ (oc.bind kf) := c_V (n := 2) (as := [.int x1, .int x2]) (c0 := 8) (i := 0) (CC := "ThawGivesModel") (T := TX8) (N := 43) hd hOk hlk wi_X8_read wv_X8_read wn_X8 wc_X8_read rfl (by decide) (by decide) ⟨by decide, by decide, by decide⟩ rfl rfl hw hfit hrm (fun b _ => kk b)
