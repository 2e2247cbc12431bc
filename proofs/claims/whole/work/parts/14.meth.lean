def f_X8_letterOf (s0 : Sto) (x1 : Int32) (x2 : Int32) (x3 : Int32) : Option (Int32) :=
  (if x3 = 0 then
    some x1
  else (if x3 = 1 then
    (if 0 ≤ x1 ∧ x1 < 6 then some (s0.2.1 8 1 0 (Int32.toNatClampNeg x1)) else none)
  else (if x3 = 2 then
    (if 0 ≤ x1 ∧ x1 < 6 then some (s0.2.1 8 2 0 (Int32.toNatClampNeg x1)) else none)
  else (if x3 = 3 then
    (if 0 ≤ x1 ∧ x1 < 6 then some ((s0.2.1 8 3 0 (Int32.toNatClampNeg x1)) / 10) else none)
  else (if x3 = 4 then
    (if 0 ≤ x1 ∧ x1 < 6 then some ((s0.2.1 8 4 0 (Int32.toNatClampNeg x1)) / 10) else none)
  else some (x2 - x2 / 10 * 10))))))
set_option maxRecDepth 100000 in
theorem s_X8_letterOf (g : Gm) (s0 : Sto) (x1 : Int32) (x2 : Int32) (x3 : Int32) : Rf (cvI s0) (Em g 0) kX8_letterOf 0 [some (.ref ((Em g 0).1.1 8 0 0)), some (.int x1), some (.int x2), some (.int x3)] [] s0 (f_X8_letterOf s0 x1 x2 x3) := by
  unfold f_X8_letterOf
  refine r_iload_n dX8_letterOf_0 rfl ?_
  refine r_by (fun e1 => ?_) (fun e1 => ?_)
  · refine r_tabIn dX8_letterOf_1 e1 (z := 0) (by decide) (by decide) (by decide) (off := 35) rfl (tgt := 36) (by decide) ?_
    refine r_iload_n dX8_letterOf_36 rfl ?_
    exact r_iret dX8_letterOf_37 rfl rfl
  refine r_by (fun e2 => ?_) (fun e2 => ?_)
  · refine r_tabIn dX8_letterOf_1 e2 (z := 1) (by decide) (by decide) (by decide) (off := 37) rfl (tgt := 38) (by decide) ?_
    refine r_aload_n dX8_letterOf_38 rfl ?_
    refine gf_X8_9 rfl dX8_letterOf_39 ?_
    refine r_iload_n dX8_letterOf_42 rfl ?_
    refine al_8_1 dX8_letterOf_43 (fun hg3 hj4 => ?_)
    exact r_iret dX8_letterOf_44 rfl rfl
  refine r_by (fun e5 => ?_) (fun e5 => ?_)
  · refine r_tabIn dX8_letterOf_1 e5 (z := 2) (by decide) (by decide) (by decide) (off := 44) rfl (tgt := 45) (by decide) ?_
    refine r_aload_n dX8_letterOf_45 rfl ?_
    refine gf_X8_15 rfl dX8_letterOf_46 ?_
    refine r_iload_n dX8_letterOf_49 rfl ?_
    refine al_8_2 dX8_letterOf_50 (fun hg6 hj7 => ?_)
    exact r_iret dX8_letterOf_51 rfl rfl
  refine r_by (fun e8 => ?_) (fun e8 => ?_)
  · refine r_tabIn dX8_letterOf_1 e8 (z := 3) (by decide) (by decide) (by decide) (off := 51) rfl (tgt := 52) (by decide) ?_
    refine r_aload_n dX8_letterOf_52 rfl ?_
    refine gf_X8_18 rfl dX8_letterOf_53 ?_
    refine r_iload_n dX8_letterOf_56 rfl ?_
    refine al_8_3 dX8_letterOf_57 (fun hg9 hj10 => ?_)
    refine r_bipush dX8_letterOf_58 cb_10 ?_
    refine r_idiv dX8_letterOf_60 (by decide) ?_
    exact r_iret dX8_letterOf_61 rfl rfl
  refine r_by (fun e11 => ?_) (fun e11 => ?_)
  · refine r_tabIn dX8_letterOf_1 e11 (z := 4) (by decide) (by decide) (by decide) (off := 61) rfl (tgt := 62) (by decide) ?_
    refine r_aload_n dX8_letterOf_62 rfl ?_
    refine gf_X8_21 rfl dX8_letterOf_63 ?_
    refine r_iload_n dX8_letterOf_66 rfl ?_
    refine al_8_4 dX8_letterOf_67 (fun hg12 hj13 => ?_)
    refine r_bipush dX8_letterOf_68 cb_10 ?_
    refine r_idiv dX8_letterOf_70 (by decide) ?_
    exact r_iret dX8_letterOf_71 rfl rfl
  refine r_tabOut dX8_letterOf_1 (by have a0 := sw_ne e1 (z := 0) (by decide); have a1 := sw_ne e2 (z := 1) (by decide); have a2 := sw_ne e5 (z := 2) (by decide); have a3 := sw_ne e8 (z := 3) (by decide); have a4 := sw_ne e11 (z := 4) (by decide); omega) (tgt := 72) (by decide) ?_
  refine r_iload_n dX8_letterOf_72 rfl ?_
  refine r_bipush dX8_letterOf_73 cb_10 ?_
  refine r_irem dX8_letterOf_75 (by decide) ?_
  exact r_iret dX8_letterOf_76 rfl rfl
theorem ok_X8_letterOf (g : Gm) (s0 : Sto) (x1 : Int32) (x2 : Int32) (x3 : Int32) : Ok g yX8_letterOf kX8_letterOf 0 [.ref ((Em g 0).1.1 8 0 0), .int x1, .int x2, .int x3] s0 (cvI s0) (f_X8_letterOf s0 x1 x2 x3) := Ok.of (by decide) rfl (Nat.le_of_ble_eq_true rfl) (lv := [some (.ref ((Em g 0).1.1 8 0 0)), some (.int x1), some (.int x2), some (.int x3)]) rfl (s_X8_letterOf g s0 x1 x2 x3)
theorem u_X8_letterOf {α : Type} {cv : α → Res} {E : EE} {K : KK} {pc npc idx d : Nat} {lv : List (Option Value)} {st : List Value} {σ : Sto} {oc : Option (Int32)} {kf : Int32 → Option α} {x1 : Int32} {x2 : Int32} {x3 : Int32} (hOk : Ok E.1 yX8_letterOf kX8_letterOf d [.ref (E.1.1 8 0 0), .int x1, .int x2, .int x3] σ (cvI σ) oc) (hd : Dc K pc (.invokevirtual idx) 3 npc) (hlk : Cond.methodLink K.2.1 idx yX8_letterOf ∈ lw_good) (hw : (st.map fun v => v.category).sum ≤ 8) (hfit : fits_ E d 4) (hrm : room_ok E) (kk : ∀ q : Int32, Rf cv E K npc lv (.int q :: st) σ (kf q)) : Rf cv E K pc lv (.int x3 :: .int x2 :: .int x1 :: .ref (E.1.1 8 0 0) :: st) σ (oc.bind kf) := c_V (n := 3) (as := [.int x1, .int x2, .int x3]) (c0 := 8) (i := 0) (CC := "ThawGivesModel") (T := TX8) (N := 43) hd hOk hlk wi_X8_letterOf wv_X8_letterOf wn_X8 wc_X8_letterOf rfl (by decide) (by decide) ⟨by decide, by decide, by decide⟩ rfl rfl hw hfit hrm (fun b _ => kk b)
def f_X8_isTrue_B11 (k11 : Sto → Int32 → Int32 → Int32 → Int32 → Int32 → Option (Int32 × Sto)) (s0 : Sto) (x1 : Int32) (x2 : Int32) (x3 : Int32) (x4 : Int32) (x5 : Int32) : Option (Int32 × Sto) :=
  (if 0 ≤ x3 ∧ x3 < 61 then (if 0 ≤ x3 ∧ x3 < 61 then (if ((s0.2.1 8 18 0 (Int32.toNatClampNeg x3)) + (s0.2.1 8 19 0 (Int32.toNatClampNeg x3))) ≤ x5 then
    (if 0 ≤ (0 : Int32) ∧ (0 : Int32) < 110 then (if (s0.2.1 8 22 0 (Int32.toNatClampNeg 0)) = 0 ∨ (s0.2.1 8 22 0 (Int32.toNatClampNeg 0)) = 1 then some ((s0.2.1 8 22 0 (Int32.toNatClampNeg 0)), s0) else none) else none)
  else
    (if 0 ≤ x5 ∧ x5 < 800 then nmI ((s0.2.1 8 20 0 (Int32.toNatClampNeg x5))) fun v13 => (if v13 < 3 then
      (if v13 = 0 then
        (if 0 ≤ (x4 - 1) ∧ (x4 - 1) < 110 then (if (s0.2.1 8 22 0 (Int32.toNatClampNeg (x4 - 1))) = 0 then
          (if 0 ≤ (x4 - 1) ∧ (x4 - 1) < 110 then nm (sA s0 8 22 0 (upd (s0.2.1 8 22 0) (Int32.toNatClampNeg (x4 - 1)) (vp_nar .boolean 1))) fun s63 => nmI (x5 + 1) fun v64 => k11 s63 x1 x2 x3 x4 v64 else none)
        else
          (if 0 ≤ (x4 - 1) ∧ (x4 - 1) < 110 then nm (sA s0 8 22 0 (upd (s0.2.1 8 22 0) (Int32.toNatClampNeg (x4 - 1)) (vp_nar .boolean 0))) fun s59 => nmI (x5 + 1) fun v60 => k11 s59 x1 x2 x3 x4 v60 else none)) else none)
      else
        nmI (x4 + (-1 : Int32)) fun v16 => (if v13 = 1 then
          (if 0 ≤ (v16 - 1) ∧ (v16 - 1) < 110 then (if (s0.2.1 8 22 0 (Int32.toNatClampNeg (v16 - 1))) = 0 then
            (if 0 ≤ (v16 - 1) ∧ (v16 - 1) < 110 then nm (sA s0 8 22 0 (upd (s0.2.1 8 22 0) (Int32.toNatClampNeg (v16 - 1)) (vp_nar .boolean 0))) fun s41 => nmI (x5 + 1) fun v42 => k11 s41 x1 x2 x3 v16 v42 else none)
          else
            (if 0 ≤ v16 ∧ v16 < 110 then (if (s0.2.1 8 22 0 (Int32.toNatClampNeg v16)) = 0 then
              (if 0 ≤ (v16 - 1) ∧ (v16 - 1) < 110 then nm (sA s0 8 22 0 (upd (s0.2.1 8 22 0) (Int32.toNatClampNeg (v16 - 1)) (vp_nar .boolean 0))) fun s48 => nmI (x5 + 1) fun v49 => k11 s48 x1 x2 x3 v16 v49 else none)
            else
              (if 0 ≤ (v16 - 1) ∧ (v16 - 1) < 110 then nm (sA s0 8 22 0 (upd (s0.2.1 8 22 0) (Int32.toNatClampNeg (v16 - 1)) (vp_nar .boolean 1))) fun s52 => nmI (x5 + 1) fun v53 => k11 s52 x1 x2 x3 v16 v53 else none)) else none)) else none)
        else
          (if 0 ≤ (v16 - 1) ∧ (v16 - 1) < 110 then (if (s0.2.1 8 22 0 (Int32.toNatClampNeg (v16 - 1))) = 0 then
            (if 0 ≤ v16 ∧ v16 < 110 then (if (s0.2.1 8 22 0 (Int32.toNatClampNeg v16)) = 0 then
              (if 0 ≤ (v16 - 1) ∧ (v16 - 1) < 110 then nm (sA s0 8 22 0 (upd (s0.2.1 8 22 0) (Int32.toNatClampNeg (v16 - 1)) (vp_nar .boolean 0))) fun s30 => nmI (x5 + 1) fun v31 => k11 s30 x1 x2 x3 v16 v31 else none)
            else
              (if 0 ≤ (v16 - 1) ∧ (v16 - 1) < 110 then nm (sA s0 8 22 0 (upd (s0.2.1 8 22 0) (Int32.toNatClampNeg (v16 - 1)) (vp_nar .boolean 1))) fun s34 => nmI (x5 + 1) fun v35 => k11 s34 x1 x2 x3 v16 v35 else none)) else none)
          else
            (if 0 ≤ (v16 - 1) ∧ (v16 - 1) < 110 then nm (sA s0 8 22 0 (upd (s0.2.1 8 22 0) (Int32.toNatClampNeg (v16 - 1)) (vp_nar .boolean 1))) fun s23 => nmI (x5 + 1) fun v24 => k11 s23 x1 x2 x3 v16 v24 else none)) else none)))
    else
      (f_X8_letterOf s0 x1 x2 ((v13 - 3) / 300)).bind fun q65 => nmI (((v13 - 3) - (v13 - 3) / 100 * 100)) fun v66 => nmI ((((v13 - 3) / 100) - ((v13 - 3) / 100) / 3 * 3)) fun v67 => nmI (x4 + 1) fun v68 => (if v67 = 0 then
        (if v66 ≤ q65 then
          (if 0 ≤ x4 ∧ x4 < 110 then nm (sA s0 8 22 0 (upd (s0.2.1 8 22 0) (Int32.toNatClampNeg x4) (vp_nar .boolean 0))) fun s92 => nmI (x5 + 1) fun v93 => k11 s92 x1 x2 x3 v68 v93 else none)
        else
          (if 0 ≤ x4 ∧ x4 < 110 then nm (sA s0 8 22 0 (upd (s0.2.1 8 22 0) (Int32.toNatClampNeg x4) (vp_nar .boolean 1))) fun s96 => nmI (x5 + 1) fun v97 => k11 s96 x1 x2 x3 v68 v97 else none))
      else
        (if v67 = 1 then
          (if q65 = v66 then
            (if 0 ≤ x4 ∧ x4 < 110 then nm (sA s0 8 22 0 (upd (s0.2.1 8 22 0) (Int32.toNatClampNeg x4) (vp_nar .boolean 1))) fun s87 => nmI (x5 + 1) fun v88 => k11 s87 x1 x2 x3 v68 v88 else none)
          else
            (if 0 ≤ x4 ∧ x4 < 110 then nm (sA s0 8 22 0 (upd (s0.2.1 8 22 0) (Int32.toNatClampNeg x4) (vp_nar .boolean 0))) fun s83 => nmI (x5 + 1) fun v84 => k11 s83 x1 x2 x3 v68 v84 else none))
        else
          (if q65 ≤ v66 then
            (if 0 ≤ x4 ∧ x4 < 110 then nm (sA s0 8 22 0 (upd (s0.2.1 8 22 0) (Int32.toNatClampNeg x4) (vp_nar .boolean 0))) fun s74 => nmI (x5 + 1) fun v75 => k11 s74 x1 x2 x3 v68 v75 else none)
          else
            (if 0 ≤ x4 ∧ x4 < 110 then nm (sA s0 8 22 0 (upd (s0.2.1 8 22 0) (Int32.toNatClampNeg x4) (vp_nar .boolean 1))) fun s78 => nmI (x5 + 1) fun v79 => k11 s78 x1 x2 x3 v68 v79 else none))))) else none)) else none) else none)
def f_X8_isTrue_L11 : Nat → Sto → Int32 → Int32 → Int32 → Int32 → Int32 → Option (Int32 × Sto)
  | 0 => fun _ _ _ _ _ _ => none
  | n + 1 => f_X8_isTrue_B11 (f_X8_isTrue_L11 n)
def f_X8_isTrue (s0 : Sto) (x1 : Int32) (x2 : Int32) (x3 : Int32) : Option (Int32 × Sto) :=
  (if 0 ≤ x3 ∧ x3 < 61 then nmI ((s0.2.1 8 18 0 (Int32.toNatClampNeg x3))) fun v3 => f_X8_isTrue_L11 1000 s0 x1 x2 x3 0 v3 else none)
set_option maxRecDepth 100000 in
theorem s_X8_isTrue_B11 (g : Gm) (k11 : Sto → Int32 → Int32 → Int32 → Int32 → Int32 → Option (Int32 × Sto)) (hk11 : ∀ (s0 : Sto) (x1 : Int32) (x2 : Int32) (x3 : Int32) (x4 : Int32) (x5 : Int32), Rf cvIw (Em g 1) kX8_isTrue 11 [some (.ref ((Em g 1).1.1 8 0 0)), some (.int x1), some (.int x2), some (.int x3), some (.int x4), some (.int x5), none, none, none, none] [] s0 (k11 s0 x1 x2 x3 x4 x5)) (s0 : Sto) (x1 : Int32) (x2 : Int32) (x3 : Int32) (x4 : Int32) (x5 : Int32) : Rf cvIw (Em g 1) kX8_isTrue 11 [some (.ref ((Em g 1).1.1 8 0 0)), some (.int x1), some (.int x2), some (.int x3), some (.int x4), some (.int x5), none, none, none, none] [] s0 (f_X8_isTrue_B11 k11 s0 x1 x2 x3 x4 x5) := by
  unfold f_X8_isTrue_B11
  refine r_iload dX8_isTrue_11 rfl ?_
  refine r_aload_n dX8_isTrue_13 rfl ?_
  refine gf_X8_39 rfl dX8_isTrue_14 ?_
  refine r_iload_n dX8_isTrue_17 rfl ?_
  refine al_8_18 dX8_isTrue_18 (fun hg4 hj5 => ?_)
  refine r_aload_n dX8_isTrue_19 rfl ?_
  refine gf_X8_42 rfl dX8_isTrue_20 ?_
  refine r_iload_n dX8_isTrue_23 rfl ?_
  refine al_8_19 dX8_isTrue_24 (fun hg6 hj7 => ?_)
  refine r_iadd dX8_isTrue_25 ?_
  refine r_icge dX8_isTrue_26 (tgt := 261) (by decide) (fun c8 => ?_) (fun c8 => ?_)
  · refine r_aload_n dX8_isTrue_261 rfl ?_
    refine gf_X8_48 rfl dX8_isTrue_262 ?_
    refine r_iconst dX8_isTrue_265 ci_0 ?_
    refine al_8_22 dX8_isTrue_266 (fun hg9 hj10 => ?_)
    exact r_gd (fun hz => r_zret dX8_isTrue_267 rfl (nz01 hz) rfl)
  · refine r_aload_n dX8_isTrue_29 rfl ?_
    refine gf_X8_45 rfl dX8_isTrue_30 ?_
    refine r_iload dX8_isTrue_33 rfl ?_
    refine al_8_20 dX8_isTrue_35 (fun hg11 hj12 => ?_)
    refine r_istoreN dX8_isTrue_36 rfl (lt_b rfl) (lt_b rfl) (fun v13 => ?_)
    refine r_iload dX8_isTrue_38 rfl ?_
    refine r_iconst dX8_isTrue_40 ci_3 ?_
    refine r_iclt dX8_isTrue_41 (tgt := 146) (by decide) (fun c14 => ?_) (fun c14 => ?_)
    · refine r_iload dX8_isTrue_146 rfl ?_
      refine r_ifne dX8_isTrue_148 (tgt := 180) (by decide) (fun c15 => ?_) (fun c15 => ?_)
      · refine r_aload_n dX8_isTrue_151 rfl ?_
        refine gf_X8_48 rfl dX8_isTrue_152 ?_
        refine r_iload dX8_isTrue_155 rfl ?_
        refine r_iconst dX8_isTrue_157 ci_1 ?_
        refine r_isub dX8_isTrue_158 ?_
        refine r_aload_n dX8_isTrue_159 rfl ?_
        refine gf_X8_48 rfl dX8_isTrue_160 ?_
        refine r_iload dX8_isTrue_163 rfl ?_
        refine r_iconst dX8_isTrue_165 ci_1 ?_
        refine r_isub dX8_isTrue_166 ?_
        refine al_8_22 dX8_isTrue_167 (fun hg54 hj55 => ?_)
        refine r_ifne dX8_isTrue_168 (tgt := 175) (by decide) (fun c56 => ?_) (fun c56 => ?_)
        · refine r_iconst dX8_isTrue_171 ci_1 ?_
          refine r_goto dX8_isTrue_172 (tgt := 176) (by decide) ?_
          refine as_8_22 dX8_isTrue_176 (fun hg61 hj62 s63 => ?_)
          refine r_goto dX8_isTrue_177 (tgt := 255) (by decide) ?_
          refine r_iincN dX8_isTrue_255 rfl ci_1 rfl (lt_b rfl) (fun v64 => ?_)
          refine r_goto dX8_isTrue_258 (tgt := 11) (by decide) ?_
          exact r_mask [true, true, true, true, true, true, false, false, false, false] (hk11 s63 x1 x2 x3 x4 v64)
        · refine r_iconst dX8_isTrue_175 ci_0 ?_
          refine as_8_22 dX8_isTrue_176 (fun hg57 hj58 s59 => ?_)
          refine r_goto dX8_isTrue_177 (tgt := 255) (by decide) ?_
          refine r_iincN dX8_isTrue_255 rfl ci_1 rfl (lt_b rfl) (fun v60 => ?_)
          refine r_goto dX8_isTrue_258 (tgt := 11) (by decide) ?_
          exact r_mask [true, true, true, true, true, true, false, false, false, false] (hk11 s59 x1 x2 x3 x4 v60)
      · refine r_iincN dX8_isTrue_180 rfl ci_m1 rfl (lt_b rfl) (fun v16 => ?_)
        refine r_aload_n dX8_isTrue_183 rfl ?_
        refine gf_X8_48 rfl dX8_isTrue_184 ?_
        refine r_iload dX8_isTrue_187 rfl ?_
        refine r_iconst dX8_isTrue_189 ci_1 ?_
        refine r_isub dX8_isTrue_190 ?_
        refine r_iload dX8_isTrue_191 rfl ?_
        refine r_iconst dX8_isTrue_193 ci_1 ?_
        refine r_icne dX8_isTrue_194 (tgt := 227) (by decide) (fun c17 => ?_) (fun c17 => ?_)
        · refine r_aload_n dX8_isTrue_197 rfl ?_
          refine gf_X8_48 rfl dX8_isTrue_198 ?_
          refine r_iload dX8_isTrue_201 rfl ?_
          refine r_iconst dX8_isTrue_203 ci_1 ?_
          refine r_isub dX8_isTrue_204 ?_
          refine al_8_22 dX8_isTrue_205 (fun hg36 hj37 => ?_)
          refine r_ifeq dX8_isTrue_206 (tgt := 223) (by decide) (fun c38 => ?_) (fun c38 => ?_)
          · refine r_iconst dX8_isTrue_223 ci_0 ?_
            refine r_goto dX8_isTrue_224 (tgt := 254) (by decide) ?_
            refine as_8_22 dX8_isTrue_254 (fun hg39 hj40 s41 => ?_)
            refine r_iincN dX8_isTrue_255 rfl ci_1 rfl (lt_b rfl) (fun v42 => ?_)
            refine r_goto dX8_isTrue_258 (tgt := 11) (by decide) ?_
            exact r_mask [true, true, true, true, true, true, false, false, false, false] (hk11 s41 x1 x2 x3 v16 v42)
          · refine r_aload_n dX8_isTrue_209 rfl ?_
            refine gf_X8_48 rfl dX8_isTrue_210 ?_
            refine r_iload dX8_isTrue_213 rfl ?_
            refine al_8_22 dX8_isTrue_215 (fun hg43 hj44 => ?_)
            refine r_ifeq dX8_isTrue_216 (tgt := 223) (by decide) (fun c45 => ?_) (fun c45 => ?_)
            · refine r_iconst dX8_isTrue_223 ci_0 ?_
              refine r_goto dX8_isTrue_224 (tgt := 254) (by decide) ?_
              refine as_8_22 dX8_isTrue_254 (fun hg46 hj47 s48 => ?_)
              refine r_iincN dX8_isTrue_255 rfl ci_1 rfl (lt_b rfl) (fun v49 => ?_)
              refine r_goto dX8_isTrue_258 (tgt := 11) (by decide) ?_
              exact r_mask [true, true, true, true, true, true, false, false, false, false] (hk11 s48 x1 x2 x3 v16 v49)
            · refine r_iconst dX8_isTrue_219 ci_1 ?_
              refine r_goto dX8_isTrue_220 (tgt := 254) (by decide) ?_
              refine as_8_22 dX8_isTrue_254 (fun hg50 hj51 s52 => ?_)
              refine r_iincN dX8_isTrue_255 rfl ci_1 rfl (lt_b rfl) (fun v53 => ?_)
              refine r_goto dX8_isTrue_258 (tgt := 11) (by decide) ?_
              exact r_mask [true, true, true, true, true, true, false, false, false, false] (hk11 s52 x1 x2 x3 v16 v53)
        · refine r_aload_n dX8_isTrue_227 rfl ?_
          refine gf_X8_48 rfl dX8_isTrue_228 ?_
          refine r_iload dX8_isTrue_231 rfl ?_
          refine r_iconst dX8_isTrue_233 ci_1 ?_
          refine r_isub dX8_isTrue_234 ?_
          refine al_8_22 dX8_isTrue_235 (fun hg18 hj19 => ?_)
          refine r_ifne dX8_isTrue_236 (tgt := 249) (by decide) (fun c20 => ?_) (fun c20 => ?_)
          · refine r_aload_n dX8_isTrue_239 rfl ?_
            refine gf_X8_48 rfl dX8_isTrue_240 ?_
            refine r_iload dX8_isTrue_243 rfl ?_
            refine al_8_22 dX8_isTrue_245 (fun hg25 hj26 => ?_)
            refine r_ifeq dX8_isTrue_246 (tgt := 253) (by decide) (fun c27 => ?_) (fun c27 => ?_)
            · refine r_iconst dX8_isTrue_253 ci_0 ?_
              refine as_8_22 dX8_isTrue_254 (fun hg28 hj29 s30 => ?_)
              refine r_iincN dX8_isTrue_255 rfl ci_1 rfl (lt_b rfl) (fun v31 => ?_)
              refine r_goto dX8_isTrue_258 (tgt := 11) (by decide) ?_
              exact r_mask [true, true, true, true, true, true, false, false, false, false] (hk11 s30 x1 x2 x3 v16 v31)
            · refine r_iconst dX8_isTrue_249 ci_1 ?_
              refine r_goto dX8_isTrue_250 (tgt := 254) (by decide) ?_
              refine as_8_22 dX8_isTrue_254 (fun hg32 hj33 s34 => ?_)
              refine r_iincN dX8_isTrue_255 rfl ci_1 rfl (lt_b rfl) (fun v35 => ?_)
              refine r_goto dX8_isTrue_258 (tgt := 11) (by decide) ?_
              exact r_mask [true, true, true, true, true, true, false, false, false, false] (hk11 s34 x1 x2 x3 v16 v35)
          · refine r_iconst dX8_isTrue_249 ci_1 ?_
            refine r_goto dX8_isTrue_250 (tgt := 254) (by decide) ?_
            refine as_8_22 dX8_isTrue_254 (fun hg21 hj22 s23 => ?_)
            refine r_iincN dX8_isTrue_255 rfl ci_1 rfl (lt_b rfl) (fun v24 => ?_)
            refine r_goto dX8_isTrue_258 (tgt := 11) (by decide) ?_
            exact r_mask [true, true, true, true, true, true, false, false, false, false] (hk11 s23 x1 x2 x3 v16 v24)
    · refine r_aload_n dX8_isTrue_44 rfl ?_
      refine r_iload_n dX8_isTrue_45 rfl ?_
      refine r_iload_n dX8_isTrue_46 rfl ?_
      refine r_iload dX8_isTrue_47 rfl ?_
      refine r_iconst dX8_isTrue_49 ci_3 ?_
      refine r_isub dX8_isTrue_50 ?_
      refine r_sipush dX8_isTrue_51 cs_300 ?_
      refine r_idiv dX8_isTrue_54 (by decide) ?_
      refine u_X8_letterOf (ok_X8_letterOf g s0 x1 x2 ((v13 - 3) / 300)) dX8_isTrue_55 ml_X8_202 (Nat.le_of_ble_eq_true rfl) (fits_m (by decide) (by decide)) room_m (fun q65 => ?_)
      refine r_istore dX8_isTrue_58 rfl (lt_b rfl) (lt_b rfl) ?_
      refine r_iload dX8_isTrue_60 rfl ?_
      refine r_iconst dX8_isTrue_62 ci_3 ?_
      refine r_isub dX8_isTrue_63 ?_
      refine r_bipush dX8_isTrue_64 cb_100 ?_
      refine r_irem dX8_isTrue_66 (by decide) ?_
      refine r_istoreN dX8_isTrue_67 rfl (lt_b rfl) (lt_b rfl) (fun v66 => ?_)
      refine r_iload dX8_isTrue_69 rfl ?_
      refine r_iconst dX8_isTrue_71 ci_3 ?_
      refine r_isub dX8_isTrue_72 ?_
      refine r_bipush dX8_isTrue_73 cb_100 ?_
      refine r_idiv dX8_isTrue_75 (by decide) ?_
      refine r_iconst dX8_isTrue_76 ci_3 ?_
      refine r_irem dX8_isTrue_77 (by decide) ?_
      refine r_istoreN dX8_isTrue_78 rfl (lt_b rfl) (lt_b rfl) (fun v67 => ?_)
      refine r_aload_n dX8_isTrue_80 rfl ?_
      refine gf_X8_48 rfl dX8_isTrue_81 ?_
      refine r_iload dX8_isTrue_84 rfl ?_
      refine r_iincN dX8_isTrue_86 rfl ci_1 rfl (lt_b rfl) (fun v68 => ?_)
      refine r_iload dX8_isTrue_89 rfl ?_
      refine r_ifne dX8_isTrue_91 (tgt := 109) (by decide) (fun c69 => ?_) (fun c69 => ?_)
      · refine r_iload dX8_isTrue_94 rfl ?_
        refine r_iload dX8_isTrue_96 rfl ?_
        refine r_icge dX8_isTrue_98 (tgt := 105) (by decide) (fun c89 => ?_) (fun c89 => ?_)
        · refine r_iconst dX8_isTrue_105 ci_0 ?_
          refine r_goto dX8_isTrue_106 (tgt := 142) (by decide) ?_
          refine as_8_22 dX8_isTrue_142 (fun hg90 hj91 s92 => ?_)
          refine r_goto dX8_isTrue_143 (tgt := 255) (by decide) ?_
          refine r_iincN dX8_isTrue_255 rfl ci_1 rfl (lt_b rfl) (fun v93 => ?_)
          refine r_goto dX8_isTrue_258 (tgt := 11) (by decide) ?_
          exact r_mask [true, true, true, true, true, true, false, false, false, false] (hk11 s92 x1 x2 x3 v68 v93)
        · refine r_iconst dX8_isTrue_101 ci_1 ?_
          refine r_goto dX8_isTrue_102 (tgt := 142) (by decide) ?_
          refine as_8_22 dX8_isTrue_142 (fun hg94 hj95 s96 => ?_)
          refine r_goto dX8_isTrue_143 (tgt := 255) (by decide) ?_
          refine r_iincN dX8_isTrue_255 rfl ci_1 rfl (lt_b rfl) (fun v97 => ?_)
          refine r_goto dX8_isTrue_258 (tgt := 11) (by decide) ?_
          exact r_mask [true, true, true, true, true, true, false, false, false, false] (hk11 s96 x1 x2 x3 v68 v97)
      · refine r_iload dX8_isTrue_109 rfl ?_
        refine r_iconst dX8_isTrue_111 ci_1 ?_
        refine r_icne dX8_isTrue_112 (tgt := 130) (by decide) (fun c70 => ?_) (fun c70 => ?_)
        · refine r_iload dX8_isTrue_115 rfl ?_
          refine r_iload dX8_isTrue_117 rfl ?_
          refine r_icne dX8_isTrue_119 (tgt := 126) (by decide) (fun c80 => ?_) (fun c80 => ?_)
          · refine r_iconst dX8_isTrue_122 ci_1 ?_
            refine r_goto dX8_isTrue_123 (tgt := 142) (by decide) ?_
            refine as_8_22 dX8_isTrue_142 (fun hg85 hj86 s87 => ?_)
            refine r_goto dX8_isTrue_143 (tgt := 255) (by decide) ?_
            refine r_iincN dX8_isTrue_255 rfl ci_1 rfl (lt_b rfl) (fun v88 => ?_)
            refine r_goto dX8_isTrue_258 (tgt := 11) (by decide) ?_
            exact r_mask [true, true, true, true, true, true, false, false, false, false] (hk11 s87 x1 x2 x3 v68 v88)
          · refine r_iconst dX8_isTrue_126 ci_0 ?_
            refine r_goto dX8_isTrue_127 (tgt := 142) (by decide) ?_
            refine as_8_22 dX8_isTrue_142 (fun hg81 hj82 s83 => ?_)
            refine r_goto dX8_isTrue_143 (tgt := 255) (by decide) ?_
            refine r_iincN dX8_isTrue_255 rfl ci_1 rfl (lt_b rfl) (fun v84 => ?_)
            refine r_goto dX8_isTrue_258 (tgt := 11) (by decide) ?_
            exact r_mask [true, true, true, true, true, true, false, false, false, false] (hk11 s83 x1 x2 x3 v68 v84)
        · refine r_iload dX8_isTrue_130 rfl ?_
          refine r_iload dX8_isTrue_132 rfl ?_
          refine r_icle dX8_isTrue_134 (tgt := 141) (by decide) (fun c71 => ?_) (fun c71 => ?_)
          · refine r_iconst dX8_isTrue_141 ci_0 ?_
            refine as_8_22 dX8_isTrue_142 (fun hg72 hj73 s74 => ?_)
            refine r_goto dX8_isTrue_143 (tgt := 255) (by decide) ?_
            refine r_iincN dX8_isTrue_255 rfl ci_1 rfl (lt_b rfl) (fun v75 => ?_)
            refine r_goto dX8_isTrue_258 (tgt := 11) (by decide) ?_
            exact r_mask [true, true, true, true, true, true, false, false, false, false] (hk11 s74 x1 x2 x3 v68 v75)
          · refine r_iconst dX8_isTrue_137 ci_1 ?_
            refine r_goto dX8_isTrue_138 (tgt := 142) (by decide) ?_
            refine as_8_22 dX8_isTrue_142 (fun hg76 hj77 s78 => ?_)
            refine r_goto dX8_isTrue_143 (tgt := 255) (by decide) ?_
            refine r_iincN dX8_isTrue_255 rfl ci_1 rfl (lt_b rfl) (fun v79 => ?_)
            refine r_goto dX8_isTrue_258 (tgt := 11) (by decide) ?_
            exact r_mask [true, true, true, true, true, true, false, false, false, false] (hk11 s78 x1 x2 x3 v68 v79)
theorem s_X8_isTrue_L11 (g : Gm) : ∀ (n : Nat) (s0 : Sto) (x1 : Int32) (x2 : Int32) (x3 : Int32) (x4 : Int32) (x5 : Int32), Rf cvIw (Em g 1) kX8_isTrue 11 [some (.ref ((Em g 1).1.1 8 0 0)), some (.int x1), some (.int x2), some (.int x3), some (.int x4), some (.int x5), none, none, none, none] [] s0 (f_X8_isTrue_L11 n s0 x1 x2 x3 x4 x5)
  | 0, _, _, _, _, _, _ => r_none
  | n + 1, s0, x1, x2, x3, x4, x5 => s_X8_isTrue_B11 g (f_X8_isTrue_L11 n) (s_X8_isTrue_L11 g n) s0 x1 x2 x3 x4 x5
set_option maxRecDepth 100000 in
theorem s_X8_isTrue (g : Gm) (s0 : Sto) (x1 : Int32) (x2 : Int32) (x3 : Int32) : Rf cvIw (Em g 1) kX8_isTrue 0 [some (.ref ((Em g 1).1.1 8 0 0)), some (.int x1), some (.int x2), some (.int x3), none, none, none, none, none, none] [] s0 (f_X8_isTrue s0 x1 x2 x3) := by
  unfold f_X8_isTrue
  refine r_iconst dX8_isTrue_0 ci_0 ?_
  refine r_istore dX8_isTrue_1 rfl (lt_b rfl) (lt_b rfl) ?_
  refine r_aload_n dX8_isTrue_3 rfl ?_
  refine gf_X8_39 rfl dX8_isTrue_4 ?_
  refine r_iload_n dX8_isTrue_7 rfl ?_
  refine al_8_18 dX8_isTrue_8 (fun hg1 hj2 => ?_)
  refine r_istoreN dX8_isTrue_9 rfl (lt_b rfl) (lt_b rfl) (fun v3 => ?_)
  exact r_mask [true, true, true, true, true, true, false, false, false, false] (s_X8_isTrue_L11 g 1000 s0 x1 x2 x3 0 v3)
theorem ok_X8_isTrue (g : Gm) (s0 : Sto) (x1 : Int32) (x2 : Int32) (x3 : Int32) : Ok g yX8_isTrue kX8_isTrue 1 [.ref ((Em g 1).1.1 8 0 0), .int x1, .int x2, .int x3] s0 cvIw (f_X8_isTrue s0 x1 x2 x3) := Ok.of (by decide) rfl (Nat.le_of_ble_eq_true rfl) (lv := [some (.ref ((Em g 1).1.1 8 0 0)), some (.int x1), some (.int x2), some (.int x3), none, none, none, none, none, none]) rfl (s_X8_isTrue g s0 x1 x2 x3)
theorem u_X8_isTrue {α : Type} {cv : α → Res} {E : EE} {K : KK} {pc npc idx d : Nat} {lv : List (Option Value)} {st : List Value} {σ : Sto} {oc : Option (Int32 × Sto)} {kf : (Int32 × Sto) → Option α} {x1 : Int32} {x2 : Int32} {x3 : Int32} (hOk : Ok E.1 yX8_isTrue kX8_isTrue d [.ref (E.1.1 8 0 0), .int x1, .int x2, .int x3] σ cvIw oc) (hd : Dc K pc (.invokevirtual idx) 3 npc) (hlk : Cond.methodLink K.2.1 idx yX8_isTrue ∈ lw_good) (hw : (st.map fun v => v.category).sum ≤ 8) (hfit : fits_ E d 10) (hrm : room_ok E) (kk : ∀ q : Int32 × Sto, Rf cv E K npc lv (.int q.1 :: st) q.2 (kf q)) : Rf cv E K pc lv (.int x3 :: .int x2 :: .int x1 :: .ref (E.1.1 8 0 0) :: st) σ (oc.bind kf) := c_V (n := 3) (as := [.int x1, .int x2, .int x3]) (c0 := 8) (i := 0) (CC := "ThawGivesModel") (T := TX8) (N := 43) hd hOk hlk wi_X8_isTrue wv_X8_isTrue wn_X8 wc_X8_isTrue rfl (by decide) (by decide) ⟨by decide, by decide, by decide⟩ rfl rfl hw hfit hrm (fun b _ => kk b)
def f_X8_sum_B16 (k16 : Sto → Int32 → Int32 → Int32 → Int32 → Option (Int32 × Sto)) (s0 : Sto) (x1 : Int32) (x2 : Int32) (x3 : Int32) (x4 : Int32) : Option (Int32 × Sto) :=
  (if (s0.1 8 14 0) = (-1 : Int32) then
    some (x3, s0)
  else
    (if 0 ≤ (s0.1 8 14 0) ∧ (s0.1 8 14 0) < 6 then (if (s0.2.1 8 15 0 (Int32.toNatClampNeg (s0.1 8 14 0))) ≤ x4 then
      some (x3, s0)
    else
      nmI (((10 * (s0.1 8 14 0)) + x4)) fun v8 => (if 0 ≤ v8 ∧ v8 < 61 then (if (2 : Int32) ≤ (s0.2.1 8 16 0 (Int32.toNatClampNeg v8)) then
        nmI (x4 + 1) fun v12 => k16 s0 x1 x2 x3 v12
      else
        (f_X8_isTrue s0 x1 x2 v8).bind fun q13 => (if q13.1 = 0 then
          nmI (x4 + 1) fun v15 => k16 q13.2 x1 x2 x3 v15
        else
          (if 0 ≤ v8 ∧ v8 < 61 then (if (q13.2.2.1 8 16 0 (Int32.toNatClampNeg v8)) = 0 then
            (if 0 ≤ v8 ∧ v8 < 61 then nmI ((x3 + (q13.2.2.1 8 17 0 (Int32.toNatClampNeg v8)))) fun v25 => nmI (x4 + 1) fun v26 => k16 q13.2 x1 x2 v25 v26 else none)
          else
            (if 0 ≤ v8 ∧ v8 < 61 then nmI ((x3 + (-(q13.2.2.1 8 17 0 (Int32.toNatClampNeg v8))))) fun v21 => nmI (x4 + 1) fun v22 => k16 q13.2 x1 x2 v21 v22 else none)) else none))) else none)) else none))
def f_X8_sum_L16 : Nat → Sto → Int32 → Int32 → Int32 → Int32 → Option (Int32 × Sto)
  | 0 => fun _ _ _ _ _ => none
  | n + 1 => f_X8_sum_B16 (f_X8_sum_L16 n)
def f_X8_sum (s0 : Sto) (x1 : Int32) (x2 : Int32) : Option (Int32 × Sto) :=
  (if 0 ≤ x1 ∧ x1 < 6 then nmI ((8 - ((s0.2.1 8 3 0 (Int32.toNatClampNeg x1)) / 10))) fun v3 => f_X8_sum_L16 1000 s0 x1 x2 v3 0 else none)
set_option maxRecDepth 100000 in
theorem s_X8_sum_B16 (g : Gm) (k16 : Sto → Int32 → Int32 → Int32 → Int32 → Option (Int32 × Sto)) (hk16 : ∀ (s0 : Sto) (x1 : Int32) (x2 : Int32) (x3 : Int32) (x4 : Int32), Rf cvIw (Em g 2) kX8_sum 16 [some (.ref ((Em g 2).1.1 8 0 0)), some (.int x1), some (.int x2), some (.int x3), some (.int x4), none] [] s0 (k16 s0 x1 x2 x3 x4)) (s0 : Sto) (x1 : Int32) (x2 : Int32) (x3 : Int32) (x4 : Int32) : Rf cvIw (Em g 2) kX8_sum 16 [some (.ref ((Em g 2).1.1 8 0 0)), some (.int x1), some (.int x2), some (.int x3), some (.int x4), none] [] s0 (f_X8_sum_B16 k16 s0 x1 x2 x3 x4) := by
  unfold f_X8_sum_B16
  refine r_aload_n dX8_sum_16 rfl ?_
  refine gf_X8_98 rfl dX8_sum_17 ?_
  refine r_iconst dX8_sum_20 ci_m1 ?_
  refine r_iceq dX8_sum_21 (tgt := 109) (by decide) (fun c4 => ?_) (fun c4 => ?_)
  · refine r_iload_n dX8_sum_109 rfl ?_
    exact r_iret dX8_sum_110 rfl rfl
  · refine r_iload dX8_sum_24 rfl ?_
    refine r_aload_n dX8_sum_26 rfl ?_
    refine gf_X8_30 rfl dX8_sum_27 ?_
    refine r_aload_n dX8_sum_30 rfl ?_
    refine gf_X8_98 rfl dX8_sum_31 ?_
    refine al_8_15 dX8_sum_34 (fun hg5 hj6 => ?_)
    refine r_icge dX8_sum_35 (tgt := 109) (by decide) (fun c7 => ?_) (fun c7 => ?_)
    · refine r_iload_n dX8_sum_109 rfl ?_
      exact r_iret dX8_sum_110 rfl rfl
    · refine r_bipush dX8_sum_38 cb_10 ?_
      refine r_aload_n dX8_sum_40 rfl ?_
      refine gf_X8_98 rfl dX8_sum_41 ?_
      refine r_imul dX8_sum_44 ?_
      refine r_iload dX8_sum_45 rfl ?_
      refine r_iadd dX8_sum_47 ?_
      refine r_istoreN dX8_sum_48 rfl (lt_b rfl) (lt_b rfl) (fun v8 => ?_)
      refine r_aload_n dX8_sum_50 rfl ?_
      refine gf_X8_33 rfl dX8_sum_51 ?_
      refine r_iload dX8_sum_54 rfl ?_
      refine al_8_16 dX8_sum_56 (fun hg9 hj10 => ?_)
      refine r_iconst dX8_sum_57 ci_2 ?_
      refine r_icge dX8_sum_58 (tgt := 103) (by decide) (fun c11 => ?_) (fun c11 => ?_)
      · refine r_iincN dX8_sum_103 rfl ci_1 rfl (lt_b rfl) (fun v12 => ?_)
        refine r_goto dX8_sum_106 (tgt := 16) (by decide) ?_
        exact r_mask [true, true, true, true, true, false] (hk16 s0 x1 x2 x3 v12)
      · refine r_aload_n dX8_sum_61 rfl ?_
        refine r_iload_n dX8_sum_62 rfl ?_
        refine r_iload_n dX8_sum_63 rfl ?_
        refine r_iload dX8_sum_64 rfl ?_
        refine u_X8_isTrue (ok_X8_isTrue g s0 x1 x2 v8) dX8_sum_66 ml_X8_206 (Nat.le_of_ble_eq_true rfl) (fits_m (by decide) (by decide)) room_m (fun q13 => ?_)
        refine r_ifeq dX8_sum_69 (tgt := 103) (by decide) (fun c14 => ?_) (fun c14 => ?_)
        · refine r_iincN dX8_sum_103 rfl ci_1 rfl (lt_b rfl) (fun v15 => ?_)
          refine r_goto dX8_sum_106 (tgt := 16) (by decide) ?_
          exact r_mask [true, true, true, true, true, false] (hk16 q13.2 x1 x2 x3 v15)
        · refine r_iload_n dX8_sum_72 rfl ?_
          refine r_aload_n dX8_sum_73 rfl ?_
          refine gf_X8_33 rfl dX8_sum_74 ?_
          refine r_iload dX8_sum_77 rfl ?_
          refine al_8_16 dX8_sum_79 (fun hg16 hj17 => ?_)
          refine r_ifne dX8_sum_80 (tgt := 93) (by decide) (fun c18 => ?_) (fun c18 => ?_)
          · refine r_aload_n dX8_sum_83 rfl ?_
            refine gf_X8_36 rfl dX8_sum_84 ?_
            refine r_iload dX8_sum_87 rfl ?_
            refine al_8_17 dX8_sum_89 (fun hg23 hj24 => ?_)
            refine r_goto dX8_sum_90 (tgt := 101) (by decide) ?_
            refine r_iadd dX8_sum_101 ?_
            refine r_istore_nN dX8_sum_102 rfl (lt_b rfl) (lt_b rfl) (fun v25 => ?_)
            refine r_iincN dX8_sum_103 rfl ci_1 rfl (lt_b rfl) (fun v26 => ?_)
            refine r_goto dX8_sum_106 (tgt := 16) (by decide) ?_
            exact r_mask [true, true, true, true, true, false] (hk16 q13.2 x1 x2 v25 v26)
          · refine r_aload_n dX8_sum_93 rfl ?_
            refine gf_X8_36 rfl dX8_sum_94 ?_
            refine r_iload dX8_sum_97 rfl ?_
            refine al_8_17 dX8_sum_99 (fun hg19 hj20 => ?_)
            refine r_ineg dX8_sum_100 ?_
            refine r_iadd dX8_sum_101 ?_
            refine r_istore_nN dX8_sum_102 rfl (lt_b rfl) (lt_b rfl) (fun v21 => ?_)
            refine r_iincN dX8_sum_103 rfl ci_1 rfl (lt_b rfl) (fun v22 => ?_)
            refine r_goto dX8_sum_106 (tgt := 16) (by decide) ?_
            exact r_mask [true, true, true, true, true, false] (hk16 q13.2 x1 x2 v21 v22)
theorem s_X8_sum_L16 (g : Gm) : ∀ (n : Nat) (s0 : Sto) (x1 : Int32) (x2 : Int32) (x3 : Int32) (x4 : Int32), Rf cvIw (Em g 2) kX8_sum 16 [some (.ref ((Em g 2).1.1 8 0 0)), some (.int x1), some (.int x2), some (.int x3), some (.int x4), none] [] s0 (f_X8_sum_L16 n s0 x1 x2 x3 x4)
  | 0, _, _, _, _, _ => r_none
  | n + 1, s0, x1, x2, x3, x4 => s_X8_sum_B16 g (f_X8_sum_L16 n) (s_X8_sum_L16 g n) s0 x1 x2 x3 x4
set_option maxRecDepth 100000 in
theorem s_X8_sum (g : Gm) (s0 : Sto) (x1 : Int32) (x2 : Int32) : Rf cvIw (Em g 2) kX8_sum 0 [some (.ref ((Em g 2).1.1 8 0 0)), some (.int x1), some (.int x2), none, none, none] [] s0 (f_X8_sum s0 x1 x2) := by
  unfold f_X8_sum
  refine r_bipush dX8_sum_0 cb_8 ?_
  refine r_aload_n dX8_sum_2 rfl ?_
  refine gf_X8_18 rfl dX8_sum_3 ?_
  refine r_iload_n dX8_sum_6 rfl ?_
  refine al_8_3 dX8_sum_7 (fun hg1 hj2 => ?_)
  refine r_bipush dX8_sum_8 cb_10 ?_
  refine r_idiv dX8_sum_10 (by decide) ?_
  refine r_isub dX8_sum_11 ?_
  refine r_istore_nN dX8_sum_12 rfl (lt_b rfl) (lt_b rfl) (fun v3 => ?_)
  refine r_iconst dX8_sum_13 ci_0 ?_
  refine r_istore dX8_sum_14 rfl (lt_b rfl) (lt_b rfl) ?_
  exact r_mask [true, true, true, true, true, false] (s_X8_sum_L16 g 1000 s0 x1 x2 v3 0)
theorem ok_X8_sum (g : Gm) (s0 : Sto) (x1 : Int32) (x2 : Int32) : Ok g yX8_sum kX8_sum 2 [.ref ((Em g 2).1.1 8 0 0), .int x1, .int x2] s0 cvIw (f_X8_sum s0 x1 x2) := Ok.of (by decide) rfl (Nat.le_of_ble_eq_true rfl) (lv := [some (.ref ((Em g 2).1.1 8 0 0)), some (.int x1), some (.int x2), none, none, none]) rfl (s_X8_sum g s0 x1 x2)
theorem u_X8_sum {α : Type} {cv : α → Res} {E : EE} {K : KK} {pc npc idx d : Nat} {lv : List (Option Value)} {st : List Value} {σ : Sto} {oc : Option (Int32 × Sto)} {kf : (Int32 × Sto) → Option α} {x1 : Int32} {x2 : Int32} (hOk : Ok E.1 yX8_sum kX8_sum d [.ref (E.1.1 8 0 0), .int x1, .int x2] σ cvIw oc) (hd : Dc K pc (.invokevirtual idx) 3 npc) (hlk : Cond.methodLink K.2.1 idx yX8_sum ∈ lw_good) (hw : (st.map fun v => v.category).sum ≤ 8) (hfit : fits_ E d 6) (hrm : room_ok E) (kk : ∀ q : Int32 × Sto, Rf cv E K npc lv (.int q.1 :: st) q.2 (kf q)) : Rf cv E K pc lv (.int x2 :: .int x1 :: .ref (E.1.1 8 0 0) :: st) σ (oc.bind kf) := c_V (n := 2) (as := [.int x1, .int x2]) (c0 := 8) (i := 0) (CC := "ThawGivesModel") (T := TX8) (N := 43) hd hOk hlk wi_X8_sum wv_X8_sum wn_X8 wc_X8_sum rfl (by decide) (by decide) ⟨by decide, by decide, by decide⟩ rfl rfl hw hfit hrm (fun b _ => kk b)
def f_X8_meltsIn_L120 (s0 : Sto) (x1 : Int32) (x2 : Int32) (y0 : Int32) : Option (Int32 × Sto) :=
  (if 0 ≤ ((4 * x1) + (x2 - x2 / 4 * 4)) ∧ ((4 * x1) + (x2 - x2 / 4 * 4)) < 24 then some ((y0 + (s0.2.1 8 5 0 (Int32.toNatClampNeg ((4 * x1) + (x2 - x2 / 4 * 4))))), s0) else none)
def f_X8_meltsIn (s0 : Sto) (x1 : Int32) (x2 : Int32) : Option (Int32 × Sto) :=
  (f_X8_sum s0 x1 x2).bind fun q1 => nmI (q1.1) fun v2 => (if 0 ≤ x1 ∧ x1 < 6 then (if (q1.2.2.1 8 1 0 (Int32.toNatClampNeg x1)) = 1 then
    some ((v2 + 2), q1.2)
  else (if (q1.2.2.1 8 1 0 (Int32.toNatClampNeg x1)) = 2 then
    some ((v2 / 2), q1.2)
  else (if (q1.2.2.1 8 1 0 (Int32.toNatClampNeg x1)) = 3 then
    (if 0 ≤ x1 ∧ x1 < 6 then (if (q1.2.2.1 8 2 0 (Int32.toNatClampNeg x1)) ≤ x2 then
      some (v2, q1.2)
    else
      some (0, q1.2)) else none)
  else (if (q1.2.2.1 8 1 0 (Int32.toNatClampNeg x1)) = 4 then
    (if (x2 - x2 / 4 * 4) = 0 then
      some ((2 * (v2 + 2)), q1.2)
    else
      some ((v2 + 2), q1.2))
  else (if (q1.2.2.1 8 1 0 (Int32.toNatClampNeg x1)) = 5 then
    (if 0 ≤ x1 ∧ x1 < 6 then some (((v2 / 2) + (q1.2.2.1 8 2 0 (Int32.toNatClampNeg x1))), q1.2) else none)
  else (if (q1.2.2.1 8 1 0 (Int32.toNatClampNeg x1)) = 6 then
    (if 0 ≤ x1 ∧ x1 < 6 then (if (q1.2.2.1 8 2 0 (Int32.toNatClampNeg x1)) ≤ x2 then
      f_X8_meltsIn_L120 q1.2 x1 x2 v2
    else
      f_X8_meltsIn_L120 q1.2 x1 x2 0) else none)
  else some (v2, q1.2))))))) else none)
set_option maxRecDepth 100000 in
theorem s_X8_meltsIn_L120 (g : Gm) (s0 : Sto) (x1 : Int32) (x2 : Int32) (y0 : Int32) : Rf cvIw (Em g 3) kX8_meltsIn 120 [some (.ref ((Em g 3).1.1 8 0 0)), some (.int x1), some (.int x2), none] [.int y0] s0 (f_X8_meltsIn_L120 s0 x1 x2 y0) := by
  unfold f_X8_meltsIn_L120
  refine r_aload_n dX8_meltsIn_120 rfl ?_
  refine gf_X8_24 rfl dX8_meltsIn_121 ?_
  refine r_iconst dX8_meltsIn_124 ci_4 ?_
  refine r_iload_n dX8_meltsIn_125 rfl ?_
  refine r_imul dX8_meltsIn_126 ?_
  refine r_iload_n dX8_meltsIn_127 rfl ?_
  refine r_iconst dX8_meltsIn_128 ci_4 ?_
  refine r_irem dX8_meltsIn_129 (by decide) ?_
  refine r_iadd dX8_meltsIn_130 ?_
  refine al_8_5 dX8_meltsIn_131 (fun hg20 hj21 => ?_)
  refine r_iadd dX8_meltsIn_132 ?_
  exact r_iret dX8_meltsIn_133 rfl rfl
set_option maxRecDepth 100000 in
theorem s_X8_meltsIn (g : Gm) (s0 : Sto) (x1 : Int32) (x2 : Int32) : Rf cvIw (Em g 3) kX8_meltsIn 0 [some (.ref ((Em g 3).1.1 8 0 0)), some (.int x1), some (.int x2), none] [] s0 (f_X8_meltsIn s0 x1 x2) := by
  unfold f_X8_meltsIn
  refine r_aload_n dX8_meltsIn_0 rfl ?_
  refine r_iload_n dX8_meltsIn_1 rfl ?_
  refine r_iload_n dX8_meltsIn_2 rfl ?_
  refine u_X8_sum (ok_X8_sum g s0 x1 x2) dX8_meltsIn_3 ml_X8_209 (Nat.le_of_ble_eq_true rfl) (fits_m (by decide) (by decide)) room_m (fun q1 => ?_)
  refine r_istore_nN dX8_meltsIn_6 rfl (lt_b rfl) (lt_b rfl) (fun v2 => ?_)
  refine r_aload_n dX8_meltsIn_7 rfl ?_
  refine gf_X8_9 rfl dX8_meltsIn_8 ?_
  refine r_iload_n dX8_meltsIn_11 rfl ?_
  refine al_8_1 dX8_meltsIn_12 (fun hg3 hj4 => ?_)
  refine r_by (fun e5 => ?_) (fun e5 => ?_)
  · refine r_tabIn dX8_meltsIn_13 e5 (z := 1) (by decide) (by decide) (by decide) (off := 39) rfl (tgt := 52) (by decide) ?_
    refine r_iload_n dX8_meltsIn_52 rfl ?_
    refine r_iconst dX8_meltsIn_53 ci_2 ?_
    refine r_iadd dX8_meltsIn_54 ?_
    exact r_iret dX8_meltsIn_55 rfl rfl
  refine r_by (fun e6 => ?_) (fun e6 => ?_)
  · refine r_tabIn dX8_meltsIn_13 e6 (z := 2) (by decide) (by decide) (by decide) (off := 43) rfl (tgt := 56) (by decide) ?_
    refine r_iload_n dX8_meltsIn_56 rfl ?_
    refine r_iconst dX8_meltsIn_57 ci_2 ?_
    refine r_idiv dX8_meltsIn_58 (by decide) ?_
    exact r_iret dX8_meltsIn_59 rfl rfl
  refine r_by (fun e7 => ?_) (fun e7 => ?_)
  · refine r_tabIn dX8_meltsIn_13 e7 (z := 3) (by decide) (by decide) (by decide) (off := 47) rfl (tgt := 60) (by decide) ?_
    refine r_iload_n dX8_meltsIn_60 rfl ?_
    refine r_aload_n dX8_meltsIn_61 rfl ?_
    refine gf_X8_15 rfl dX8_meltsIn_62 ?_
    refine r_iload_n dX8_meltsIn_65 rfl ?_
    refine al_8_2 dX8_meltsIn_66 (fun hg8 hj9 => ?_)
    refine r_icge dX8_meltsIn_67 (tgt := 74) (by decide) (fun c10 => ?_) (fun c10 => ?_)
    · refine r_iload_n dX8_meltsIn_74 rfl ?_
      exact r_iret dX8_meltsIn_75 rfl rfl
    · refine r_iconst dX8_meltsIn_70 ci_0 ?_
      refine r_goto dX8_meltsIn_71 (tgt := 75) (by decide) ?_
      exact r_iret dX8_meltsIn_75 rfl rfl
  refine r_by (fun e11 => ?_) (fun e11 => ?_)
  · refine r_tabIn dX8_meltsIn_13 e11 (z := 4) (by decide) (by decide) (by decide) (off := 63) rfl (tgt := 76) (by decide) ?_
    refine r_iload_n dX8_meltsIn_76 rfl ?_
    refine r_iconst dX8_meltsIn_77 ci_4 ?_
    refine r_irem dX8_meltsIn_78 (by decide) ?_
    refine r_ifne dX8_meltsIn_79 (tgt := 90) (by decide) (fun c12 => ?_) (fun c12 => ?_)
    · refine r_iconst dX8_meltsIn_82 ci_2 ?_
      refine r_iload_n dX8_meltsIn_83 rfl ?_
      refine r_iconst dX8_meltsIn_84 ci_2 ?_
      refine r_iadd dX8_meltsIn_85 ?_
      refine r_imul dX8_meltsIn_86 ?_
      refine r_goto dX8_meltsIn_87 (tgt := 93) (by decide) ?_
      exact r_iret dX8_meltsIn_93 rfl rfl
    · refine r_iload_n dX8_meltsIn_90 rfl ?_
      refine r_iconst dX8_meltsIn_91 ci_2 ?_
      refine r_iadd dX8_meltsIn_92 ?_
      exact r_iret dX8_meltsIn_93 rfl rfl
  refine r_by (fun e13 => ?_) (fun e13 => ?_)
  · refine r_tabIn dX8_meltsIn_13 e13 (z := 5) (by decide) (by decide) (by decide) (off := 81) rfl (tgt := 94) (by decide) ?_
    refine r_iload_n dX8_meltsIn_94 rfl ?_
    refine r_iconst dX8_meltsIn_95 ci_2 ?_
    refine r_idiv dX8_meltsIn_96 (by decide) ?_
    refine r_aload_n dX8_meltsIn_97 rfl ?_
    refine gf_X8_15 rfl dX8_meltsIn_98 ?_
    refine r_iload_n dX8_meltsIn_101 rfl ?_
    refine al_8_2 dX8_meltsIn_102 (fun hg14 hj15 => ?_)
    refine r_iadd dX8_meltsIn_103 ?_
    exact r_iret dX8_meltsIn_104 rfl rfl
  refine r_by (fun e16 => ?_) (fun e16 => ?_)
  · refine r_tabIn dX8_meltsIn_13 e16 (z := 6) (by decide) (by decide) (by decide) (off := 92) rfl (tgt := 105) (by decide) ?_
    refine r_iload_n dX8_meltsIn_105 rfl ?_
    refine r_aload_n dX8_meltsIn_106 rfl ?_
    refine gf_X8_15 rfl dX8_meltsIn_107 ?_
    refine r_iload_n dX8_meltsIn_110 rfl ?_
    refine al_8_2 dX8_meltsIn_111 (fun hg17 hj18 => ?_)
    refine r_icge dX8_meltsIn_112 (tgt := 119) (by decide) (fun c19 => ?_) (fun c19 => ?_)
    · refine r_iload_n dX8_meltsIn_119 rfl ?_
      exact r_mask [true, true, true, false] (s_X8_meltsIn_L120 g q1.2 x1 x2 v2)
    · refine r_iconst dX8_meltsIn_115 ci_0 ?_
      refine r_goto dX8_meltsIn_116 (tgt := 120) (by decide) ?_
      exact r_mask [true, true, true, false] (s_X8_meltsIn_L120 g q1.2 x1 x2 0)
  refine r_tabOut dX8_meltsIn_13 (by have a0 := sw_ne e5 (z := 1) (by decide); have a1 := sw_ne e6 (z := 2) (by decide); have a2 := sw_ne e7 (z := 3) (by decide); have a3 := sw_ne e11 (z := 4) (by decide); have a4 := sw_ne e13 (z := 5) (by decide); have a5 := sw_ne e16 (z := 6) (by decide); omega) (tgt := 134) (by decide) ?_
  refine r_iload_n dX8_meltsIn_134 rfl ?_
  exact r_iret dX8_meltsIn_135 rfl rfl
theorem ok_X8_meltsIn (g : Gm) (s0 : Sto) (x1 : Int32) (x2 : Int32) : Ok g yX8_meltsIn kX8_meltsIn 3 [.ref ((Em g 3).1.1 8 0 0), .int x1, .int x2] s0 cvIw (f_X8_meltsIn s0 x1 x2) := Ok.of (by decide) rfl (Nat.le_of_ble_eq_true rfl) (lv := [some (.ref ((Em g 3).1.1 8 0 0)), some (.int x1), some (.int x2), none]) rfl (s_X8_meltsIn g s0 x1 x2)
theorem u_X8_meltsIn {α : Type} {cv : α → Res} {E : EE} {K : KK} {pc npc idx d : Nat} {lv : List (Option Value)} {st : List Value} {σ : Sto} {oc : Option (Int32 × Sto)} {kf : (Int32 × Sto) → Option α} {x1 : Int32} {x2 : Int32} (hOk : Ok E.1 yX8_meltsIn kX8_meltsIn d [.ref (E.1.1 8 0 0), .int x1, .int x2] σ cvIw oc) (hd : Dc K pc (.invokevirtual idx) 3 npc) (hlk : Cond.methodLink K.2.1 idx yX8_meltsIn ∈ lw_good) (hw : (st.map fun v => v.category).sum ≤ 8) (hfit : fits_ E d 4) (hrm : room_ok E) (kk : ∀ q : Int32 × Sto, Rf cv E K npc lv (.int q.1 :: st) q.2 (kf q)) : Rf cv E K pc lv (.int x2 :: .int x1 :: .ref (E.1.1 8 0 0) :: st) σ (oc.bind kf) := c_V (n := 2) (as := [.int x1, .int x2]) (c0 := 8) (i := 0) (CC := "ThawGivesModel") (T := TX8) (N := 43) hd hOk hlk wi_X8_meltsIn wv_X8_meltsIn wn_X8 wc_X8_meltsIn rfl (by decide) (by decide) ⟨by decide, by decide, by decide⟩ rfl rfl hw hfit hrm (fun b _ => kk b)
def f_X8_keep_37_B174 (k174 : Sto → Int32 → Option (Sto)) (s0 : Sto) (x2 : Int32) : Option (Sto) :=
  (if (8 : Int32) ≤ x2 then
    (if 0 ≤ (99 : Int32) ∧ (99 : Int32) < 105 then nm (sA s0 8 36 0 (upd (s0.2.1 8 36 0) (Int32.toNatClampNeg 99) (s0.1 8 0 0))) fun s8 => (if 0 ≤ (100 : Int32) ∧ (100 : Int32) < 105 then nm (sA s8 8 36 0 (upd (s8.2.1 8 36 0) (Int32.toNatClampNeg 100) (s8.1 8 6 0))) fun s11 => (if 0 ≤ (101 : Int32) ∧ (101 : Int32) < 105 then nm (sA s11 8 36 0 (upd (s11.2.1 8 36 0) (Int32.toNatClampNeg 101) (s11.1 8 23 0))) fun s14 => (if 0 ≤ (102 : Int32) ∧ (102 : Int32) < 105 then nm (sA s14 8 36 0 (upd (s14.2.1 8 36 0) (Int32.toNatClampNeg 102) (s14.1 8 27 0))) fun s17 => (if 0 ≤ (103 : Int32) ∧ (103 : Int32) < 105 then nm (sA s17 8 36 0 (upd (s17.2.1 8 36 0) (Int32.toNatClampNeg 103) (s17.1 8 30 0))) fun s20 => (if 0 ≤ (104 : Int32) ∧ (104 : Int32) < 105 then nm (sA s20 8 36 0 (upd (s20.2.1 8 36 0) (Int32.toNatClampNeg 104) (s20.1 8 14 0))) fun s23 => some s23 else none) else none) else none) else none) else none) else none)
  else
    (if 0 ≤ x2 ∧ x2 < 8 then (if 0 ≤ (83 + x2) ∧ (83 + x2) < 105 then nm (sA s0 8 36 0 (upd (s0.2.1 8 36 0) (Int32.toNatClampNeg (83 + x2)) (s0.2.1 8 31 0 (Int32.toNatClampNeg x2)))) fun s28 => (if 0 ≤ x2 ∧ x2 < 8 then (if 0 ≤ (91 + x2) ∧ (91 + x2) < 105 then nm (sA s28 8 36 0 (upd (s28.2.1 8 36 0) (Int32.toNatClampNeg (91 + x2)) (s28.2.1 8 32 0 (Int32.toNatClampNeg x2)))) fun s33 => nmI (x2 + 1) fun v34 => k174 s33 v34 else none) else none) else none) else none))
def f_X8_keep_37_L174 : Nat → Sto → Int32 → Option (Sto)
  | 0 => fun _ _ => none
  | n + 1 => f_X8_keep_37_B174 (f_X8_keep_37_L174 n)
def f_X8_keep_37_B136 (k136 : Sto → Int32 → Option (Sto)) (s0 : Sto) (x2 : Int32) : Option (Sto) :=
  (if (10 : Int32) ≤ x2 then
    f_X8_keep_37_L174 1000 s0 0
  else
    (if 0 ≤ x2 ∧ x2 < 10 then (if 0 ≤ (63 + x2) ∧ (63 + x2) < 105 then nm (sA s0 8 36 0 (upd (s0.2.1 8 36 0) (Int32.toNatClampNeg (63 + x2)) (s0.2.1 8 28 0 (Int32.toNatClampNeg x2)))) fun s39 => (if 0 ≤ x2 ∧ x2 < 10 then (if 0 ≤ (73 + x2) ∧ (73 + x2) < 105 then nm (sA s39 8 36 0 (upd (s39.2.1 8 36 0) (Int32.toNatClampNeg (73 + x2)) (s39.2.1 8 29 0 (Int32.toNatClampNeg x2)))) fun s44 => nmI (x2 + 1) fun v45 => k136 s44 v45 else none) else none) else none) else none))
def f_X8_keep_37_L136 : Nat → Sto → Int32 → Option (Sto)
  | 0 => fun _ _ => none
  | n + 1 => f_X8_keep_37_B136 (f_X8_keep_37_L136 n)
def f_X8_keep_37_B87 (k87 : Sto → Int32 → Option (Sto)) (s0 : Sto) (x2 : Int32) : Option (Sto) :=
  (if (5 : Int32) ≤ x2 then
    f_X8_keep_37_L136 1000 s0 0
  else
    (if 0 ≤ x2 ∧ x2 < 5 then (if 0 ≤ (48 + x2) ∧ (48 + x2) < 105 then nm (sA s0 8 36 0 (upd (s0.2.1 8 36 0) (Int32.toNatClampNeg (48 + x2)) (s0.2.1 8 24 0 (Int32.toNatClampNeg x2)))) fun s50 => (if 0 ≤ x2 ∧ x2 < 5 then (if 0 ≤ (53 + x2) ∧ (53 + x2) < 105 then nm (sA s50 8 36 0 (upd (s50.2.1 8 36 0) (Int32.toNatClampNeg (53 + x2)) (s50.2.1 8 25 0 (Int32.toNatClampNeg x2)))) fun s55 => (if 0 ≤ x2 ∧ x2 < 5 then (if 0 ≤ (58 + x2) ∧ (58 + x2) < 105 then nm (sA s55 8 36 0 (upd (s55.2.1 8 36 0) (Int32.toNatClampNeg (58 + x2)) (s55.2.1 8 26 0 (Int32.toNatClampNeg x2)))) fun s60 => nmI (x2 + 1) fun v61 => k87 s60 v61 else none) else none) else none) else none) else none) else none))
def f_X8_keep_37_L87 : Nat → Sto → Int32 → Option (Sto)
  | 0 => fun _ _ => none
  | n + 1 => f_X8_keep_37_B87 (f_X8_keep_37_L87 n)
def f_X8_keep_37_B61 (k61 : Sto → Int32 → Option (Sto)) (s0 : Sto) (x2 : Int32) : Option (Sto) :=
  (if (24 : Int32) ≤ x2 then
    f_X8_keep_37_L87 1000 s0 0
  else
    (if 0 ≤ x2 ∧ x2 < 24 then (if 0 ≤ (24 + x2) ∧ (24 + x2) < 105 then nm (sA s0 8 36 0 (upd (s0.2.1 8 36 0) (Int32.toNatClampNeg (24 + x2)) (s0.2.1 8 5 0 (Int32.toNatClampNeg x2)))) fun s66 => nmI (x2 + 1) fun v67 => k61 s66 v67 else none) else none))
def f_X8_keep_37_L61 : Nat → Sto → Int32 → Option (Sto)
  | 0 => fun _ _ => none
  | n + 1 => f_X8_keep_37_B61 (f_X8_keep_37_L61 n)
def f_X8_keep_37_B2 (k2 : Sto → Int32 → Option (Sto)) (s0 : Sto) (x2 : Int32) : Option (Sto) :=
  (if (6 : Int32) ≤ x2 then
    f_X8_keep_37_L61 1000 s0 0
  else
    (if 0 ≤ x2 ∧ x2 < 6 then (if 0 ≤ x2 ∧ x2 < 105 then nm (sA s0 8 36 0 (upd (s0.2.1 8 36 0) (Int32.toNatClampNeg x2) (s0.2.1 8 1 0 (Int32.toNatClampNeg x2)))) fun s72 => (if 0 ≤ x2 ∧ x2 < 6 then (if 0 ≤ (6 + x2) ∧ (6 + x2) < 105 then nm (sA s72 8 36 0 (upd (s72.2.1 8 36 0) (Int32.toNatClampNeg (6 + x2)) (s72.2.1 8 2 0 (Int32.toNatClampNeg x2)))) fun s77 => (if 0 ≤ x2 ∧ x2 < 6 then (if 0 ≤ (12 + x2) ∧ (12 + x2) < 105 then nm (sA s77 8 36 0 (upd (s77.2.1 8 36 0) (Int32.toNatClampNeg (12 + x2)) (s77.2.1 8 3 0 (Int32.toNatClampNeg x2)))) fun s82 => (if 0 ≤ x2 ∧ x2 < 6 then (if 0 ≤ (18 + x2) ∧ (18 + x2) < 105 then nm (sA s82 8 36 0 (upd (s82.2.1 8 36 0) (Int32.toNatClampNeg (18 + x2)) (s82.2.1 8 4 0 (Int32.toNatClampNeg x2)))) fun s87 => nmI (x2 + 1) fun v88 => k2 s87 v88 else none) else none) else none) else none) else none) else none) else none) else none))
def f_X8_keep_37_L2 : Nat → Sto → Int32 → Option (Sto)
  | 0 => fun _ _ => none
  | n + 1 => f_X8_keep_37_B2 (f_X8_keep_37_L2 n)
def f_X8_keep_37 (s0 : Sto) : Option (Sto) :=
  f_X8_keep_37_L2 1000 s0 0
set_option maxRecDepth 100000 in
theorem s_X8_keep_37_B174 (g : Gm) (k174 : Sto → Int32 → Option (Sto)) (hk174 : ∀ (s0 : Sto) (x2 : Int32), Rf cvV (Em g 0) kX8_keep 174 [some (.ref ((Em g 0).1.1 8 0 0)), some (.ref ((Em g 0).1.1 8 37 0)), some (.int x2)] [] s0 (k174 s0 x2)) (s0 : Sto) (x2 : Int32) : Rf cvV (Em g 0) kX8_keep 174 [some (.ref ((Em g 0).1.1 8 0 0)), some (.ref ((Em g 0).1.1 8 37 0)), some (.int x2)] [] s0 (f_X8_keep_37_B174 k174 s0 x2) := by
  unfold f_X8_keep_37_B174
  refine r_iload_n dX8_keep_174 rfl ?_
  refine r_bipush dX8_keep_175 cb_8 ?_
  refine r_icge dX8_keep_177 (tgt := 210) (by decide) (fun c5 => ?_) (fun c5 => ?_)
  · refine r_aload_n dX8_keep_210 rfl ?_
    refine r_bipush dX8_keep_211 cb_99 ?_
    refine r_aload_n dX8_keep_213 rfl ?_
    refine gf_X8_102 rfl dX8_keep_214 ?_
    refine as_8_36 dX8_keep_217 (fun hg6 hj7 s8 => ?_)
    refine r_aload_n dX8_keep_218 rfl ?_
    refine r_bipush dX8_keep_219 cb_100 ?_
    refine r_aload_n dX8_keep_221 rfl ?_
    refine gf_X8_113 rfl dX8_keep_222 ?_
    refine as_8_36 dX8_keep_225 (fun hg9 hj10 s11 => ?_)
    refine r_aload_n dX8_keep_226 rfl ?_
    refine r_bipush dX8_keep_227 cb_101 ?_
    refine r_aload_n dX8_keep_229 rfl ?_
    refine gf_X8_255 rfl dX8_keep_230 ?_
    refine as_8_36 dX8_keep_233 (fun hg12 hj13 s14 => ?_)
    refine r_aload_n dX8_keep_234 rfl ?_
    refine r_bipush dX8_keep_235 cb_102 ?_
    refine r_aload_n dX8_keep_237 rfl ?_
    refine gf_X8_270 rfl dX8_keep_238 ?_
    refine as_8_36 dX8_keep_241 (fun hg15 hj16 s17 => ?_)
    refine r_aload_n dX8_keep_242 rfl ?_
    refine r_bipush dX8_keep_243 cb_103 ?_
    refine r_aload_n dX8_keep_245 rfl ?_
    refine gf_X8_273 rfl dX8_keep_246 ?_
    refine as_8_36 dX8_keep_249 (fun hg18 hj19 s20 => ?_)
    refine r_aload_n dX8_keep_250 rfl ?_
    refine r_bipush dX8_keep_251 cb_104 ?_
    refine r_aload_n dX8_keep_253 rfl ?_
    refine gf_X8_98 rfl dX8_keep_254 ?_
    refine as_8_36 dX8_keep_257 (fun hg21 hj22 s23 => ?_)
    exact r_vret dX8_keep_258 rfl rfl
  · refine r_aload_n dX8_keep_180 rfl ?_
    refine r_bipush dX8_keep_181 cb_83 ?_
    refine r_iload_n dX8_keep_183 rfl ?_
    refine r_iadd dX8_keep_184 ?_
    refine r_aload_n dX8_keep_185 rfl ?_
    refine gf_X8_67 rfl dX8_keep_186 ?_
    refine r_iload_n dX8_keep_189 rfl ?_
    refine al_8_31 dX8_keep_190 (fun hg24 hj25 => ?_)
    refine as_8_36 dX8_keep_191 (fun hg26 hj27 s28 => ?_)
    refine r_aload_n dX8_keep_192 rfl ?_
    refine r_bipush dX8_keep_193 cb_91 ?_
    refine r_iload_n dX8_keep_195 rfl ?_
    refine r_iadd dX8_keep_196 ?_
    refine r_aload_n dX8_keep_197 rfl ?_
    refine gf_X8_70 rfl dX8_keep_198 ?_
    refine r_iload_n dX8_keep_201 rfl ?_
    refine al_8_32 dX8_keep_202 (fun hg29 hj30 => ?_)
    refine as_8_36 dX8_keep_203 (fun hg31 hj32 s33 => ?_)
    refine r_iincN dX8_keep_204 rfl ci_1 rfl (lt_b rfl) (fun v34 => ?_)
    refine r_goto dX8_keep_207 (tgt := 174) (by decide) ?_
    exact r_mask [true, true, true] (hk174 s33 v34)
theorem s_X8_keep_37_L174 (g : Gm) : ∀ (n : Nat) (s0 : Sto) (x2 : Int32), Rf cvV (Em g 0) kX8_keep 174 [some (.ref ((Em g 0).1.1 8 0 0)), some (.ref ((Em g 0).1.1 8 37 0)), some (.int x2)] [] s0 (f_X8_keep_37_L174 n s0 x2)
  | 0, _, _ => r_none
  | n + 1, s0, x2 => s_X8_keep_37_B174 g (f_X8_keep_37_L174 n) (s_X8_keep_37_L174 g n) s0 x2
set_option maxRecDepth 100000 in
theorem s_X8_keep_37_B136 (g : Gm) (k136 : Sto → Int32 → Option (Sto)) (hk136 : ∀ (s0 : Sto) (x2 : Int32), Rf cvV (Em g 0) kX8_keep 136 [some (.ref ((Em g 0).1.1 8 0 0)), some (.ref ((Em g 0).1.1 8 37 0)), some (.int x2)] [] s0 (k136 s0 x2)) (s0 : Sto) (x2 : Int32) : Rf cvV (Em g 0) kX8_keep 136 [some (.ref ((Em g 0).1.1 8 0 0)), some (.ref ((Em g 0).1.1 8 37 0)), some (.int x2)] [] s0 (f_X8_keep_37_B136 k136 s0 x2) := by
  unfold f_X8_keep_37_B136
  refine r_iload_n dX8_keep_136 rfl ?_
  refine r_bipush dX8_keep_137 cb_10 ?_
  refine r_icge dX8_keep_139 (tgt := 172) (by decide) (fun c4 => ?_) (fun c4 => ?_)
  · refine r_iconst dX8_keep_172 ci_0 ?_
    refine r_istore_n dX8_keep_173 rfl (lt_b rfl) (lt_b rfl) ?_
    exact r_mask [true, true, true] (s_X8_keep_37_L174 g 1000 s0 0)
  · refine r_aload_n dX8_keep_142 rfl ?_
    refine r_bipush dX8_keep_143 cb_63 ?_
    refine r_iload_n dX8_keep_145 rfl ?_
    refine r_iadd dX8_keep_146 ?_
    refine r_aload_n dX8_keep_147 rfl ?_
    refine gf_X8_61 rfl dX8_keep_148 ?_
    refine r_iload_n dX8_keep_151 rfl ?_
    refine al_8_28 dX8_keep_152 (fun hg35 hj36 => ?_)
    refine as_8_36 dX8_keep_153 (fun hg37 hj38 s39 => ?_)
    refine r_aload_n dX8_keep_154 rfl ?_
    refine r_bipush dX8_keep_155 cb_73 ?_
    refine r_iload_n dX8_keep_157 rfl ?_
    refine r_iadd dX8_keep_158 ?_
    refine r_aload_n dX8_keep_159 rfl ?_
    refine gf_X8_64 rfl dX8_keep_160 ?_
    refine r_iload_n dX8_keep_163 rfl ?_
    refine al_8_29 dX8_keep_164 (fun hg40 hj41 => ?_)
    refine as_8_36 dX8_keep_165 (fun hg42 hj43 s44 => ?_)
    refine r_iincN dX8_keep_166 rfl ci_1 rfl (lt_b rfl) (fun v45 => ?_)
    refine r_goto dX8_keep_169 (tgt := 136) (by decide) ?_
    exact r_mask [true, true, true] (hk136 s44 v45)
theorem s_X8_keep_37_L136 (g : Gm) : ∀ (n : Nat) (s0 : Sto) (x2 : Int32), Rf cvV (Em g 0) kX8_keep 136 [some (.ref ((Em g 0).1.1 8 0 0)), some (.ref ((Em g 0).1.1 8 37 0)), some (.int x2)] [] s0 (f_X8_keep_37_L136 n s0 x2)
  | 0, _, _ => r_none
  | n + 1, s0, x2 => s_X8_keep_37_B136 g (f_X8_keep_37_L136 n) (s_X8_keep_37_L136 g n) s0 x2
set_option maxRecDepth 100000 in
theorem s_X8_keep_37_B87 (g : Gm) (k87 : Sto → Int32 → Option (Sto)) (hk87 : ∀ (s0 : Sto) (x2 : Int32), Rf cvV (Em g 0) kX8_keep 87 [some (.ref ((Em g 0).1.1 8 0 0)), some (.ref ((Em g 0).1.1 8 37 0)), some (.int x2)] [] s0 (k87 s0 x2)) (s0 : Sto) (x2 : Int32) : Rf cvV (Em g 0) kX8_keep 87 [some (.ref ((Em g 0).1.1 8 0 0)), some (.ref ((Em g 0).1.1 8 37 0)), some (.int x2)] [] s0 (f_X8_keep_37_B87 k87 s0 x2) := by
  unfold f_X8_keep_37_B87
  refine r_iload_n dX8_keep_87 rfl ?_
  refine r_iconst dX8_keep_88 ci_5 ?_
  refine r_icge dX8_keep_89 (tgt := 134) (by decide) (fun c3 => ?_) (fun c3 => ?_)
  · refine r_iconst dX8_keep_134 ci_0 ?_
    refine r_istore_n dX8_keep_135 rfl (lt_b rfl) (lt_b rfl) ?_
    exact r_mask [true, true, true] (s_X8_keep_37_L136 g 1000 s0 0)
  · refine r_aload_n dX8_keep_92 rfl ?_
    refine r_bipush dX8_keep_93 cb_48 ?_
    refine r_iload_n dX8_keep_95 rfl ?_
    refine r_iadd dX8_keep_96 ?_
    refine r_aload_n dX8_keep_97 rfl ?_
    refine gf_X8_52 rfl dX8_keep_98 ?_
    refine r_iload_n dX8_keep_101 rfl ?_
    refine al_8_24 dX8_keep_102 (fun hg46 hj47 => ?_)
    refine as_8_36 dX8_keep_103 (fun hg48 hj49 s50 => ?_)
    refine r_aload_n dX8_keep_104 rfl ?_
    refine r_bipush dX8_keep_105 cb_53 ?_
    refine r_iload_n dX8_keep_107 rfl ?_
    refine r_iadd dX8_keep_108 ?_
    refine r_aload_n dX8_keep_109 rfl ?_
    refine gf_X8_55 rfl dX8_keep_110 ?_
    refine r_iload_n dX8_keep_113 rfl ?_
    refine al_8_25 dX8_keep_114 (fun hg51 hj52 => ?_)
    refine as_8_36 dX8_keep_115 (fun hg53 hj54 s55 => ?_)
    refine r_aload_n dX8_keep_116 rfl ?_
    refine r_bipush dX8_keep_117 cb_58 ?_
    refine r_iload_n dX8_keep_119 rfl ?_
    refine r_iadd dX8_keep_120 ?_
    refine r_aload_n dX8_keep_121 rfl ?_
    refine gf_X8_58 rfl dX8_keep_122 ?_
    refine r_iload_n dX8_keep_125 rfl ?_
    refine al_8_26 dX8_keep_126 (fun hg56 hj57 => ?_)
    refine as_8_36 dX8_keep_127 (fun hg58 hj59 s60 => ?_)
    refine r_iincN dX8_keep_128 rfl ci_1 rfl (lt_b rfl) (fun v61 => ?_)
    refine r_goto dX8_keep_131 (tgt := 87) (by decide) ?_
    exact r_mask [true, true, true] (hk87 s60 v61)
theorem s_X8_keep_37_L87 (g : Gm) : ∀ (n : Nat) (s0 : Sto) (x2 : Int32), Rf cvV (Em g 0) kX8_keep 87 [some (.ref ((Em g 0).1.1 8 0 0)), some (.ref ((Em g 0).1.1 8 37 0)), some (.int x2)] [] s0 (f_X8_keep_37_L87 n s0 x2)
  | 0, _, _ => r_none
  | n + 1, s0, x2 => s_X8_keep_37_B87 g (f_X8_keep_37_L87 n) (s_X8_keep_37_L87 g n) s0 x2
set_option maxRecDepth 100000 in
theorem s_X8_keep_37_B61 (g : Gm) (k61 : Sto → Int32 → Option (Sto)) (hk61 : ∀ (s0 : Sto) (x2 : Int32), Rf cvV (Em g 0) kX8_keep 61 [some (.ref ((Em g 0).1.1 8 0 0)), some (.ref ((Em g 0).1.1 8 37 0)), some (.int x2)] [] s0 (k61 s0 x2)) (s0 : Sto) (x2 : Int32) : Rf cvV (Em g 0) kX8_keep 61 [some (.ref ((Em g 0).1.1 8 0 0)), some (.ref ((Em g 0).1.1 8 37 0)), some (.int x2)] [] s0 (f_X8_keep_37_B61 k61 s0 x2) := by
  unfold f_X8_keep_37_B61
  refine r_iload_n dX8_keep_61 rfl ?_
  refine r_bipush dX8_keep_62 cb_24 ?_
  refine r_icge dX8_keep_64 (tgt := 85) (by decide) (fun c2 => ?_) (fun c2 => ?_)
  · refine r_iconst dX8_keep_85 ci_0 ?_
    refine r_istore_n dX8_keep_86 rfl (lt_b rfl) (lt_b rfl) ?_
    exact r_mask [true, true, true] (s_X8_keep_37_L87 g 1000 s0 0)
  · refine r_aload_n dX8_keep_67 rfl ?_
    refine r_bipush dX8_keep_68 cb_24 ?_
    refine r_iload_n dX8_keep_70 rfl ?_
    refine r_iadd dX8_keep_71 ?_
    refine r_aload_n dX8_keep_72 rfl ?_
    refine gf_X8_24 rfl dX8_keep_73 ?_
    refine r_iload_n dX8_keep_76 rfl ?_
    refine al_8_5 dX8_keep_77 (fun hg62 hj63 => ?_)
    refine as_8_36 dX8_keep_78 (fun hg64 hj65 s66 => ?_)
    refine r_iincN dX8_keep_79 rfl ci_1 rfl (lt_b rfl) (fun v67 => ?_)
    refine r_goto dX8_keep_82 (tgt := 61) (by decide) ?_
    exact r_mask [true, true, true] (hk61 s66 v67)
theorem s_X8_keep_37_L61 (g : Gm) : ∀ (n : Nat) (s0 : Sto) (x2 : Int32), Rf cvV (Em g 0) kX8_keep 61 [some (.ref ((Em g 0).1.1 8 0 0)), some (.ref ((Em g 0).1.1 8 37 0)), some (.int x2)] [] s0 (f_X8_keep_37_L61 n s0 x2)
  | 0, _, _ => r_none
  | n + 1, s0, x2 => s_X8_keep_37_B61 g (f_X8_keep_37_L61 n) (s_X8_keep_37_L61 g n) s0 x2
set_option maxRecDepth 100000 in
theorem s_X8_keep_37_B2 (g : Gm) (k2 : Sto → Int32 → Option (Sto)) (hk2 : ∀ (s0 : Sto) (x2 : Int32), Rf cvV (Em g 0) kX8_keep 2 [some (.ref ((Em g 0).1.1 8 0 0)), some (.ref ((Em g 0).1.1 8 37 0)), some (.int x2)] [] s0 (k2 s0 x2)) (s0 : Sto) (x2 : Int32) : Rf cvV (Em g 0) kX8_keep 2 [some (.ref ((Em g 0).1.1 8 0 0)), some (.ref ((Em g 0).1.1 8 37 0)), some (.int x2)] [] s0 (f_X8_keep_37_B2 k2 s0 x2) := by
  unfold f_X8_keep_37_B2
  refine r_iload_n dX8_keep_2 rfl ?_
  refine r_bipush dX8_keep_3 cb_6 ?_
  refine r_icge dX8_keep_5 (tgt := 59) (by decide) (fun c1 => ?_) (fun c1 => ?_)
  · refine r_iconst dX8_keep_59 ci_0 ?_
    refine r_istore_n dX8_keep_60 rfl (lt_b rfl) (lt_b rfl) ?_
    exact r_mask [true, true, true] (s_X8_keep_37_L61 g 1000 s0 0)
  · refine r_aload_n dX8_keep_8 rfl ?_
    refine r_iload_n dX8_keep_9 rfl ?_
    refine r_aload_n dX8_keep_10 rfl ?_
    refine gf_X8_9 rfl dX8_keep_11 ?_
    refine r_iload_n dX8_keep_14 rfl ?_
    refine al_8_1 dX8_keep_15 (fun hg68 hj69 => ?_)
    refine as_8_36 dX8_keep_16 (fun hg70 hj71 s72 => ?_)
    refine r_aload_n dX8_keep_17 rfl ?_
    refine r_bipush dX8_keep_18 cb_6 ?_
    refine r_iload_n dX8_keep_20 rfl ?_
    refine r_iadd dX8_keep_21 ?_
    refine r_aload_n dX8_keep_22 rfl ?_
    refine gf_X8_15 rfl dX8_keep_23 ?_
    refine r_iload_n dX8_keep_26 rfl ?_
    refine al_8_2 dX8_keep_27 (fun hg73 hj74 => ?_)
    refine as_8_36 dX8_keep_28 (fun hg75 hj76 s77 => ?_)
    refine r_aload_n dX8_keep_29 rfl ?_
    refine r_bipush dX8_keep_30 cb_12 ?_
    refine r_iload_n dX8_keep_32 rfl ?_
    refine r_iadd dX8_keep_33 ?_
    refine r_aload_n dX8_keep_34 rfl ?_
    refine gf_X8_18 rfl dX8_keep_35 ?_
    refine r_iload_n dX8_keep_38 rfl ?_
    refine al_8_3 dX8_keep_39 (fun hg78 hj79 => ?_)
    refine as_8_36 dX8_keep_40 (fun hg80 hj81 s82 => ?_)
    refine r_aload_n dX8_keep_41 rfl ?_
    refine r_bipush dX8_keep_42 cb_18 ?_
    refine r_iload_n dX8_keep_44 rfl ?_
    refine r_iadd dX8_keep_45 ?_
    refine r_aload_n dX8_keep_46 rfl ?_
    refine gf_X8_21 rfl dX8_keep_47 ?_
    refine r_iload_n dX8_keep_50 rfl ?_
    refine al_8_4 dX8_keep_51 (fun hg83 hj84 => ?_)
    refine as_8_36 dX8_keep_52 (fun hg85 hj86 s87 => ?_)
    refine r_iincN dX8_keep_53 rfl ci_1 rfl (lt_b rfl) (fun v88 => ?_)
    refine r_goto dX8_keep_56 (tgt := 2) (by decide) ?_
    exact r_mask [true, true, true] (hk2 s87 v88)
theorem s_X8_keep_37_L2 (g : Gm) : ∀ (n : Nat) (s0 : Sto) (x2 : Int32), Rf cvV (Em g 0) kX8_keep 2 [some (.ref ((Em g 0).1.1 8 0 0)), some (.ref ((Em g 0).1.1 8 37 0)), some (.int x2)] [] s0 (f_X8_keep_37_L2 n s0 x2)
  | 0, _, _ => r_none
  | n + 1, s0, x2 => s_X8_keep_37_B2 g (f_X8_keep_37_L2 n) (s_X8_keep_37_L2 g n) s0 x2
set_option maxRecDepth 100000 in
theorem s_X8_keep_37 (g : Gm) (s0 : Sto) : Rf cvV (Em g 0) kX8_keep 0 [some (.ref ((Em g 0).1.1 8 0 0)), some (.ref ((Em g 0).1.1 8 37 0)), none] [] s0 (f_X8_keep_37 s0) := by
  unfold f_X8_keep_37
  refine r_iconst dX8_keep_0 ci_0 ?_
  refine r_istore_n dX8_keep_1 rfl (lt_b rfl) (lt_b rfl) ?_
  exact r_mask [true, true, true] (s_X8_keep_37_L2 g 1000 s0 0)
theorem ok_X8_keep_37 (g : Gm) (s0 : Sto) : Ok g yX8_keep kX8_keep 0 [.ref ((Em g 0).1.1 8 0 0), .ref ((Em g 0).1.1 8 37 0)] s0 cvV (f_X8_keep_37 s0) := Ok.of (by decide) rfl (Nat.le_of_ble_eq_true rfl) (lv := [some (.ref ((Em g 0).1.1 8 0 0)), some (.ref ((Em g 0).1.1 8 37 0)), none]) rfl (s_X8_keep_37 g s0)
theorem u_X8_keep_37 {α : Type} {cv : α → Res} {E : EE} {K : KK} {pc npc idx d : Nat} {lv : List (Option Value)} {st : List Value} {σ : Sto} {oc : Option (Sto)} {kf : Sto → Option α} (hOk : Ok E.1 yX8_keep kX8_keep d [.ref (E.1.1 8 0 0), .ref (E.1.1 8 37 0)] σ cvV oc) (hd : Dc K pc (.invokevirtual idx) 3 npc) (hlk : Cond.methodLink K.2.1 idx yX8_keep ∈ lw_good) (hw : (st.map fun v => v.category).sum ≤ 8) (hfit : fits_ E d 3) (hrm : room_ok E) (kk : ∀ τ : Sto, Rf cv E K npc lv st τ (kf τ)) : Rf cv E K pc lv (.ref (E.1.1 8 37 0) :: .ref (E.1.1 8 0 0) :: st) σ (oc.bind kf) := c_V (n := 1) (as := [.ref (E.1.1 8 37 0)]) (c0 := 8) (i := 0) (CC := "ThawGivesModel") (T := TX8) (N := 43) hd hOk hlk wi_X8_keep wv_X8_keep wn_X8 wc_X8_keep rfl (by decide) (by decide) ⟨by decide, by decide, by decide⟩ rfl rfl hw hfit hrm (fun b _ => kk b)
def f_X8_keep_38_B174 (k174 : Sto → Int32 → Option (Sto)) (s0 : Sto) (x2 : Int32) : Option (Sto) :=
  (if (8 : Int32) ≤ x2 then
    (if 0 ≤ (99 : Int32) ∧ (99 : Int32) < 105 then nm (sA s0 8 37 0 (upd (s0.2.1 8 37 0) (Int32.toNatClampNeg 99) (s0.1 8 0 0))) fun s8 => (if 0 ≤ (100 : Int32) ∧ (100 : Int32) < 105 then nm (sA s8 8 37 0 (upd (s8.2.1 8 37 0) (Int32.toNatClampNeg 100) (s8.1 8 6 0))) fun s11 => (if 0 ≤ (101 : Int32) ∧ (101 : Int32) < 105 then nm (sA s11 8 37 0 (upd (s11.2.1 8 37 0) (Int32.toNatClampNeg 101) (s11.1 8 23 0))) fun s14 => (if 0 ≤ (102 : Int32) ∧ (102 : Int32) < 105 then nm (sA s14 8 37 0 (upd (s14.2.1 8 37 0) (Int32.toNatClampNeg 102) (s14.1 8 27 0))) fun s17 => (if 0 ≤ (103 : Int32) ∧ (103 : Int32) < 105 then nm (sA s17 8 37 0 (upd (s17.2.1 8 37 0) (Int32.toNatClampNeg 103) (s17.1 8 30 0))) fun s20 => (if 0 ≤ (104 : Int32) ∧ (104 : Int32) < 105 then nm (sA s20 8 37 0 (upd (s20.2.1 8 37 0) (Int32.toNatClampNeg 104) (s20.1 8 14 0))) fun s23 => some s23 else none) else none) else none) else none) else none) else none)
  else
    (if 0 ≤ x2 ∧ x2 < 8 then (if 0 ≤ (83 + x2) ∧ (83 + x2) < 105 then nm (sA s0 8 37 0 (upd (s0.2.1 8 37 0) (Int32.toNatClampNeg (83 + x2)) (s0.2.1 8 31 0 (Int32.toNatClampNeg x2)))) fun s28 => (if 0 ≤ x2 ∧ x2 < 8 then (if 0 ≤ (91 + x2) ∧ (91 + x2) < 105 then nm (sA s28 8 37 0 (upd (s28.2.1 8 37 0) (Int32.toNatClampNeg (91 + x2)) (s28.2.1 8 32 0 (Int32.toNatClampNeg x2)))) fun s33 => nmI (x2 + 1) fun v34 => k174 s33 v34 else none) else none) else none) else none))
def f_X8_keep_38_L174 : Nat → Sto → Int32 → Option (Sto)
  | 0 => fun _ _ => none
  | n + 1 => f_X8_keep_38_B174 (f_X8_keep_38_L174 n)
def f_X8_keep_38_B136 (k136 : Sto → Int32 → Option (Sto)) (s0 : Sto) (x2 : Int32) : Option (Sto) :=
  (if (10 : Int32) ≤ x2 then
    f_X8_keep_38_L174 1000 s0 0
  else
    (if 0 ≤ x2 ∧ x2 < 10 then (if 0 ≤ (63 + x2) ∧ (63 + x2) < 105 then nm (sA s0 8 37 0 (upd (s0.2.1 8 37 0) (Int32.toNatClampNeg (63 + x2)) (s0.2.1 8 28 0 (Int32.toNatClampNeg x2)))) fun s39 => (if 0 ≤ x2 ∧ x2 < 10 then (if 0 ≤ (73 + x2) ∧ (73 + x2) < 105 then nm (sA s39 8 37 0 (upd (s39.2.1 8 37 0) (Int32.toNatClampNeg (73 + x2)) (s39.2.1 8 29 0 (Int32.toNatClampNeg x2)))) fun s44 => nmI (x2 + 1) fun v45 => k136 s44 v45 else none) else none) else none) else none))
def f_X8_keep_38_L136 : Nat → Sto → Int32 → Option (Sto)
  | 0 => fun _ _ => none
  | n + 1 => f_X8_keep_38_B136 (f_X8_keep_38_L136 n)
def f_X8_keep_38_B87 (k87 : Sto → Int32 → Option (Sto)) (s0 : Sto) (x2 : Int32) : Option (Sto) :=
  (if (5 : Int32) ≤ x2 then
    f_X8_keep_38_L136 1000 s0 0
  else
    (if 0 ≤ x2 ∧ x2 < 5 then (if 0 ≤ (48 + x2) ∧ (48 + x2) < 105 then nm (sA s0 8 37 0 (upd (s0.2.1 8 37 0) (Int32.toNatClampNeg (48 + x2)) (s0.2.1 8 24 0 (Int32.toNatClampNeg x2)))) fun s50 => (if 0 ≤ x2 ∧ x2 < 5 then (if 0 ≤ (53 + x2) ∧ (53 + x2) < 105 then nm (sA s50 8 37 0 (upd (s50.2.1 8 37 0) (Int32.toNatClampNeg (53 + x2)) (s50.2.1 8 25 0 (Int32.toNatClampNeg x2)))) fun s55 => (if 0 ≤ x2 ∧ x2 < 5 then (if 0 ≤ (58 + x2) ∧ (58 + x2) < 105 then nm (sA s55 8 37 0 (upd (s55.2.1 8 37 0) (Int32.toNatClampNeg (58 + x2)) (s55.2.1 8 26 0 (Int32.toNatClampNeg x2)))) fun s60 => nmI (x2 + 1) fun v61 => k87 s60 v61 else none) else none) else none) else none) else none) else none))
def f_X8_keep_38_L87 : Nat → Sto → Int32 → Option (Sto)
  | 0 => fun _ _ => none
  | n + 1 => f_X8_keep_38_B87 (f_X8_keep_38_L87 n)
def f_X8_keep_38_B61 (k61 : Sto → Int32 → Option (Sto)) (s0 : Sto) (x2 : Int32) : Option (Sto) :=
  (if (24 : Int32) ≤ x2 then
    f_X8_keep_38_L87 1000 s0 0
  else
    (if 0 ≤ x2 ∧ x2 < 24 then (if 0 ≤ (24 + x2) ∧ (24 + x2) < 105 then nm (sA s0 8 37 0 (upd (s0.2.1 8 37 0) (Int32.toNatClampNeg (24 + x2)) (s0.2.1 8 5 0 (Int32.toNatClampNeg x2)))) fun s66 => nmI (x2 + 1) fun v67 => k61 s66 v67 else none) else none))
def f_X8_keep_38_L61 : Nat → Sto → Int32 → Option (Sto)
  | 0 => fun _ _ => none
  | n + 1 => f_X8_keep_38_B61 (f_X8_keep_38_L61 n)
def f_X8_keep_38_B2 (k2 : Sto → Int32 → Option (Sto)) (s0 : Sto) (x2 : Int32) : Option (Sto) :=
  (if (6 : Int32) ≤ x2 then
    f_X8_keep_38_L61 1000 s0 0
  else
    (if 0 ≤ x2 ∧ x2 < 6 then (if 0 ≤ x2 ∧ x2 < 105 then nm (sA s0 8 37 0 (upd (s0.2.1 8 37 0) (Int32.toNatClampNeg x2) (s0.2.1 8 1 0 (Int32.toNatClampNeg x2)))) fun s72 => (if 0 ≤ x2 ∧ x2 < 6 then (if 0 ≤ (6 + x2) ∧ (6 + x2) < 105 then nm (sA s72 8 37 0 (upd (s72.2.1 8 37 0) (Int32.toNatClampNeg (6 + x2)) (s72.2.1 8 2 0 (Int32.toNatClampNeg x2)))) fun s77 => (if 0 ≤ x2 ∧ x2 < 6 then (if 0 ≤ (12 + x2) ∧ (12 + x2) < 105 then nm (sA s77 8 37 0 (upd (s77.2.1 8 37 0) (Int32.toNatClampNeg (12 + x2)) (s77.2.1 8 3 0 (Int32.toNatClampNeg x2)))) fun s82 => (if 0 ≤ x2 ∧ x2 < 6 then (if 0 ≤ (18 + x2) ∧ (18 + x2) < 105 then nm (sA s82 8 37 0 (upd (s82.2.1 8 37 0) (Int32.toNatClampNeg (18 + x2)) (s82.2.1 8 4 0 (Int32.toNatClampNeg x2)))) fun s87 => nmI (x2 + 1) fun v88 => k2 s87 v88 else none) else none) else none) else none) else none) else none) else none) else none))
def f_X8_keep_38_L2 : Nat → Sto → Int32 → Option (Sto)
  | 0 => fun _ _ => none
  | n + 1 => f_X8_keep_38_B2 (f_X8_keep_38_L2 n)
def f_X8_keep_38 (s0 : Sto) : Option (Sto) :=
  f_X8_keep_38_L2 1000 s0 0
set_option maxRecDepth 100000 in
theorem s_X8_keep_38_B174 (g : Gm) (k174 : Sto → Int32 → Option (Sto)) (hk174 : ∀ (s0 : Sto) (x2 : Int32), Rf cvV (Em g 0) kX8_keep 174 [some (.ref ((Em g 0).1.1 8 0 0)), some (.ref ((Em g 0).1.1 8 38 0)), some (.int x2)] [] s0 (k174 s0 x2)) (s0 : Sto) (x2 : Int32) : Rf cvV (Em g 0) kX8_keep 174 [some (.ref ((Em g 0).1.1 8 0 0)), some (.ref ((Em g 0).1.1 8 38 0)), some (.int x2)] [] s0 (f_X8_keep_38_B174 k174 s0 x2) := by
  unfold f_X8_keep_38_B174
  refine r_iload_n dX8_keep_174 rfl ?_
  refine r_bipush dX8_keep_175 cb_8 ?_
  refine r_icge dX8_keep_177 (tgt := 210) (by decide) (fun c5 => ?_) (fun c5 => ?_)
  · refine r_aload_n dX8_keep_210 rfl ?_
    refine r_bipush dX8_keep_211 cb_99 ?_
    refine r_aload_n dX8_keep_213 rfl ?_
    refine gf_X8_102 rfl dX8_keep_214 ?_
    refine as_8_37 dX8_keep_217 (fun hg6 hj7 s8 => ?_)
    refine r_aload_n dX8_keep_218 rfl ?_
    refine r_bipush dX8_keep_219 cb_100 ?_
    refine r_aload_n dX8_keep_221 rfl ?_
    refine gf_X8_113 rfl dX8_keep_222 ?_
    refine as_8_37 dX8_keep_225 (fun hg9 hj10 s11 => ?_)
    refine r_aload_n dX8_keep_226 rfl ?_
    refine r_bipush dX8_keep_227 cb_101 ?_
    refine r_aload_n dX8_keep_229 rfl ?_
    refine gf_X8_255 rfl dX8_keep_230 ?_
    refine as_8_37 dX8_keep_233 (fun hg12 hj13 s14 => ?_)
    refine r_aload_n dX8_keep_234 rfl ?_
    refine r_bipush dX8_keep_235 cb_102 ?_
    refine r_aload_n dX8_keep_237 rfl ?_
    refine gf_X8_270 rfl dX8_keep_238 ?_
    refine as_8_37 dX8_keep_241 (fun hg15 hj16 s17 => ?_)
    refine r_aload_n dX8_keep_242 rfl ?_
    refine r_bipush dX8_keep_243 cb_103 ?_
    refine r_aload_n dX8_keep_245 rfl ?_
    refine gf_X8_273 rfl dX8_keep_246 ?_
    refine as_8_37 dX8_keep_249 (fun hg18 hj19 s20 => ?_)
    refine r_aload_n dX8_keep_250 rfl ?_
    refine r_bipush dX8_keep_251 cb_104 ?_
    refine r_aload_n dX8_keep_253 rfl ?_
    refine gf_X8_98 rfl dX8_keep_254 ?_
    refine as_8_37 dX8_keep_257 (fun hg21 hj22 s23 => ?_)
    exact r_vret dX8_keep_258 rfl rfl
  · refine r_aload_n dX8_keep_180 rfl ?_
    refine r_bipush dX8_keep_181 cb_83 ?_
    refine r_iload_n dX8_keep_183 rfl ?_
    refine r_iadd dX8_keep_184 ?_
    refine r_aload_n dX8_keep_185 rfl ?_
    refine gf_X8_67 rfl dX8_keep_186 ?_
    refine r_iload_n dX8_keep_189 rfl ?_
    refine al_8_31 dX8_keep_190 (fun hg24 hj25 => ?_)
    refine as_8_37 dX8_keep_191 (fun hg26 hj27 s28 => ?_)
    refine r_aload_n dX8_keep_192 rfl ?_
    refine r_bipush dX8_keep_193 cb_91 ?_
    refine r_iload_n dX8_keep_195 rfl ?_
    refine r_iadd dX8_keep_196 ?_
    refine r_aload_n dX8_keep_197 rfl ?_
    refine gf_X8_70 rfl dX8_keep_198 ?_
    refine r_iload_n dX8_keep_201 rfl ?_
    refine al_8_32 dX8_keep_202 (fun hg29 hj30 => ?_)
    refine as_8_37 dX8_keep_203 (fun hg31 hj32 s33 => ?_)
    refine r_iincN dX8_keep_204 rfl ci_1 rfl (lt_b rfl) (fun v34 => ?_)
    refine r_goto dX8_keep_207 (tgt := 174) (by decide) ?_
    exact r_mask [true, true, true] (hk174 s33 v34)
theorem s_X8_keep_38_L174 (g : Gm) : ∀ (n : Nat) (s0 : Sto) (x2 : Int32), Rf cvV (Em g 0) kX8_keep 174 [some (.ref ((Em g 0).1.1 8 0 0)), some (.ref ((Em g 0).1.1 8 38 0)), some (.int x2)] [] s0 (f_X8_keep_38_L174 n s0 x2)
  | 0, _, _ => r_none
  | n + 1, s0, x2 => s_X8_keep_38_B174 g (f_X8_keep_38_L174 n) (s_X8_keep_38_L174 g n) s0 x2
set_option maxRecDepth 100000 in
theorem s_X8_keep_38_B136 (g : Gm) (k136 : Sto → Int32 → Option (Sto)) (hk136 : ∀ (s0 : Sto) (x2 : Int32), Rf cvV (Em g 0) kX8_keep 136 [some (.ref ((Em g 0).1.1 8 0 0)), some (.ref ((Em g 0).1.1 8 38 0)), some (.int x2)] [] s0 (k136 s0 x2)) (s0 : Sto) (x2 : Int32) : Rf cvV (Em g 0) kX8_keep 136 [some (.ref ((Em g 0).1.1 8 0 0)), some (.ref ((Em g 0).1.1 8 38 0)), some (.int x2)] [] s0 (f_X8_keep_38_B136 k136 s0 x2) := by
  unfold f_X8_keep_38_B136
  refine r_iload_n dX8_keep_136 rfl ?_
  refine r_bipush dX8_keep_137 cb_10 ?_
  refine r_icge dX8_keep_139 (tgt := 172) (by decide) (fun c4 => ?_) (fun c4 => ?_)
  · refine r_iconst dX8_keep_172 ci_0 ?_
    refine r_istore_n dX8_keep_173 rfl (lt_b rfl) (lt_b rfl) ?_
    exact r_mask [true, true, true] (s_X8_keep_38_L174 g 1000 s0 0)
  · refine r_aload_n dX8_keep_142 rfl ?_
    refine r_bipush dX8_keep_143 cb_63 ?_
    refine r_iload_n dX8_keep_145 rfl ?_
    refine r_iadd dX8_keep_146 ?_
    refine r_aload_n dX8_keep_147 rfl ?_
    refine gf_X8_61 rfl dX8_keep_148 ?_
    refine r_iload_n dX8_keep_151 rfl ?_
    refine al_8_28 dX8_keep_152 (fun hg35 hj36 => ?_)
    refine as_8_37 dX8_keep_153 (fun hg37 hj38 s39 => ?_)
    refine r_aload_n dX8_keep_154 rfl ?_
    refine r_bipush dX8_keep_155 cb_73 ?_
    refine r_iload_n dX8_keep_157 rfl ?_
    refine r_iadd dX8_keep_158 ?_
    refine r_aload_n dX8_keep_159 rfl ?_
    refine gf_X8_64 rfl dX8_keep_160 ?_
    refine r_iload_n dX8_keep_163 rfl ?_
    refine al_8_29 dX8_keep_164 (fun hg40 hj41 => ?_)
    refine as_8_37 dX8_keep_165 (fun hg42 hj43 s44 => ?_)
    refine r_iincN dX8_keep_166 rfl ci_1 rfl (lt_b rfl) (fun v45 => ?_)
    refine r_goto dX8_keep_169 (tgt := 136) (by decide) ?_
    exact r_mask [true, true, true] (hk136 s44 v45)
theorem s_X8_keep_38_L136 (g : Gm) : ∀ (n : Nat) (s0 : Sto) (x2 : Int32), Rf cvV (Em g 0) kX8_keep 136 [some (.ref ((Em g 0).1.1 8 0 0)), some (.ref ((Em g 0).1.1 8 38 0)), some (.int x2)] [] s0 (f_X8_keep_38_L136 n s0 x2)
  | 0, _, _ => r_none
  | n + 1, s0, x2 => s_X8_keep_38_B136 g (f_X8_keep_38_L136 n) (s_X8_keep_38_L136 g n) s0 x2
set_option maxRecDepth 100000 in
theorem s_X8_keep_38_B87 (g : Gm) (k87 : Sto → Int32 → Option (Sto)) (hk87 : ∀ (s0 : Sto) (x2 : Int32), Rf cvV (Em g 0) kX8_keep 87 [some (.ref ((Em g 0).1.1 8 0 0)), some (.ref ((Em g 0).1.1 8 38 0)), some (.int x2)] [] s0 (k87 s0 x2)) (s0 : Sto) (x2 : Int32) : Rf cvV (Em g 0) kX8_keep 87 [some (.ref ((Em g 0).1.1 8 0 0)), some (.ref ((Em g 0).1.1 8 38 0)), some (.int x2)] [] s0 (f_X8_keep_38_B87 k87 s0 x2) := by
  unfold f_X8_keep_38_B87
  refine r_iload_n dX8_keep_87 rfl ?_
  refine r_iconst dX8_keep_88 ci_5 ?_
  refine r_icge dX8_keep_89 (tgt := 134) (by decide) (fun c3 => ?_) (fun c3 => ?_)
  · refine r_iconst dX8_keep_134 ci_0 ?_
    refine r_istore_n dX8_keep_135 rfl (lt_b rfl) (lt_b rfl) ?_
    exact r_mask [true, true, true] (s_X8_keep_38_L136 g 1000 s0 0)
  · refine r_aload_n dX8_keep_92 rfl ?_
    refine r_bipush dX8_keep_93 cb_48 ?_
    refine r_iload_n dX8_keep_95 rfl ?_
    refine r_iadd dX8_keep_96 ?_
    refine r_aload_n dX8_keep_97 rfl ?_
    refine gf_X8_52 rfl dX8_keep_98 ?_
    refine r_iload_n dX8_keep_101 rfl ?_
    refine al_8_24 dX8_keep_102 (fun hg46 hj47 => ?_)
    refine as_8_37 dX8_keep_103 (fun hg48 hj49 s50 => ?_)
    refine r_aload_n dX8_keep_104 rfl ?_
    refine r_bipush dX8_keep_105 cb_53 ?_
    refine r_iload_n dX8_keep_107 rfl ?_
    refine r_iadd dX8_keep_108 ?_
    refine r_aload_n dX8_keep_109 rfl ?_
    refine gf_X8_55 rfl dX8_keep_110 ?_
    refine r_iload_n dX8_keep_113 rfl ?_
    refine al_8_25 dX8_keep_114 (fun hg51 hj52 => ?_)
    refine as_8_37 dX8_keep_115 (fun hg53 hj54 s55 => ?_)
    refine r_aload_n dX8_keep_116 rfl ?_
    refine r_bipush dX8_keep_117 cb_58 ?_
    refine r_iload_n dX8_keep_119 rfl ?_
    refine r_iadd dX8_keep_120 ?_
    refine r_aload_n dX8_keep_121 rfl ?_
    refine gf_X8_58 rfl dX8_keep_122 ?_
    refine r_iload_n dX8_keep_125 rfl ?_
    refine al_8_26 dX8_keep_126 (fun hg56 hj57 => ?_)
    refine as_8_37 dX8_keep_127 (fun hg58 hj59 s60 => ?_)
    refine r_iincN dX8_keep_128 rfl ci_1 rfl (lt_b rfl) (fun v61 => ?_)
    refine r_goto dX8_keep_131 (tgt := 87) (by decide) ?_
    exact r_mask [true, true, true] (hk87 s60 v61)
theorem s_X8_keep_38_L87 (g : Gm) : ∀ (n : Nat) (s0 : Sto) (x2 : Int32), Rf cvV (Em g 0) kX8_keep 87 [some (.ref ((Em g 0).1.1 8 0 0)), some (.ref ((Em g 0).1.1 8 38 0)), some (.int x2)] [] s0 (f_X8_keep_38_L87 n s0 x2)
  | 0, _, _ => r_none
  | n + 1, s0, x2 => s_X8_keep_38_B87 g (f_X8_keep_38_L87 n) (s_X8_keep_38_L87 g n) s0 x2
set_option maxRecDepth 100000 in
theorem s_X8_keep_38_B61 (g : Gm) (k61 : Sto → Int32 → Option (Sto)) (hk61 : ∀ (s0 : Sto) (x2 : Int32), Rf cvV (Em g 0) kX8_keep 61 [some (.ref ((Em g 0).1.1 8 0 0)), some (.ref ((Em g 0).1.1 8 38 0)), some (.int x2)] [] s0 (k61 s0 x2)) (s0 : Sto) (x2 : Int32) : Rf cvV (Em g 0) kX8_keep 61 [some (.ref ((Em g 0).1.1 8 0 0)), some (.ref ((Em g 0).1.1 8 38 0)), some (.int x2)] [] s0 (f_X8_keep_38_B61 k61 s0 x2) := by
  unfold f_X8_keep_38_B61
  refine r_iload_n dX8_keep_61 rfl ?_
  refine r_bipush dX8_keep_62 cb_24 ?_
  refine r_icge dX8_keep_64 (tgt := 85) (by decide) (fun c2 => ?_) (fun c2 => ?_)
  · refine r_iconst dX8_keep_85 ci_0 ?_
    refine r_istore_n dX8_keep_86 rfl (lt_b rfl) (lt_b rfl) ?_
    exact r_mask [true, true, true] (s_X8_keep_38_L87 g 1000 s0 0)
  · refine r_aload_n dX8_keep_67 rfl ?_
    refine r_bipush dX8_keep_68 cb_24 ?_
    refine r_iload_n dX8_keep_70 rfl ?_
    refine r_iadd dX8_keep_71 ?_
    refine r_aload_n dX8_keep_72 rfl ?_
    refine gf_X8_24 rfl dX8_keep_73 ?_
    refine r_iload_n dX8_keep_76 rfl ?_
    refine al_8_5 dX8_keep_77 (fun hg62 hj63 => ?_)
    refine as_8_37 dX8_keep_78 (fun hg64 hj65 s66 => ?_)
    refine r_iincN dX8_keep_79 rfl ci_1 rfl (lt_b rfl) (fun v67 => ?_)
    refine r_goto dX8_keep_82 (tgt := 61) (by decide) ?_
    exact r_mask [true, true, true] (hk61 s66 v67)
theorem s_X8_keep_38_L61 (g : Gm) : ∀ (n : Nat) (s0 : Sto) (x2 : Int32), Rf cvV (Em g 0) kX8_keep 61 [some (.ref ((Em g 0).1.1 8 0 0)), some (.ref ((Em g 0).1.1 8 38 0)), some (.int x2)] [] s0 (f_X8_keep_38_L61 n s0 x2)
  | 0, _, _ => r_none
  | n + 1, s0, x2 => s_X8_keep_38_B61 g (f_X8_keep_38_L61 n) (s_X8_keep_38_L61 g n) s0 x2
set_option maxRecDepth 100000 in
theorem s_X8_keep_38_B2 (g : Gm) (k2 : Sto → Int32 → Option (Sto)) (hk2 : ∀ (s0 : Sto) (x2 : Int32), Rf cvV (Em g 0) kX8_keep 2 [some (.ref ((Em g 0).1.1 8 0 0)), some (.ref ((Em g 0).1.1 8 38 0)), some (.int x2)] [] s0 (k2 s0 x2)) (s0 : Sto) (x2 : Int32) : Rf cvV (Em g 0) kX8_keep 2 [some (.ref ((Em g 0).1.1 8 0 0)), some (.ref ((Em g 0).1.1 8 38 0)), some (.int x2)] [] s0 (f_X8_keep_38_B2 k2 s0 x2) := by
  unfold f_X8_keep_38_B2
  refine r_iload_n dX8_keep_2 rfl ?_
  refine r_bipush dX8_keep_3 cb_6 ?_
  refine r_icge dX8_keep_5 (tgt := 59) (by decide) (fun c1 => ?_) (fun c1 => ?_)
  · refine r_iconst dX8_keep_59 ci_0 ?_
    refine r_istore_n dX8_keep_60 rfl (lt_b rfl) (lt_b rfl) ?_
    exact r_mask [true, true, true] (s_X8_keep_38_L61 g 1000 s0 0)
  · refine r_aload_n dX8_keep_8 rfl ?_
    refine r_iload_n dX8_keep_9 rfl ?_
    refine r_aload_n dX8_keep_10 rfl ?_
    refine gf_X8_9 rfl dX8_keep_11 ?_
    refine r_iload_n dX8_keep_14 rfl ?_
    refine al_8_1 dX8_keep_15 (fun hg68 hj69 => ?_)
    refine as_8_37 dX8_keep_16 (fun hg70 hj71 s72 => ?_)
    refine r_aload_n dX8_keep_17 rfl ?_
    refine r_bipush dX8_keep_18 cb_6 ?_
    refine r_iload_n dX8_keep_20 rfl ?_
    refine r_iadd dX8_keep_21 ?_
    refine r_aload_n dX8_keep_22 rfl ?_
    refine gf_X8_15 rfl dX8_keep_23 ?_
    refine r_iload_n dX8_keep_26 rfl ?_
    refine al_8_2 dX8_keep_27 (fun hg73 hj74 => ?_)
    refine as_8_37 dX8_keep_28 (fun hg75 hj76 s77 => ?_)
    refine r_aload_n dX8_keep_29 rfl ?_
    refine r_bipush dX8_keep_30 cb_12 ?_
    refine r_iload_n dX8_keep_32 rfl ?_
    refine r_iadd dX8_keep_33 ?_
    refine r_aload_n dX8_keep_34 rfl ?_
    refine gf_X8_18 rfl dX8_keep_35 ?_
    refine r_iload_n dX8_keep_38 rfl ?_
    refine al_8_3 dX8_keep_39 (fun hg78 hj79 => ?_)
    refine as_8_37 dX8_keep_40 (fun hg80 hj81 s82 => ?_)
    refine r_aload_n dX8_keep_41 rfl ?_
    refine r_bipush dX8_keep_42 cb_18 ?_
    refine r_iload_n dX8_keep_44 rfl ?_
    refine r_iadd dX8_keep_45 ?_
    refine r_aload_n dX8_keep_46 rfl ?_
    refine gf_X8_21 rfl dX8_keep_47 ?_
    refine r_iload_n dX8_keep_50 rfl ?_
    refine al_8_4 dX8_keep_51 (fun hg83 hj84 => ?_)
    refine as_8_37 dX8_keep_52 (fun hg85 hj86 s87 => ?_)
    refine r_iincN dX8_keep_53 rfl ci_1 rfl (lt_b rfl) (fun v88 => ?_)
    refine r_goto dX8_keep_56 (tgt := 2) (by decide) ?_
    exact r_mask [true, true, true] (hk2 s87 v88)
theorem s_X8_keep_38_L2 (g : Gm) : ∀ (n : Nat) (s0 : Sto) (x2 : Int32), Rf cvV (Em g 0) kX8_keep 2 [some (.ref ((Em g 0).1.1 8 0 0)), some (.ref ((Em g 0).1.1 8 38 0)), some (.int x2)] [] s0 (f_X8_keep_38_L2 n s0 x2)
  | 0, _, _ => r_none
  | n + 1, s0, x2 => s_X8_keep_38_B2 g (f_X8_keep_38_L2 n) (s_X8_keep_38_L2 g n) s0 x2
set_option maxRecDepth 100000 in
theorem s_X8_keep_38 (g : Gm) (s0 : Sto) : Rf cvV (Em g 0) kX8_keep 0 [some (.ref ((Em g 0).1.1 8 0 0)), some (.ref ((Em g 0).1.1 8 38 0)), none] [] s0 (f_X8_keep_38 s0) := by
  unfold f_X8_keep_38
  refine r_iconst dX8_keep_0 ci_0 ?_
  refine r_istore_n dX8_keep_1 rfl (lt_b rfl) (lt_b rfl) ?_
  exact r_mask [true, true, true] (s_X8_keep_38_L2 g 1000 s0 0)
theorem ok_X8_keep_38 (g : Gm) (s0 : Sto) : Ok g yX8_keep kX8_keep 0 [.ref ((Em g 0).1.1 8 0 0), .ref ((Em g 0).1.1 8 38 0)] s0 cvV (f_X8_keep_38 s0) := Ok.of (by decide) rfl (Nat.le_of_ble_eq_true rfl) (lv := [some (.ref ((Em g 0).1.1 8 0 0)), some (.ref ((Em g 0).1.1 8 38 0)), none]) rfl (s_X8_keep_38 g s0)
theorem u_X8_keep_38 {α : Type} {cv : α → Res} {E : EE} {K : KK} {pc npc idx d : Nat} {lv : List (Option Value)} {st : List Value} {σ : Sto} {oc : Option (Sto)} {kf : Sto → Option α} (hOk : Ok E.1 yX8_keep kX8_keep d [.ref (E.1.1 8 0 0), .ref (E.1.1 8 38 0)] σ cvV oc) (hd : Dc K pc (.invokevirtual idx) 3 npc) (hlk : Cond.methodLink K.2.1 idx yX8_keep ∈ lw_good) (hw : (st.map fun v => v.category).sum ≤ 8) (hfit : fits_ E d 3) (hrm : room_ok E) (kk : ∀ τ : Sto, Rf cv E K npc lv st τ (kf τ)) : Rf cv E K pc lv (.ref (E.1.1 8 38 0) :: .ref (E.1.1 8 0 0) :: st) σ (oc.bind kf) := c_V (n := 1) (as := [.ref (E.1.1 8 38 0)]) (c0 := 8) (i := 0) (CC := "ThawGivesModel") (T := TX8) (N := 43) hd hOk hlk wi_X8_keep wv_X8_keep wn_X8 wc_X8_keep rfl (by decide) (by decide) ⟨by decide, by decide, by decide⟩ rfl rfl hw hfit hrm (fun b _ => kk b)
def f_X8_snow_B4 (s0 : Sto) (k4 : Int32 → Int32 → Option (Int32)) (x1 : Int32) (x2 : Int32) : Option (Int32) :=
  (if (s0.1 8 14 0) = (-1 : Int32) then
    some x1
  else
    (if 0 ≤ (s0.1 8 14 0) ∧ (s0.1 8 14 0) < 6 then (if (s0.2.1 8 15 0 (Int32.toNatClampNeg (s0.1 8 14 0))) ≤ x2 then
      some x1
    else
      (if 0 ≤ ((10 * (s0.1 8 14 0)) + x2) ∧ ((10 * (s0.1 8 14 0)) + x2) < 61 then (if (s0.2.1 8 16 0 (Int32.toNatClampNeg ((10 * (s0.1 8 14 0)) + x2))) = 2 then
        (if 0 ≤ ((10 * (s0.1 8 14 0)) + x2) ∧ ((10 * (s0.1 8 14 0)) + x2) < 61 then nmI ((s0.2.1 8 17 0 (Int32.toNatClampNeg ((10 * (s0.1 8 14 0)) + x2)))) fun v11 => nmI (x2 + 1) fun v12 => k4 v11 v12 else none)
      else
        nmI (x2 + 1) fun v8 => k4 x1 v8) else none)) else none))
def f_X8_snow_L4 (s0 : Sto) : Nat → Int32 → Int32 → Option (Int32)
  | 0 => fun _ _ => none
  | n + 1 => f_X8_snow_B4 s0 (f_X8_snow_L4 s0 n)
def f_X8_snow (s0 : Sto) : Option (Int32) :=
  f_X8_snow_L4 s0 1000 0 0
set_option maxRecDepth 100000 in
theorem s_X8_snow_B4 (g : Gm) (s0 : Sto) (k4 : Int32 → Int32 → Option (Int32)) (hk4 : ∀ (x1 : Int32) (x2 : Int32), Rf (cvI s0) (Em g 0) kX8_snow 4 [some (.ref ((Em g 0).1.1 8 0 0)), some (.int x1), some (.int x2)] [] s0 (k4 x1 x2)) (x1 : Int32) (x2 : Int32) : Rf (cvI s0) (Em g 0) kX8_snow 4 [some (.ref ((Em g 0).1.1 8 0 0)), some (.int x1), some (.int x2)] [] s0 (f_X8_snow_B4 s0 k4 x1 x2) := by
  unfold f_X8_snow_B4
  refine r_aload_n dX8_snow_4 rfl ?_
  refine gf_X8_98 rfl dX8_snow_5 ?_
  refine r_iconst dX8_snow_8 ci_m1 ?_
  refine r_iceq dX8_snow_9 (tgt := 64) (by decide) (fun c1 => ?_) (fun c1 => ?_)
  · refine r_iload_n dX8_snow_64 rfl ?_
    exact r_iret dX8_snow_65 rfl rfl
  · refine r_iload_n dX8_snow_12 rfl ?_
    refine r_aload_n dX8_snow_13 rfl ?_
    refine gf_X8_30 rfl dX8_snow_14 ?_
    refine r_aload_n dX8_snow_17 rfl ?_
    refine gf_X8_98 rfl dX8_snow_18 ?_
    refine al_8_15 dX8_snow_21 (fun hg2 hj3 => ?_)
    refine r_icge dX8_snow_22 (tgt := 64) (by decide) (fun c4 => ?_) (fun c4 => ?_)
    · refine r_iload_n dX8_snow_64 rfl ?_
      exact r_iret dX8_snow_65 rfl rfl
    · refine r_aload_n dX8_snow_25 rfl ?_
      refine gf_X8_33 rfl dX8_snow_26 ?_
      refine r_bipush dX8_snow_29 cb_10 ?_
      refine r_aload_n dX8_snow_31 rfl ?_
      refine gf_X8_98 rfl dX8_snow_32 ?_
      refine r_imul dX8_snow_35 ?_
      refine r_iload_n dX8_snow_36 rfl ?_
      refine r_iadd dX8_snow_37 ?_
      refine al_8_16 dX8_snow_38 (fun hg5 hj6 => ?_)
      refine r_iconst dX8_snow_39 ci_2 ?_
      refine r_icne dX8_snow_40 (tgt := 58) (by decide) (fun c7 => ?_) (fun c7 => ?_)
      · refine r_aload_n dX8_snow_43 rfl ?_
        refine gf_X8_36 rfl dX8_snow_44 ?_
        refine r_bipush dX8_snow_47 cb_10 ?_
        refine r_aload_n dX8_snow_49 rfl ?_
        refine gf_X8_98 rfl dX8_snow_50 ?_
        refine r_imul dX8_snow_53 ?_
        refine r_iload_n dX8_snow_54 rfl ?_
        refine r_iadd dX8_snow_55 ?_
        refine al_8_17 dX8_snow_56 (fun hg9 hj10 => ?_)
        refine r_istore_nN dX8_snow_57 rfl (lt_b rfl) (lt_b rfl) (fun v11 => ?_)
        refine r_iincN dX8_snow_58 rfl ci_1 rfl (lt_b rfl) (fun v12 => ?_)
        refine r_goto dX8_snow_61 (tgt := 4) (by decide) ?_
        exact r_mask [true, true, true] (hk4 v11 v12)
      · refine r_iincN dX8_snow_58 rfl ci_1 rfl (lt_b rfl) (fun v8 => ?_)
        refine r_goto dX8_snow_61 (tgt := 4) (by decide) ?_
        exact r_mask [true, true, true] (hk4 x1 v8)
theorem s_X8_snow_L4 (g : Gm) (s0 : Sto) : ∀ (n : Nat) (x1 : Int32) (x2 : Int32), Rf (cvI s0) (Em g 0) kX8_snow 4 [some (.ref ((Em g 0).1.1 8 0 0)), some (.int x1), some (.int x2)] [] s0 (f_X8_snow_L4 s0 n x1 x2)
  | 0, _, _ => r_none
  | n + 1, x1, x2 => s_X8_snow_B4 g s0 (f_X8_snow_L4 s0 n) (s_X8_snow_L4 g s0 n) x1 x2
set_option maxRecDepth 100000 in
theorem s_X8_snow (g : Gm) (s0 : Sto) : Rf (cvI s0) (Em g 0) kX8_snow 0 [some (.ref ((Em g 0).1.1 8 0 0)), none, none] [] s0 (f_X8_snow s0) := by
  unfold f_X8_snow
  refine r_iconst dX8_snow_0 ci_0 ?_
  refine r_istore_n dX8_snow_1 rfl (lt_b rfl) (lt_b rfl) ?_
  refine r_iconst dX8_snow_2 ci_0 ?_
  refine r_istore_n dX8_snow_3 rfl (lt_b rfl) (lt_b rfl) ?_
  exact r_mask [true, true, true] (s_X8_snow_L4 g s0 1000 0 0)
theorem ok_X8_snow (g : Gm) (s0 : Sto) : Ok g yX8_snow kX8_snow 0 [.ref ((Em g 0).1.1 8 0 0)] s0 (cvI s0) (f_X8_snow s0) := Ok.of (by decide) rfl (Nat.le_of_ble_eq_true rfl) (lv := [some (.ref ((Em g 0).1.1 8 0 0)), none, none]) rfl (s_X8_snow g s0)
theorem u_X8_snow {α : Type} {cv : α → Res} {E : EE} {K : KK} {pc npc idx d : Nat} {lv : List (Option Value)} {st : List Value} {σ : Sto} {oc : Option (Int32)} {kf : Int32 → Option α} (hOk : Ok E.1 yX8_snow kX8_snow d [.ref (E.1.1 8 0 0)] σ (cvI σ) oc) (hd : Dc K pc (.invokevirtual idx) 3 npc) (hlk : Cond.methodLink K.2.1 idx yX8_snow ∈ lw_good) (hw : (st.map fun v => v.category).sum ≤ 8) (hfit : fits_ E d 3) (hrm : room_ok E) (kk : ∀ q : Int32, Rf cv E K npc lv (.int q :: st) σ (kf q)) : Rf cv E K pc lv (.ref (E.1.1 8 0 0) :: st) σ (oc.bind kf) := c_V (n := 0) (as := []) (c0 := 8) (i := 0) (CC := "ThawGivesModel") (T := TX8) (N := 43) hd hOk hlk wi_X8_snow wv_X8_snow wn_X8 wc_X8_snow rfl (by decide) (by decide) ⟨by decide, by decide, by decide⟩ rfl rfl hw hfit hrm (fun b _ => kk b)
def f_X8_held (x0 : Int32) : Option (Int32) :=
  (f_J9_min_7cf53 99 x0).bind fun q1 => (f_J9_max_7cf53 0 q1).bind fun q2 => some q2
set_option maxRecDepth 100000 in
theorem s_X8_held (g : Gm) (sz : Sto) (x0 : Int32) : Rf (cvI sz) (Em g 1) kX8_held 0 [some (.int x0)] [] sz (f_X8_held x0) := by
  unfold f_X8_held
  refine r_iconst dX8_held_0 ci_0 ?_
  refine r_bipush dX8_held_1 cb_99 ?_
  refine r_iload_n dX8_held_3 rfl ?_
  refine u_J9_min_7cf53 (ok_J9_min_7cf53 g sz 99 x0) dX8_held_4 ml_X8_212 (Nat.le_of_ble_eq_true rfl) (fits_m (by decide) (by decide)) room_m (fun q1 => ?_)
  refine u_J9_max_7cf53 (ok_J9_max_7cf53 g sz 0 q1) dX8_held_7 ml_X8_217 (Nat.le_of_ble_eq_true rfl) (fits_m (by decide) (by decide)) room_m (fun q2 => ?_)
  exact r_iret dX8_held_10 rfl rfl
theorem ok_X8_held (g : Gm) (sz : Sto) (x0 : Int32) : Ok g yX8_held kX8_held 1 [.int x0] sz (cvI sz) (f_X8_held x0) := Ok.of (by decide) rfl (Nat.le_of_ble_eq_true rfl) (lv := [some (.int x0)]) rfl (s_X8_held g sz x0)
theorem u_X8_held {α : Type} {cv : α → Res} {E : EE} {K : KK} {pc npc idx d : Nat} {lv : List (Option Value)} {st : List Value} {σ : Sto} {oc : Option (Int32)} {kf : Int32 → Option α} {x0 : Int32} (hOk : Ok E.1 yX8_held kX8_held d [.int x0] σ (cvI σ) oc) (hd : Dc K pc (.invokestatic idx) 3 npc) (hlk : Cond.methodLink K.2.1 idx yX8_held ∈ lw_good) (hw : (st.map fun v => v.category).sum ≤ 8) (hfit : fits_ E d 1) (hrm : room_ok E) (kk : ∀ q : Int32, Rf cv E K npc lv (.int q :: st) σ (kf q)) : Rf cv E K pc lv (.int x0 :: st) σ (oc.bind kf) := c_S (n := 1) (as := [.int x0]) hd hOk hlk wt_X8_held wn_X8 wc_X8_held ⟨by decide, by decide, by decide⟩ rfl rfl hw hfit hrm (fun b _ => kk b)
def f_X8_goesWeek_B51 (k51 : Sto → Int32 → Int32 → Option (Sto)) (s0 : Sto) (x1 : Int32) (x2 : Int32) : Option (Sto) :=
  (if (s0.1 8 0 0) ≤ x2 then
    nm (sF s0 8 6 0 ((s0.1 8 6 0) + 1)) fun s4 => some s4
  else
    (if 0 ≤ x2 ∧ x2 < 6 then (if (s0.2.1 8 4 0 (Int32.toNatClampNeg x2)) = 0 then
      nmI (x2 + 1) fun v27 => k51 s0 x1 v27
    else
      (if 0 ≤ x2 ∧ x2 < 6 then (if 0 ≤ x2 ∧ x2 < 6 then (f_X8_held ((s0.2.1 8 4 0 (Int32.toNatClampNeg x2)) - (s0.2.1 8 39 0 (Int32.toNatClampNeg x2)))).bind fun q12 => (if 0 ≤ x2 ∧ x2 < 6 then nm (sA s0 8 4 0 (upd (s0.2.1 8 4 0) (Int32.toNatClampNeg x2) q12)) fun s15 => (if 0 ≤ x2 ∧ x2 < 6 then (if (s15.2.1 8 4 0 (Int32.toNatClampNeg x2)) ≤ 0 then
        nmI (x2 + 1) fun v19 => k51 s15 x1 v19
      else
        (if 0 ≤ x2 ∧ x2 < 6 then (f_X8_held ((s15.2.1 8 4 0 (Int32.toNatClampNeg x2)) + x1)).bind fun q22 => (if 0 ≤ x2 ∧ x2 < 6 then nm (sA s15 8 4 0 (upd (s15.2.1 8 4 0) (Int32.toNatClampNeg x2) q22)) fun s25 => nmI (x2 + 1) fun v26 => k51 s25 x1 v26 else none) else none)) else none) else none) else none) else none)) else none))
def f_X8_goesWeek_L51 : Nat → Sto → Int32 → Int32 → Option (Sto)
  | 0 => fun _ _ _ => none
  | n + 1 => f_X8_goesWeek_B51 (f_X8_goesWeek_L51 n)
def f_X8_goesWeek_B2 (k2 : Sto → Int32 → Option (Sto)) (s0 : Sto) (x1 : Int32) : Option (Sto) :=
  (if (s0.1 8 0 0) ≤ x1 then
    (if ((s0.1 8 6 0) - (s0.1 8 6 0) / 5 * 5) = 0 then
      (f_X8_snow s0).bind fun q28 => f_X8_goesWeek_L51 1000 s0 q28 0
    else
      f_X8_goesWeek_L51 1000 s0 0 0)
  else
    (f_X8_meltsIn s0 x1 (s0.1 8 6 0)).bind fun q29 => (if 0 ≤ x1 ∧ x1 < 6 then nm (sA q29.2 8 39 0 (upd (q29.2.2.1 8 39 0) (Int32.toNatClampNeg x1) q29.1)) fun s32 => nmI (x1 + 1) fun v33 => k2 s32 v33 else none))
def f_X8_goesWeek_L2 : Nat → Sto → Int32 → Option (Sto)
  | 0 => fun _ _ => none
  | n + 1 => f_X8_goesWeek_B2 (f_X8_goesWeek_L2 n)
def f_X8_goesWeek (s0 : Sto) : Option (Sto) :=
  f_X8_goesWeek_L2 1000 s0 0
set_option maxRecDepth 100000 in
theorem s_X8_goesWeek_B51 (g : Gm) (k51 : Sto → Int32 → Int32 → Option (Sto)) (hk51 : ∀ (s0 : Sto) (x1 : Int32) (x2 : Int32), Rf cvV (Em g 4) kX8_goesWeek 51 [some (.ref ((Em g 4).1.1 8 0 0)), some (.int x1), some (.int x2)] [] s0 (k51 s0 x1 x2)) (s0 : Sto) (x1 : Int32) (x2 : Int32) : Rf cvV (Em g 4) kX8_goesWeek 51 [some (.ref ((Em g 4).1.1 8 0 0)), some (.int x1), some (.int x2)] [] s0 (f_X8_goesWeek_B51 k51 s0 x1 x2) := by
  unfold f_X8_goesWeek_B51
  refine r_iload_n dX8_goesWeek_51 rfl ?_
  refine r_aload_n dX8_goesWeek_52 rfl ?_
  refine gf_X8_102 rfl dX8_goesWeek_53 ?_
  refine r_icge dX8_goesWeek_56 (tgt := 125) (by decide) (fun c3 => ?_) (fun c3 => ?_)
  · refine r_aload_n dX8_goesWeek_125 rfl ?_
    refine r_dup dX8_goesWeek_126 rfl ?_
    refine gf_X8_113 rfl dX8_goesWeek_127 ?_
    refine r_iconst dX8_goesWeek_130 ci_1 ?_
    refine r_iadd dX8_goesWeek_131 ?_
    refine pf_X8_113 rfl dX8_goesWeek_132 (fun s4 => ?_)
    exact r_vret dX8_goesWeek_135 rfl rfl
  · refine r_aload_n dX8_goesWeek_59 rfl ?_
    refine gf_X8_21 rfl dX8_goesWeek_60 ?_
    refine r_iload_n dX8_goesWeek_63 rfl ?_
    refine al_8_4 dX8_goesWeek_64 (fun hg5 hj6 => ?_)
    refine r_ifne dX8_goesWeek_65 (tgt := 71) (by decide) (fun c7 => ?_) (fun c7 => ?_)
    · refine r_goto dX8_goesWeek_68 (tgt := 119) (by decide) ?_
      refine r_iincN dX8_goesWeek_119 rfl ci_1 rfl (lt_b rfl) (fun v27 => ?_)
      refine r_goto dX8_goesWeek_122 (tgt := 51) (by decide) ?_
      exact r_mask [true, true, true] (hk51 s0 x1 v27)
    · refine r_aload_n dX8_goesWeek_71 rfl ?_
      refine gf_X8_21 rfl dX8_goesWeek_72 ?_
      refine r_iload_n dX8_goesWeek_75 rfl ?_
      refine r_aload_n dX8_goesWeek_76 rfl ?_
      refine gf_X8_21 rfl dX8_goesWeek_77 ?_
      refine r_iload_n dX8_goesWeek_80 rfl ?_
      refine al_8_4 dX8_goesWeek_81 (fun hg8 hj9 => ?_)
      refine r_aload_n dX8_goesWeek_82 rfl ?_
      refine gf_X8_85 rfl dX8_goesWeek_83 ?_
      refine r_iload_n dX8_goesWeek_86 rfl ?_
      refine al_8_39 dX8_goesWeek_87 (fun hg10 hj11 => ?_)
      refine r_isub dX8_goesWeek_88 ?_
      refine u_X8_held (ok_X8_held g s0 ((s0.2.1 8 4 0 (Int32.toNatClampNeg x2)) - (s0.2.1 8 39 0 (Int32.toNatClampNeg x2)))) dX8_goesWeek_89 ml_X8_223 (Nat.le_of_ble_eq_true rfl) (fits_m (by decide) (by decide)) room_m (fun q12 => ?_)
      refine as_8_4 dX8_goesWeek_92 (fun hg13 hj14 s15 => ?_)
      refine r_aload_n dX8_goesWeek_93 rfl ?_
      refine gf_X8_21 rfl dX8_goesWeek_94 ?_
      refine r_iload_n dX8_goesWeek_97 rfl ?_
      refine al_8_4 dX8_goesWeek_98 (fun hg16 hj17 => ?_)
      refine r_ifle dX8_goesWeek_99 (tgt := 119) (by decide) (fun c18 => ?_) (fun c18 => ?_)
      · refine r_iincN dX8_goesWeek_119 rfl ci_1 rfl (lt_b rfl) (fun v19 => ?_)
        refine r_goto dX8_goesWeek_122 (tgt := 51) (by decide) ?_
        exact r_mask [true, true, true] (hk51 s15 x1 v19)
      · refine r_aload_n dX8_goesWeek_102 rfl ?_
        refine gf_X8_21 rfl dX8_goesWeek_103 ?_
        refine r_iload_n dX8_goesWeek_106 rfl ?_
        refine r_aload_n dX8_goesWeek_107 rfl ?_
        refine gf_X8_21 rfl dX8_goesWeek_108 ?_
        refine r_iload_n dX8_goesWeek_111 rfl ?_
        refine al_8_4 dX8_goesWeek_112 (fun hg20 hj21 => ?_)
        refine r_iload_n dX8_goesWeek_113 rfl ?_
        refine r_iadd dX8_goesWeek_114 ?_
        refine u_X8_held (ok_X8_held g s15 ((s15.2.1 8 4 0 (Int32.toNatClampNeg x2)) + x1)) dX8_goesWeek_115 ml_X8_223 (Nat.le_of_ble_eq_true rfl) (fits_m (by decide) (by decide)) room_m (fun q22 => ?_)
        refine as_8_4 dX8_goesWeek_118 (fun hg23 hj24 s25 => ?_)
        refine r_iincN dX8_goesWeek_119 rfl ci_1 rfl (lt_b rfl) (fun v26 => ?_)
        refine r_goto dX8_goesWeek_122 (tgt := 51) (by decide) ?_
        exact r_mask [true, true, true] (hk51 s25 x1 v26)
theorem s_X8_goesWeek_L51 (g : Gm) : ∀ (n : Nat) (s0 : Sto) (x1 : Int32) (x2 : Int32), Rf cvV (Em g 4) kX8_goesWeek 51 [some (.ref ((Em g 4).1.1 8 0 0)), some (.int x1), some (.int x2)] [] s0 (f_X8_goesWeek_L51 n s0 x1 x2)
  | 0, _, _, _ => r_none
  | n + 1, s0, x1, x2 => s_X8_goesWeek_B51 g (f_X8_goesWeek_L51 n) (s_X8_goesWeek_L51 g n) s0 x1 x2
set_option maxRecDepth 100000 in
theorem s_X8_goesWeek_B2 (g : Gm) (k2 : Sto → Int32 → Option (Sto)) (hk2 : ∀ (s0 : Sto) (x1 : Int32), Rf cvV (Em g 4) kX8_goesWeek 2 [some (.ref ((Em g 4).1.1 8 0 0)), some (.int x1), none] [] s0 (k2 s0 x1)) (s0 : Sto) (x1 : Int32) : Rf cvV (Em g 4) kX8_goesWeek 2 [some (.ref ((Em g 4).1.1 8 0 0)), some (.int x1), none] [] s0 (f_X8_goesWeek_B2 k2 s0 x1) := by
  unfold f_X8_goesWeek_B2
  refine r_iload_n dX8_goesWeek_2 rfl ?_
  refine r_aload_n dX8_goesWeek_3 rfl ?_
  refine gf_X8_102 rfl dX8_goesWeek_4 ?_
  refine r_icge dX8_goesWeek_7 (tgt := 31) (by decide) (fun c1 => ?_) (fun c1 => ?_)
  · refine r_aload_n dX8_goesWeek_31 rfl ?_
    refine gf_X8_113 rfl dX8_goesWeek_32 ?_
    refine r_iconst dX8_goesWeek_35 ci_5 ?_
    refine r_irem dX8_goesWeek_36 (by decide) ?_
    refine r_ifne dX8_goesWeek_37 (tgt := 47) (by decide) (fun c2 => ?_) (fun c2 => ?_)
    · refine r_aload_n dX8_goesWeek_40 rfl ?_
      refine u_X8_snow (ok_X8_snow g s0) dX8_goesWeek_41 ml_X8_220 (Nat.le_of_ble_eq_true rfl) (fits_m (by decide) (by decide)) room_m (fun q28 => ?_)
      refine r_goto dX8_goesWeek_44 (tgt := 48) (by decide) ?_
      refine r_istore_n dX8_goesWeek_48 rfl (lt_b rfl) (lt_b rfl) ?_
      refine r_iconst dX8_goesWeek_49 ci_0 ?_
      refine r_istore_n dX8_goesWeek_50 rfl (lt_b rfl) (lt_b rfl) ?_
      exact r_mask [true, true, true] (s_X8_goesWeek_L51 g 1000 s0 q28 0)
    · refine r_iconst dX8_goesWeek_47 ci_0 ?_
      refine r_istore_n dX8_goesWeek_48 rfl (lt_b rfl) (lt_b rfl) ?_
      refine r_iconst dX8_goesWeek_49 ci_0 ?_
      refine r_istore_n dX8_goesWeek_50 rfl (lt_b rfl) (lt_b rfl) ?_
      exact r_mask [true, true, true] (s_X8_goesWeek_L51 g 1000 s0 0 0)
  · refine r_aload_n dX8_goesWeek_10 rfl ?_
    refine gf_X8_85 rfl dX8_goesWeek_11 ?_
    refine r_iload_n dX8_goesWeek_14 rfl ?_
    refine r_aload_n dX8_goesWeek_15 rfl ?_
    refine r_iload_n dX8_goesWeek_16 rfl ?_
    refine r_aload_n dX8_goesWeek_17 rfl ?_
    refine gf_X8_113 rfl dX8_goesWeek_18 ?_
    refine u_X8_meltsIn (ok_X8_meltsIn g s0 x1 (s0.1 8 6 0)) dX8_goesWeek_21 ml_X8_116 (Nat.le_of_ble_eq_true rfl) (fits_m (by decide) (by decide)) room_m (fun q29 => ?_)
    refine as_8_39 dX8_goesWeek_24 (fun hg30 hj31 s32 => ?_)
    refine r_iincN dX8_goesWeek_25 rfl ci_1 rfl (lt_b rfl) (fun v33 => ?_)
    refine r_goto dX8_goesWeek_28 (tgt := 2) (by decide) ?_
    exact r_mask [true, true, false] (hk2 s32 v33)
theorem s_X8_goesWeek_L2 (g : Gm) : ∀ (n : Nat) (s0 : Sto) (x1 : Int32), Rf cvV (Em g 4) kX8_goesWeek 2 [some (.ref ((Em g 4).1.1 8 0 0)), some (.int x1), none] [] s0 (f_X8_goesWeek_L2 n s0 x1)
  | 0, _, _ => r_none
  | n + 1, s0, x1 => s_X8_goesWeek_B2 g (f_X8_goesWeek_L2 n) (s_X8_goesWeek_L2 g n) s0 x1
set_option maxRecDepth 100000 in
theorem s_X8_goesWeek (g : Gm) (s0 : Sto) : Rf cvV (Em g 4) kX8_goesWeek 0 [some (.ref ((Em g 4).1.1 8 0 0)), none, none] [] s0 (f_X8_goesWeek s0) := by
  unfold f_X8_goesWeek
  refine r_iconst dX8_goesWeek_0 ci_0 ?_
  refine r_istore_n dX8_goesWeek_1 rfl (lt_b rfl) (lt_b rfl) ?_
  exact r_mask [true, true, false] (s_X8_goesWeek_L2 g 1000 s0 0)
theorem ok_X8_goesWeek (g : Gm) (s0 : Sto) : Ok g yX8_goesWeek kX8_goesWeek 4 [.ref ((Em g 4).1.1 8 0 0)] s0 cvV (f_X8_goesWeek s0) := Ok.of (by decide) rfl (Nat.le_of_ble_eq_true rfl) (lv := [some (.ref ((Em g 4).1.1 8 0 0)), none, none]) rfl (s_X8_goesWeek g s0)
theorem u_X8_goesWeek {α : Type} {cv : α → Res} {E : EE} {K : KK} {pc npc idx d : Nat} {lv : List (Option Value)} {st : List Value} {σ : Sto} {oc : Option (Sto)} {kf : Sto → Option α} (hOk : Ok E.1 yX8_goesWeek kX8_goesWeek d [.ref (E.1.1 8 0 0)] σ cvV oc) (hd : Dc K pc (.invokevirtual idx) 3 npc) (hlk : Cond.methodLink K.2.1 idx yX8_goesWeek ∈ lw_good) (hw : (st.map fun v => v.category).sum ≤ 8) (hfit : fits_ E d 3) (hrm : room_ok E) (kk : ∀ τ : Sto, Rf cv E K npc lv st τ (kf τ)) : Rf cv E K pc lv (.ref (E.1.1 8 0 0) :: st) σ (oc.bind kf) := c_V (n := 0) (as := []) (c0 := 8) (i := 0) (CC := "ThawGivesModel") (T := TX8) (N := 43) hd hOk hlk wi_X8_goesWeek wv_X8_goesWeek wn_X8 wc_X8_goesWeek rfl (by decide) (by decide) ⟨by decide, by decide, by decide⟩ rfl rfl hw hfit hrm (fun b _ => kk b)
def f_X8_again_37_B174 (k174 : Sto → Int32 → Option (Sto)) (s0 : Sto) (x2 : Int32) : Option (Sto) :=
  (if (8 : Int32) ≤ x2 then
    (if 0 ≤ (99 : Int32) ∧ (99 : Int32) < 105 then nm (sF s0 8 0 0 (s0.2.1 8 36 0 (Int32.toNatClampNeg 99))) fun s8 => (if 0 ≤ (100 : Int32) ∧ (100 : Int32) < 105 then nm (sF s8 8 6 0 (s8.2.1 8 36 0 (Int32.toNatClampNeg 100))) fun s11 => (if 0 ≤ (101 : Int32) ∧ (101 : Int32) < 105 then nm (sF s11 8 23 0 (s11.2.1 8 36 0 (Int32.toNatClampNeg 101))) fun s14 => (if 0 ≤ (102 : Int32) ∧ (102 : Int32) < 105 then nm (sF s14 8 27 0 (s14.2.1 8 36 0 (Int32.toNatClampNeg 102))) fun s17 => (if 0 ≤ (103 : Int32) ∧ (103 : Int32) < 105 then nm (sF s17 8 30 0 (s17.2.1 8 36 0 (Int32.toNatClampNeg 103))) fun s20 => (if 0 ≤ (104 : Int32) ∧ (104 : Int32) < 105 then nm (sF s20 8 14 0 (s20.2.1 8 36 0 (Int32.toNatClampNeg 104))) fun s23 => some s23 else none) else none) else none) else none) else none) else none)
  else
    (if 0 ≤ (83 + x2) ∧ (83 + x2) < 105 then (if 0 ≤ x2 ∧ x2 < 8 then nm (sA s0 8 31 0 (upd (s0.2.1 8 31 0) (Int32.toNatClampNeg x2) (s0.2.1 8 36 0 (Int32.toNatClampNeg (83 + x2))))) fun s28 => (if 0 ≤ (91 + x2) ∧ (91 + x2) < 105 then (if 0 ≤ x2 ∧ x2 < 8 then nm (sA s28 8 32 0 (upd (s28.2.1 8 32 0) (Int32.toNatClampNeg x2) (s28.2.1 8 36 0 (Int32.toNatClampNeg (91 + x2))))) fun s33 => nmI (x2 + 1) fun v34 => k174 s33 v34 else none) else none) else none) else none))
def f_X8_again_37_L174 : Nat → Sto → Int32 → Option (Sto)
  | 0 => fun _ _ => none
  | n + 1 => f_X8_again_37_B174 (f_X8_again_37_L174 n)
def f_X8_again_37_B136 (k136 : Sto → Int32 → Option (Sto)) (s0 : Sto) (x2 : Int32) : Option (Sto) :=
  (if (10 : Int32) ≤ x2 then
    f_X8_again_37_L174 1000 s0 0
  else
    (if 0 ≤ (63 + x2) ∧ (63 + x2) < 105 then (if 0 ≤ x2 ∧ x2 < 10 then nm (sA s0 8 28 0 (upd (s0.2.1 8 28 0) (Int32.toNatClampNeg x2) (s0.2.1 8 36 0 (Int32.toNatClampNeg (63 + x2))))) fun s39 => (if 0 ≤ (73 + x2) ∧ (73 + x2) < 105 then (if 0 ≤ x2 ∧ x2 < 10 then nm (sA s39 8 29 0 (upd (s39.2.1 8 29 0) (Int32.toNatClampNeg x2) (s39.2.1 8 36 0 (Int32.toNatClampNeg (73 + x2))))) fun s44 => nmI (x2 + 1) fun v45 => k136 s44 v45 else none) else none) else none) else none))
def f_X8_again_37_L136 : Nat → Sto → Int32 → Option (Sto)
  | 0 => fun _ _ => none
  | n + 1 => f_X8_again_37_B136 (f_X8_again_37_L136 n)
def f_X8_again_37_B87 (k87 : Sto → Int32 → Option (Sto)) (s0 : Sto) (x2 : Int32) : Option (Sto) :=
  (if (5 : Int32) ≤ x2 then
    f_X8_again_37_L136 1000 s0 0
  else
    (if 0 ≤ (48 + x2) ∧ (48 + x2) < 105 then (if 0 ≤ x2 ∧ x2 < 5 then nm (sA s0 8 24 0 (upd (s0.2.1 8 24 0) (Int32.toNatClampNeg x2) (s0.2.1 8 36 0 (Int32.toNatClampNeg (48 + x2))))) fun s50 => (if 0 ≤ (53 + x2) ∧ (53 + x2) < 105 then (if 0 ≤ x2 ∧ x2 < 5 then nm (sA s50 8 25 0 (upd (s50.2.1 8 25 0) (Int32.toNatClampNeg x2) (s50.2.1 8 36 0 (Int32.toNatClampNeg (53 + x2))))) fun s55 => (if 0 ≤ (58 + x2) ∧ (58 + x2) < 105 then (if 0 ≤ x2 ∧ x2 < 5 then nm (sA s55 8 26 0 (upd (s55.2.1 8 26 0) (Int32.toNatClampNeg x2) (s55.2.1 8 36 0 (Int32.toNatClampNeg (58 + x2))))) fun s60 => nmI (x2 + 1) fun v61 => k87 s60 v61 else none) else none) else none) else none) else none) else none))
def f_X8_again_37_L87 : Nat → Sto → Int32 → Option (Sto)
  | 0 => fun _ _ => none
  | n + 1 => f_X8_again_37_B87 (f_X8_again_37_L87 n)
def f_X8_again_37_B61 (k61 : Sto → Int32 → Option (Sto)) (s0 : Sto) (x2 : Int32) : Option (Sto) :=
  (if (24 : Int32) ≤ x2 then
    f_X8_again_37_L87 1000 s0 0
  else
    (if 0 ≤ (24 + x2) ∧ (24 + x2) < 105 then (if 0 ≤ x2 ∧ x2 < 24 then nm (sA s0 8 5 0 (upd (s0.2.1 8 5 0) (Int32.toNatClampNeg x2) (s0.2.1 8 36 0 (Int32.toNatClampNeg (24 + x2))))) fun s66 => nmI (x2 + 1) fun v67 => k61 s66 v67 else none) else none))
def f_X8_again_37_L61 : Nat → Sto → Int32 → Option (Sto)
  | 0 => fun _ _ => none
  | n + 1 => f_X8_again_37_B61 (f_X8_again_37_L61 n)
def f_X8_again_37_B2 (k2 : Sto → Int32 → Option (Sto)) (s0 : Sto) (x2 : Int32) : Option (Sto) :=
  (if (6 : Int32) ≤ x2 then
    f_X8_again_37_L61 1000 s0 0
  else
    (if 0 ≤ x2 ∧ x2 < 105 then (if 0 ≤ x2 ∧ x2 < 6 then nm (sA s0 8 1 0 (upd (s0.2.1 8 1 0) (Int32.toNatClampNeg x2) (s0.2.1 8 36 0 (Int32.toNatClampNeg x2)))) fun s72 => (if 0 ≤ (6 + x2) ∧ (6 + x2) < 105 then (if 0 ≤ x2 ∧ x2 < 6 then nm (sA s72 8 2 0 (upd (s72.2.1 8 2 0) (Int32.toNatClampNeg x2) (s72.2.1 8 36 0 (Int32.toNatClampNeg (6 + x2))))) fun s77 => (if 0 ≤ (12 + x2) ∧ (12 + x2) < 105 then (if 0 ≤ x2 ∧ x2 < 6 then nm (sA s77 8 3 0 (upd (s77.2.1 8 3 0) (Int32.toNatClampNeg x2) (s77.2.1 8 36 0 (Int32.toNatClampNeg (12 + x2))))) fun s82 => (if 0 ≤ (18 + x2) ∧ (18 + x2) < 105 then (if 0 ≤ x2 ∧ x2 < 6 then nm (sA s82 8 4 0 (upd (s82.2.1 8 4 0) (Int32.toNatClampNeg x2) (s82.2.1 8 36 0 (Int32.toNatClampNeg (18 + x2))))) fun s87 => nmI (x2 + 1) fun v88 => k2 s87 v88 else none) else none) else none) else none) else none) else none) else none) else none))
def f_X8_again_37_L2 : Nat → Sto → Int32 → Option (Sto)
  | 0 => fun _ _ => none
  | n + 1 => f_X8_again_37_B2 (f_X8_again_37_L2 n)
def f_X8_again_37 (s0 : Sto) : Option (Sto) :=
  f_X8_again_37_L2 1000 s0 0
set_option maxRecDepth 100000 in
theorem s_X8_again_37_B174 (g : Gm) (k174 : Sto → Int32 → Option (Sto)) (hk174 : ∀ (s0 : Sto) (x2 : Int32), Rf cvV (Em g 0) kX8_again 174 [some (.ref ((Em g 0).1.1 8 0 0)), some (.ref ((Em g 0).1.1 8 37 0)), some (.int x2)] [] s0 (k174 s0 x2)) (s0 : Sto) (x2 : Int32) : Rf cvV (Em g 0) kX8_again 174 [some (.ref ((Em g 0).1.1 8 0 0)), some (.ref ((Em g 0).1.1 8 37 0)), some (.int x2)] [] s0 (f_X8_again_37_B174 k174 s0 x2) := by
  unfold f_X8_again_37_B174
  refine r_iload_n dX8_again_174 rfl ?_
  refine r_bipush dX8_again_175 cb_8 ?_
  refine r_icge dX8_again_177 (tgt := 210) (by decide) (fun c5 => ?_) (fun c5 => ?_)
  · refine r_aload_n dX8_again_210 rfl ?_
    refine r_aload_n dX8_again_211 rfl ?_
    refine r_bipush dX8_again_212 cb_99 ?_
    refine al_8_36 dX8_again_214 (fun hg6 hj7 => ?_)
    refine pf_X8_102 rfl dX8_again_215 (fun s8 => ?_)
    refine r_aload_n dX8_again_218 rfl ?_
    refine r_aload_n dX8_again_219 rfl ?_
    refine r_bipush dX8_again_220 cb_100 ?_
    refine al_8_36 dX8_again_222 (fun hg9 hj10 => ?_)
    refine pf_X8_113 rfl dX8_again_223 (fun s11 => ?_)
    refine r_aload_n dX8_again_226 rfl ?_
    refine r_aload_n dX8_again_227 rfl ?_
    refine r_bipush dX8_again_228 cb_101 ?_
    refine al_8_36 dX8_again_230 (fun hg12 hj13 => ?_)
    refine pf_X8_255 rfl dX8_again_231 (fun s14 => ?_)
    refine r_aload_n dX8_again_234 rfl ?_
    refine r_aload_n dX8_again_235 rfl ?_
    refine r_bipush dX8_again_236 cb_102 ?_
    refine al_8_36 dX8_again_238 (fun hg15 hj16 => ?_)
    refine pf_X8_270 rfl dX8_again_239 (fun s17 => ?_)
    refine r_aload_n dX8_again_242 rfl ?_
    refine r_aload_n dX8_again_243 rfl ?_
    refine r_bipush dX8_again_244 cb_103 ?_
    refine al_8_36 dX8_again_246 (fun hg18 hj19 => ?_)
    refine pf_X8_273 rfl dX8_again_247 (fun s20 => ?_)
    refine r_aload_n dX8_again_250 rfl ?_
    refine r_aload_n dX8_again_251 rfl ?_
    refine r_bipush dX8_again_252 cb_104 ?_
    refine al_8_36 dX8_again_254 (fun hg21 hj22 => ?_)
    refine pf_X8_98 rfl dX8_again_255 (fun s23 => ?_)
    exact r_vret dX8_again_258 rfl rfl
  · refine r_aload_n dX8_again_180 rfl ?_
    refine gf_X8_67 rfl dX8_again_181 ?_
    refine r_iload_n dX8_again_184 rfl ?_
    refine r_aload_n dX8_again_185 rfl ?_
    refine r_bipush dX8_again_186 cb_83 ?_
    refine r_iload_n dX8_again_188 rfl ?_
    refine r_iadd dX8_again_189 ?_
    refine al_8_36 dX8_again_190 (fun hg24 hj25 => ?_)
    refine as_8_31 dX8_again_191 (fun hg26 hj27 s28 => ?_)
    refine r_aload_n dX8_again_192 rfl ?_
    refine gf_X8_70 rfl dX8_again_193 ?_
    refine r_iload_n dX8_again_196 rfl ?_
    refine r_aload_n dX8_again_197 rfl ?_
    refine r_bipush dX8_again_198 cb_91 ?_
    refine r_iload_n dX8_again_200 rfl ?_
    refine r_iadd dX8_again_201 ?_
    refine al_8_36 dX8_again_202 (fun hg29 hj30 => ?_)
    refine as_8_32 dX8_again_203 (fun hg31 hj32 s33 => ?_)
    refine r_iincN dX8_again_204 rfl ci_1 rfl (lt_b rfl) (fun v34 => ?_)
    refine r_goto dX8_again_207 (tgt := 174) (by decide) ?_
    exact r_mask [true, true, true] (hk174 s33 v34)
theorem s_X8_again_37_L174 (g : Gm) : ∀ (n : Nat) (s0 : Sto) (x2 : Int32), Rf cvV (Em g 0) kX8_again 174 [some (.ref ((Em g 0).1.1 8 0 0)), some (.ref ((Em g 0).1.1 8 37 0)), some (.int x2)] [] s0 (f_X8_again_37_L174 n s0 x2)
  | 0, _, _ => r_none
  | n + 1, s0, x2 => s_X8_again_37_B174 g (f_X8_again_37_L174 n) (s_X8_again_37_L174 g n) s0 x2
set_option maxRecDepth 100000 in
theorem s_X8_again_37_B136 (g : Gm) (k136 : Sto → Int32 → Option (Sto)) (hk136 : ∀ (s0 : Sto) (x2 : Int32), Rf cvV (Em g 0) kX8_again 136 [some (.ref ((Em g 0).1.1 8 0 0)), some (.ref ((Em g 0).1.1 8 37 0)), some (.int x2)] [] s0 (k136 s0 x2)) (s0 : Sto) (x2 : Int32) : Rf cvV (Em g 0) kX8_again 136 [some (.ref ((Em g 0).1.1 8 0 0)), some (.ref ((Em g 0).1.1 8 37 0)), some (.int x2)] [] s0 (f_X8_again_37_B136 k136 s0 x2) := by
  unfold f_X8_again_37_B136
  refine r_iload_n dX8_again_136 rfl ?_
  refine r_bipush dX8_again_137 cb_10 ?_
  refine r_icge dX8_again_139 (tgt := 172) (by decide) (fun c4 => ?_) (fun c4 => ?_)
  · refine r_iconst dX8_again_172 ci_0 ?_
    refine r_istore_n dX8_again_173 rfl (lt_b rfl) (lt_b rfl) ?_
    exact r_mask [true, true, true] (s_X8_again_37_L174 g 1000 s0 0)
  · refine r_aload_n dX8_again_142 rfl ?_
    refine gf_X8_61 rfl dX8_again_143 ?_
    refine r_iload_n dX8_again_146 rfl ?_
    refine r_aload_n dX8_again_147 rfl ?_
    refine r_bipush dX8_again_148 cb_63 ?_
    refine r_iload_n dX8_again_150 rfl ?_
    refine r_iadd dX8_again_151 ?_
    refine al_8_36 dX8_again_152 (fun hg35 hj36 => ?_)
    refine as_8_28 dX8_again_153 (fun hg37 hj38 s39 => ?_)
    refine r_aload_n dX8_again_154 rfl ?_
    refine gf_X8_64 rfl dX8_again_155 ?_
    refine r_iload_n dX8_again_158 rfl ?_
    refine r_aload_n dX8_again_159 rfl ?_
    refine r_bipush dX8_again_160 cb_73 ?_
    refine r_iload_n dX8_again_162 rfl ?_
    refine r_iadd dX8_again_163 ?_
    refine al_8_36 dX8_again_164 (fun hg40 hj41 => ?_)
    refine as_8_29 dX8_again_165 (fun hg42 hj43 s44 => ?_)
    refine r_iincN dX8_again_166 rfl ci_1 rfl (lt_b rfl) (fun v45 => ?_)
    refine r_goto dX8_again_169 (tgt := 136) (by decide) ?_
    exact r_mask [true, true, true] (hk136 s44 v45)
theorem s_X8_again_37_L136 (g : Gm) : ∀ (n : Nat) (s0 : Sto) (x2 : Int32), Rf cvV (Em g 0) kX8_again 136 [some (.ref ((Em g 0).1.1 8 0 0)), some (.ref ((Em g 0).1.1 8 37 0)), some (.int x2)] [] s0 (f_X8_again_37_L136 n s0 x2)
  | 0, _, _ => r_none
  | n + 1, s0, x2 => s_X8_again_37_B136 g (f_X8_again_37_L136 n) (s_X8_again_37_L136 g n) s0 x2
set_option maxRecDepth 100000 in
theorem s_X8_again_37_B87 (g : Gm) (k87 : Sto → Int32 → Option (Sto)) (hk87 : ∀ (s0 : Sto) (x2 : Int32), Rf cvV (Em g 0) kX8_again 87 [some (.ref ((Em g 0).1.1 8 0 0)), some (.ref ((Em g 0).1.1 8 37 0)), some (.int x2)] [] s0 (k87 s0 x2)) (s0 : Sto) (x2 : Int32) : Rf cvV (Em g 0) kX8_again 87 [some (.ref ((Em g 0).1.1 8 0 0)), some (.ref ((Em g 0).1.1 8 37 0)), some (.int x2)] [] s0 (f_X8_again_37_B87 k87 s0 x2) := by
  unfold f_X8_again_37_B87
  refine r_iload_n dX8_again_87 rfl ?_
  refine r_iconst dX8_again_88 ci_5 ?_
  refine r_icge dX8_again_89 (tgt := 134) (by decide) (fun c3 => ?_) (fun c3 => ?_)
  · refine r_iconst dX8_again_134 ci_0 ?_
    refine r_istore_n dX8_again_135 rfl (lt_b rfl) (lt_b rfl) ?_
    exact r_mask [true, true, true] (s_X8_again_37_L136 g 1000 s0 0)
  · refine r_aload_n dX8_again_92 rfl ?_
    refine gf_X8_52 rfl dX8_again_93 ?_
    refine r_iload_n dX8_again_96 rfl ?_
    refine r_aload_n dX8_again_97 rfl ?_
    refine r_bipush dX8_again_98 cb_48 ?_
    refine r_iload_n dX8_again_100 rfl ?_
    refine r_iadd dX8_again_101 ?_
    refine al_8_36 dX8_again_102 (fun hg46 hj47 => ?_)
    refine as_8_24 dX8_again_103 (fun hg48 hj49 s50 => ?_)
    refine r_aload_n dX8_again_104 rfl ?_
    refine gf_X8_55 rfl dX8_again_105 ?_
    refine r_iload_n dX8_again_108 rfl ?_
    refine r_aload_n dX8_again_109 rfl ?_
    refine r_bipush dX8_again_110 cb_53 ?_
    refine r_iload_n dX8_again_112 rfl ?_
    refine r_iadd dX8_again_113 ?_
    refine al_8_36 dX8_again_114 (fun hg51 hj52 => ?_)
    refine as_8_25 dX8_again_115 (fun hg53 hj54 s55 => ?_)
    refine r_aload_n dX8_again_116 rfl ?_
    refine gf_X8_58 rfl dX8_again_117 ?_
    refine r_iload_n dX8_again_120 rfl ?_
    refine r_aload_n dX8_again_121 rfl ?_
    refine r_bipush dX8_again_122 cb_58 ?_
    refine r_iload_n dX8_again_124 rfl ?_
    refine r_iadd dX8_again_125 ?_
    refine al_8_36 dX8_again_126 (fun hg56 hj57 => ?_)
    refine as_8_26 dX8_again_127 (fun hg58 hj59 s60 => ?_)
    refine r_iincN dX8_again_128 rfl ci_1 rfl (lt_b rfl) (fun v61 => ?_)
    refine r_goto dX8_again_131 (tgt := 87) (by decide) ?_
    exact r_mask [true, true, true] (hk87 s60 v61)
theorem s_X8_again_37_L87 (g : Gm) : ∀ (n : Nat) (s0 : Sto) (x2 : Int32), Rf cvV (Em g 0) kX8_again 87 [some (.ref ((Em g 0).1.1 8 0 0)), some (.ref ((Em g 0).1.1 8 37 0)), some (.int x2)] [] s0 (f_X8_again_37_L87 n s0 x2)
  | 0, _, _ => r_none
  | n + 1, s0, x2 => s_X8_again_37_B87 g (f_X8_again_37_L87 n) (s_X8_again_37_L87 g n) s0 x2
set_option maxRecDepth 100000 in
theorem s_X8_again_37_B61 (g : Gm) (k61 : Sto → Int32 → Option (Sto)) (hk61 : ∀ (s0 : Sto) (x2 : Int32), Rf cvV (Em g 0) kX8_again 61 [some (.ref ((Em g 0).1.1 8 0 0)), some (.ref ((Em g 0).1.1 8 37 0)), some (.int x2)] [] s0 (k61 s0 x2)) (s0 : Sto) (x2 : Int32) : Rf cvV (Em g 0) kX8_again 61 [some (.ref ((Em g 0).1.1 8 0 0)), some (.ref ((Em g 0).1.1 8 37 0)), some (.int x2)] [] s0 (f_X8_again_37_B61 k61 s0 x2) := by
  unfold f_X8_again_37_B61
  refine r_iload_n dX8_again_61 rfl ?_
  refine r_bipush dX8_again_62 cb_24 ?_
  refine r_icge dX8_again_64 (tgt := 85) (by decide) (fun c2 => ?_) (fun c2 => ?_)
  · refine r_iconst dX8_again_85 ci_0 ?_
    refine r_istore_n dX8_again_86 rfl (lt_b rfl) (lt_b rfl) ?_
    exact r_mask [true, true, true] (s_X8_again_37_L87 g 1000 s0 0)
  · refine r_aload_n dX8_again_67 rfl ?_
    refine gf_X8_24 rfl dX8_again_68 ?_
    refine r_iload_n dX8_again_71 rfl ?_
    refine r_aload_n dX8_again_72 rfl ?_
    refine r_bipush dX8_again_73 cb_24 ?_
    refine r_iload_n dX8_again_75 rfl ?_
    refine r_iadd dX8_again_76 ?_
    refine al_8_36 dX8_again_77 (fun hg62 hj63 => ?_)
    refine as_8_5 dX8_again_78 (fun hg64 hj65 s66 => ?_)
    refine r_iincN dX8_again_79 rfl ci_1 rfl (lt_b rfl) (fun v67 => ?_)
    refine r_goto dX8_again_82 (tgt := 61) (by decide) ?_
    exact r_mask [true, true, true] (hk61 s66 v67)
theorem s_X8_again_37_L61 (g : Gm) : ∀ (n : Nat) (s0 : Sto) (x2 : Int32), Rf cvV (Em g 0) kX8_again 61 [some (.ref ((Em g 0).1.1 8 0 0)), some (.ref ((Em g 0).1.1 8 37 0)), some (.int x2)] [] s0 (f_X8_again_37_L61 n s0 x2)
  | 0, _, _ => r_none
  | n + 1, s0, x2 => s_X8_again_37_B61 g (f_X8_again_37_L61 n) (s_X8_again_37_L61 g n) s0 x2
set_option maxRecDepth 100000 in
theorem s_X8_again_37_B2 (g : Gm) (k2 : Sto → Int32 → Option (Sto)) (hk2 : ∀ (s0 : Sto) (x2 : Int32), Rf cvV (Em g 0) kX8_again 2 [some (.ref ((Em g 0).1.1 8 0 0)), some (.ref ((Em g 0).1.1 8 37 0)), some (.int x2)] [] s0 (k2 s0 x2)) (s0 : Sto) (x2 : Int32) : Rf cvV (Em g 0) kX8_again 2 [some (.ref ((Em g 0).1.1 8 0 0)), some (.ref ((Em g 0).1.1 8 37 0)), some (.int x2)] [] s0 (f_X8_again_37_B2 k2 s0 x2) := by
  unfold f_X8_again_37_B2
  refine r_iload_n dX8_again_2 rfl ?_
  refine r_bipush dX8_again_3 cb_6 ?_
  refine r_icge dX8_again_5 (tgt := 59) (by decide) (fun c1 => ?_) (fun c1 => ?_)
  · refine r_iconst dX8_again_59 ci_0 ?_
    refine r_istore_n dX8_again_60 rfl (lt_b rfl) (lt_b rfl) ?_
    exact r_mask [true, true, true] (s_X8_again_37_L61 g 1000 s0 0)
  · refine r_aload_n dX8_again_8 rfl ?_
    refine gf_X8_9 rfl dX8_again_9 ?_
    refine r_iload_n dX8_again_12 rfl ?_
    refine r_aload_n dX8_again_13 rfl ?_
    refine r_iload_n dX8_again_14 rfl ?_
    refine al_8_36 dX8_again_15 (fun hg68 hj69 => ?_)
    refine as_8_1 dX8_again_16 (fun hg70 hj71 s72 => ?_)
    refine r_aload_n dX8_again_17 rfl ?_
    refine gf_X8_15 rfl dX8_again_18 ?_
    refine r_iload_n dX8_again_21 rfl ?_
    refine r_aload_n dX8_again_22 rfl ?_
    refine r_bipush dX8_again_23 cb_6 ?_
    refine r_iload_n dX8_again_25 rfl ?_
    refine r_iadd dX8_again_26 ?_
    refine al_8_36 dX8_again_27 (fun hg73 hj74 => ?_)
    refine as_8_2 dX8_again_28 (fun hg75 hj76 s77 => ?_)
    refine r_aload_n dX8_again_29 rfl ?_
    refine gf_X8_18 rfl dX8_again_30 ?_
    refine r_iload_n dX8_again_33 rfl ?_
    refine r_aload_n dX8_again_34 rfl ?_
    refine r_bipush dX8_again_35 cb_12 ?_
    refine r_iload_n dX8_again_37 rfl ?_
    refine r_iadd dX8_again_38 ?_
    refine al_8_36 dX8_again_39 (fun hg78 hj79 => ?_)
    refine as_8_3 dX8_again_40 (fun hg80 hj81 s82 => ?_)
    refine r_aload_n dX8_again_41 rfl ?_
    refine gf_X8_21 rfl dX8_again_42 ?_
    refine r_iload_n dX8_again_45 rfl ?_
    refine r_aload_n dX8_again_46 rfl ?_
    refine r_bipush dX8_again_47 cb_18 ?_
    refine r_iload_n dX8_again_49 rfl ?_
    refine r_iadd dX8_again_50 ?_
    refine al_8_36 dX8_again_51 (fun hg83 hj84 => ?_)
    refine as_8_4 dX8_again_52 (fun hg85 hj86 s87 => ?_)
    refine r_iincN dX8_again_53 rfl ci_1 rfl (lt_b rfl) (fun v88 => ?_)
    refine r_goto dX8_again_56 (tgt := 2) (by decide) ?_
    exact r_mask [true, true, true] (hk2 s87 v88)
theorem s_X8_again_37_L2 (g : Gm) : ∀ (n : Nat) (s0 : Sto) (x2 : Int32), Rf cvV (Em g 0) kX8_again 2 [some (.ref ((Em g 0).1.1 8 0 0)), some (.ref ((Em g 0).1.1 8 37 0)), some (.int x2)] [] s0 (f_X8_again_37_L2 n s0 x2)
  | 0, _, _ => r_none
  | n + 1, s0, x2 => s_X8_again_37_B2 g (f_X8_again_37_L2 n) (s_X8_again_37_L2 g n) s0 x2
set_option maxRecDepth 100000 in
theorem s_X8_again_37 (g : Gm) (s0 : Sto) : Rf cvV (Em g 0) kX8_again 0 [some (.ref ((Em g 0).1.1 8 0 0)), some (.ref ((Em g 0).1.1 8 37 0)), none] [] s0 (f_X8_again_37 s0) := by
  unfold f_X8_again_37
  refine r_iconst dX8_again_0 ci_0 ?_
  refine r_istore_n dX8_again_1 rfl (lt_b rfl) (lt_b rfl) ?_
  exact r_mask [true, true, true] (s_X8_again_37_L2 g 1000 s0 0)
theorem ok_X8_again_37 (g : Gm) (s0 : Sto) : Ok g yX8_again kX8_again 0 [.ref ((Em g 0).1.1 8 0 0), .ref ((Em g 0).1.1 8 37 0)] s0 cvV (f_X8_again_37 s0) := Ok.of (by decide) rfl (Nat.le_of_ble_eq_true rfl) (lv := [some (.ref ((Em g 0).1.1 8 0 0)), some (.ref ((Em g 0).1.1 8 37 0)), none]) rfl (s_X8_again_37 g s0)
theorem u_X8_again_37 {α : Type} {cv : α → Res} {E : EE} {K : KK} {pc npc idx d : Nat} {lv : List (Option Value)} {st : List Value} {σ : Sto} {oc : Option (Sto)} {kf : Sto → Option α} (hOk : Ok E.1 yX8_again kX8_again d [.ref (E.1.1 8 0 0), .ref (E.1.1 8 37 0)] σ cvV oc) (hd : Dc K pc (.invokevirtual idx) 3 npc) (hlk : Cond.methodLink K.2.1 idx yX8_again ∈ lw_good) (hw : (st.map fun v => v.category).sum ≤ 8) (hfit : fits_ E d 3) (hrm : room_ok E) (kk : ∀ τ : Sto, Rf cv E K npc lv st τ (kf τ)) : Rf cv E K pc lv (.ref (E.1.1 8 37 0) :: .ref (E.1.1 8 0 0) :: st) σ (oc.bind kf) := c_V (n := 1) (as := [.ref (E.1.1 8 37 0)]) (c0 := 8) (i := 0) (CC := "ThawGivesModel") (T := TX8) (N := 43) hd hOk hlk wi_X8_again wv_X8_again wn_X8 wc_X8_again rfl (by decide) (by decide) ⟨by decide, by decide, by decide⟩ rfl rfl hw hfit hrm (fun b _ => kk b)
