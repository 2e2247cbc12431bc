def f_X7_looked_B10 (s0 : Sto) (k10 : Nat → Int32 → Option (Int32)) (i1 : Nat) (x2 : Int32) : Option (Int32) :=
  (if (s0.1 2 4 i1) ≤ x2 then
    some (-5 : Int32)
  else
    (if 0 ≤ x2 ∧ x2 < 10 then nmI ((s0.2.1 2 1 i1 (Int32.toNatClampNeg x2))) fun v4 => (f_X7_isThing s0 v4).bind fun q5 => (if q5 = 0 then
      nmI (x2 + 1) fun v7 => k10 i1 v7
    else
      (if 0 ≤ v4 ∧ v4 < 6 then (if 0 ≤ x2 ∧ x2 < 10 then (if (s0.1 5 4 (6 * 0 + Int32.toNatClampNeg v4)) = (s0.2.1 2 2 i1 (Int32.toNatClampNeg x2)) then
        nmI (x2 + 1) fun v13 => k10 i1 v13
      else
        some x2) else none) else none)) else none))
def f_X7_looked_L10 (s0 : Sto) : Nat → Nat → Int32 → Option (Int32)
  | 0 => fun _ _ => none
  | n + 1 => f_X7_looked_B10 s0 (f_X7_looked_L10 s0 n)
def f_X7_looked (s0 : Sto) : Option (Int32) :=
  f_X7_looked_L10 s0 1000 (3 * 0 + 2) 0
set_option maxRecDepth 100000 in
theorem s_X7_looked_B10 (g : Gm) (s0 : Sto) (k10 : Nat → Int32 → Option (Int32)) (hk10 : ∀ (i1 : Nat) (x2 : Int32) (hi1 : i1 < 6), Rf (cvI s0) (Em g 1) kX7_looked 10 [some (.ref ((Em g 1).1.1 7 0 0)), some (.ref ((Em g 1).1.1 2 0 i1)), some (.int x2), none] [] s0 (k10 i1 x2)) (i1 : Nat) (x2 : Int32) (hi1 : i1 < 6) : Rf (cvI s0) (Em g 1) kX7_looked 10 [some (.ref ((Em g 1).1.1 7 0 0)), some (.ref ((Em g 1).1.1 2 0 i1)), some (.int x2), none] [] s0 (f_X7_looked_B10 s0 k10 i1 x2) := by
  unfold f_X7_looked_B10
  refine r_iload_n dX7_looked_10 rfl ?_
  refine r_aload_n dX7_looked_11 rfl ?_
  refine gf_X7_183 rfl dX7_looked_12 hi1 ?_
  refine r_icge dX7_looked_15 (tgt := 62) (by decide) (fun c1 => ?_) (fun c1 => ?_)
  · refine r_bipush dX7_looked_62 cb_m5 ?_
    exact r_iret dX7_looked_64 rfl rfl
  · refine r_aload_n dX7_looked_18 rfl ?_
    refine gf_X7_209 rfl dX7_looked_19 hi1 ?_
    refine r_iload_n dX7_looked_22 rfl ?_
    refine al_2_1 dX7_looked_23 hi1 (fun hg2 hj3 => ?_)
    refine r_istore_nN dX7_looked_24 rfl (lt_b rfl) (lt_b rfl) (fun v4 => ?_)
    refine r_aload_n dX7_looked_25 rfl ?_
    refine r_iload_n dX7_looked_26 rfl ?_
    refine u_X7_isThing (ok_X7_isThing g s0 v4) dX7_looked_27 ml_X7_89 (Nat.le_of_ble_eq_true rfl) (fits_m (by decide) (by decide)) room_m (fun q5 => ?_)
    refine r_ifeq dX7_looked_30 (tgt := 56) (by decide) (fun c6 => ?_) (fun c6 => ?_)
    · refine r_iincN dX7_looked_56 rfl ci_1 rfl (lt_b rfl) (fun v7 => ?_)
      refine r_goto dX7_looked_59 (tgt := 10) (by decide) ?_
      exact r_mask [true, true, true, false] (hk10 i1 v7 hi1)
    · refine r_aload_n dX7_looked_33 rfl ?_
      refine gf_X7_14 rfl dX7_looked_34 ?_
      refine gf_X7_81 rfl dX7_looked_37 (by decide) ?_
      refine r_iload_n dX7_looked_40 rfl ?_
      refine al_6_0 dX7_looked_41 (by decide) (fun hg8 hj9 => ?_)
      refine gf_X7_102 rfl dX7_looked_42 (by omega) ?_
      refine r_aload_n dX7_looked_45 rfl ?_
      refine gf_X7_212 rfl dX7_looked_46 hi1 ?_
      refine r_iload_n dX7_looked_49 rfl ?_
      refine al_2_2 dX7_looked_50 hi1 (fun hg10 hj11 => ?_)
      refine r_iceq dX7_looked_51 (tgt := 56) (by decide) (fun c12 => ?_) (fun c12 => ?_)
      · refine r_iincN dX7_looked_56 rfl ci_1 rfl (lt_b rfl) (fun v13 => ?_)
        refine r_goto dX7_looked_59 (tgt := 10) (by decide) ?_
        exact r_mask [true, true, true, false] (hk10 i1 v13 hi1)
      · refine r_iload_n dX7_looked_54 rfl ?_
        exact r_iret dX7_looked_55 rfl rfl
theorem s_X7_looked_L10 (g : Gm) (s0 : Sto) : ∀ (n : Nat) (i1 : Nat) (x2 : Int32) (hi1 : i1 < 6), Rf (cvI s0) (Em g 1) kX7_looked 10 [some (.ref ((Em g 1).1.1 7 0 0)), some (.ref ((Em g 1).1.1 2 0 i1)), some (.int x2), none] [] s0 (f_X7_looked_L10 s0 n i1 x2)
  | 0, _, _, _ => r_none
  | n + 1, i1, x2, hi1 => s_X7_looked_B10 g s0 (f_X7_looked_L10 s0 n) (s_X7_looked_L10 g s0 n) i1 x2 hi1
set_option maxRecDepth 100000 in
theorem s_X7_looked (g : Gm) (s0 : Sto) : Rf (cvI s0) (Em g 1) kX7_looked 0 [some (.ref ((Em g 1).1.1 7 0 0)), none, none, none] [] s0 (f_X7_looked s0) := by
  unfold f_X7_looked
  refine r_aload_n dX7_looked_0 rfl ?_
  refine gf_X7_14 rfl dX7_looked_1 ?_
  refine gf_X7_206 rfl dX7_looked_4 (by decide) ?_
  refine r_astore_n dX7_looked_7 rfl (lt_b rfl) (lt_b rfl) ?_
  refine r_iconst dX7_looked_8 ci_0 ?_
  refine r_istore_n dX7_looked_9 rfl (lt_b rfl) (lt_b rfl) ?_
  exact r_mask [true, true, true, false] (s_X7_looked_L10 g s0 1000 (3 * 0 + 2) 0 (by omega))
theorem ok_X7_looked (g : Gm) (s0 : Sto) : Ok g yX7_looked kX7_looked 1 [.ref ((Em g 1).1.1 7 0 0)] s0 (cvI s0) (f_X7_looked s0) := Ok.of (by decide) rfl (Nat.le_of_ble_eq_true rfl) (lv := [some (.ref ((Em g 1).1.1 7 0 0)), none, none, none]) rfl (s_X7_looked g s0)
theorem u_X7_looked {α : Type} {cv : α → Res} {E : EE} {K : KK} {pc npc idx d : Nat} {lv : List (Option Value)} {st : List Value} {σ : Sto} {oc : Option (Int32)} {kf : Int32 → Option α} (hOk : Ok E.1 yX7_looked kX7_looked d [.ref (E.1.1 7 0 0)] σ (cvI σ) oc) (hd : Dc K pc (.invokevirtual idx) 3 npc) (hlk : Cond.methodLink K.2.1 idx yX7_looked ∈ lw_good) (hw : (st.map fun v => v.category).sum ≤ 8) (hfit : fits_ E d 4) (hrm : room_ok E) (kk : ∀ q : Int32, Rf cv E K npc lv (.int q :: st) σ (kf q)) : Rf cv E K pc lv (.ref (E.1.1 7 0 0) :: st) σ (oc.bind kf) := c_V (n := 0) (as := []) (c0 := 7) (i := 0) (CC := "ThawGives") (T := TX7) (N := 11) hd hOk hlk wi_X7_looked wv_X7_looked wn_X7 wc_X7_looked rfl (by decide) (by decide) ⟨by decide, by decide, by decide⟩ rfl rfl hw hfit hrm (fun b _ => kk b)
def f_X7_isTape (x1 : Int32) : Option (Int32) :=
  (f_X7_isUpTo x1 5).bind fun q1 => (if q1 = 0 ∨ q1 = 1 then some q1 else none)
set_option maxRecDepth 100000 in
theorem s_X7_isTape (g : Gm) (sz : Sto) (x1 : Int32) : Rf (cvI sz) (Em g 1) kX7_isTape 0 [some (.ref ((Em g 1).1.1 7 0 0)), some (.int x1)] [] sz (f_X7_isTape x1) := by
  unfold f_X7_isTape
  refine r_iload_n dX7_isTape_0 rfl ?_
  refine r_iconst dX7_isTape_1 ci_5 ?_
  refine u_X7_isUpTo (ok_X7_isUpTo g sz x1 5) dX7_isTape_2 ml_X7_74 (Nat.le_of_ble_eq_true rfl) (fits_m (by decide) (by decide)) room_m (fun q1 => ?_)
  exact r_gd (fun hz => r_zret dX7_isTape_5 rfl (nz01 hz) rfl)
theorem ok_X7_isTape (g : Gm) (sz : Sto) (x1 : Int32) : Ok g yX7_isTape kX7_isTape 1 [.ref ((Em g 1).1.1 7 0 0), .int x1] sz (cvI sz) (f_X7_isTape x1) := Ok.of (by decide) rfl (Nat.le_of_ble_eq_true rfl) (lv := [some (.ref ((Em g 1).1.1 7 0 0)), some (.int x1)]) rfl (s_X7_isTape g sz x1)
theorem u_X7_isTape {α : Type} {cv : α → Res} {E : EE} {K : KK} {pc npc idx d : Nat} {lv : List (Option Value)} {st : List Value} {σ : Sto} {oc : Option (Int32)} {kf : Int32 → Option α} {x1 : Int32} (hOk : Ok E.1 yX7_isTape kX7_isTape d [.ref (E.1.1 7 0 0), .int x1] σ (cvI σ) oc) (hd : Dc K pc (.invokevirtual idx) 3 npc) (hlk : Cond.methodLink K.2.1 idx yX7_isTape ∈ lw_good) (hw : (st.map fun v => v.category).sum ≤ 8) (hfit : fits_ E d 2) (hrm : room_ok E) (kk : ∀ q : Int32, Rf cv E K npc lv (.int q :: st) σ (kf q)) : Rf cv E K pc lv (.int x1 :: .ref (E.1.1 7 0 0) :: st) σ (oc.bind kf) := c_V (n := 1) (as := [.int x1]) (c0 := 7) (i := 0) (CC := "ThawGives") (T := TX7) (N := 11) hd hOk hlk wi_X7_isTape wv_X7_isTape wn_X7 wc_X7_isTape rfl (by decide) (by decide) ⟨by decide, by decide, by decide⟩ rfl rfl hw hfit hrm (fun b _ => kk b)
def f_X3_hasPlace (s0 : Sto) (i0 : Nat) (x1 : Int32) : Option (Int32) :=
  (if x1 < 0 then
    some 0
  else
    (if (s0.1 3 2 i0) ≤ x1 then
      some 0
    else
      (if (60 : Int32) ≤ x1 then
        some 0
      else
        some 1)))
set_option maxRecDepth 100000 in
theorem s_X3_hasPlace (g : Gm) (s0 : Sto) (i0 : Nat) (x1 : Int32) (hi0 : i0 < 6) : Rf (cvI s0) (Em g 0) kX3_hasPlace 0 [some (.ref ((Em g 0).1.1 3 0 i0)), some (.int x1)] [] s0 (f_X3_hasPlace s0 i0 x1) := by
  unfold f_X3_hasPlace
  refine r_iload_n dX3_hasPlace_0 rfl ?_
  refine r_iflt dX3_hasPlace_1 (tgt := 22) (by decide) (fun c1 => ?_) (fun c1 => ?_)
  · refine r_iconst dX3_hasPlace_22 ci_0 ?_
    exact r_zret dX3_hasPlace_23 rfl rfl rfl
  · refine r_iload_n dX3_hasPlace_4 rfl ?_
    refine r_aload_n dX3_hasPlace_5 rfl ?_
    refine gf_X3_19 rfl dX3_hasPlace_6 hi0 ?_
    refine r_icge dX3_hasPlace_9 (tgt := 22) (by decide) (fun c2 => ?_) (fun c2 => ?_)
    · refine r_iconst dX3_hasPlace_22 ci_0 ?_
      exact r_zret dX3_hasPlace_23 rfl rfl rfl
    · refine r_iload_n dX3_hasPlace_12 rfl ?_
      refine r_bipush dX3_hasPlace_13 cb_60 ?_
      refine r_icge dX3_hasPlace_15 (tgt := 22) (by decide) (fun c3 => ?_) (fun c3 => ?_)
      · refine r_iconst dX3_hasPlace_22 ci_0 ?_
        exact r_zret dX3_hasPlace_23 rfl rfl rfl
      · refine r_iconst dX3_hasPlace_18 ci_1 ?_
        refine r_goto dX3_hasPlace_19 (tgt := 23) (by decide) ?_
        exact r_zret dX3_hasPlace_23 rfl rfl rfl
theorem ok_X3_hasPlace (g : Gm) (s0 : Sto) (i0 : Nat) (x1 : Int32) (hi0 : i0 < 6) : Ok g yX3_hasPlace kX3_hasPlace 0 [.ref ((Em g 0).1.1 3 0 i0), .int x1] s0 (cvI s0) (f_X3_hasPlace s0 i0 x1) := Ok.of (by decide) rfl (Nat.le_of_ble_eq_true rfl) (lv := [some (.ref ((Em g 0).1.1 3 0 i0)), some (.int x1)]) rfl (s_X3_hasPlace g s0 i0 x1 hi0)
theorem u_X3_hasPlace {α : Type} {cv : α → Res} {E : EE} {K : KK} {pc npc idx d : Nat} {lv : List (Option Value)} {st : List Value} {σ : Sto} {oc : Option (Int32)} {kf : Int32 → Option α} {i0 : Nat} {x1 : Int32} (hOk : Ok E.1 yX3_hasPlace kX3_hasPlace d [.ref (E.1.1 3 0 i0), .int x1] σ (cvI σ) oc) (hd : Dc K pc (.invokevirtual idx) 3 npc) (hlk : Cond.methodLink K.2.1 idx yX3_hasPlace ∈ lw_good) (hi : i0 < 6) (hw : (st.map fun v => v.category).sum ≤ 8) (hfit : fits_ E d 2) (hrm : room_ok E) (kk : ∀ q : Int32, Rf cv E K npc lv (.int q :: st) σ (kf q)) : Rf cv E K pc lv (.int x1 :: .ref (E.1.1 3 0 i0) :: st) σ (oc.bind kf) := c_V (n := 1) (as := [.int x1]) (c0 := 3) (i := i0) (CC := "ThawGives$Tape") (T := TX3) (N := 3) hd hOk hlk wi_X3_hasPlace wv_X3_hasPlace wn_X3 wc_X3_hasPlace rfl (by decide) hi ⟨by decide, by decide, by decide⟩ rfl rfl hw hfit hrm (fun b _ => kk b)
theorem un_X3_hasPlace {α : Type} {cv : α → Res} {E : EE} {K : KK} {pc npc idx d : Nat} {lv : List (Option Value)} {st : List Value} {σ : Sto} {oc : Option (Int32)} {kf : Int32 → Option α} {i0 : Nat} {x1 : Int32} (hOk : Ok E.1 yX3_hasPlace kX3_hasPlace d [.ref (E.1.1 3 0 i0), .int x1] σ (cvI σ) oc) (hd : Dc K pc (.invokevirtual idx) 3 npc) (hlk : Cond.methodLinkNest K.2.1 idx yX3_hasPlace "ThawGives" ∈ lw_nest) (hi : i0 < 6) (hw : (st.map fun v => v.category).sum ≤ 8) (hfit : fits_ E d 2) (hrm : room_ok E) (kk : ∀ q : Int32, Rf cv E K npc lv (.int q :: st) σ (kf q)) : Rf cv E K pc lv (.int x1 :: .ref (E.1.1 3 0 i0) :: st) σ (oc.bind kf) := c_N (n := 1) (as := [.int x1]) (c0 := 3) (i := i0) (CC := "ThawGives$Tape") (T := TX3) (N := 3) hd hOk hlk wi_X3_hasPlace wv_X3_hasPlace wn_X3 wc_X3_hasPlace rfl (by decide) hi ⟨by decide, by decide, by decide⟩ rfl rfl hw hfit hrm (fun b _ => kk b)
def f_X7_judge_B38 (s0 : Sto) (k38 : Int32 → Nat → Int32 → Option (Int32)) (x2 : Int32) (i3 : Nat) (x4 : Int32) : Option (Int32) :=
  (if (s0.1 6 1 0) ≤ x4 then
    some (-5 : Int32)
  else
    nmI ((x2 + x4)) fun v7 => (f_X3_hasPlace s0 i3 v7).bind fun q8 => (if q8 = 0 then
      some (100 + x4)
    else
      (if 0 ≤ v7 ∧ v7 < 60 then (if 0 ≤ x4 ∧ x4 < 6 then (if (lg_cmp (s0.2.2.1 3 0 i3 (Int32.toNatClampNeg v7)) (Int32.toInt64 (s0.1 5 4 (6 * 0 + Int32.toNatClampNeg x4)))) = 0 then
        nmI (x4 + 1) fun v15 => k38 x2 i3 v15
      else
        some x4) else none) else none)))
def f_X7_judge_L38 (s0 : Sto) : Nat → Int32 → Nat → Int32 → Option (Int32)
  | 0 => fun _ _ _ => none
  | n + 1 => f_X7_judge_B38 s0 (f_X7_judge_L38 s0 n)
def f_X7_judge (s0 : Sto) (x1 : Int32) (x2 : Int32) : Option (Int32) :=
  (f_X7_isTape x1).bind fun q1 => (if q1 = 0 then
    some (-1 : Int32)
  else
    (if 0 ≤ x1 ∧ x1 < 6 then (if (s0.1 3 1 (Int32.toNatClampNeg x1)) = (-1 : Int32) then
      f_X7_judge_L38 s0 1000 x2 (Int32.toNatClampNeg x1) 0
    else
      (if (s0.1 3 1 (Int32.toNatClampNeg x1)) = 0 then
        f_X7_judge_L38 s0 1000 x2 (Int32.toNatClampNeg x1) 0
      else
        some (-12 : Int32))) else none))
set_option maxRecDepth 100000 in
theorem s_X7_judge_B38 (g : Gm) (s0 : Sto) (k38 : Int32 → Nat → Int32 → Option (Int32)) (hk38 : ∀ (x2 : Int32) (i3 : Nat) (x4 : Int32) (hi3 : i3 < 6), Rf (cvI s0) (Em g 2) kX7_judge 38 [some (.ref ((Em g 2).1.1 7 0 0)), none, some (.int x2), some (.ref ((Em g 2).1.1 3 0 i3)), some (.int x4), none] [] s0 (k38 x2 i3 x4)) (x2 : Int32) (i3 : Nat) (x4 : Int32) (hi3 : i3 < 6) : Rf (cvI s0) (Em g 2) kX7_judge 38 [some (.ref ((Em g 2).1.1 7 0 0)), none, some (.int x2), some (.ref ((Em g 2).1.1 3 0 i3)), some (.int x4), none] [] s0 (f_X7_judge_B38 s0 k38 x2 i3 x4) := by
  unfold f_X7_judge_B38
  refine r_iload dX7_judge_38 rfl ?_
  refine r_aload_n dX7_judge_40 rfl ?_
  refine gf_X7_14 rfl dX7_judge_41 ?_
  refine gf_X7_78 rfl dX7_judge_44 (by decide) ?_
  refine r_icge dX7_judge_47 (tgt := 105) (by decide) (fun c6 => ?_) (fun c6 => ?_)
  · refine r_bipush dX7_judge_105 cb_m5 ?_
    exact r_iret dX7_judge_107 rfl rfl
  · refine r_iload_n dX7_judge_50 rfl ?_
    refine r_iload dX7_judge_51 rfl ?_
    refine r_iadd dX7_judge_53 ?_
    refine r_istoreN dX7_judge_54 rfl (lt_b rfl) (lt_b rfl) (fun v7 => ?_)
    refine r_aload_n dX7_judge_56 rfl ?_
    refine r_iload dX7_judge_57 rfl ?_
    refine un_X3_hasPlace (ok_X3_hasPlace g s0 i3 v7 hi3) dX7_judge_59 mn_X7_221 hi3 (Nat.le_of_ble_eq_true rfl) (fits_m (by decide) (by decide)) room_m (fun q8 => ?_)
    refine r_ifne dX7_judge_62 (tgt := 71) (by decide) (fun c9 => ?_) (fun c9 => ?_)
    · refine r_bipush dX7_judge_65 cb_100 ?_
      refine r_iload dX7_judge_67 rfl ?_
      refine r_iadd dX7_judge_69 ?_
      exact r_iret dX7_judge_70 rfl rfl
    · refine r_aload_n dX7_judge_71 rfl ?_
      refine gf_X7_224 rfl dX7_judge_72 hi3 ?_
      refine r_iload dX7_judge_75 rfl ?_
      refine al_3_0 dX7_judge_77 hi3 (fun hg10 hj11 => ?_)
      refine r_aload_n dX7_judge_78 rfl ?_
      refine gf_X7_14 rfl dX7_judge_79 ?_
      refine gf_X7_81 rfl dX7_judge_82 (by decide) ?_
      refine r_iload dX7_judge_85 rfl ?_
      refine al_6_0 dX7_judge_87 (by decide) (fun hg12 hj13 => ?_)
      refine gf_X7_102 rfl dX7_judge_88 (by omega) ?_
      refine r_i2l dX7_judge_91 ?_
      refine r_lcmp dX7_judge_92 ?_
      refine r_ifeq dX7_judge_93 (tgt := 99) (by decide) (fun c14 => ?_) (fun c14 => ?_)
      · refine r_iincN dX7_judge_99 rfl ci_1 rfl (lt_b rfl) (fun v15 => ?_)
        refine r_goto dX7_judge_102 (tgt := 38) (by decide) ?_
        exact r_mask [true, false, true, true, true, false] (hk38 x2 i3 v15 hi3)
      · refine r_iload dX7_judge_96 rfl ?_
        exact r_iret dX7_judge_98 rfl rfl
theorem s_X7_judge_L38 (g : Gm) (s0 : Sto) : ∀ (n : Nat) (x2 : Int32) (i3 : Nat) (x4 : Int32) (hi3 : i3 < 6), Rf (cvI s0) (Em g 2) kX7_judge 38 [some (.ref ((Em g 2).1.1 7 0 0)), none, some (.int x2), some (.ref ((Em g 2).1.1 3 0 i3)), some (.int x4), none] [] s0 (f_X7_judge_L38 s0 n x2 i3 x4)
  | 0, _, _, _, _ => r_none
  | n + 1, x2, i3, x4, hi3 => s_X7_judge_B38 g s0 (f_X7_judge_L38 s0 n) (s_X7_judge_L38 g s0 n) x2 i3 x4 hi3
set_option maxRecDepth 100000 in
theorem s_X7_judge (g : Gm) (s0 : Sto) (x1 : Int32) (x2 : Int32) : Rf (cvI s0) (Em g 2) kX7_judge 0 [some (.ref ((Em g 2).1.1 7 0 0)), some (.int x1), some (.int x2), none, none, none] [] s0 (f_X7_judge s0 x1 x2) := by
  unfold f_X7_judge
  refine r_aload_n dX7_judge_0 rfl ?_
  refine r_iload_n dX7_judge_1 rfl ?_
  refine u_X7_isTape (ok_X7_isTape g s0 x1) dX7_judge_2 ml_X7_215 (Nat.le_of_ble_eq_true rfl) (fits_m (by decide) (by decide)) room_m (fun q1 => ?_)
  refine r_ifne dX7_judge_5 (tgt := 10) (by decide) (fun c2 => ?_) (fun c2 => ?_)
  · refine r_iconst dX7_judge_8 ci_m1 ?_
    exact r_iret dX7_judge_9 rfl rfl
  · refine r_aload_n dX7_judge_10 rfl ?_
    refine gf_X7_69 rfl dX7_judge_11 ?_
    refine r_iload_n dX7_judge_14 rfl ?_
    refine al_7_10 dX7_judge_15 (fun hg3 hj4 => ?_)
    refine r_astore_n dX7_judge_16 rfl (lt_b rfl) (lt_b rfl) ?_
    refine r_aload_n dX7_judge_17 rfl ?_
    refine gf_X7_218 rfl dX7_judge_18 (by omega) ?_
    refine r_iconst dX7_judge_21 ci_m1 ?_
    refine r_iceq dX7_judge_22 (tgt := 35) (by decide) (fun c5 => ?_) (fun c5 => ?_)
    · refine r_iconst dX7_judge_35 ci_0 ?_
      refine r_istore dX7_judge_36 rfl (lt_b rfl) (lt_b rfl) ?_
      exact r_mask [true, false, true, true, true, false] (s_X7_judge_L38 g s0 1000 x2 (Int32.toNatClampNeg x1) 0 (by omega))
    · refine r_aload_n dX7_judge_25 rfl ?_
      refine gf_X7_218 rfl dX7_judge_26 (by omega) ?_
      refine r_ifeq dX7_judge_29 (tgt := 35) (by decide) (fun c16 => ?_) (fun c16 => ?_)
      · refine r_iconst dX7_judge_35 ci_0 ?_
        refine r_istore dX7_judge_36 rfl (lt_b rfl) (lt_b rfl) ?_
        exact r_mask [true, false, true, true, true, false] (s_X7_judge_L38 g s0 1000 x2 (Int32.toNatClampNeg x1) 0 (by omega))
      · refine r_bipush dX7_judge_32 cb_m12 ?_
        exact r_iret dX7_judge_34 rfl rfl
theorem ok_X7_judge (g : Gm) (s0 : Sto) (x1 : Int32) (x2 : Int32) : Ok g yX7_judge kX7_judge 2 [.ref ((Em g 2).1.1 7 0 0), .int x1, .int x2] s0 (cvI s0) (f_X7_judge s0 x1 x2) := Ok.of (by decide) rfl (Nat.le_of_ble_eq_true rfl) (lv := [some (.ref ((Em g 2).1.1 7 0 0)), some (.int x1), some (.int x2), none, none, none]) rfl (s_X7_judge g s0 x1 x2)
theorem u_X7_judge {α : Type} {cv : α → Res} {E : EE} {K : KK} {pc npc idx d : Nat} {lv : List (Option Value)} {st : List Value} {σ : Sto} {oc : Option (Int32)} {kf : Int32 → Option α} {x1 : Int32} {x2 : Int32} (hOk : Ok E.1 yX7_judge kX7_judge d [.ref (E.1.1 7 0 0), .int x1, .int x2] σ (cvI σ) oc) (hd : Dc K pc (.invokevirtual idx) 3 npc) (hlk : Cond.methodLink K.2.1 idx yX7_judge ∈ lw_good) (hw : (st.map fun v => v.category).sum ≤ 8) (hfit : fits_ E d 6) (hrm : room_ok E) (kk : ∀ q : Int32, Rf cv E K npc lv (.int q :: st) σ (kf q)) : Rf cv E K pc lv (.int x2 :: .int x1 :: .ref (E.1.1 7 0 0) :: st) σ (oc.bind kf) := c_V (n := 2) (as := [.int x1, .int x2]) (c0 := 7) (i := 0) (CC := "ThawGives") (T := TX7) (N := 11) hd hOk hlk wi_X7_judge wv_X7_judge wn_X7 wc_X7_judge rfl (by decide) (by decide) ⟨by decide, by decide, by decide⟩ rfl rfl hw hfit hrm (fun b _ => kk b)
def f_X2_become (s0 : Sto) (i0 : Nat) (i1 : Nat) : Option (Sto) :=
  nm (sF s0 2 4 i0 (s0.1 2 4 i1)) fun s1 => (if acok (0 : Int32) (0 : Int32) (10 : Int32) 10 then nm (sA s1 2 1 i0 (va_cpy (s1.2.1 2 1 i1) (s1.2.1 2 1 i0) (Int32.toNatClampNeg (0 : Int32)) (Int32.toNatClampNeg (0 : Int32)) (Int32.toNatClampNeg (10 : Int32)))) fun s2 => (if acok (0 : Int32) (0 : Int32) (10 : Int32) 10 then nm (sA s2 2 2 i0 (va_cpy (s2.2.1 2 2 i1) (s2.2.1 2 2 i0) (Int32.toNatClampNeg (0 : Int32)) (Int32.toNatClampNeg (0 : Int32)) (Int32.toNatClampNeg (10 : Int32)))) fun s4 => (if acok (0 : Int32) (0 : Int32) (10 : Int32) 10 then nm (sA s4 2 3 i0 (va_cpy (s4.2.1 2 3 i1) (s4.2.1 2 3 i0) (Int32.toNatClampNeg (0 : Int32)) (Int32.toNatClampNeg (0 : Int32)) (Int32.toNatClampNeg (10 : Int32)))) fun s6 => some s6 else none) else none) else none)
set_option maxRecDepth 100000 in
theorem s_X2_become (g : Gm) (s0 : Sto) (i0 : Nat) (i1 : Nat) (hi0 : i0 < 6) (hi1 : i1 < 6) : Rf cvV (Em g 2) kX2_become 0 [some (.ref ((Em g 2).1.1 2 0 i0)), some (.ref ((Em g 2).1.1 2 0 i1))] [] s0 (f_X2_become s0 i0 i1) := by
  unfold f_X2_become
  refine r_aload_n dX2_become_0 rfl ?_
  refine r_aload_n dX2_become_1 rfl ?_
  refine gf_X2_21 rfl dX2_become_2 hi1 ?_
  refine pf_X2_21 rfl dX2_become_5 hi0 (fun s1 => ?_)
  refine r_aload_n dX2_become_8 rfl ?_
  refine gf_X2_11 rfl dX2_become_9 hi1 ?_
  refine r_iconst dX2_become_12 ci_0 ?_
  refine r_aload_n dX2_become_13 rfl ?_
  refine gf_X2_11 rfl dX2_become_14 hi0 ?_
  refine r_iconst dX2_become_17 ci_0 ?_
  refine r_bipush dX2_become_18 cb_10 ?_
  refine g_copyi (c0 := 2) (k := 1) (N := 10) dX2_become_20 ml_X2_34 (by decide) rfl rfl (show _ < 6 from hi1) (show _ < 6 from hi0) (Nat.le_of_ble_eq_true rfl) (acr_m (by decide)) (fun h3 s2 => ?_)
  refine r_aload_n dX2_become_23 rfl ?_
  refine gf_X2_15 rfl dX2_become_24 hi1 ?_
  refine r_iconst dX2_become_27 ci_0 ?_
  refine r_aload_n dX2_become_28 rfl ?_
  refine gf_X2_15 rfl dX2_become_29 hi0 ?_
  refine r_iconst dX2_become_32 ci_0 ?_
  refine r_bipush dX2_become_33 cb_10 ?_
  refine g_copyi (c0 := 2) (k := 2) (N := 10) dX2_become_35 ml_X2_34 (by decide) rfl rfl (show _ < 6 from hi1) (show _ < 6 from hi0) (Nat.le_of_ble_eq_true rfl) (acr_m (by decide)) (fun h5 s4 => ?_)
  refine r_aload_n dX2_become_38 rfl ?_
  refine gf_X2_18 rfl dX2_become_39 hi1 ?_
  refine r_iconst dX2_become_42 ci_0 ?_
  refine r_aload_n dX2_become_43 rfl ?_
  refine gf_X2_18 rfl dX2_become_44 hi0 ?_
  refine r_iconst dX2_become_47 ci_0 ?_
  refine r_bipush dX2_become_48 cb_10 ?_
  refine g_copyi (c0 := 2) (k := 3) (N := 10) dX2_become_50 ml_X2_34 (by decide) rfl rfl (show _ < 6 from hi1) (show _ < 6 from hi0) (Nat.le_of_ble_eq_true rfl) (acr_m (by decide)) (fun h7 s6 => ?_)
  exact r_vret dX2_become_53 rfl rfl
theorem ok_X2_become (g : Gm) (s0 : Sto) (i0 : Nat) (i1 : Nat) (hi0 : i0 < 6) (hi1 : i1 < 6) : Ok g yX2_become kX2_become 2 [.ref ((Em g 2).1.1 2 0 i0), .ref ((Em g 2).1.1 2 0 i1)] s0 cvV (f_X2_become s0 i0 i1) := Ok.of (by decide) rfl (Nat.le_of_ble_eq_true rfl) (lv := [some (.ref ((Em g 2).1.1 2 0 i0)), some (.ref ((Em g 2).1.1 2 0 i1))]) rfl (s_X2_become g s0 i0 i1 hi0 hi1)
theorem u_X2_become {α : Type} {cv : α → Res} {E : EE} {K : KK} {pc npc idx d : Nat} {lv : List (Option Value)} {st : List Value} {σ : Sto} {oc : Option (Sto)} {kf : Sto → Option α} {i0 : Nat} {i1 : Nat} (hOk : Ok E.1 yX2_become kX2_become d [.ref (E.1.1 2 0 i0), .ref (E.1.1 2 0 i1)] σ cvV oc) (hd : Dc K pc (.invokevirtual idx) 3 npc) (hlk : Cond.methodLink K.2.1 idx yX2_become ∈ lw_good) (hi : i0 < 6) (hw : (st.map fun v => v.category).sum ≤ 8) (hfit : fits_ E d 2) (hrm : room_ok E) (kk : ∀ τ : Sto, Rf cv E K npc lv st τ (kf τ)) : Rf cv E K pc lv (.ref (E.1.1 2 0 i1) :: .ref (E.1.1 2 0 i0) :: st) σ (oc.bind kf) := c_V (n := 1) (as := [.ref (E.1.1 2 0 i1)]) (c0 := 2) (i := i0) (CC := "ThawGives$Rows") (T := TX2) (N := 5) hd hOk hlk wi_X2_become wv_X2_become wn_X2 wc_X2_become rfl (by decide) hi ⟨by decide, by decide, by decide⟩ rfl rfl hw hfit hrm (fun b _ => kk b)
theorem un_X2_become {α : Type} {cv : α → Res} {E : EE} {K : KK} {pc npc idx d : Nat} {lv : List (Option Value)} {st : List Value} {σ : Sto} {oc : Option (Sto)} {kf : Sto → Option α} {i0 : Nat} {i1 : Nat} (hOk : Ok E.1 yX2_become kX2_become d [.ref (E.1.1 2 0 i0), .ref (E.1.1 2 0 i1)] σ cvV oc) (hd : Dc K pc (.invokevirtual idx) 3 npc) (hlk : Cond.methodLinkNest K.2.1 idx yX2_become "ThawGives" ∈ lw_nest) (hi : i0 < 6) (hw : (st.map fun v => v.category).sum ≤ 8) (hfit : fits_ E d 2) (hrm : room_ok E) (kk : ∀ τ : Sto, Rf cv E K npc lv st τ (kf τ)) : Rf cv E K pc lv (.ref (E.1.1 2 0 i1) :: .ref (E.1.1 2 0 i0) :: st) σ (oc.bind kf) := c_N (n := 1) (as := [.ref (E.1.1 2 0 i1)]) (c0 := 2) (i := i0) (CC := "ThawGives$Rows") (T := TX2) (N := 5) hd hOk hlk wi_X2_become wv_X2_become wn_X2 wc_X2_become rfl (by decide) hi ⟨by decide, by decide, by decide⟩ rfl rfl hw hfit hrm (fun b _ => kk b)
def f_X6_become_B2 (k2 : Sto → Nat → Nat → Int32 → Option (Sto)) (s0 : Sto) (i0 : Nat) (i1 : Nat) (x2 : Int32) : Option (Sto) :=
  (if (6 : Int32) ≤ x2 then
    nm (sF s0 6 1 i0 (s0.1 6 1 i1)) fun s2 => nm (sF s2 6 2 i0 (s2.1 6 2 i1)) fun s3 => nm (sF s3 6 3 i0 (s3.1 6 3 i1)) fun s4 => (f_X2_become s4 (3 * i0) (3 * i1)).bind fun q5 => (f_X2_become q5 (3 * i0 + 1) (3 * i1 + 1)).bind fun q6 => (f_X2_become q6 (3 * i0 + 2) (3 * i1 + 2)).bind fun q7 => some q7
  else
    (if 0 ≤ x2 ∧ x2 < 6 then (if 0 ≤ x2 ∧ x2 < 6 then (f_X5_become s0 (6 * i0 + Int32.toNatClampNeg x2) (6 * i1 + Int32.toNatClampNeg x2)).bind fun q12 => nmI (x2 + 1) fun v13 => k2 q12 i0 i1 v13 else none) else none))
def f_X6_become_L2 : Nat → Sto → Nat → Nat → Int32 → Option (Sto)
  | 0 => fun _ _ _ _ => none
  | n + 1 => f_X6_become_B2 (f_X6_become_L2 n)
def f_X6_become (s0 : Sto) (i0 : Nat) (i1 : Nat) : Option (Sto) :=
  f_X6_become_L2 1000 s0 i0 i1 0
set_option maxRecDepth 100000 in
theorem s_X6_become_B2 (g : Gm) (k2 : Sto → Nat → Nat → Int32 → Option (Sto)) (hk2 : ∀ (s0 : Sto) (i0 : Nat) (i1 : Nat) (x2 : Int32) (hi0 : i0 < 2) (hi1 : i1 < 2), Rf cvV (Em g 3) kX6_become 2 [some (.ref ((Em g 3).1.1 6 0 i0)), some (.ref ((Em g 3).1.1 6 0 i1)), some (.int x2)] [] s0 (k2 s0 i0 i1 x2)) (s0 : Sto) (i0 : Nat) (i1 : Nat) (x2 : Int32) (hi0 : i0 < 2) (hi1 : i1 < 2) : Rf cvV (Em g 3) kX6_become 2 [some (.ref ((Em g 3).1.1 6 0 i0)), some (.ref ((Em g 3).1.1 6 0 i1)), some (.int x2)] [] s0 (f_X6_become_B2 k2 s0 i0 i1 x2) := by
  unfold f_X6_become_B2
  refine r_iload_n dX6_become_2 rfl ?_
  refine r_bipush dX6_become_3 cb_6 ?_
  refine r_icge dX6_become_5 (tgt := 29) (by decide) (fun c1 => ?_) (fun c1 => ?_)
  · refine r_aload_n dX6_become_29 rfl ?_
    refine r_aload_n dX6_become_30 rfl ?_
    refine gf_X6_17 rfl dX6_become_31 hi1 ?_
    refine pf_X6_17 rfl dX6_become_34 hi0 (fun s2 => ?_)
    refine r_aload_n dX6_become_37 rfl ?_
    refine r_aload_n dX6_become_38 rfl ?_
    refine gf_X6_21 rfl dX6_become_39 hi1 ?_
    refine pf_X6_21 rfl dX6_become_42 hi0 (fun s3 => ?_)
    refine r_aload_n dX6_become_45 rfl ?_
    refine r_aload_n dX6_become_46 rfl ?_
    refine gf_X6_24 rfl dX6_become_47 hi1 ?_
    refine pf_X6_24 rfl dX6_become_50 hi0 (fun s4 => ?_)
    refine r_aload_n dX6_become_53 rfl ?_
    refine gf_X6_32 rfl dX6_become_54 hi0 ?_
    refine r_aload_n dX6_become_57 rfl ?_
    refine gf_X6_32 rfl dX6_become_58 hi1 ?_
    refine un_X2_become (ok_X2_become g s4 (3 * i0) (3 * i1) (by omega) (by omega)) dX6_become_61 mn_X6_47 (by omega) (Nat.le_of_ble_eq_true rfl) (fits_m (by decide) (by decide)) room_m (fun q5 => ?_)
    refine r_aload_n dX6_become_64 rfl ?_
    refine gf_X6_36 rfl dX6_become_65 hi0 ?_
    refine r_aload_n dX6_become_68 rfl ?_
    refine gf_X6_36 rfl dX6_become_69 hi1 ?_
    refine un_X2_become (ok_X2_become g q5 (3 * i0 + 1) (3 * i1 + 1) (by omega) (by omega)) dX6_become_72 mn_X6_47 (by omega) (Nat.le_of_ble_eq_true rfl) (fits_m (by decide) (by decide)) room_m (fun q6 => ?_)
    refine r_aload_n dX6_become_75 rfl ?_
    refine gf_X6_39 rfl dX6_become_76 hi0 ?_
    refine r_aload_n dX6_become_79 rfl ?_
    refine gf_X6_39 rfl dX6_become_80 hi1 ?_
    refine un_X2_become (ok_X2_become g q6 (3 * i0 + 2) (3 * i1 + 2) (by omega) (by omega)) dX6_become_83 mn_X6_47 (by omega) (Nat.le_of_ble_eq_true rfl) (fits_m (by decide) (by decide)) room_m (fun q7 => ?_)
    exact r_vret dX6_become_86 rfl rfl
  · refine r_aload_n dX6_become_8 rfl ?_
    refine gf_X6_11 rfl dX6_become_9 hi0 ?_
    refine r_iload_n dX6_become_12 rfl ?_
    refine al_6_0 dX6_become_13 hi0 (fun hg8 hj9 => ?_)
    refine r_aload_n dX6_become_14 rfl ?_
    refine gf_X6_11 rfl dX6_become_15 hi1 ?_
    refine r_iload_n dX6_become_18 rfl ?_
    refine al_6_0 dX6_become_19 hi1 (fun hg10 hj11 => ?_)
    refine un_X5_become (ok_X5_become g s0 (6 * i0 + Int32.toNatClampNeg x2) (6 * i1 + Int32.toNatClampNeg x2) (by omega) (by omega)) dX6_become_20 mn_X6_43 (by omega) (Nat.le_of_ble_eq_true rfl) (fits_m (by decide) (by decide)) room_m (fun q12 => ?_)
    refine r_iincN dX6_become_23 rfl ci_1 rfl (lt_b rfl) (fun v13 => ?_)
    refine r_goto dX6_become_26 (tgt := 2) (by decide) ?_
    exact r_mask [true, true, true] (hk2 q12 i0 i1 v13 hi0 hi1)
theorem s_X6_become_L2 (g : Gm) : ∀ (n : Nat) (s0 : Sto) (i0 : Nat) (i1 : Nat) (x2 : Int32) (hi0 : i0 < 2) (hi1 : i1 < 2), Rf cvV (Em g 3) kX6_become 2 [some (.ref ((Em g 3).1.1 6 0 i0)), some (.ref ((Em g 3).1.1 6 0 i1)), some (.int x2)] [] s0 (f_X6_become_L2 n s0 i0 i1 x2)
  | 0, _, _, _, _, _, _ => r_none
  | n + 1, s0, i0, i1, x2, hi0, hi1 => s_X6_become_B2 g (f_X6_become_L2 n) (s_X6_become_L2 g n) s0 i0 i1 x2 hi0 hi1
set_option maxRecDepth 100000 in
theorem s_X6_become (g : Gm) (s0 : Sto) (i0 : Nat) (i1 : Nat) (hi0 : i0 < 2) (hi1 : i1 < 2) : Rf cvV (Em g 3) kX6_become 0 [some (.ref ((Em g 3).1.1 6 0 i0)), some (.ref ((Em g 3).1.1 6 0 i1)), none] [] s0 (f_X6_become s0 i0 i1) := by
  unfold f_X6_become
  refine r_iconst dX6_become_0 ci_0 ?_
  refine r_istore_n dX6_become_1 rfl (lt_b rfl) (lt_b rfl) ?_
  exact r_mask [true, true, true] (s_X6_become_L2 g 1000 s0 i0 i1 0 hi0 hi1)
theorem ok_X6_become (g : Gm) (s0 : Sto) (i0 : Nat) (i1 : Nat) (hi0 : i0 < 2) (hi1 : i1 < 2) : Ok g yX6_become kX6_become 3 [.ref ((Em g 3).1.1 6 0 i0), .ref ((Em g 3).1.1 6 0 i1)] s0 cvV (f_X6_become s0 i0 i1) := Ok.of (by decide) rfl (Nat.le_of_ble_eq_true rfl) (lv := [some (.ref ((Em g 3).1.1 6 0 i0)), some (.ref ((Em g 3).1.1 6 0 i1)), none]) rfl (s_X6_become g s0 i0 i1 hi0 hi1)
theorem u_X6_become {α : Type} {cv : α → Res} {E : EE} {K : KK} {pc npc idx d : Nat} {lv : List (Option Value)} {st : List Value} {σ : Sto} {oc : Option (Sto)} {kf : Sto → Option α} {i0 : Nat} {i1 : Nat} (hOk : Ok E.1 yX6_become kX6_become d [.ref (E.1.1 6 0 i0), .ref (E.1.1 6 0 i1)] σ cvV oc) (hd : Dc K pc (.invokevirtual idx) 3 npc) (hlk : Cond.methodLink K.2.1 idx yX6_become ∈ lw_good) (hi : i0 < 2) (hw : (st.map fun v => v.category).sum ≤ 8) (hfit : fits_ E d 3) (hrm : room_ok E) (kk : ∀ τ : Sto, Rf cv E K npc lv st τ (kf τ)) : Rf cv E K pc lv (.ref (E.1.1 6 0 i1) :: .ref (E.1.1 6 0 i0) :: st) σ (oc.bind kf) := c_V (n := 1) (as := [.ref (E.1.1 6 0 i1)]) (c0 := 6) (i := i0) (CC := "ThawGives$Winter") (T := TX6) (N := 7) hd hOk hlk wi_X6_become wv_X6_become wn_X6 wc_X6_become rfl (by decide) hi ⟨by decide, by decide, by decide⟩ rfl rfl hw hfit hrm (fun b _ => kk b)
theorem un_X6_become {α : Type} {cv : α → Res} {E : EE} {K : KK} {pc npc idx d : Nat} {lv : List (Option Value)} {st : List Value} {σ : Sto} {oc : Option (Sto)} {kf : Sto → Option α} {i0 : Nat} {i1 : Nat} (hOk : Ok E.1 yX6_become kX6_become d [.ref (E.1.1 6 0 i0), .ref (E.1.1 6 0 i1)] σ cvV oc) (hd : Dc K pc (.invokevirtual idx) 3 npc) (hlk : Cond.methodLinkNest K.2.1 idx yX6_become "ThawGives" ∈ lw_nest) (hi : i0 < 2) (hw : (st.map fun v => v.category).sum ≤ 8) (hfit : fits_ E d 3) (hrm : room_ok E) (kk : ∀ τ : Sto, Rf cv E K npc lv st τ (kf τ)) : Rf cv E K pc lv (.ref (E.1.1 6 0 i1) :: .ref (E.1.1 6 0 i0) :: st) σ (oc.bind kf) := c_N (n := 1) (as := [.ref (E.1.1 6 0 i1)]) (c0 := 6) (i := i0) (CC := "ThawGives$Winter") (T := TX6) (N := 7) hd hOk hlk wi_X6_become wv_X6_become wn_X6 wc_X6_become rfl (by decide) hi ⟨by decide, by decide, by decide⟩ rfl rfl hw hfit hrm (fun b _ => kk b)
def f_X7_image (s0 : Sto) : Option (Int32 × Sto) :=
  (f_X6_become s0 1 0).bind fun q1 => nm (sF q1 7 2 0 1) fun s2 => some ((s2.1 6 1 0), s2)
set_option maxRecDepth 100000 in
theorem s_X7_image (g : Gm) (s0 : Sto) : Rf cvIw (Em g 4) kX7_image 0 [some (.ref ((Em g 4).1.1 7 0 0))] [] s0 (f_X7_image s0) := by
  unfold f_X7_image
  refine r_aload_n dX7_image_0 rfl ?_
  refine gf_X7_18 rfl dX7_image_1 ?_
  refine r_aload_n dX7_image_4 rfl ?_
  refine gf_X7_14 rfl dX7_image_5 ?_
  refine un_X6_become (ok_X6_become g s0 1 0 (by decide) (by decide)) dX7_image_8 mn_X7_228 (by decide) (Nat.le_of_ble_eq_true rfl) (fits_m (by decide) (by decide)) room_m (fun q1 => ?_)
  refine r_aload_n dX7_image_11 rfl ?_
  refine r_iconst dX7_image_12 ci_1 ?_
  refine pf_X7_21 rfl dX7_image_13 rfl rfl (fun s2 => ?_)
  refine r_aload_n dX7_image_16 rfl ?_
  refine gf_X7_14 rfl dX7_image_17 ?_
  refine gf_X7_78 rfl dX7_image_20 (by decide) ?_
  exact r_iret dX7_image_23 rfl rfl
theorem ok_X7_image (g : Gm) (s0 : Sto) : Ok g yX7_image kX7_image 4 [.ref ((Em g 4).1.1 7 0 0)] s0 cvIw (f_X7_image s0) := Ok.of (by decide) rfl (Nat.le_of_ble_eq_true rfl) (lv := [some (.ref ((Em g 4).1.1 7 0 0))]) rfl (s_X7_image g s0)
theorem u_X7_image {α : Type} {cv : α → Res} {E : EE} {K : KK} {pc npc idx d : Nat} {lv : List (Option Value)} {st : List Value} {σ : Sto} {oc : Option (Int32 × Sto)} {kf : (Int32 × Sto) → Option α} (hOk : Ok E.1 yX7_image kX7_image d [.ref (E.1.1 7 0 0)] σ cvIw oc) (hd : Dc K pc (.invokevirtual idx) 3 npc) (hlk : Cond.methodLink K.2.1 idx yX7_image ∈ lw_good) (hw : (st.map fun v => v.category).sum ≤ 8) (hfit : fits_ E d 1) (hrm : room_ok E) (kk : ∀ q : Int32 × Sto, Rf cv E K npc lv (.int q.1 :: st) q.2 (kf q)) : Rf cv E K pc lv (.ref (E.1.1 7 0 0) :: st) σ (oc.bind kf) := c_V (n := 0) (as := []) (c0 := 7) (i := 0) (CC := "ThawGives") (T := TX7) (N := 11) hd hOk hlk wi_X7_image wv_X7_image wn_X7 wc_X7_image rfl (by decide) (by decide) ⟨by decide, by decide, by decide⟩ rfl rfl hw hfit hrm (fun b _ => kk b)
def f_X7_undo (s0 : Sto) : Option (Int32 × Sto) :=
  (if (s0.1 7 2 0) = 0 then
    some ((-3 : Int32), s0)
  else
    (f_X6_become s0 0 1).bind fun q2 => some ((q2.1 6 1 0), q2))
set_option maxRecDepth 100000 in
theorem s_X7_undo (g : Gm) (s0 : Sto) : Rf cvIw (Em g 4) kX7_undo 0 [some (.ref ((Em g 4).1.1 7 0 0))] [] s0 (f_X7_undo s0) := by
  unfold f_X7_undo
  refine r_aload_n dX7_undo_0 rfl ?_
  refine gf_X7_21 rfl dX7_undo_1 ?_
  refine r_ifne dX7_undo_4 (tgt := 10) (by decide) (fun c1 => ?_) (fun c1 => ?_)
  · refine r_bipush dX7_undo_7 cb_m3 ?_
    exact r_iret dX7_undo_9 rfl rfl
  · refine r_aload_n dX7_undo_10 rfl ?_
    refine gf_X7_14 rfl dX7_undo_11 ?_
    refine r_aload_n dX7_undo_14 rfl ?_
    refine gf_X7_18 rfl dX7_undo_15 ?_
    refine un_X6_become (ok_X6_become g s0 0 1 (by decide) (by decide)) dX7_undo_18 mn_X7_228 (by decide) (Nat.le_of_ble_eq_true rfl) (fits_m (by decide) (by decide)) room_m (fun q2 => ?_)
    refine r_aload_n dX7_undo_21 rfl ?_
    refine gf_X7_14 rfl dX7_undo_22 ?_
    refine gf_X7_78 rfl dX7_undo_25 (by decide) ?_
    exact r_iret dX7_undo_28 rfl rfl
theorem ok_X7_undo (g : Gm) (s0 : Sto) : Ok g yX7_undo kX7_undo 4 [.ref ((Em g 4).1.1 7 0 0)] s0 cvIw (f_X7_undo s0) := Ok.of (by decide) rfl (Nat.le_of_ble_eq_true rfl) (lv := [some (.ref ((Em g 4).1.1 7 0 0))]) rfl (s_X7_undo g s0)
theorem u_X7_undo {α : Type} {cv : α → Res} {E : EE} {K : KK} {pc npc idx d : Nat} {lv : List (Option Value)} {st : List Value} {σ : Sto} {oc : Option (Int32 × Sto)} {kf : (Int32 × Sto) → Option α} (hOk : Ok E.1 yX7_undo kX7_undo d [.ref (E.1.1 7 0 0)] σ cvIw oc) (hd : Dc K pc (.invokevirtual idx) 3 npc) (hlk : Cond.methodLink K.2.1 idx yX7_undo ∈ lw_good) (hw : (st.map fun v => v.category).sum ≤ 8) (hfit : fits_ E d 1) (hrm : room_ok E) (kk : ∀ q : Int32 × Sto, Rf cv E K npc lv (.int q.1 :: st) q.2 (kf q)) : Rf cv E K pc lv (.ref (E.1.1 7 0 0) :: st) σ (oc.bind kf) := c_V (n := 0) (as := []) (c0 := 7) (i := 0) (CC := "ThawGives") (T := TX7) (N := 11) hd hOk hlk wi_X7_undo wv_X7_undo wn_X7 wc_X7_undo rfl (by decide) (by decide) ⟨by decide, by decide, by decide⟩ rfl rfl hw hfit hrm (fun b _ => kk b)
def f_X0_forget (s0 : Sto) : Option (Sto) :=
  nm (sF s0 0 1 0 0) fun s1 => some s1
set_option maxRecDepth 100000 in
theorem s_X0_forget (g : Gm) (s0 : Sto) : Rf cvV (Em g 0) kX0_forget 0 [some (.ref ((Em g 0).1.1 0 0 0))] [] s0 (f_X0_forget s0) := by
  unfold f_X0_forget
  refine r_aload_n dX0_forget_0 rfl ?_
  refine r_iconst dX0_forget_1 ci_0 ?_
  refine pf_X0_15 rfl dX0_forget_2 (fun s1 => ?_)
  exact r_vret dX0_forget_5 rfl rfl
theorem ok_X0_forget (g : Gm) (s0 : Sto) : Ok g yX0_forget kX0_forget 0 [.ref ((Em g 0).1.1 0 0 0)] s0 cvV (f_X0_forget s0) := Ok.of (by decide) rfl (Nat.le_of_ble_eq_true rfl) (lv := [some (.ref ((Em g 0).1.1 0 0 0))]) rfl (s_X0_forget g s0)
theorem u_X0_forget {α : Type} {cv : α → Res} {E : EE} {K : KK} {pc npc idx d : Nat} {lv : List (Option Value)} {st : List Value} {σ : Sto} {oc : Option (Sto)} {kf : Sto → Option α} (hOk : Ok E.1 yX0_forget kX0_forget d [.ref (E.1.1 0 0 0)] σ cvV oc) (hd : Dc K pc (.invokevirtual idx) 3 npc) (hlk : Cond.methodLink K.2.1 idx yX0_forget ∈ lw_good) (hw : (st.map fun v => v.category).sum ≤ 8) (hfit : fits_ E d 1) (hrm : room_ok E) (kk : ∀ τ : Sto, Rf cv E K npc lv st τ (kf τ)) : Rf cv E K pc lv (.ref (E.1.1 0 0 0) :: st) σ (oc.bind kf) := c_V (n := 0) (as := []) (c0 := 0) (i := 0) (CC := "ThawGives$Acts") (T := TX0) (N := 5) hd hOk hlk wi_X0_forget wv_X0_forget wn_X0 wc_X0_forget rfl (by decide) (by decide) ⟨by decide, by decide, by decide⟩ rfl rfl hw hfit hrm (fun b _ => kk b)
theorem un_X0_forget {α : Type} {cv : α → Res} {E : EE} {K : KK} {pc npc idx d : Nat} {lv : List (Option Value)} {st : List Value} {σ : Sto} {oc : Option (Sto)} {kf : Sto → Option α} (hOk : Ok E.1 yX0_forget kX0_forget d [.ref (E.1.1 0 0 0)] σ cvV oc) (hd : Dc K pc (.invokevirtual idx) 3 npc) (hlk : Cond.methodLinkNest K.2.1 idx yX0_forget "ThawGives" ∈ lw_nest) (hw : (st.map fun v => v.category).sum ≤ 8) (hfit : fits_ E d 1) (hrm : room_ok E) (kk : ∀ τ : Sto, Rf cv E K npc lv st τ (kf τ)) : Rf cv E K pc lv (.ref (E.1.1 0 0 0) :: st) σ (oc.bind kf) := c_N (n := 0) (as := []) (c0 := 0) (i := 0) (CC := "ThawGives$Acts") (T := TX0) (N := 5) hd hOk hlk wi_X0_forget wv_X0_forget wn_X0 wc_X0_forget rfl (by decide) (by decide) ⟨by decide, by decide, by decide⟩ rfl rfl hw hfit hrm (fun b _ => kk b)
theorem u_X0_run {α : Type} {cv : α → Res} {E : EE} {K : KK} {pc npc idx d : Nat} {lv : List (Option Value)} {st : List Value} {σ : Sto} {oc : Option (Int32 × Sto)} {kf : (Int32 × Sto) → Option α} {x1 : Int32} {x2 : Int32} {x3 : Int32} {x4 : Int32} (hOk : Ok E.1 yX0_run kX0_run d [.ref (E.1.1 0 0 0), .int x1, .int x2, .int x3, .int x4] σ cvIw oc) (hd : Dc K pc (.invokevirtual idx) 3 npc) (hlk : Cond.methodLink K.2.1 idx yX0_run ∈ lw_good) (hw : (st.map fun v => v.category).sum ≤ 8) (hfit : fits_ E d 7) (hrm : room_ok E) (kk : ∀ q : Int32 × Sto, Rf cv E K npc lv (.int q.1 :: st) q.2 (kf q)) : Rf cv E K pc lv (.int x4 :: .int x3 :: .int x2 :: .int x1 :: .ref (E.1.1 0 0 0) :: st) σ (oc.bind kf) := c_V (n := 4) (as := [.int x1, .int x2, .int x3, .int x4]) (c0 := 0) (i := 0) (CC := "ThawGives$Acts") (T := TX0) (N := 5) hd hOk hlk wi_X0_run wv_X0_run wn_X0 wc_X0_run rfl (by decide) (by decide) ⟨by decide, by decide, by decide⟩ rfl rfl hw hfit hrm (fun b _ => kk b)
theorem un_X0_run {α : Type} {cv : α → Res} {E : EE} {K : KK} {pc npc idx d : Nat} {lv : List (Option Value)} {st : List Value} {σ : Sto} {oc : Option (Int32 × Sto)} {kf : (Int32 × Sto) → Option α} {x1 : Int32} {x2 : Int32} {x3 : Int32} {x4 : Int32} (hOk : Ok E.1 yX0_run kX0_run d [.ref (E.1.1 0 0 0), .int x1, .int x2, .int x3, .int x4] σ cvIw oc) (hd : Dc K pc (.invokevirtual idx) 3 npc) (hlk : Cond.methodLinkNest K.2.1 idx yX0_run "ThawGives" ∈ lw_nest) (hw : (st.map fun v => v.category).sum ≤ 8) (hfit : fits_ E d 7) (hrm : room_ok E) (kk : ∀ q : Int32 × Sto, Rf cv E K npc lv (.int q.1 :: st) q.2 (kf q)) : Rf cv E K pc lv (.int x4 :: .int x3 :: .int x2 :: .int x1 :: .ref (E.1.1 0 0 0) :: st) σ (oc.bind kf) := c_N (n := 4) (as := [.int x1, .int x2, .int x3, .int x4]) (c0 := 0) (i := 0) (CC := "ThawGives$Acts") (T := TX0) (N := 5) hd hOk hlk wi_X0_run wv_X0_run wn_X0 wc_X0_run rfl (by decide) (by decide) ⟨by decide, by decide, by decide⟩ rfl rfl hw hfit hrm (fun b _ => kk b)
def f_X0_answer (q : Sto → Int32 → Int32 → Int32 → Int32 → Option (Int32 × Sto)) (s0 : Sto) (x1 : Int32) (x2 : Int32) (x3 : Int32) : Option (Int32 × Sto) :=
  (if x1 = 10 then
    some ((x2 + (s0.1 0 3 0)), s0)
  else (if x1 = 11 then
    (q s0 (s0.1 0 2 0) 0 x2 x3).bind fun q3 => some ((q3.1 - (q3.2.1 0 4 0)), q3.2)
  else (if x1 = 12 then
    (q s0 (s0.1 0 2 0) 1 x2 x3).bind fun q5 => some ((q5.1 * 2), q5.2)
  else (if x1 = 20 then
    (q s0 0 1 x2 x3).bind fun q7 => some ((q7.1 ^^^ 6), q7.2)
  else (if x1 = 30 then
    (q s0 0 0 (x2 * 3) x3).bind fun q9 => some (q9.1, q9.2)
  else (if x1 = 40 then
    (q s0 0 2 x2 x3).bind fun q11 => (q q11.2 (q11.2.1 0 2 0) 1 1 x3).bind fun q12 => some ((q11.1 + q12.1), q12.2)
  else (if x1 = 50 then
    (q s0 1 0 x2 x3).bind fun q14 => some ((-q14.1), q14.2)
  else (if x1 = 51 then
    (q s0 1 1 (x2 + 1) x3).bind fun q16 => some (q16.1, q16.2)
  else (if x1 = 60 then
    (q s0 2 2 (x2 - (s0.1 0 3 0)) x3).bind fun q18 => some (q18.1, q18.2)
  else (if x1 = 70 then
    (q s0 3 1 x2 x3).bind fun q20 => (q q20.2 3 0 2 x3).bind fun q21 => some ((q20.1 + q21.1), q21.2)
  else (if x1 = 71 then
    (q s0 3 0 x2 x3).bind fun q23 => some ((q23.1 ^^^ (q23.2.1 0 4 0)), q23.2)
  else some (0, s0))))))))))))
set_option maxRecDepth 100000 in
theorem s_X0_answer (g : Gm) (D0 : Nat) (hD0 : 0 ≤ D0) (q : Sto → Int32 → Int32 → Int32 → Int32 → Option (Int32 × Sto)) (hq : ∀ (s0 : Sto) (x1 : Int32) (x2 : Int32) (x3 : Int32) (x4 : Int32), Ok g yX0_run kX0_run D0 [.ref (g.1 0 0 0), .int x1, .int x2, .int x3, .int x4] s0 cvIw (q s0 x1 x2 x3 x4)) (s0 : Sto) (x1 : Int32) (x2 : Int32) (x3 : Int32) : Rf cvIw (Em g (D0 + 1)) kX0_answer 0 [some (.ref ((Em g (D0 + 1)).1.1 0 0 0)), some (.int x1), some (.int x2), some (.int x3)] [] s0 (f_X0_answer q s0 x1 x2 x3) := by
  unfold f_X0_answer
  refine r_iload_n dX0_answer_0 rfl ?_
  refine r_by (fun e1 => ?_) (fun e1 => ?_)
  · refine r_look dX0_answer_1 (by decide) (off := 99) (by rw [e1]; rfl) (tgt := 100) (by decide) ?_
    refine r_iload_n dX0_answer_100 rfl ?_
    refine r_aload_n dX0_answer_101 rfl ?_
    refine gf_X0_22 rfl dX0_answer_102 ?_
    refine r_iadd dX0_answer_105 ?_
    exact r_iret dX0_answer_106 rfl rfl
  refine r_by (fun e2 => ?_) (fun e2 => ?_)
  · refine r_look dX0_answer_1 (by decide) (off := 106) (by rw [e2]; rfl) (tgt := 107) (by decide) ?_
    refine r_aload_n dX0_answer_107 rfl ?_
    refine r_aload_n dX0_answer_108 rfl ?_
    refine gf_X0_19 rfl dX0_answer_109 ?_
    refine r_iconst dX0_answer_112 ci_0 ?_
    refine r_iload_n dX0_answer_113 rfl ?_
    refine r_iload_n dX0_answer_114 rfl ?_
    refine u_X0_run (hq s0 (s0.1 0 2 0) 0 x2 x3) dX0_answer_115 ml_X0_33 (Nat.le_of_ble_eq_true rfl) (fits_m (by omega) (by decide)) room_m (fun q3 => ?_)
    refine r_aload_n dX0_answer_118 rfl ?_
    refine gf_X0_25 rfl dX0_answer_119 ?_
    refine r_isub dX0_answer_122 ?_
    exact r_iret dX0_answer_123 rfl rfl
  refine r_by (fun e4 => ?_) (fun e4 => ?_)
  · refine r_look dX0_answer_1 (by decide) (off := 123) (by rw [e4]; rfl) (tgt := 124) (by decide) ?_
    refine r_aload_n dX0_answer_124 rfl ?_
    refine r_aload_n dX0_answer_125 rfl ?_
    refine gf_X0_19 rfl dX0_answer_126 ?_
    refine r_iconst dX0_answer_129 ci_1 ?_
    refine r_iload_n dX0_answer_130 rfl ?_
    refine r_iload_n dX0_answer_131 rfl ?_
    refine u_X0_run (hq s0 (s0.1 0 2 0) 1 x2 x3) dX0_answer_132 ml_X0_33 (Nat.le_of_ble_eq_true rfl) (fits_m (by omega) (by decide)) room_m (fun q5 => ?_)
    refine r_iconst dX0_answer_135 ci_2 ?_
    refine r_imul dX0_answer_136 ?_
    exact r_iret dX0_answer_137 rfl rfl
  refine r_by (fun e6 => ?_) (fun e6 => ?_)
  · refine r_look dX0_answer_1 (by decide) (off := 137) (by rw [e6]; rfl) (tgt := 138) (by decide) ?_
    refine r_aload_n dX0_answer_138 rfl ?_
    refine r_iconst dX0_answer_139 ci_0 ?_
    refine r_iconst dX0_answer_140 ci_1 ?_
    refine r_iload_n dX0_answer_141 rfl ?_
    refine r_iload_n dX0_answer_142 rfl ?_
    refine u_X0_run (hq s0 0 1 x2 x3) dX0_answer_143 ml_X0_33 (Nat.le_of_ble_eq_true rfl) (fits_m (by omega) (by decide)) room_m (fun q7 => ?_)
    refine r_bipush dX0_answer_146 cb_6 ?_
    refine r_ixor dX0_answer_148 ?_
    exact r_iret dX0_answer_149 rfl rfl
  refine r_by (fun e8 => ?_) (fun e8 => ?_)
  · refine r_look dX0_answer_1 (by decide) (off := 149) (by rw [e8]; rfl) (tgt := 150) (by decide) ?_
    refine r_aload_n dX0_answer_150 rfl ?_
    refine r_iconst dX0_answer_151 ci_0 ?_
    refine r_iconst dX0_answer_152 ci_0 ?_
    refine r_iload_n dX0_answer_153 rfl ?_
    refine r_iconst dX0_answer_154 ci_3 ?_
    refine r_imul dX0_answer_155 ?_
    refine r_iload_n dX0_answer_156 rfl ?_
    refine u_X0_run (hq s0 0 0 (x2 * 3) x3) dX0_answer_157 ml_X0_33 (Nat.le_of_ble_eq_true rfl) (fits_m (by omega) (by decide)) room_m (fun q9 => ?_)
    exact r_iret dX0_answer_160 rfl rfl
  refine r_by (fun e10 => ?_) (fun e10 => ?_)
  · refine r_look dX0_answer_1 (by decide) (off := 160) (by rw [e10]; rfl) (tgt := 161) (by decide) ?_
    refine r_aload_n dX0_answer_161 rfl ?_
    refine r_iconst dX0_answer_162 ci_0 ?_
    refine r_iconst dX0_answer_163 ci_2 ?_
    refine r_iload_n dX0_answer_164 rfl ?_
    refine r_iload_n dX0_answer_165 rfl ?_
    refine u_X0_run (hq s0 0 2 x2 x3) dX0_answer_166 ml_X0_33 (Nat.le_of_ble_eq_true rfl) (fits_m (by omega) (by decide)) room_m (fun q11 => ?_)
    refine r_aload_n dX0_answer_169 rfl ?_
    refine r_aload_n dX0_answer_170 rfl ?_
    refine gf_X0_19 rfl dX0_answer_171 ?_
    refine r_iconst dX0_answer_174 ci_1 ?_
    refine r_iconst dX0_answer_175 ci_1 ?_
    refine r_iload_n dX0_answer_176 rfl ?_
    refine u_X0_run (hq q11.2 (q11.2.1 0 2 0) 1 1 x3) dX0_answer_177 ml_X0_33 (Nat.le_of_ble_eq_true rfl) (fits_m (by omega) (by decide)) room_m (fun q12 => ?_)
    refine r_iadd dX0_answer_180 ?_
    exact r_iret dX0_answer_181 rfl rfl
  refine r_by (fun e13 => ?_) (fun e13 => ?_)
  · refine r_look dX0_answer_1 (by decide) (off := 181) (by rw [e13]; rfl) (tgt := 182) (by decide) ?_
    refine r_aload_n dX0_answer_182 rfl ?_
    refine r_iconst dX0_answer_183 ci_1 ?_
    refine r_iconst dX0_answer_184 ci_0 ?_
    refine r_iload_n dX0_answer_185 rfl ?_
    refine r_iload_n dX0_answer_186 rfl ?_
    refine u_X0_run (hq s0 1 0 x2 x3) dX0_answer_187 ml_X0_33 (Nat.le_of_ble_eq_true rfl) (fits_m (by omega) (by decide)) room_m (fun q14 => ?_)
    refine r_ineg dX0_answer_190 ?_
    exact r_iret dX0_answer_191 rfl rfl
  refine r_by (fun e15 => ?_) (fun e15 => ?_)
  · refine r_look dX0_answer_1 (by decide) (off := 191) (by rw [e15]; rfl) (tgt := 192) (by decide) ?_
    refine r_aload_n dX0_answer_192 rfl ?_
    refine r_iconst dX0_answer_193 ci_1 ?_
    refine r_iconst dX0_answer_194 ci_1 ?_
    refine r_iload_n dX0_answer_195 rfl ?_
    refine r_iconst dX0_answer_196 ci_1 ?_
    refine r_iadd dX0_answer_197 ?_
    refine r_iload_n dX0_answer_198 rfl ?_
    refine u_X0_run (hq s0 1 1 (x2 + 1) x3) dX0_answer_199 ml_X0_33 (Nat.le_of_ble_eq_true rfl) (fits_m (by omega) (by decide)) room_m (fun q16 => ?_)
    exact r_iret dX0_answer_202 rfl rfl
  refine r_by (fun e17 => ?_) (fun e17 => ?_)
  · refine r_look dX0_answer_1 (by decide) (off := 202) (by rw [e17]; rfl) (tgt := 203) (by decide) ?_
    refine r_aload_n dX0_answer_203 rfl ?_
    refine r_iconst dX0_answer_204 ci_2 ?_
    refine r_iconst dX0_answer_205 ci_2 ?_
    refine r_iload_n dX0_answer_206 rfl ?_
    refine r_aload_n dX0_answer_207 rfl ?_
    refine gf_X0_22 rfl dX0_answer_208 ?_
    refine r_isub dX0_answer_211 ?_
    refine r_iload_n dX0_answer_212 rfl ?_
    refine u_X0_run (hq s0 2 2 (x2 - (s0.1 0 3 0)) x3) dX0_answer_213 ml_X0_33 (Nat.le_of_ble_eq_true rfl) (fits_m (by omega) (by decide)) room_m (fun q18 => ?_)
    exact r_iret dX0_answer_216 rfl rfl
  refine r_by (fun e19 => ?_) (fun e19 => ?_)
  · refine r_look dX0_answer_1 (by decide) (off := 216) (by rw [e19]; rfl) (tgt := 217) (by decide) ?_
    refine r_aload_n dX0_answer_217 rfl ?_
    refine r_iconst dX0_answer_218 ci_3 ?_
    refine r_iconst dX0_answer_219 ci_1 ?_
    refine r_iload_n dX0_answer_220 rfl ?_
    refine r_iload_n dX0_answer_221 rfl ?_
    refine u_X0_run (hq s0 3 1 x2 x3) dX0_answer_222 ml_X0_33 (Nat.le_of_ble_eq_true rfl) (fits_m (by omega) (by decide)) room_m (fun q20 => ?_)
    refine r_aload_n dX0_answer_225 rfl ?_
    refine r_iconst dX0_answer_226 ci_3 ?_
    refine r_iconst dX0_answer_227 ci_0 ?_
    refine r_iconst dX0_answer_228 ci_2 ?_
    refine r_iload_n dX0_answer_229 rfl ?_
    refine u_X0_run (hq q20.2 3 0 2 x3) dX0_answer_230 ml_X0_33 (Nat.le_of_ble_eq_true rfl) (fits_m (by omega) (by decide)) room_m (fun q21 => ?_)
    refine r_iadd dX0_answer_233 ?_
    exact r_iret dX0_answer_234 rfl rfl
  refine r_by (fun e22 => ?_) (fun e22 => ?_)
  · refine r_look dX0_answer_1 (by decide) (off := 234) (by rw [e22]; rfl) (tgt := 235) (by decide) ?_
    refine r_aload_n dX0_answer_235 rfl ?_
    refine r_iconst dX0_answer_236 ci_3 ?_
    refine r_iconst dX0_answer_237 ci_0 ?_
    refine r_iload_n dX0_answer_238 rfl ?_
    refine r_iload_n dX0_answer_239 rfl ?_
    refine u_X0_run (hq s0 3 0 x2 x3) dX0_answer_240 ml_X0_33 (Nat.le_of_ble_eq_true rfl) (fits_m (by omega) (by decide)) room_m (fun q23 => ?_)
    refine r_aload_n dX0_answer_243 rfl ?_
    refine gf_X0_25 rfl dX0_answer_244 ?_
    refine r_ixor dX0_answer_247 ?_
    exact r_iret dX0_answer_248 rfl rfl
  refine r_look dX0_answer_1 (by decide) (off := 248) ((lv_osw e1 (by decide)).trans ((lv_osw e2 (by decide)).trans ((lv_osw e4 (by decide)).trans ((lv_osw e6 (by decide)).trans ((lv_osw e8 (by decide)).trans ((lv_osw e10 (by decide)).trans ((lv_osw e13 (by decide)).trans ((lv_osw e15 (by decide)).trans ((lv_osw e17 (by decide)).trans ((lv_osw e19 (by decide)).trans ((lv_osw e22 (by decide)).trans (rfl)))))))))))) (tgt := 249) (by decide) ?_
  refine r_iconst dX0_answer_249 ci_0 ?_
  exact r_iret dX0_answer_250 rfl rfl
theorem ok_X0_answer (g : Gm) (D0 : Nat) (hD0 : 0 ≤ D0) (q : Sto → Int32 → Int32 → Int32 → Int32 → Option (Int32 × Sto)) (hq : ∀ (s0 : Sto) (x1 : Int32) (x2 : Int32) (x3 : Int32) (x4 : Int32), Ok g yX0_run kX0_run D0 [.ref (g.1 0 0 0), .int x1, .int x2, .int x3, .int x4] s0 cvIw (q s0 x1 x2 x3 x4)) (s0 : Sto) (x1 : Int32) (x2 : Int32) (x3 : Int32) : Ok g yX0_answer kX0_answer (D0 + 1) [.ref ((Em g (D0 + 1)).1.1 0 0 0), .int x1, .int x2, .int x3] s0 cvIw (f_X0_answer q s0 x1 x2 x3) := Ok.of (by decide) rfl (Nat.le_of_ble_eq_true rfl) (lv := [some (.ref ((Em g (D0 + 1)).1.1 0 0 0)), some (.int x1), some (.int x2), some (.int x3)]) rfl (s_X0_answer g D0 hD0 q hq s0 x1 x2 x3)
theorem u_X0_answer {α : Type} {cv : α → Res} {E : EE} {K : KK} {pc npc idx d : Nat} {lv : List (Option Value)} {st : List Value} {σ : Sto} {oc : Option (Int32 × Sto)} {kf : (Int32 × Sto) → Option α} {x1 : Int32} {x2 : Int32} {x3 : Int32} (hOk : Ok E.1 yX0_answer kX0_answer d [.ref (E.1.1 0 0 0), .int x1, .int x2, .int x3] σ cvIw oc) (hd : Dc K pc (.invokevirtual idx) 3 npc) (hlk : Cond.methodLink K.2.1 idx yX0_answer ∈ lw_good) (hw : (st.map fun v => v.category).sum ≤ 8) (hfit : fits_ E d 4) (hrm : room_ok E) (kk : ∀ q : Int32 × Sto, Rf cv E K npc lv (.int q.1 :: st) q.2 (kf q)) : Rf cv E K pc lv (.int x3 :: .int x2 :: .int x1 :: .ref (E.1.1 0 0 0) :: st) σ (oc.bind kf) := c_V (n := 3) (as := [.int x1, .int x2, .int x3]) (c0 := 0) (i := 0) (CC := "ThawGives$Acts") (T := TX0) (N := 5) hd hOk hlk wi_X0_answer wv_X0_answer wn_X0 wc_X0_answer rfl (by decide) (by decide) ⟨by decide, by decide, by decide⟩ rfl rfl hw hfit hrm (fun b _ => kk b)
theorem un_X0_answer {α : Type} {cv : α → Res} {E : EE} {K : KK} {pc npc idx d : Nat} {lv : List (Option Value)} {st : List Value} {σ : Sto} {oc : Option (Int32 × Sto)} {kf : (Int32 × Sto) → Option α} {x1 : Int32} {x2 : Int32} {x3 : Int32} (hOk : Ok E.1 yX0_answer kX0_answer d [.ref (E.1.1 0 0 0), .int x1, .int x2, .int x3] σ cvIw oc) (hd : Dc K pc (.invokevirtual idx) 3 npc) (hlk : Cond.methodLinkNest K.2.1 idx yX0_answer "ThawGives" ∈ lw_nest) (hw : (st.map fun v => v.category).sum ≤ 8) (hfit : fits_ E d 4) (hrm : room_ok E) (kk : ∀ q : Int32 × Sto, Rf cv E K npc lv (.int q.1 :: st) q.2 (kf q)) : Rf cv E K pc lv (.int x3 :: .int x2 :: .int x1 :: .ref (E.1.1 0 0 0) :: st) σ (oc.bind kf) := c_N (n := 3) (as := [.int x1, .int x2, .int x3]) (c0 := 0) (i := 0) (CC := "ThawGives$Acts") (T := TX0) (N := 5) hd hOk hlk wi_X0_answer wv_X0_answer wn_X0 wc_X0_answer rfl (by decide) (by decide) ⟨by decide, by decide, by decide⟩ rfl rfl hw hfit hrm (fun b _ => kk b)
def f_X0_run_L58 (q : Sto → Int32 → Int32 → Int32 → Int32 → Option (Int32 × Sto)) (s0 : Sto) (x3 : Int32) (x4 : Int32) (x6 : Int32) : Option (Int32 × Sto) :=
  nm (sF s0 0 1 0 ((s0.1 0 1 0) + 1)) fun s9 => (f_X0_answer q s9 x6 x3 (x4 + 1)).bind fun q10 => some (q10.1, q10.2)
def f_X0_run_K (q : Sto → Int32 → Int32 → Int32 → Int32 → Option (Int32 × Sto)) (s0 : Sto) (x1 : Int32) (x2 : Int32) (x3 : Int32) (x4 : Int32) : Option (Int32 × Sto) :=
  nmI (((3 * x1) + x2)) fun v1 => (if (40 : Int32) < x4 then
    some (0, s0)
  else
    (if v1 < 0 then
      some (0, s0)
    else
      (if v1 < 21 then
        (if 0 ≤ v1 ∧ v1 < 21 then nmI (((sarr 1).getD (v1).toNatClampNeg 0)) fun v7 => (if (20 : Int32) ≤ (s0.1 0 1 0) then
          f_X0_run_L58 q s0 x3 x4 v7
        else
          (if 0 ≤ (s0.1 0 1 0) ∧ (s0.1 0 1 0) < 20 then nm (sA s0 0 0 0 (upd (s0.2.1 0 0 0) (Int32.toNatClampNeg (s0.1 0 1 0)) v7)) fun s13 => f_X0_run_L58 q s13 x3 x4 v7 else none)) else none)
      else
        some (0, s0))))
set_option maxRecDepth 100000 in
theorem s_X0_run_L58 (g : Gm) (D0 : Nat) (hD0 : 0 ≤ D0) (q : Sto → Int32 → Int32 → Int32 → Int32 → Option (Int32 × Sto)) (hq : ∀ (s0 : Sto) (x1 : Int32) (x2 : Int32) (x3 : Int32) (x4 : Int32), Ok g yX0_run kX0_run D0 [.ref (g.1 0 0 0), .int x1, .int x2, .int x3, .int x4] s0 cvIw (q s0 x1 x2 x3 x4)) (s0 : Sto) (x3 : Int32) (x4 : Int32) (x6 : Int32) : Rf cvIw (Em g (D0 + 2)) kX0_run 58 [some (.ref ((Em g (D0 + 2)).1.1 0 0 0)), none, none, some (.int x3), some (.int x4), none, some (.int x6)] [] s0 (f_X0_run_L58 q s0 x3 x4 x6) := by
  unfold f_X0_run_L58
  refine r_aload_n dX0_run_58 rfl ?_
  refine r_dup dX0_run_59 rfl ?_
  refine gf_X0_15 rfl dX0_run_60 ?_
  refine r_iconst dX0_run_63 ci_1 ?_
  refine r_iadd dX0_run_64 ?_
  refine pf_X0_15 rfl dX0_run_65 (fun s9 => ?_)
  refine r_aload_n dX0_run_68 rfl ?_
  refine r_iload dX0_run_69 rfl ?_
  refine r_iload_n dX0_run_71 rfl ?_
  refine r_iload dX0_run_72 rfl ?_
  refine r_iconst dX0_run_74 ci_1 ?_
  refine r_iadd dX0_run_75 ?_
  refine u_X0_answer (ok_X0_answer g D0 hD0 q hq s9 x6 x3 (x4 + 1)) dX0_run_76 ml_X0_40 (Nat.le_of_ble_eq_true rfl) (fits_m (by omega) (by decide)) room_m (fun q10 => ?_)
  exact r_iret dX0_run_79 rfl rfl
set_option maxRecDepth 100000 in
theorem s_X0_run (g : Gm) (D0 : Nat) (hD0 : 0 ≤ D0) (q : Sto → Int32 → Int32 → Int32 → Int32 → Option (Int32 × Sto)) (hq : ∀ (s0 : Sto) (x1 : Int32) (x2 : Int32) (x3 : Int32) (x4 : Int32), Ok g yX0_run kX0_run D0 [.ref (g.1 0 0 0), .int x1, .int x2, .int x3, .int x4] s0 cvIw (q s0 x1 x2 x3 x4)) (s0 : Sto) (x1 : Int32) (x2 : Int32) (x3 : Int32) (x4 : Int32) : Rf cvIw (Em g (D0 + 2)) kX0_run 0 [some (.ref ((Em g (D0 + 2)).1.1 0 0 0)), some (.int x1), some (.int x2), some (.int x3), some (.int x4), none, none] [] s0 (f_X0_run_K q s0 x1 x2 x3 x4) := by
  unfold f_X0_run_K
  refine r_iconst dX0_run_0 ci_3 ?_
  refine r_iload_n dX0_run_1 rfl ?_
  refine r_imul dX0_run_2 ?_
  refine r_iload_n dX0_run_3 rfl ?_
  refine r_iadd dX0_run_4 ?_
  refine r_istoreN dX0_run_5 rfl (lt_b rfl) (lt_b rfl) (fun v1 => ?_)
  refine r_iload dX0_run_7 rfl ?_
  refine r_bipush dX0_run_9 cb_40 ?_
  refine r_icgt dX0_run_11 (tgt := 28) (by decide) (fun c2 => ?_) (fun c2 => ?_)
  · refine r_iconst dX0_run_28 ci_0 ?_
    exact r_iret dX0_run_29 rfl rfl
  · refine r_iload dX0_run_14 rfl ?_
    refine r_iflt dX0_run_16 (tgt := 28) (by decide) (fun c3 => ?_) (fun c3 => ?_)
    · refine r_iconst dX0_run_28 ci_0 ?_
      exact r_iret dX0_run_29 rfl rfl
    · refine r_iload dX0_run_19 rfl ?_
      refine g_stat1 dX0_run_21 fl_X0_37 ?_
      refine sl_1 dX0_run_24 ?_
      refine r_iclt dX0_run_25 (tgt := 30) (by decide) (fun c4 => ?_) (fun c4 => ?_)
      · refine g_stat1 dX0_run_30 fl_X0_37 ?_
        refine r_iload dX0_run_33 rfl ?_
        refine sa_1 dX0_run_35 (fun hg5 hj6 => ?_)
        refine r_istoreN dX0_run_36 rfl (lt_b rfl) (lt_b rfl) (fun v7 => ?_)
        refine r_aload_n dX0_run_38 rfl ?_
        refine gf_X0_15 rfl dX0_run_39 ?_
        refine r_bipush dX0_run_42 cb_20 ?_
        refine r_icge dX0_run_44 (tgt := 58) (by decide) (fun c8 => ?_) (fun c8 => ?_)
        · exact r_mask [true, false, false, true, true, false, true] (s_X0_run_L58 g D0 hD0 q hq s0 x3 x4 v7)
        · refine r_aload_n dX0_run_47 rfl ?_
          refine gf_X0_11 rfl dX0_run_48 ?_
          refine r_aload_n dX0_run_51 rfl ?_
          refine gf_X0_15 rfl dX0_run_52 ?_
          refine r_iload dX0_run_55 rfl ?_
          refine as_0_0 dX0_run_57 (fun hg11 hj12 s13 => ?_)
          exact r_mask [true, false, false, true, true, false, true] (s_X0_run_L58 g D0 hD0 q hq s13 x3 x4 v7)
      · refine r_iconst dX0_run_28 ci_0 ?_
        exact r_iret dX0_run_29 rfl rfl
theorem ok_X0_run_K (g : Gm) (D0 : Nat) (hD0 : 0 ≤ D0) (q : Sto → Int32 → Int32 → Int32 → Int32 → Option (Int32 × Sto)) (hq : ∀ (s0 : Sto) (x1 : Int32) (x2 : Int32) (x3 : Int32) (x4 : Int32), Ok g yX0_run kX0_run D0 [.ref (g.1 0 0 0), .int x1, .int x2, .int x3, .int x4] s0 cvIw (q s0 x1 x2 x3 x4)) (s0 : Sto) (x1 : Int32) (x2 : Int32) (x3 : Int32) (x4 : Int32) : Ok g yX0_run kX0_run (D0 + 2) [.ref ((Em g (D0 + 2)).1.1 0 0 0), .int x1, .int x2, .int x3, .int x4] s0 cvIw (f_X0_run_K q s0 x1 x2 x3 x4) := Ok.of (by decide) rfl (Nat.le_of_ble_eq_true rfl) (lv := [some (.ref ((Em g (D0 + 2)).1.1 0 0 0)), some (.int x1), some (.int x2), some (.int x3), some (.int x4), none, none]) rfl (s_X0_run g D0 hD0 q hq s0 x1 x2 x3 x4)
def f_X0_run : Nat → Sto → Int32 → Int32 → Int32 → Int32 → Option (Int32 × Sto)
  | 0 => fun _ _ _ _ _ => none
  | n + 1 => f_X0_run_K (f_X0_run n)
theorem ok_X0_run (g : Gm) : ∀ (n : Nat) (s0 : Sto) (x1 : Int32) (x2 : Int32) (x3 : Int32) (x4 : Int32), Ok g yX0_run kX0_run (0 + 2 * n) [.ref (g.1 0 0 0), .int x1, .int x2, .int x3, .int x4] s0 cvIw (f_X0_run n s0 x1 x2 x3 x4)
  | 0, _, _, _, _, _ => fun a h => nomatch h
  | n + 1, s0, x1, x2, x3, x4 => ok_X0_run_K g (0 + 2 * n) (by omega) (f_X0_run n) (ok_X0_run g n) s0 x1 x2 x3 x4
def f_X0_start (s0 : Sto) (i1 : Nat) (x2 : Int32) (x3 : Int32) : Option (Int32 × Sto) :=
  nm (sF s0 0 2 0 (s0.1 5 1 i1)) fun s1 => nm (sF s1 0 3 0 (s1.1 5 0 i1)) fun s2 => nm (sF s2 0 4 0 (s2.1 5 2 i1)) fun s3 => (f_X0_run 12 s3 (s3.1 0 2 0) x2 x3 0).bind fun q4 => some (q4.1, q4.2)
set_option maxRecDepth 100000 in
theorem s_X0_start (g : Gm) (s0 : Sto) (i1 : Nat) (x2 : Int32) (x3 : Int32) (hi1 : i1 < 13) : Rf cvIw (Em g 25) kX0_start 0 [some (.ref ((Em g 25).1.1 0 0 0)), some (.ref ((Em g 25).1.1 5 0 i1)), some (.int x2), some (.int x3)] [] s0 (f_X0_start s0 i1 x2 x3) := by
  unfold f_X0_start
  refine r_aload_n dX0_start_0 rfl ?_
  refine r_aload_n dX0_start_1 rfl ?_
  refine gf_X0_28 rfl dX0_start_2 hi1 ?_
  refine pf_X0_19 rfl dX0_start_5 (fun s1 => ?_)
  refine r_aload_n dX0_start_8 rfl ?_
  refine r_aload_n dX0_start_9 rfl ?_
  refine gf_X0_31 rfl dX0_start_10 hi1 ?_
  refine pf_X0_22 rfl dX0_start_13 (fun s2 => ?_)
  refine r_aload_n dX0_start_16 rfl ?_
  refine r_aload_n dX0_start_17 rfl ?_
  refine gf_X0_32 rfl dX0_start_18 hi1 ?_
  refine pf_X0_25 rfl dX0_start_21 (fun s3 => ?_)
  refine r_aload_n dX0_start_24 rfl ?_
  refine r_aload_n dX0_start_25 rfl ?_
  refine gf_X0_19 rfl dX0_start_26 ?_
  refine r_iload_n dX0_start_29 rfl ?_
  refine r_iload_n dX0_start_30 rfl ?_
  refine r_iconst dX0_start_31 ci_0 ?_
  refine u_X0_run (ok_X0_run g 12 s3 (s3.1 0 2 0) x2 x3 0) dX0_start_32 ml_X0_33 (Nat.le_of_ble_eq_true rfl) (fits_m (by decide) (by decide)) room_m (fun q4 => ?_)
  exact r_iret dX0_start_35 rfl rfl
theorem ok_X0_start (g : Gm) (s0 : Sto) (i1 : Nat) (x2 : Int32) (x3 : Int32) (hi1 : i1 < 13) : Ok g yX0_start kX0_start 25 [.ref ((Em g 25).1.1 0 0 0), .ref ((Em g 25).1.1 5 0 i1), .int x2, .int x3] s0 cvIw (f_X0_start s0 i1 x2 x3) := Ok.of (by decide) rfl (Nat.le_of_ble_eq_true rfl) (lv := [some (.ref ((Em g 25).1.1 0 0 0)), some (.ref ((Em g 25).1.1 5 0 i1)), some (.int x2), some (.int x3)]) rfl (s_X0_start g s0 i1 x2 x3 hi1)
theorem u_X0_start {α : Type} {cv : α → Res} {E : EE} {K : KK} {pc npc idx d : Nat} {lv : List (Option Value)} {st : List Value} {σ : Sto} {oc : Option (Int32 × Sto)} {kf : (Int32 × Sto) → Option α} {i1 : Nat} {x2 : Int32} {x3 : Int32} (hOk : Ok E.1 yX0_start kX0_start d [.ref (E.1.1 0 0 0), .ref (E.1.1 5 0 i1), .int x2, .int x3] σ cvIw oc) (hd : Dc K pc (.invokevirtual idx) 3 npc) (hlk : Cond.methodLink K.2.1 idx yX0_start ∈ lw_good) (hw : (st.map fun v => v.category).sum ≤ 8) (hfit : fits_ E d 4) (hrm : room_ok E) (kk : ∀ q : Int32 × Sto, Rf cv E K npc lv (.int q.1 :: st) q.2 (kf q)) : Rf cv E K pc lv (.int x3 :: .int x2 :: .ref (E.1.1 5 0 i1) :: .ref (E.1.1 0 0 0) :: st) σ (oc.bind kf) := c_V (n := 3) (as := [.ref (E.1.1 5 0 i1), .int x2, .int x3]) (c0 := 0) (i := 0) (CC := "ThawGives$Acts") (T := TX0) (N := 5) hd hOk hlk wi_X0_start wv_X0_start wn_X0 wc_X0_start rfl (by decide) (by decide) ⟨by decide, by decide, by decide⟩ rfl rfl hw hfit hrm (fun b _ => kk b)
theorem un_X0_start {α : Type} {cv : α → Res} {E : EE} {K : KK} {pc npc idx d : Nat} {lv : List (Option Value)} {st : List Value} {σ : Sto} {oc : Option (Int32 × Sto)} {kf : (Int32 × Sto) → Option α} {i1 : Nat} {x2 : Int32} {x3 : Int32} (hOk : Ok E.1 yX0_start kX0_start d [.ref (E.1.1 0 0 0), .ref (E.1.1 5 0 i1), .int x2, .int x3] σ cvIw oc) (hd : Dc K pc (.invokevirtual idx) 3 npc) (hlk : Cond.methodLinkNest K.2.1 idx yX0_start "ThawGives" ∈ lw_nest) (hw : (st.map fun v => v.category).sum ≤ 8) (hfit : fits_ E d 4) (hrm : room_ok E) (kk : ∀ q : Int32 × Sto, Rf cv E K npc lv (.int q.1 :: st) q.2 (kf q)) : Rf cv E K pc lv (.int x3 :: .int x2 :: .ref (E.1.1 5 0 i1) :: .ref (E.1.1 0 0 0) :: st) σ (oc.bind kf) := c_N (n := 3) (as := [.ref (E.1.1 5 0 i1), .int x2, .int x3]) (c0 := 0) (i := 0) (CC := "ThawGives$Acts") (T := TX0) (N := 5) hd hOk hlk wi_X0_start wv_X0_start wn_X0 wc_X0_start rfl (by decide) (by decide) ⟨by decide, by decide, by decide⟩ rfl rfl hw hfit hrm (fun b _ => kk b)
def f_X7_act (s0 : Sto) (x1 : Int32) (x2 : Int32) (x3 : Int32) : Option (Int32 × Sto) :=
  (f_X0_forget s0).bind fun q1 => (f_X7_isThing q1 x1).bind fun q2 => (if q2 = 0 then
    some (0, q1)
  else
    (f_X7_isUpTo x2 2).bind fun q4 => (if q4 = 0 then
      some (0, q1)
    else
      (if 0 ≤ x1 ∧ x1 < 6 then (f_X0_start q1 (6 * 0 + Int32.toNatClampNeg x1) x2 x3).bind fun q8 => some (q8.1, q8.2) else none)))
set_option maxRecDepth 100000 in
theorem s_X7_act (g : Gm) (s0 : Sto) (x1 : Int32) (x2 : Int32) (x3 : Int32) : Rf cvIw (Em g 26) kX7_act 0 [some (.ref ((Em g 26).1.1 7 0 0)), some (.int x1), some (.int x2), some (.int x3)] [] s0 (f_X7_act s0 x1 x2 x3) := by
  unfold f_X7_act
  refine r_aload_n dX7_act_0 rfl ?_
  refine gf_X7_63 rfl dX7_act_1 ?_
  refine un_X0_forget (ok_X0_forget g s0) dX7_act_4 mn_X7_232 (Nat.le_of_ble_eq_true rfl) (fits_m (by decide) (by decide)) room_m (fun q1 => ?_)
  refine r_aload_n dX7_act_7 rfl ?_
  refine r_iload_n dX7_act_8 rfl ?_
  refine u_X7_isThing (ok_X7_isThing g q1 x1) dX7_act_9 ml_X7_89 (Nat.le_of_ble_eq_true rfl) (fits_m (by decide) (by decide)) room_m (fun q2 => ?_)
  refine r_ifeq dX7_act_12 (tgt := 23) (by decide) (fun c3 => ?_) (fun c3 => ?_)
  · refine r_iconst dX7_act_23 ci_0 ?_
    exact r_iret dX7_act_24 rfl rfl
  · refine r_iload_n dX7_act_15 rfl ?_
    refine r_iconst dX7_act_16 ci_2 ?_
    refine u_X7_isUpTo (ok_X7_isUpTo g q1 x2 2) dX7_act_17 ml_X7_74 (Nat.le_of_ble_eq_true rfl) (fits_m (by decide) (by decide)) room_m (fun q4 => ?_)
    refine r_ifne dX7_act_20 (tgt := 25) (by decide) (fun c5 => ?_) (fun c5 => ?_)
    · refine r_iconst dX7_act_23 ci_0 ?_
      exact r_iret dX7_act_24 rfl rfl
    · refine r_aload_n dX7_act_25 rfl ?_
      refine gf_X7_63 rfl dX7_act_26 ?_
      refine r_aload_n dX7_act_29 rfl ?_
      refine gf_X7_14 rfl dX7_act_30 ?_
      refine gf_X7_81 rfl dX7_act_33 (by decide) ?_
      refine r_iload_n dX7_act_36 rfl ?_
      refine al_6_0 dX7_act_37 (by decide) (fun hg6 hj7 => ?_)
      refine r_iload_n dX7_act_38 rfl ?_
      refine r_iload_n dX7_act_39 rfl ?_
      refine un_X0_start (ok_X0_start g q1 (6 * 0 + Int32.toNatClampNeg x1) x2 x3 (by omega)) dX7_act_40 mn_X7_235 (Nat.le_of_ble_eq_true rfl) (fits_m (by decide) (by decide)) room_m (fun q8 => ?_)
      exact r_iret dX7_act_43 rfl rfl
theorem ok_X7_act (g : Gm) (s0 : Sto) (x1 : Int32) (x2 : Int32) (x3 : Int32) : Ok g yX7_act kX7_act 26 [.ref ((Em g 26).1.1 7 0 0), .int x1, .int x2, .int x3] s0 cvIw (f_X7_act s0 x1 x2 x3) := Ok.of (by decide) rfl (Nat.le_of_ble_eq_true rfl) (lv := [some (.ref ((Em g 26).1.1 7 0 0)), some (.int x1), some (.int x2), some (.int x3)]) rfl (s_X7_act g s0 x1 x2 x3)
theorem u_X7_act {α : Type} {cv : α → Res} {E : EE} {K : KK} {pc npc idx d : Nat} {lv : List (Option Value)} {st : List Value} {σ : Sto} {oc : Option (Int32 × Sto)} {kf : (Int32 × Sto) → Option α} {x1 : Int32} {x2 : Int32} {x3 : Int32} (hOk : Ok E.1 yX7_act kX7_act d [.ref (E.1.1 7 0 0), .int x1, .int x2, .int x3] σ cvIw oc) (hd : Dc K pc (.invokevirtual idx) 3 npc) (hlk : Cond.methodLink K.2.1 idx yX7_act ∈ lw_good) (hw : (st.map fun v => v.category).sum ≤ 8) (hfit : fits_ E d 4) (hrm : room_ok E) (kk : ∀ q : Int32 × Sto, Rf cv E K npc lv (.int q.1 :: st) q.2 (kf q)) : Rf cv E K pc lv (.int x3 :: .int x2 :: .int x1 :: .ref (E.1.1 7 0 0) :: st) σ (oc.bind kf) := c_V (n := 3) (as := [.int x1, .int x2, .int x3]) (c0 := 7) (i := 0) (CC := "ThawGives") (T := TX7) (N := 11) hd hOk hlk wi_X7_act wv_X7_act wn_X7 wc_X7_act rfl (by decide) (by decide) ⟨by decide, by decide, by decide⟩ rfl rfl hw hfit hrm (fun b _ => kk b)
def f_X7_trace (s0 : Sto) (x1 : Int32) : Option (Int32) :=
  (if x1 < 0 then
    some (-1 : Int32)
  else
    (if (s0.1 0 1 0) ≤ x1 then
      some (-1 : Int32)
    else
      (if x1 < 20 then
        (if 0 ≤ x1 ∧ x1 < 20 then some (s0.2.1 0 0 0 (Int32.toNatClampNeg x1)) else none)
      else
        some (-1 : Int32))))
set_option maxRecDepth 100000 in
theorem s_X7_trace (g : Gm) (s0 : Sto) (x1 : Int32) : Rf (cvI s0) (Em g 0) kX7_trace 0 [some (.ref ((Em g 0).1.1 7 0 0)), some (.int x1)] [] s0 (f_X7_trace s0 x1) := by
  unfold f_X7_trace
  refine r_iload_n dX7_trace_0 rfl ?_
  refine r_iflt dX7_trace_1 (tgt := 21) (by decide) (fun c1 => ?_) (fun c1 => ?_)
  · refine r_iconst dX7_trace_21 ci_m1 ?_
    exact r_iret dX7_trace_22 rfl rfl
  · refine r_iload_n dX7_trace_4 rfl ?_
    refine r_aload_n dX7_trace_5 rfl ?_
    refine gf_X7_63 rfl dX7_trace_6 ?_
    refine gf_X7_239 rfl dX7_trace_9 ?_
    refine r_icge dX7_trace_12 (tgt := 21) (by decide) (fun c2 => ?_) (fun c2 => ?_)
    · refine r_iconst dX7_trace_21 ci_m1 ?_
      exact r_iret dX7_trace_22 rfl rfl
    · refine r_iload_n dX7_trace_15 rfl ?_
      refine r_bipush dX7_trace_16 cb_20 ?_
      refine r_iclt dX7_trace_18 (tgt := 23) (by decide) (fun c3 => ?_) (fun c3 => ?_)
      · refine r_aload_n dX7_trace_23 rfl ?_
        refine gf_X7_63 rfl dX7_trace_24 ?_
        refine gf_X7_242 rfl dX7_trace_27 ?_
        refine r_iload_n dX7_trace_30 rfl ?_
        refine al_0_0 dX7_trace_31 (fun hg4 hj5 => ?_)
        exact r_iret dX7_trace_32 rfl rfl
      · refine r_iconst dX7_trace_21 ci_m1 ?_
        exact r_iret dX7_trace_22 rfl rfl
theorem ok_X7_trace (g : Gm) (s0 : Sto) (x1 : Int32) : Ok g yX7_trace kX7_trace 0 [.ref ((Em g 0).1.1 7 0 0), .int x1] s0 (cvI s0) (f_X7_trace s0 x1) := Ok.of (by decide) rfl (Nat.le_of_ble_eq_true rfl) (lv := [some (.ref ((Em g 0).1.1 7 0 0)), some (.int x1)]) rfl (s_X7_trace g s0 x1)
theorem u_X7_trace {α : Type} {cv : α → Res} {E : EE} {K : KK} {pc npc idx d : Nat} {lv : List (Option Value)} {st : List Value} {σ : Sto} {oc : Option (Int32)} {kf : Int32 → Option α} {x1 : Int32} (hOk : Ok E.1 yX7_trace kX7_trace d [.ref (E.1.1 7 0 0), .int x1] σ (cvI σ) oc) (hd : Dc K pc (.invokevirtual idx) 3 npc) (hlk : Cond.methodLink K.2.1 idx yX7_trace ∈ lw_good) (hw : (st.map fun v => v.category).sum ≤ 8) (hfit : fits_ E d 2) (hrm : room_ok E) (kk : ∀ q : Int32, Rf cv E K npc lv (.int q :: st) σ (kf q)) : Rf cv E K pc lv (.int x1 :: .ref (E.1.1 7 0 0) :: st) σ (oc.bind kf) := c_V (n := 1) (as := [.int x1]) (c0 := 7) (i := 0) (CC := "ThawGives") (T := TX7) (N := 11) hd hOk hlk wi_X7_trace wv_X7_trace wn_X7 wc_X7_trace rfl (by decide) (by decide) ⟨by decide, by decide, by decide⟩ rfl rfl hw hfit hrm (fun b _ => kk b)
def f_X7_taken_L59 (s0 : Sto) (x3 : Int32) (y0 : Int32) : Option (Int32) :=
  (if y0 = 0 then
    some (-12 : Int32)
  else
    some x3)
def f_X7_taken_L54 (s0 : Sto) (x3 : Int32) : Option (Int32) :=
  f_X7_taken_L59 s0 x3 1
def f_X7_taken (s0 : Sto) (x1 : Int32) (x2 : Int32) : Option (Int32) :=
  (f_X7_isUpTo x2 6).bind fun q1 => (if q1 = 0 then
    some (-2 : Int32)
  else
    (f_X7_isThing s0 x1).bind fun q3 => (if q3 = 0 then
      some (-11 : Int32)
    else
      (if 0 ≤ x1 ∧ x1 < 6 then nmI ((s0.1 5 1 (6 * 0 + Int32.toNatClampNeg x1))) fun v7 => (if x2 = v7 then
        f_X7_taken_L54 s0 v7
      else
        (if x2 = 0 then
          f_X7_taken_L54 s0 v7
        else
          (if 0 ≤ v7 ∧ v7 < 7 then (if x2 = ((sarr 0).getD (v7).toNatClampNeg 0) then
            f_X7_taken_L54 s0 v7
          else
            f_X7_taken_L59 s0 v7 0) else none))) else none)))
set_option maxRecDepth 100000 in
theorem s_X7_taken_L59 (g : Gm) (s0 : Sto) (x3 : Int32) (y0 : Int32) : Rf (cvI s0) (Em g 1) kX7_taken 59 [none, none, none, some (.int x3), none] [.int y0] s0 (f_X7_taken_L59 s0 x3 y0) := by
  unfold f_X7_taken_L59
  refine r_istore dX7_taken_59 rfl (lt_b rfl) (lt_b rfl) ?_
  refine r_iload dX7_taken_61 rfl ?_
  refine r_ifeq dX7_taken_63 (tgt := 70) (by decide) (fun c9 => ?_) (fun c9 => ?_)
  · refine r_bipush dX7_taken_70 cb_m12 ?_
    exact r_iret dX7_taken_72 rfl rfl
  · refine r_iload_n dX7_taken_66 rfl ?_
    refine r_goto dX7_taken_67 (tgt := 72) (by decide) ?_
    exact r_iret dX7_taken_72 rfl rfl
set_option maxRecDepth 100000 in
theorem s_X7_taken_L54 (g : Gm) (s0 : Sto) (x3 : Int32) : Rf (cvI s0) (Em g 1) kX7_taken 54 [none, none, none, some (.int x3), none] [] s0 (f_X7_taken_L54 s0 x3) := by
  unfold f_X7_taken_L54
  refine r_iconst dX7_taken_54 ci_1 ?_
  refine r_goto dX7_taken_55 (tgt := 59) (by decide) ?_
  exact r_mask [false, false, false, true, false] (s_X7_taken_L59 g s0 x3 1)
set_option maxRecDepth 100000 in
theorem s_X7_taken (g : Gm) (s0 : Sto) (x1 : Int32) (x2 : Int32) : Rf (cvI s0) (Em g 1) kX7_taken 0 [some (.ref ((Em g 1).1.1 7 0 0)), some (.int x1), some (.int x2), none, none] [] s0 (f_X7_taken s0 x1 x2) := by
  unfold f_X7_taken
  refine r_iload_n dX7_taken_0 rfl ?_
  refine r_bipush dX7_taken_1 cb_6 ?_
  refine u_X7_isUpTo (ok_X7_isUpTo g s0 x2 6) dX7_taken_3 ml_X7_74 (Nat.le_of_ble_eq_true rfl) (fits_m (by decide) (by decide)) room_m (fun q1 => ?_)
  refine r_ifne dX7_taken_6 (tgt := 12) (by decide) (fun c2 => ?_) (fun c2 => ?_)
  · refine r_bipush dX7_taken_9 cb_m2 ?_
    exact r_iret dX7_taken_11 rfl rfl
  · refine r_aload_n dX7_taken_12 rfl ?_
    refine r_iload_n dX7_taken_13 rfl ?_
    refine u_X7_isThing (ok_X7_isThing g s0 x1) dX7_taken_14 ml_X7_89 (Nat.le_of_ble_eq_true rfl) (fits_m (by decide) (by decide)) room_m (fun q3 => ?_)
    refine r_ifne dX7_taken_17 (tgt := 23) (by decide) (fun c4 => ?_) (fun c4 => ?_)
    · refine r_bipush dX7_taken_20 cb_m11 ?_
      exact r_iret dX7_taken_22 rfl rfl
    · refine r_aload_n dX7_taken_23 rfl ?_
      refine gf_X7_14 rfl dX7_taken_24 ?_
      refine gf_X7_81 rfl dX7_taken_27 (by decide) ?_
      refine r_iload_n dX7_taken_30 rfl ?_
      refine al_6_0 dX7_taken_31 (by decide) (fun hg5 hj6 => ?_)
      refine gf_X7_93 rfl dX7_taken_32 (by omega) ?_
      refine r_istore_nN dX7_taken_35 rfl (lt_b rfl) (lt_b rfl) (fun v7 => ?_)
      refine r_iload_n dX7_taken_36 rfl ?_
      refine r_iload_n dX7_taken_37 rfl ?_
      refine r_iceq dX7_taken_38 (tgt := 54) (by decide) (fun c8 => ?_) (fun c8 => ?_)
      · exact r_mask [false, false, false, true, false] (s_X7_taken_L54 g s0 v7)
      · refine r_iload_n dX7_taken_41 rfl ?_
        refine r_ifeq dX7_taken_42 (tgt := 54) (by decide) (fun c10 => ?_) (fun c10 => ?_)
        · exact r_mask [false, false, false, true, false] (s_X7_taken_L54 g s0 v7)
        · refine r_iload_n dX7_taken_45 rfl ?_
          refine g_stat0 dX7_taken_46 fl_X7_245 ?_
          refine r_iload_n dX7_taken_49 rfl ?_
          refine sa_0 dX7_taken_50 (fun hg11 hj12 => ?_)
          refine r_icne dX7_taken_51 (tgt := 58) (by decide) (fun c13 => ?_) (fun c13 => ?_)
          · exact r_mask [false, false, false, true, false] (s_X7_taken_L54 g s0 v7)
          · refine r_iconst dX7_taken_58 ci_0 ?_
            exact r_mask [false, false, false, true, false] (s_X7_taken_L59 g s0 v7 0)
theorem ok_X7_taken (g : Gm) (s0 : Sto) (x1 : Int32) (x2 : Int32) : Ok g yX7_taken kX7_taken 1 [.ref ((Em g 1).1.1 7 0 0), .int x1, .int x2] s0 (cvI s0) (f_X7_taken s0 x1 x2) := Ok.of (by decide) rfl (Nat.le_of_ble_eq_true rfl) (lv := [some (.ref ((Em g 1).1.1 7 0 0)), some (.int x1), some (.int x2), none, none]) rfl (s_X7_taken g s0 x1 x2)
theorem u_X7_taken {α : Type} {cv : α → Res} {E : EE} {K : KK} {pc npc idx d : Nat} {lv : List (Option Value)} {st : List Value} {σ : Sto} {oc : Option (Int32)} {kf : Int32 → Option α} {x1 : Int32} {x2 : Int32} (hOk : Ok E.1 yX7_taken kX7_taken d [.ref (E.1.1 7 0 0), .int x1, .int x2] σ (cvI σ) oc) (hd : Dc K pc (.invokevirtual idx) 3 npc) (hlk : Cond.methodLink K.2.1 idx yX7_taken ∈ lw_good) (hw : (st.map fun v => v.category).sum ≤ 8) (hfit : fits_ E d 5) (hrm : room_ok E) (kk : ∀ q : Int32, Rf cv E K npc lv (.int q :: st) σ (kf q)) : Rf cv E K pc lv (.int x2 :: .int x1 :: .ref (E.1.1 7 0 0) :: st) σ (oc.bind kf) := c_V (n := 2) (as := [.int x1, .int x2]) (c0 := 7) (i := 0) (CC := "ThawGives") (T := TX7) (N := 11) hd hOk hlk wi_X7_taken wv_X7_taken wn_X7 wc_X7_taken rfl (by decide) (by decide) ⟨by decide, by decide, by decide⟩ rfl rfl hw hfit hrm (fun b _ => kk b)
def f_X7_count (s0 : Sto) (x1 : Int32) : Option (Int32) :=
  (if x1 = 0 then
    some (s0.1 6 1 0)
  else (if x1 = 1 then
    some (s0.1 7 7 0)
  else (if x1 = 2 then
    some (s0.1 2 4 (3 * 0))
  else (if x1 = 3 then
    some (s0.1 2 4 (3 * 0 + 1))
  else (if x1 = 4 then
    some (s0.1 2 4 (3 * 0 + 2))
  else (if x1 = 5 then
    some (s0.1 4 1 0)
  else (if x1 = 6 then
    some (s0.1 0 1 0)
  else some (-2 : Int32))))))))
set_option maxRecDepth 100000 in
theorem s_X7_count (g : Gm) (s0 : Sto) (x1 : Int32) : Rf (cvI s0) (Em g 0) kX7_count 0 [some (.ref ((Em g 0).1.1 7 0 0)), some (.int x1)] [] s0 (f_X7_count s0 x1) := by
  unfold f_X7_count
  refine r_iload_n dX7_count_0 rfl ?_
  refine r_by (fun e1 => ?_) (fun e1 => ?_)
  · refine r_tabIn dX7_count_1 e1 (z := 0) (by decide) (by decide) (by decide) (off := 43) rfl (tgt := 44) (by decide) ?_
    refine r_aload_n dX7_count_44 rfl ?_
    refine gf_X7_14 rfl dX7_count_45 ?_
    refine gf_X7_78 rfl dX7_count_48 (by decide) ?_
    exact r_iret dX7_count_51 rfl rfl
  refine r_by (fun e2 => ?_) (fun e2 => ?_)
  · refine r_tabIn dX7_count_1 e2 (z := 1) (by decide) (by decide) (by decide) (off := 51) rfl (tgt := 52) (by decide) ?_
    refine r_aload_n dX7_count_52 rfl ?_
    refine gf_X7_51 rfl dX7_count_53 ?_
    exact r_iret dX7_count_56 rfl rfl
  refine r_by (fun e3 => ?_) (fun e3 => ?_)
  · refine r_tabIn dX7_count_1 e3 (z := 2) (by decide) (by decide) (by decide) (off := 56) rfl (tgt := 57) (by decide) ?_
    refine r_aload_n dX7_count_57 rfl ?_
    refine gf_X7_14 rfl dX7_count_58 ?_
    refine gf_X7_179 rfl dX7_count_61 (by decide) ?_
    refine gf_X7_183 rfl dX7_count_64 (by omega) ?_
    exact r_iret dX7_count_67 rfl rfl
  refine r_by (fun e4 => ?_) (fun e4 => ?_)
  · refine r_tabIn dX7_count_1 e4 (z := 3) (by decide) (by decide) (by decide) (off := 67) rfl (tgt := 68) (by decide) ?_
    refine r_aload_n dX7_count_68 rfl ?_
    refine gf_X7_14 rfl dX7_count_69 ?_
    refine gf_X7_200 rfl dX7_count_72 (by decide) ?_
    refine gf_X7_183 rfl dX7_count_75 (by omega) ?_
    exact r_iret dX7_count_78 rfl rfl
  refine r_by (fun e5 => ?_) (fun e5 => ?_)
  · refine r_tabIn dX7_count_1 e5 (z := 4) (by decide) (by decide) (by decide) (off := 78) rfl (tgt := 79) (by decide) ?_
    refine r_aload_n dX7_count_79 rfl ?_
    refine gf_X7_14 rfl dX7_count_80 ?_
    refine gf_X7_206 rfl dX7_count_83 (by decide) ?_
    refine gf_X7_183 rfl dX7_count_86 (by omega) ?_
    exact r_iret dX7_count_89 rfl rfl
  refine r_by (fun e6 => ?_) (fun e6 => ?_)
  · refine r_tabIn dX7_count_1 e6 (z := 5) (by decide) (by decide) (by decide) (off := 89) rfl (tgt := 90) (by decide) ?_
    refine r_aload_n dX7_count_90 rfl ?_
    refine gf_X7_41 rfl dX7_count_91 ?_
    refine gf_X7_130 rfl dX7_count_94 ?_
    exact r_iret dX7_count_97 rfl rfl
  refine r_by (fun e7 => ?_) (fun e7 => ?_)
  · refine r_tabIn dX7_count_1 e7 (z := 6) (by decide) (by decide) (by decide) (off := 97) rfl (tgt := 98) (by decide) ?_
    refine r_aload_n dX7_count_98 rfl ?_
    refine gf_X7_63 rfl dX7_count_99 ?_
    refine gf_X7_239 rfl dX7_count_102 ?_
    exact r_iret dX7_count_105 rfl rfl
  refine r_tabOut dX7_count_1 (by have a0 := sw_ne e1 (z := 0) (by decide); have a1 := sw_ne e2 (z := 1) (by decide); have a2 := sw_ne e3 (z := 2) (by decide); have a3 := sw_ne e4 (z := 3) (by decide); have a4 := sw_ne e5 (z := 4) (by decide); have a5 := sw_ne e6 (z := 5) (by decide); have a6 := sw_ne e7 (z := 6) (by decide); omega) (tgt := 106) (by decide) ?_
  refine r_bipush dX7_count_106 cb_m2 ?_
  exact r_iret dX7_count_108 rfl rfl
theorem ok_X7_count (g : Gm) (s0 : Sto) (x1 : Int32) : Ok g yX7_count kX7_count 0 [.ref ((Em g 0).1.1 7 0 0), .int x1] s0 (cvI s0) (f_X7_count s0 x1) := Ok.of (by decide) rfl (Nat.le_of_ble_eq_true rfl) (lv := [some (.ref ((Em g 0).1.1 7 0 0)), some (.int x1)]) rfl (s_X7_count g s0 x1)
theorem u_X7_count {α : Type} {cv : α → Res} {E : EE} {K : KK} {pc npc idx d : Nat} {lv : List (Option Value)} {st : List Value} {σ : Sto} {oc : Option (Int32)} {kf : Int32 → Option α} {x1 : Int32} (hOk : Ok E.1 yX7_count kX7_count d [.ref (E.1.1 7 0 0), .int x1] σ (cvI σ) oc) (hd : Dc K pc (.invokevirtual idx) 3 npc) (hlk : Cond.methodLink K.2.1 idx yX7_count ∈ lw_good) (hw : (st.map fun v => v.category).sum ≤ 8) (hfit : fits_ E d 2) (hrm : room_ok E) (kk : ∀ q : Int32, Rf cv E K npc lv (.int q :: st) σ (kf q)) : Rf cv E K pc lv (.int x1 :: .ref (E.1.1 7 0 0) :: st) σ (oc.bind kf) := c_V (n := 1) (as := [.int x1]) (c0 := 7) (i := 0) (CC := "ThawGives") (T := TX7) (N := 11) hd hOk hlk wi_X7_count wv_X7_count wn_X7 wc_X7_count rfl (by decide) (by decide) ⟨by decide, by decide, by decide⟩ rfl rfl hw hfit hrm (fun b _ => kk b)
def f_X3_begin_B12 (k12 : Sto → Nat → Int32 → Option (Sto)) (s0 : Sto) (i0 : Nat) (x3 : Int32) : Option (Sto) :=
  (if (60 : Int32) ≤ x3 then
    some s0
  else
    (if 0 ≤ x3 ∧ x3 < 60 then nm (sL s0 3 0 i0 (vp_updL (s0.2.2.1 3 0 i0) (Int32.toNatClampNeg x3) (0 : Int64))) fun s6 => nmI (x3 + 1) fun v7 => k12 s6 i0 v7 else none))
def f_X3_begin_L12 : Nat → Sto → Nat → Int32 → Option (Sto)
  | 0 => fun _ _ _ => none
  | n + 1 => f_X3_begin_B12 (f_X3_begin_L12 n)
def f_X3_begin (s0 : Sto) (i0 : Nat) (x1 : Int32) (x2 : Int32) : Option (Sto) :=
  nm (sF s0 3 1 i0 x1) fun s1 => nm (sF s1 3 2 i0 x2) fun s2 => f_X3_begin_L12 1000 s2 i0 0
set_option maxRecDepth 100000 in
theorem s_X3_begin_B12 (g : Gm) (k12 : Sto → Nat → Int32 → Option (Sto)) (hk12 : ∀ (s0 : Sto) (i0 : Nat) (x3 : Int32) (hi0 : i0 < 6), Rf cvV (Em g 0) kX3_begin 12 [some (.ref ((Em g 0).1.1 3 0 i0)), none, none, some (.int x3)] [] s0 (k12 s0 i0 x3)) (s0 : Sto) (i0 : Nat) (x3 : Int32) (hi0 : i0 < 6) : Rf cvV (Em g 0) kX3_begin 12 [some (.ref ((Em g 0).1.1 3 0 i0)), none, none, some (.int x3)] [] s0 (f_X3_begin_B12 k12 s0 i0 x3) := by
  unfold f_X3_begin_B12
  refine r_iload_n dX3_begin_12 rfl ?_
  refine r_bipush dX3_begin_13 cb_60 ?_
  refine r_icge dX3_begin_15 (tgt := 31) (by decide) (fun c3 => ?_) (fun c3 => ?_)
  · exact r_vret dX3_begin_31 rfl rfl
  · refine r_aload_n dX3_begin_18 rfl ?_
    refine gf_X3_9 rfl dX3_begin_19 hi0 ?_
    refine r_iload_n dX3_begin_22 rfl ?_
    refine r_lconst dX3_begin_23 cl_0 ?_
    refine as_3_0 dX3_begin_24 hi0 (fun hg4 hj5 s6 => ?_)
    refine r_iincN dX3_begin_25 rfl ci_1 rfl (lt_b rfl) (fun v7 => ?_)
    refine r_goto dX3_begin_28 (tgt := 12) (by decide) ?_
    exact r_mask [true, false, false, true] (hk12 s6 i0 v7 hi0)
theorem s_X3_begin_L12 (g : Gm) : ∀ (n : Nat) (s0 : Sto) (i0 : Nat) (x3 : Int32) (hi0 : i0 < 6), Rf cvV (Em g 0) kX3_begin 12 [some (.ref ((Em g 0).1.1 3 0 i0)), none, none, some (.int x3)] [] s0 (f_X3_begin_L12 n s0 i0 x3)
  | 0, _, _, _, _ => r_none
  | n + 1, s0, i0, x3, hi0 => s_X3_begin_B12 g (f_X3_begin_L12 n) (s_X3_begin_L12 g n) s0 i0 x3 hi0
set_option maxRecDepth 100000 in
theorem s_X3_begin (g : Gm) (s0 : Sto) (i0 : Nat) (x1 : Int32) (x2 : Int32) (hi0 : i0 < 6) : Rf cvV (Em g 0) kX3_begin 0 [some (.ref ((Em g 0).1.1 3 0 i0)), some (.int x1), some (.int x2), none] [] s0 (f_X3_begin s0 i0 x1 x2) := by
  unfold f_X3_begin
  refine r_aload_n dX3_begin_0 rfl ?_
  refine r_iload_n dX3_begin_1 rfl ?_
  refine pf_X3_15 rfl dX3_begin_2 hi0 (fun s1 => ?_)
  refine r_aload_n dX3_begin_5 rfl ?_
  refine r_iload_n dX3_begin_6 rfl ?_
  refine pf_X3_19 rfl dX3_begin_7 hi0 (fun s2 => ?_)
  refine r_iconst dX3_begin_10 ci_0 ?_
  refine r_istore_n dX3_begin_11 rfl (lt_b rfl) (lt_b rfl) ?_
  exact r_mask [true, false, false, true] (s_X3_begin_L12 g 1000 s2 i0 0 hi0)
theorem ok_X3_begin (g : Gm) (s0 : Sto) (i0 : Nat) (x1 : Int32) (x2 : Int32) (hi0 : i0 < 6) : Ok g yX3_begin kX3_begin 0 [.ref ((Em g 0).1.1 3 0 i0), .int x1, .int x2] s0 cvV (f_X3_begin s0 i0 x1 x2) := Ok.of (by decide) rfl (Nat.le_of_ble_eq_true rfl) (lv := [some (.ref ((Em g 0).1.1 3 0 i0)), some (.int x1), some (.int x2), none]) rfl (s_X3_begin g s0 i0 x1 x2 hi0)
theorem u_X3_begin {α : Type} {cv : α → Res} {E : EE} {K : KK} {pc npc idx d : Nat} {lv : List (Option Value)} {st : List Value} {σ : Sto} {oc : Option (Sto)} {kf : Sto → Option α} {i0 : Nat} {x1 : Int32} {x2 : Int32} (hOk : Ok E.1 yX3_begin kX3_begin d [.ref (E.1.1 3 0 i0), .int x1, .int x2] σ cvV oc) (hd : Dc K pc (.invokevirtual idx) 3 npc) (hlk : Cond.methodLink K.2.1 idx yX3_begin ∈ lw_good) (hi : i0 < 6) (hw : (st.map fun v => v.category).sum ≤ 8) (hfit : fits_ E d 4) (hrm : room_ok E) (kk : ∀ τ : Sto, Rf cv E K npc lv st τ (kf τ)) : Rf cv E K pc lv (.int x2 :: .int x1 :: .ref (E.1.1 3 0 i0) :: st) σ (oc.bind kf) := c_V (n := 2) (as := [.int x1, .int x2]) (c0 := 3) (i := i0) (CC := "ThawGives$Tape") (T := TX3) (N := 3) hd hOk hlk wi_X3_begin wv_X3_begin wn_X3 wc_X3_begin rfl (by decide) hi ⟨by decide, by decide, by decide⟩ rfl rfl hw hfit hrm (fun b _ => kk b)
theorem un_X3_begin {α : Type} {cv : α → Res} {E : EE} {K : KK} {pc npc idx d : Nat} {lv : List (Option Value)} {st : List Value} {σ : Sto} {oc : Option (Sto)} {kf : Sto → Option α} {i0 : Nat} {x1 : Int32} {x2 : Int32} (hOk : Ok E.1 yX3_begin kX3_begin d [.ref (E.1.1 3 0 i0), .int x1, .int x2] σ cvV oc) (hd : Dc K pc (.invokevirtual idx) 3 npc) (hlk : Cond.methodLinkNest K.2.1 idx yX3_begin "ThawGives" ∈ lw_nest) (hi : i0 < 6) (hw : (st.map fun v => v.category).sum ≤ 8) (hfit : fits_ E d 4) (hrm : room_ok E) (kk : ∀ τ : Sto, Rf cv E K npc lv st τ (kf τ)) : Rf cv E K pc lv (.int x2 :: .int x1 :: .ref (E.1.1 3 0 i0) :: st) σ (oc.bind kf) := c_N (n := 2) (as := [.int x1, .int x2]) (c0 := 3) (i := i0) (CC := "ThawGives$Tape") (T := TX3) (N := 3) hd hOk hlk wi_X3_begin wv_X3_begin wn_X3 wc_X3_begin rfl (by decide) hi ⟨by decide, by decide, by decide⟩ rfl rfl hw hfit hrm (fun b _ => kk b)
def f_X7_tape (s0 : Sto) (x1 : Int32) (x2 : Int32) (x3 : Int32) : Option (Int32 × Sto) :=
  (f_X7_isTape x1).bind fun q1 => (if q1 = 0 then
    some ((-1 : Int32), s0)
  else
    (if x2 = (-1 : Int32) then
      (if 0 ≤ x1 ∧ x1 < 6 then (f_X3_begin s0 (Int32.toNatClampNeg x1) x2 0).bind fun q13 => some (1, q13) else none)
    else
      (f_X7_isUpTo x2 4).bind fun q4 => (if q4 = 0 then
        some ((-2 : Int32), s0)
      else
        (if x3 ≤ 60 then
          (if 0 ≤ x3 then
            (if 0 ≤ x1 ∧ x1 < 6 then (f_X3_begin s0 (Int32.toNatClampNeg x1) x2 x3).bind fun q10 => some (1, q10) else none)
          else
            some ((-14 : Int32), s0))
        else
          some ((-2 : Int32), s0)))))
set_option maxRecDepth 100000 in
theorem s_X7_tape (g : Gm) (s0 : Sto) (x1 : Int32) (x2 : Int32) (x3 : Int32) : Rf cvIw (Em g 2) kX7_tape 0 [some (.ref ((Em g 2).1.1 7 0 0)), some (.int x1), some (.int x2), some (.int x3)] [] s0 (f_X7_tape s0 x1 x2 x3) := by
  unfold f_X7_tape
  refine r_aload_n dX7_tape_0 rfl ?_
  refine r_iload_n dX7_tape_1 rfl ?_
  refine u_X7_isTape (ok_X7_isTape g s0 x1) dX7_tape_2 ml_X7_215 (Nat.le_of_ble_eq_true rfl) (fits_m (by decide) (by decide)) room_m (fun q1 => ?_)
  refine r_ifne dX7_tape_5 (tgt := 10) (by decide) (fun c2 => ?_) (fun c2 => ?_)
  · refine r_iconst dX7_tape_8 ci_m1 ?_
    exact r_iret dX7_tape_9 rfl rfl
  · refine r_iload_n dX7_tape_10 rfl ?_
    refine r_iconst dX7_tape_11 ci_m1 ?_
    refine r_icne dX7_tape_12 (tgt := 28) (by decide) (fun c3 => ?_) (fun c3 => ?_)
    · refine r_aload_n dX7_tape_15 rfl ?_
      refine gf_X7_69 rfl dX7_tape_16 ?_
      refine r_iload_n dX7_tape_19 rfl ?_
      refine al_7_10 dX7_tape_20 (fun hg11 hj12 => ?_)
      refine r_iload_n dX7_tape_21 rfl ?_
      refine r_iconst dX7_tape_22 ci_0 ?_
      refine un_X3_begin (ok_X3_begin g s0 (Int32.toNatClampNeg x1) x2 0 (by omega)) dX7_tape_23 mn_X7_248 (by omega) (Nat.le_of_ble_eq_true rfl) (fits_m (by decide) (by decide)) room_m (fun q13 => ?_)
      refine r_iconst dX7_tape_26 ci_1 ?_
      exact r_iret dX7_tape_27 rfl rfl
    · refine r_iload_n dX7_tape_28 rfl ?_
      refine r_iconst dX7_tape_29 ci_4 ?_
      refine u_X7_isUpTo (ok_X7_isUpTo g s0 x2 4) dX7_tape_30 ml_X7_74 (Nat.le_of_ble_eq_true rfl) (fits_m (by decide) (by decide)) room_m (fun q4 => ?_)
      refine r_ifeq dX7_tape_33 (tgt := 42) (by decide) (fun c5 => ?_) (fun c5 => ?_)
      · refine r_bipush dX7_tape_42 cb_m2 ?_
        exact r_iret dX7_tape_44 rfl rfl
      · refine r_iload_n dX7_tape_36 rfl ?_
        refine r_bipush dX7_tape_37 cb_60 ?_
        refine r_icle dX7_tape_39 (tgt := 45) (by decide) (fun c6 => ?_) (fun c6 => ?_)
        · refine r_iload_n dX7_tape_45 rfl ?_
          refine r_ifge dX7_tape_46 (tgt := 52) (by decide) (fun c7 => ?_) (fun c7 => ?_)
          · refine r_aload_n dX7_tape_52 rfl ?_
            refine gf_X7_69 rfl dX7_tape_53 ?_
            refine r_iload_n dX7_tape_56 rfl ?_
            refine al_7_10 dX7_tape_57 (fun hg8 hj9 => ?_)
            refine r_iload_n dX7_tape_58 rfl ?_
            refine r_iload_n dX7_tape_59 rfl ?_
            refine un_X3_begin (ok_X3_begin g s0 (Int32.toNatClampNeg x1) x2 x3 (by omega)) dX7_tape_60 mn_X7_248 (by omega) (Nat.le_of_ble_eq_true rfl) (fits_m (by decide) (by decide)) room_m (fun q10 => ?_)
            refine r_iconst dX7_tape_63 ci_1 ?_
            exact r_iret dX7_tape_64 rfl rfl
          · refine r_bipush dX7_tape_49 cb_m14 ?_
            exact r_iret dX7_tape_51 rfl rfl
        · refine r_bipush dX7_tape_42 cb_m2 ?_
          exact r_iret dX7_tape_44 rfl rfl
theorem ok_X7_tape (g : Gm) (s0 : Sto) (x1 : Int32) (x2 : Int32) (x3 : Int32) : Ok g yX7_tape kX7_tape 2 [.ref ((Em g 2).1.1 7 0 0), .int x1, .int x2, .int x3] s0 cvIw (f_X7_tape s0 x1 x2 x3) := Ok.of (by decide) rfl (Nat.le_of_ble_eq_true rfl) (lv := [some (.ref ((Em g 2).1.1 7 0 0)), some (.int x1), some (.int x2), some (.int x3)]) rfl (s_X7_tape g s0 x1 x2 x3)
theorem u_X7_tape {α : Type} {cv : α → Res} {E : EE} {K : KK} {pc npc idx d : Nat} {lv : List (Option Value)} {st : List Value} {σ : Sto} {oc : Option (Int32 × Sto)} {kf : (Int32 × Sto) → Option α} {x1 : Int32} {x2 : Int32} {x3 : Int32} (hOk : Ok E.1 yX7_tape kX7_tape d [.ref (E.1.1 7 0 0), .int x1, .int x2, .int x3] σ cvIw oc) (hd : Dc K pc (.invokevirtual idx) 3 npc) (hlk : Cond.methodLink K.2.1 idx yX7_tape ∈ lw_good) (hw : (st.map fun v => v.category).sum ≤ 8) (hfit : fits_ E d 4) (hrm : room_ok E) (kk : ∀ q : Int32 × Sto, Rf cv E K npc lv (.int q.1 :: st) q.2 (kf q)) : Rf cv E K pc lv (.int x3 :: .int x2 :: .int x1 :: .ref (E.1.1 7 0 0) :: st) σ (oc.bind kf) := c_V (n := 3) (as := [.int x1, .int x2, .int x3]) (c0 := 7) (i := 0) (CC := "ThawGives") (T := TX7) (N := 11) hd hOk hlk wi_X7_tape wv_X7_tape wn_X7 wc_X7_tape rfl (by decide) (by decide) ⟨by decide, by decide, by decide⟩ rfl rfl hw hfit hrm (fun b _ => kk b)
def f_X3_put (s0 : Sto) (i0 : Nat) (x1 : Int32) (x2 : Int64) : Option (Sto) :=
  (f_X3_hasPlace s0 i0 x1).bind fun q1 => (if q1 = 0 then
    some s0
  else
    (if (s0.1 3 1 i0) = 0 then
      (if 0 ≤ x1 ∧ x1 < 60 then nm (sL s0 3 0 i0 (vp_updL (s0.2.2.1 3 0 i0) (Int32.toNatClampNeg x1) (Int32.toInt64 (Int8.toInt32 (Int32.toInt8 (Int64.toInt32 x2)))))) fun s6 => some s6 else none)
    else (if (s0.1 3 1 i0) = 1 then
      (if 0 ≤ x1 ∧ x1 < 60 then nm (sL s0 3 0 i0 (vp_updL (s0.2.2.1 3 0 i0) (Int32.toNatClampNeg x1) (Int32.toInt64 (Int16.toInt32 (Int32.toInt16 (Int64.toInt32 x2)))))) fun s10 => some s10 else none)
    else (if (s0.1 3 1 i0) = 2 then
      (if 0 ≤ x1 ∧ x1 < 60 then nm (sL s0 3 0 i0 (vp_updL (s0.2.2.1 3 0 i0) (Int32.toNatClampNeg x1) (Int32.toInt64 (Int64.toInt32 x2)))) fun s14 => some s14 else none)
    else (if (s0.1 3 1 i0) = 3 then
      (if 0 ≤ x1 ∧ x1 < 60 then nm (sL s0 3 0 i0 (vp_updL (s0.2.2.1 3 0 i0) (Int32.toNatClampNeg x1) x2)) fun s18 => some s18 else none)
    else (if (s0.1 3 1 i0) = 4 then
      (if (lg_cmp x2 (0 : Int64)) = 0 then
        (if 0 ≤ x1 ∧ x1 < 60 then nm (sL s0 3 0 i0 (vp_updL (s0.2.2.1 3 0 i0) (Int32.toNatClampNeg x1) (0 : Int64))) fun s26 => some s26 else none)
      else
        (if 0 ≤ x1 ∧ x1 < 60 then nm (sL s0 3 0 i0 (vp_updL (s0.2.2.1 3 0 i0) (Int32.toNatClampNeg x1) (1 : Int64))) fun s23 => some s23 else none))
    else (if 0 ≤ x1 ∧ x1 < 60 then nm (sL s0 3 0 i0 (vp_updL (s0.2.2.1 3 0 i0) (Int32.toNatClampNeg x1) x2)) fun s29 => some s29 else none)))))))
set_option maxRecDepth 100000 in
theorem s_X3_put (g : Gm) (s0 : Sto) (i0 : Nat) (x1 : Int32) (x2 : Int64) (hi0 : i0 < 6) : Rf cvV (Em g 1) kX3_put 0 [some (.ref ((Em g 1).1.1 3 0 i0)), some (.int x1), some (.long x2), none] [] s0 (f_X3_put s0 i0 x1 x2) := by
  unfold f_X3_put
  refine r_aload_n dX3_put_0 rfl ?_
  refine r_iload_n dX3_put_1 rfl ?_
  refine u_X3_hasPlace (ok_X3_hasPlace g s0 i0 x1 hi0) dX3_put_2 ml_X3_22 hi0 (Nat.le_of_ble_eq_true rfl) (fits_m (by decide) (by decide)) room_m (fun q1 => ?_)
  refine r_ifne dX3_put_5 (tgt := 9) (by decide) (fun c2 => ?_) (fun c2 => ?_)
  · exact r_vret dX3_put_8 rfl rfl
  · refine r_aload_n dX3_put_9 rfl ?_
    refine gf_X3_15 rfl dX3_put_10 hi0 ?_
    refine r_by (fun e3 => ?_) (fun e3 => ?_)
    · refine r_tabIn dX3_put_13 e3 (z := 0) (by decide) (by decide) (by decide) (off := 35) rfl (tgt := 48) (by decide) ?_
      refine r_aload_n dX3_put_48 rfl ?_
      refine gf_X3_9 rfl dX3_put_49 hi0 ?_
      refine r_iload_n dX3_put_52 rfl ?_
      refine r_lload_n dX3_put_53 rfl ?_
      refine r_l2i dX3_put_54 ?_
      refine r_i2b dX3_put_55 ?_
      refine r_i2l dX3_put_56 ?_
      refine as_3_0 dX3_put_57 hi0 (fun hg4 hj5 s6 => ?_)
      refine r_goto dX3_put_58 (tgt := 113) (by decide) ?_
      exact r_vret dX3_put_113 rfl rfl
    refine r_by (fun e7 => ?_) (fun e7 => ?_)
    · refine r_tabIn dX3_put_13 e7 (z := 1) (by decide) (by decide) (by decide) (off := 48) rfl (tgt := 61) (by decide) ?_
      refine r_aload_n dX3_put_61 rfl ?_
      refine gf_X3_9 rfl dX3_put_62 hi0 ?_
      refine r_iload_n dX3_put_65 rfl ?_
      refine r_lload_n dX3_put_66 rfl ?_
      refine r_l2i dX3_put_67 ?_
      refine r_i2s dX3_put_68 ?_
      refine r_i2l dX3_put_69 ?_
      refine as_3_0 dX3_put_70 hi0 (fun hg8 hj9 s10 => ?_)
      refine r_goto dX3_put_71 (tgt := 113) (by decide) ?_
      exact r_vret dX3_put_113 rfl rfl
    refine r_by (fun e11 => ?_) (fun e11 => ?_)
    · refine r_tabIn dX3_put_13 e11 (z := 2) (by decide) (by decide) (by decide) (off := 61) rfl (tgt := 74) (by decide) ?_
      refine r_aload_n dX3_put_74 rfl ?_
      refine gf_X3_9 rfl dX3_put_75 hi0 ?_
      refine r_iload_n dX3_put_78 rfl ?_
      refine r_lload_n dX3_put_79 rfl ?_
      refine r_l2i dX3_put_80 ?_
      refine r_i2l dX3_put_81 ?_
      refine as_3_0 dX3_put_82 hi0 (fun hg12 hj13 s14 => ?_)
      refine r_goto dX3_put_83 (tgt := 113) (by decide) ?_
      exact r_vret dX3_put_113 rfl rfl
    refine r_by (fun e15 => ?_) (fun e15 => ?_)
    · refine r_tabIn dX3_put_13 e15 (z := 3) (by decide) (by decide) (by decide) (off := 93) rfl (tgt := 106) (by decide) ?_
      refine r_aload_n dX3_put_106 rfl ?_
      refine gf_X3_9 rfl dX3_put_107 hi0 ?_
      refine r_iload_n dX3_put_110 rfl ?_
      refine r_lload_n dX3_put_111 rfl ?_
      refine as_3_0 dX3_put_112 hi0 (fun hg16 hj17 s18 => ?_)
      exact r_vret dX3_put_113 rfl rfl
    refine r_by (fun e19 => ?_) (fun e19 => ?_)
    · refine r_tabIn dX3_put_13 e19 (z := 4) (by decide) (by decide) (by decide) (off := 73) rfl (tgt := 86) (by decide) ?_
      refine r_aload_n dX3_put_86 rfl ?_
      refine gf_X3_9 rfl dX3_put_87 hi0 ?_
      refine r_iload_n dX3_put_90 rfl ?_
      refine r_lload_n dX3_put_91 rfl ?_
      refine r_lconst dX3_put_92 cl_0 ?_
      refine r_lcmp dX3_put_93 ?_
      refine r_ifne dX3_put_94 (tgt := 101) (by decide) (fun c20 => ?_) (fun c20 => ?_)
      · refine r_lconst dX3_put_97 cl_0 ?_
        refine r_goto dX3_put_98 (tgt := 102) (by decide) ?_
        refine as_3_0 dX3_put_102 hi0 (fun hg24 hj25 s26 => ?_)
        refine r_goto dX3_put_103 (tgt := 113) (by decide) ?_
        exact r_vret dX3_put_113 rfl rfl
      · refine r_lconst dX3_put_101 cl_1 ?_
        refine as_3_0 dX3_put_102 hi0 (fun hg21 hj22 s23 => ?_)
        refine r_goto dX3_put_103 (tgt := 113) (by decide) ?_
        exact r_vret dX3_put_113 rfl rfl
    refine r_tabOut dX3_put_13 (by have a0 := sw_ne e3 (z := 0) (by decide); have a1 := sw_ne e7 (z := 1) (by decide); have a2 := sw_ne e11 (z := 2) (by decide); have a3 := sw_ne e15 (z := 3) (by decide); have a4 := sw_ne e19 (z := 4) (by decide); omega) (tgt := 106) (by decide) ?_
    refine r_aload_n dX3_put_106 rfl ?_
    refine gf_X3_9 rfl dX3_put_107 hi0 ?_
    refine r_iload_n dX3_put_110 rfl ?_
    refine r_lload_n dX3_put_111 rfl ?_
    refine as_3_0 dX3_put_112 hi0 (fun hg27 hj28 s29 => ?_)
    exact r_vret dX3_put_113 rfl rfl
theorem ok_X3_put (g : Gm) (s0 : Sto) (i0 : Nat) (x1 : Int32) (x2 : Int64) (hi0 : i0 < 6) : Ok g yX3_put kX3_put 1 [.ref ((Em g 1).1.1 3 0 i0), .int x1, .long x2] s0 cvV (f_X3_put s0 i0 x1 x2) := Ok.of (by decide) rfl (Nat.le_of_ble_eq_true rfl) (lv := [some (.ref ((Em g 1).1.1 3 0 i0)), some (.int x1), some (.long x2), none]) rfl (s_X3_put g s0 i0 x1 x2 hi0)
theorem u_X3_put {α : Type} {cv : α → Res} {E : EE} {K : KK} {pc npc idx d : Nat} {lv : List (Option Value)} {st : List Value} {σ : Sto} {oc : Option (Sto)} {kf : Sto → Option α} {i0 : Nat} {x1 : Int32} {x2 : Int64} (hOk : Ok E.1 yX3_put kX3_put d [.ref (E.1.1 3 0 i0), .int x1, .long x2] σ cvV oc) (hd : Dc K pc (.invokevirtual idx) 3 npc) (hlk : Cond.methodLink K.2.1 idx yX3_put ∈ lw_good) (hi : i0 < 6) (hw : (st.map fun v => v.category).sum ≤ 8) (hfit : fits_ E d 4) (hrm : room_ok E) (kk : ∀ τ : Sto, Rf cv E K npc lv st τ (kf τ)) : Rf cv E K pc lv (.long x2 :: .int x1 :: .ref (E.1.1 3 0 i0) :: st) σ (oc.bind kf) := c_V (n := 2) (as := [.int x1, .long x2]) (c0 := 3) (i := i0) (CC := "ThawGives$Tape") (T := TX3) (N := 3) hd hOk hlk wi_X3_put wv_X3_put wn_X3 wc_X3_put rfl (by decide) hi ⟨by decide, by decide, by decide⟩ rfl rfl hw hfit hrm (fun b _ => kk b)
theorem un_X3_put {α : Type} {cv : α → Res} {E : EE} {K : KK} {pc npc idx d : Nat} {lv : List (Option Value)} {st : List Value} {σ : Sto} {oc : Option (Sto)} {kf : Sto → Option α} {i0 : Nat} {x1 : Int32} {x2 : Int64} (hOk : Ok E.1 yX3_put kX3_put d [.ref (E.1.1 3 0 i0), .int x1, .long x2] σ cvV oc) (hd : Dc K pc (.invokevirtual idx) 3 npc) (hlk : Cond.methodLinkNest K.2.1 idx yX3_put "ThawGives" ∈ lw_nest) (hi : i0 < 6) (hw : (st.map fun v => v.category).sum ≤ 8) (hfit : fits_ E d 4) (hrm : room_ok E) (kk : ∀ τ : Sto, Rf cv E K npc lv st τ (kf τ)) : Rf cv E K pc lv (.long x2 :: .int x1 :: .ref (E.1.1 3 0 i0) :: st) σ (oc.bind kf) := c_N (n := 2) (as := [.int x1, .long x2]) (c0 := 3) (i := i0) (CC := "ThawGives$Tape") (T := TX3) (N := 3) hd hOk hlk wi_X3_put wv_X3_put wn_X3 wc_X3_put rfl (by decide) hi ⟨by decide, by decide, by decide⟩ rfl rfl hw hfit hrm (fun b _ => kk b)
def f_X7_item (s0 : Sto) (x1 : Int32) (x2 : Int32) (x3 : Int64) : Option (Int32 × Sto) :=
  (f_X7_isTape x1).bind fun q1 => (if q1 = 0 then
    some ((-1 : Int32), s0)
  else
    (if 0 ≤ x1 ∧ x1 < 6 then (if (s0.1 3 1 (Int32.toNatClampNeg x1)) = (-1 : Int32) then
      some ((-11 : Int32), s0)
    else
      (if 0 ≤ x1 ∧ x1 < 6 then (f_X3_hasPlace s0 (Int32.toNatClampNeg x1) x2).bind fun q8 => (if q8 = 0 then
        some ((-13 : Int32), s0)
      else
        (if 0 ≤ x1 ∧ x1 < 6 then (f_X3_put s0 (Int32.toNatClampNeg x1) x2 x3).bind fun q12 => some (1, q12) else none)) else none)) else none))
set_option maxRecDepth 100000 in
theorem s_X7_item (g : Gm) (s0 : Sto) (x1 : Int32) (x2 : Int32) (x3 : Int64) : Rf cvIw (Em g 2) kX7_item 0 [some (.ref ((Em g 2).1.1 7 0 0)), some (.int x1), some (.int x2), some (.long x3), none] [] s0 (f_X7_item s0 x1 x2 x3) := by
  unfold f_X7_item
  refine r_aload_n dX7_item_0 rfl ?_
  refine r_iload_n dX7_item_1 rfl ?_
  refine u_X7_isTape (ok_X7_isTape g s0 x1) dX7_item_2 ml_X7_215 (Nat.le_of_ble_eq_true rfl) (fits_m (by decide) (by decide)) room_m (fun q1 => ?_)
  refine r_ifne dX7_item_5 (tgt := 10) (by decide) (fun c2 => ?_) (fun c2 => ?_)
  · refine r_iconst dX7_item_8 ci_m1 ?_
    exact r_iret dX7_item_9 rfl rfl
  · refine r_aload_n dX7_item_10 rfl ?_
    refine gf_X7_69 rfl dX7_item_11 ?_
    refine r_iload_n dX7_item_14 rfl ?_
    refine al_7_10 dX7_item_15 (fun hg3 hj4 => ?_)
    refine gf_X7_218 rfl dX7_item_16 (by omega) ?_
    refine r_iconst dX7_item_19 ci_m1 ?_
    refine r_icne dX7_item_20 (tgt := 26) (by decide) (fun c5 => ?_) (fun c5 => ?_)
    · refine r_bipush dX7_item_23 cb_m11 ?_
      exact r_iret dX7_item_25 rfl rfl
    · refine r_aload_n dX7_item_26 rfl ?_
      refine gf_X7_69 rfl dX7_item_27 ?_
      refine r_iload_n dX7_item_30 rfl ?_
      refine al_7_10 dX7_item_31 (fun hg6 hj7 => ?_)
      refine r_iload_n dX7_item_32 rfl ?_
      refine un_X3_hasPlace (ok_X3_hasPlace g s0 (Int32.toNatClampNeg x1) x2 (by omega)) dX7_item_33 mn_X7_221 (by omega) (Nat.le_of_ble_eq_true rfl) (fits_m (by decide) (by decide)) room_m (fun q8 => ?_)
      refine r_ifne dX7_item_36 (tgt := 42) (by decide) (fun c9 => ?_) (fun c9 => ?_)
      · refine r_bipush dX7_item_39 cb_m13 ?_
        exact r_iret dX7_item_41 rfl rfl
      · refine r_aload_n dX7_item_42 rfl ?_
        refine gf_X7_69 rfl dX7_item_43 ?_
        refine r_iload_n dX7_item_46 rfl ?_
        refine al_7_10 dX7_item_47 (fun hg10 hj11 => ?_)
        refine r_iload_n dX7_item_48 rfl ?_
        refine r_lload_n dX7_item_49 rfl ?_
        refine un_X3_put (ok_X3_put g s0 (Int32.toNatClampNeg x1) x2 x3 (by omega)) dX7_item_50 mn_X7_250 (by omega) (Nat.le_of_ble_eq_true rfl) (fits_m (by decide) (by decide)) room_m (fun q12 => ?_)
        refine r_iconst dX7_item_53 ci_1 ?_
        exact r_iret dX7_item_54 rfl rfl
theorem ok_X7_item (g : Gm) (s0 : Sto) (x1 : Int32) (x2 : Int32) (x3 : Int64) : Ok g yX7_item kX7_item 2 [.ref ((Em g 2).1.1 7 0 0), .int x1, .int x2, .long x3] s0 cvIw (f_X7_item s0 x1 x2 x3) := Ok.of (by decide) rfl (Nat.le_of_ble_eq_true rfl) (lv := [some (.ref ((Em g 2).1.1 7 0 0)), some (.int x1), some (.int x2), some (.long x3), none]) rfl (s_X7_item g s0 x1 x2 x3)
theorem u_X7_item {α : Type} {cv : α → Res} {E : EE} {K : KK} {pc npc idx d : Nat} {lv : List (Option Value)} {st : List Value} {σ : Sto} {oc : Option (Int32 × Sto)} {kf : (Int32 × Sto) → Option α} {x1 : Int32} {x2 : Int32} {x3 : Int64} (hOk : Ok E.1 yX7_item kX7_item d [.ref (E.1.1 7 0 0), .int x1, .int x2, .long x3] σ cvIw oc) (hd : Dc K pc (.invokevirtual idx) 3 npc) (hlk : Cond.methodLink K.2.1 idx yX7_item ∈ lw_good) (hw : (st.map fun v => v.category).sum ≤ 8) (hfit : fits_ E d 5) (hrm : room_ok E) (kk : ∀ q : Int32 × Sto, Rf cv E K npc lv (.int q.1 :: st) q.2 (kf q)) : Rf cv E K pc lv (.long x3 :: .int x2 :: .int x1 :: .ref (E.1.1 7 0 0) :: st) σ (oc.bind kf) := c_V (n := 3) (as := [.int x1, .int x2, .long x3]) (c0 := 7) (i := 0) (CC := "ThawGives") (T := TX7) (N := 11) hd hOk hlk wi_X7_item wv_X7_item wn_X7 wc_X7_item rfl (by decide) (by decide) ⟨by decide, by decide, by decide⟩ rfl rfl hw hfit hrm (fun b _ => kk b)
def f_X7_read (s0 : Sto) (x1 : Int32) (x2 : Int32) : Option (Int64) :=
  (f_X7_isTape x1).bind fun q1 => (if q1 = 0 then
    some (-9223372036854775808 : Int64)
  else
    (if 0 ≤ x1 ∧ x1 < 6 then (f_X3_hasPlace s0 (Int32.toNatClampNeg x1) x2).bind fun q5 => (if q5 = 0 then
      some (-9223372036854775808 : Int64)
    else
      (if 0 ≤ x1 ∧ x1 < 6 then (if 0 ≤ x2 ∧ x2 < 60 then some (s0.2.2.1 3 0 (Int32.toNatClampNeg x1) (Int32.toNatClampNeg x2)) else none) else none)) else none))
set_option maxRecDepth 100000 in
theorem s_X7_read (g : Gm) (s0 : Sto) (x1 : Int32) (x2 : Int32) : Rf (cvL s0) (Em g 2) kX7_read 0 [some (.ref ((Em g 2).1.1 7 0 0)), some (.int x1), some (.int x2)] [] s0 (f_X7_read s0 x1 x2) := by
  unfold f_X7_read
  refine r_aload_n dX7_read_0 rfl ?_
  refine r_iload_n dX7_read_1 rfl ?_
  refine u_X7_isTape (ok_X7_isTape g s0 x1) dX7_read_2 ml_X7_215 (Nat.le_of_ble_eq_true rfl) (fits_m (by decide) (by decide)) room_m (fun q1 => ?_)
  refine r_ifeq dX7_read_5 (tgt := 21) (by decide) (fun c2 => ?_) (fun c2 => ?_)
  · refine r_ldc2 dX7_read_21 co_X7_195 ?_
    exact r_lret dX7_read_24 rfl rfl
  · refine r_aload_n dX7_read_8 rfl ?_
    refine gf_X7_69 rfl dX7_read_9 ?_
    refine r_iload_n dX7_read_12 rfl ?_
    refine al_7_10 dX7_read_13 (fun hg3 hj4 => ?_)
    refine r_iload_n dX7_read_14 rfl ?_
    refine un_X3_hasPlace (ok_X3_hasPlace g s0 (Int32.toNatClampNeg x1) x2 (by omega)) dX7_read_15 mn_X7_221 (by omega) (Nat.le_of_ble_eq_true rfl) (fits_m (by decide) (by decide)) room_m (fun q5 => ?_)
    refine r_ifne dX7_read_18 (tgt := 25) (by decide) (fun c6 => ?_) (fun c6 => ?_)
    · refine r_ldc2 dX7_read_21 co_X7_195 ?_
      exact r_lret dX7_read_24 rfl rfl
    · refine r_aload_n dX7_read_25 rfl ?_
      refine gf_X7_69 rfl dX7_read_26 ?_
      refine r_iload_n dX7_read_29 rfl ?_
      refine al_7_10 dX7_read_30 (fun hg7 hj8 => ?_)
      refine gf_X7_224 rfl dX7_read_31 (by omega) ?_
      refine r_iload_n dX7_read_34 rfl ?_
      refine al_3_0 dX7_read_35 (by omega) (fun hg9 hj10 => ?_)
      exact r_lret dX7_read_36 rfl rfl
theorem ok_X7_read (g : Gm) (s0 : Sto) (x1 : Int32) (x2 : Int32) : Ok g yX7_read kX7_read 2 [.ref ((Em g 2).1.1 7 0 0), .int x1, .int x2] s0 (cvL s0) (f_X7_read s0 x1 x2) := Ok.of (by decide) rfl (Nat.le_of_ble_eq_true rfl) (lv := [some (.ref ((Em g 2).1.1 7 0 0)), some (.int x1), some (.int x2)]) rfl (s_X7_read g s0 x1 x2)
theorem u_X7_read {α : Type} {cv : α → Res} {E : EE} {K : KK} {pc npc idx d : Nat} {lv : List (Option Value)} {st : List Value} {σ : Sto} {oc : Option (Int64)} {kf : Int64 → Option α} {x1 : Int32} {x2 : Int32} (hOk : Ok E.1 yX7_read kX7_read d [.ref (E.1.1 7 0 0), .int x1, .int x2] σ (cvL σ) oc) (hd : Dc K pc (.invokevirtual idx) 3 npc) (hlk : Cond.methodLink K.2.1 idx yX7_read ∈ lw_good) (hw : (st.map fun v => v.category).sum ≤ 8) (hfit : fits_ E d 3) (hrm : room_ok E) (kk : ∀ q : Int64, Rf cv E K npc lv (.long q :: st) σ (kf q)) : Rf cv E K pc lv (.int x2 :: .int x1 :: .ref (E.1.1 7 0 0) :: st) σ (oc.bind kf) := c_V (n := 2) (as := [.int x1, .int x2]) (c0 := 7) (i := 0) (CC := "ThawGives") (T := TX7) (N := 11) hd hOk hlk wi_X7_read wv_X7_read wn_X7 wc_X7_read rfl (by decide) (by decide) ⟨by decide, by decide, by decide⟩ rfl rfl hw hfit hrm (fun b _ => kk b)
def f_X3_hasPlaces (s0 : Sto) (i0 : Nat) (x1 : Int32) (x2 : Int32) : Option (Int32) :=
  (if x1 < 0 then
    some 0
  else
    (if x2 < 0 then
      some 0
    else
      (if (s0.1 3 2 i0) < x2 then
        some 0
      else
        (if ((s0.1 3 2 i0) - x2) < x1 then
          some 0
        else
          some 1))))
set_option maxRecDepth 100000 in
theorem s_X3_hasPlaces (g : Gm) (s0 : Sto) (i0 : Nat) (x1 : Int32) (x2 : Int32) (hi0 : i0 < 6) : Rf (cvI s0) (Em g 0) kX3_hasPlaces 0 [some (.ref ((Em g 0).1.1 3 0 i0)), some (.int x1), some (.int x2)] [] s0 (f_X3_hasPlaces s0 i0 x1 x2) := by
  unfold f_X3_hasPlaces
  refine r_iload_n dX3_hasPlaces_0 rfl ?_
  refine r_iflt dX3_hasPlaces_1 (tgt := 30) (by decide) (fun c1 => ?_) (fun c1 => ?_)
  · refine r_iconst dX3_hasPlaces_30 ci_0 ?_
    exact r_zret dX3_hasPlaces_31 rfl rfl rfl
  · refine r_iload_n dX3_hasPlaces_4 rfl ?_
    refine r_iflt dX3_hasPlaces_5 (tgt := 30) (by decide) (fun c2 => ?_) (fun c2 => ?_)
    · refine r_iconst dX3_hasPlaces_30 ci_0 ?_
      exact r_zret dX3_hasPlaces_31 rfl rfl rfl
    · refine r_iload_n dX3_hasPlaces_8 rfl ?_
      refine r_aload_n dX3_hasPlaces_9 rfl ?_
      refine gf_X3_19 rfl dX3_hasPlaces_10 hi0 ?_
      refine r_icgt dX3_hasPlaces_13 (tgt := 30) (by decide) (fun c3 => ?_) (fun c3 => ?_)
      · refine r_iconst dX3_hasPlaces_30 ci_0 ?_
        exact r_zret dX3_hasPlaces_31 rfl rfl rfl
      · refine r_iload_n dX3_hasPlaces_16 rfl ?_
        refine r_aload_n dX3_hasPlaces_17 rfl ?_
        refine gf_X3_19 rfl dX3_hasPlaces_18 hi0 ?_
        refine r_iload_n dX3_hasPlaces_21 rfl ?_
        refine r_isub dX3_hasPlaces_22 ?_
        refine r_icgt dX3_hasPlaces_23 (tgt := 30) (by decide) (fun c4 => ?_) (fun c4 => ?_)
        · refine r_iconst dX3_hasPlaces_30 ci_0 ?_
          exact r_zret dX3_hasPlaces_31 rfl rfl rfl
        · refine r_iconst dX3_hasPlaces_26 ci_1 ?_
          refine r_goto dX3_hasPlaces_27 (tgt := 31) (by decide) ?_
          exact r_zret dX3_hasPlaces_31 rfl rfl rfl
theorem ok_X3_hasPlaces (g : Gm) (s0 : Sto) (i0 : Nat) (x1 : Int32) (x2 : Int32) (hi0 : i0 < 6) : Ok g yX3_hasPlaces kX3_hasPlaces 0 [.ref ((Em g 0).1.1 3 0 i0), .int x1, .int x2] s0 (cvI s0) (f_X3_hasPlaces s0 i0 x1 x2) := Ok.of (by decide) rfl (Nat.le_of_ble_eq_true rfl) (lv := [some (.ref ((Em g 0).1.1 3 0 i0)), some (.int x1), some (.int x2)]) rfl (s_X3_hasPlaces g s0 i0 x1 x2 hi0)
theorem u_X3_hasPlaces {α : Type} {cv : α → Res} {E : EE} {K : KK} {pc npc idx d : Nat} {lv : List (Option Value)} {st : List Value} {σ : Sto} {oc : Option (Int32)} {kf : Int32 → Option α} {i0 : Nat} {x1 : Int32} {x2 : Int32} (hOk : Ok E.1 yX3_hasPlaces kX3_hasPlaces d [.ref (E.1.1 3 0 i0), .int x1, .int x2] σ (cvI σ) oc) (hd : Dc K pc (.invokevirtual idx) 3 npc) (hlk : Cond.methodLink K.2.1 idx yX3_hasPlaces ∈ lw_good) (hi : i0 < 6) (hw : (st.map fun v => v.category).sum ≤ 8) (hfit : fits_ E d 3) (hrm : room_ok E) (kk : ∀ q : Int32, Rf cv E K npc lv (.int q :: st) σ (kf q)) : Rf cv E K pc lv (.int x2 :: .int x1 :: .ref (E.1.1 3 0 i0) :: st) σ (oc.bind kf) := c_V (n := 2) (as := [.int x1, .int x2]) (c0 := 3) (i := i0) (CC := "ThawGives$Tape") (T := TX3) (N := 3) hd hOk hlk wi_X3_hasPlaces wv_X3_hasPlaces wn_X3 wc_X3_hasPlaces rfl (by decide) hi ⟨by decide, by decide, by decide⟩ rfl rfl hw hfit hrm (fun b _ => kk b)
theorem un_X3_hasPlaces {α : Type} {cv : α → Res} {E : EE} {K : KK} {pc npc idx d : Nat} {lv : List (Option Value)} {st : List Value} {σ : Sto} {oc : Option (Int32)} {kf : Int32 → Option α} {i0 : Nat} {x1 : Int32} {x2 : Int32} (hOk : Ok E.1 yX3_hasPlaces kX3_hasPlaces d [.ref (E.1.1 3 0 i0), .int x1, .int x2] σ (cvI σ) oc) (hd : Dc K pc (.invokevirtual idx) 3 npc) (hlk : Cond.methodLinkNest K.2.1 idx yX3_hasPlaces "ThawGives" ∈ lw_nest) (hi : i0 < 6) (hw : (st.map fun v => v.category).sum ≤ 8) (hfit : fits_ E d 3) (hrm : room_ok E) (kk : ∀ q : Int32, Rf cv E K npc lv (.int q :: st) σ (kf q)) : Rf cv E K pc lv (.int x2 :: .int x1 :: .ref (E.1.1 3 0 i0) :: st) σ (oc.bind kf) := c_N (n := 2) (as := [.int x1, .int x2]) (c0 := 3) (i := i0) (CC := "ThawGives$Tape") (T := TX3) (N := 3) hd hOk hlk wi_X3_hasPlaces wv_X3_hasPlaces wn_X3 wc_X3_hasPlaces rfl (by decide) hi ⟨by decide, by decide, by decide⟩ rfl rfl hw hfit hrm (fun b _ => kk b)
def f_X7_shift (s0 : Sto) (x1 : Int32) (x2 : Int32) (x3 : Int32) (x4 : Int32) (x5 : Int32) : Option (Int32 × Sto) :=
  (f_X7_isTape x1).bind fun q1 => (if q1 = 0 then
    some ((-1 : Int32), s0)
  else
    (f_X7_isTape x3).bind fun q3 => (if q3 = 0 then
      some ((-1 : Int32), s0)
    else
      (if 0 ≤ x1 ∧ x1 < 6 then (if 0 ≤ x3 ∧ x3 < 6 then (if (s0.1 3 1 (Int32.toNatClampNeg x1)) = (-1 : Int32) then
        some ((-11 : Int32), s0)
      else
        (if (s0.1 3 1 (Int32.toNatClampNeg x3)) = (-1 : Int32) then
          some ((-11 : Int32), s0)
        else
          (if (s0.1 3 1 (Int32.toNatClampNeg x1)) = (s0.1 3 1 (Int32.toNatClampNeg x3)) then
            (f_X3_hasPlaces s0 (Int32.toNatClampNeg x1) x2 x5).bind fun q12 => (if q12 = 0 then
              some ((-13 : Int32), s0)
            else
              (f_X3_hasPlaces s0 (Int32.toNatClampNeg x3) x4 x5).bind fun q14 => (if q14 = 0 then
                some ((-13 : Int32), s0)
              else
                (if acok x2 x4 x5 60 then nm (sL s0 3 0 (Int32.toNatClampNeg x3) (va_cpy (s0.2.2.1 3 0 (Int32.toNatClampNeg x1)) (s0.2.2.1 3 0 (Int32.toNatClampNeg x3)) (Int32.toNatClampNeg x2) (Int32.toNatClampNeg x4) (Int32.toNatClampNeg x5))) fun s16 => some (x5, s16) else none)))
          else
            some ((-12 : Int32), s0)))) else none) else none)))
set_option maxRecDepth 100000 in
theorem s_X7_shift (g : Gm) (s0 : Sto) (x1 : Int32) (x2 : Int32) (x3 : Int32) (x4 : Int32) (x5 : Int32) : Rf cvIw (Em g 2) kX7_shift 0 [some (.ref ((Em g 2).1.1 7 0 0)), some (.int x1), some (.int x2), some (.int x3), some (.int x4), some (.int x5), none, none] [] s0 (f_X7_shift s0 x1 x2 x3 x4 x5) := by
  unfold f_X7_shift
  refine r_aload_n dX7_shift_0 rfl ?_
  refine r_iload_n dX7_shift_1 rfl ?_
  refine u_X7_isTape (ok_X7_isTape g s0 x1) dX7_shift_2 ml_X7_215 (Nat.le_of_ble_eq_true rfl) (fits_m (by decide) (by decide)) room_m (fun q1 => ?_)
  refine r_ifeq dX7_shift_5 (tgt := 16) (by decide) (fun c2 => ?_) (fun c2 => ?_)
  · refine r_iconst dX7_shift_16 ci_m1 ?_
    exact r_iret dX7_shift_17 rfl rfl
  · refine r_aload_n dX7_shift_8 rfl ?_
    refine r_iload_n dX7_shift_9 rfl ?_
    refine u_X7_isTape (ok_X7_isTape g s0 x3) dX7_shift_10 ml_X7_215 (Nat.le_of_ble_eq_true rfl) (fits_m (by decide) (by decide)) room_m (fun q3 => ?_)
    refine r_ifne dX7_shift_13 (tgt := 18) (by decide) (fun c4 => ?_) (fun c4 => ?_)
    · refine r_iconst dX7_shift_16 ci_m1 ?_
      exact r_iret dX7_shift_17 rfl rfl
    · refine r_aload_n dX7_shift_18 rfl ?_
      refine gf_X7_69 rfl dX7_shift_19 ?_
      refine r_iload_n dX7_shift_22 rfl ?_
      refine al_7_10 dX7_shift_23 (fun hg5 hj6 => ?_)
      refine r_astore dX7_shift_24 rfl (lt_b rfl) (lt_b rfl) ?_
      refine r_aload_n dX7_shift_26 rfl ?_
      refine gf_X7_69 rfl dX7_shift_27 ?_
      refine r_iload_n dX7_shift_30 rfl ?_
      refine al_7_10 dX7_shift_31 (fun hg7 hj8 => ?_)
      refine r_astore dX7_shift_32 rfl (lt_b rfl) (lt_b rfl) ?_
      refine r_aload dX7_shift_34 rfl ?_
      refine gf_X7_218 rfl dX7_shift_36 (by omega) ?_
      refine r_iconst dX7_shift_39 ci_m1 ?_
      refine r_iceq dX7_shift_40 (tgt := 52) (by decide) (fun c9 => ?_) (fun c9 => ?_)
      · refine r_bipush dX7_shift_52 cb_m11 ?_
        exact r_iret dX7_shift_54 rfl rfl
      · refine r_aload dX7_shift_43 rfl ?_
        refine gf_X7_218 rfl dX7_shift_45 (by omega) ?_
        refine r_iconst dX7_shift_48 ci_m1 ?_
        refine r_icne dX7_shift_49 (tgt := 55) (by decide) (fun c10 => ?_) (fun c10 => ?_)
        · refine r_bipush dX7_shift_52 cb_m11 ?_
          exact r_iret dX7_shift_54 rfl rfl
        · refine r_aload dX7_shift_55 rfl ?_
          refine gf_X7_218 rfl dX7_shift_57 (by omega) ?_
          refine r_aload dX7_shift_60 rfl ?_
          refine gf_X7_218 rfl dX7_shift_62 (by omega) ?_
          refine r_iceq dX7_shift_65 (tgt := 71) (by decide) (fun c11 => ?_) (fun c11 => ?_)
          · refine r_aload dX7_shift_71 rfl ?_
            refine r_iload_n dX7_shift_73 rfl ?_
            refine r_iload dX7_shift_74 rfl ?_
            refine un_X3_hasPlaces (ok_X3_hasPlaces g s0 (Int32.toNatClampNeg x1) x2 x5 (by omega)) dX7_shift_76 mn_X7_253 (by omega) (Nat.le_of_ble_eq_true rfl) (fits_m (by decide) (by decide)) room_m (fun q12 => ?_)
            refine r_ifeq dX7_shift_79 (tgt := 94) (by decide) (fun c13 => ?_) (fun c13 => ?_)
            · refine r_bipush dX7_shift_94 cb_m13 ?_
              exact r_iret dX7_shift_96 rfl rfl
            · refine r_aload dX7_shift_82 rfl ?_
              refine r_iload dX7_shift_84 rfl ?_
              refine r_iload dX7_shift_86 rfl ?_
              refine un_X3_hasPlaces (ok_X3_hasPlaces g s0 (Int32.toNatClampNeg x3) x4 x5 (by omega)) dX7_shift_88 mn_X7_253 (by omega) (Nat.le_of_ble_eq_true rfl) (fits_m (by decide) (by decide)) room_m (fun q14 => ?_)
              refine r_ifne dX7_shift_91 (tgt := 97) (by decide) (fun c15 => ?_) (fun c15 => ?_)
              · refine r_bipush dX7_shift_94 cb_m13 ?_
                exact r_iret dX7_shift_96 rfl rfl
              · refine r_aload dX7_shift_97 rfl ?_
                refine gf_X7_224 rfl dX7_shift_99 (by omega) ?_
                refine r_iload_n dX7_shift_102 rfl ?_
                refine r_aload dX7_shift_103 rfl ?_
                refine gf_X7_224 rfl dX7_shift_105 (by omega) ?_
                refine r_iload dX7_shift_108 rfl ?_
                refine r_iload dX7_shift_110 rfl ?_
                refine g_copyl (c0 := 3) (k := 0) (N := 60) dX7_shift_112 ml_X7_256 (by decide) rfl rfl (show _ < 6 from (by omega)) (show _ < 6 from (by omega)) (Nat.le_of_ble_eq_true rfl) (acr_m (by decide)) (fun h17 s16 => ?_)
                refine r_iload dX7_shift_115 rfl ?_
                exact r_iret dX7_shift_117 rfl rfl
          · refine r_bipush dX7_shift_68 cb_m12 ?_
            exact r_iret dX7_shift_70 rfl rfl
theorem ok_X7_shift (g : Gm) (s0 : Sto) (x1 : Int32) (x2 : Int32) (x3 : Int32) (x4 : Int32) (x5 : Int32) : Ok g yX7_shift kX7_shift 2 [.ref ((Em g 2).1.1 7 0 0), .int x1, .int x2, .int x3, .int x4, .int x5] s0 cvIw (f_X7_shift s0 x1 x2 x3 x4 x5) := Ok.of (by decide) rfl (Nat.le_of_ble_eq_true rfl) (lv := [some (.ref ((Em g 2).1.1 7 0 0)), some (.int x1), some (.int x2), some (.int x3), some (.int x4), some (.int x5), none, none]) rfl (s_X7_shift g s0 x1 x2 x3 x4 x5)
theorem u_X7_shift {α : Type} {cv : α → Res} {E : EE} {K : KK} {pc npc idx d : Nat} {lv : List (Option Value)} {st : List Value} {σ : Sto} {oc : Option (Int32 × Sto)} {kf : (Int32 × Sto) → Option α} {x1 : Int32} {x2 : Int32} {x3 : Int32} {x4 : Int32} {x5 : Int32} (hOk : Ok E.1 yX7_shift kX7_shift d [.ref (E.1.1 7 0 0), .int x1, .int x2, .int x3, .int x4, .int x5] σ cvIw oc) (hd : Dc K pc (.invokevirtual idx) 3 npc) (hlk : Cond.methodLink K.2.1 idx yX7_shift ∈ lw_good) (hw : (st.map fun v => v.category).sum ≤ 8) (hfit : fits_ E d 8) (hrm : room_ok E) (kk : ∀ q : Int32 × Sto, Rf cv E K npc lv (.int q.1 :: st) q.2 (kf q)) : Rf cv E K pc lv (.int x5 :: .int x4 :: .int x3 :: .int x2 :: .int x1 :: .ref (E.1.1 7 0 0) :: st) σ (oc.bind kf) := c_V (n := 5) (as := [.int x1, .int x2, .int x3, .int x4, .int x5]) (c0 := 7) (i := 0) (CC := "ThawGives") (T := TX7) (N := 11) hd hOk hlk wi_X7_shift wv_X7_shift wn_X7 wc_X7_shift rfl (by decide) (by decide) ⟨by decide, by decide, by decide⟩ rfl rfl hw hfit hrm (fun b _ => kk b)
def f_X8_within (x0 : Int32) (x1 : Int32) (x2 : Int32) : Option (Int32) :=
  (if x0 < x1 then
    some 0
  else
    (if x2 < x0 then
      some 0
    else
      some 1))
set_option maxRecDepth 100000 in
theorem s_X8_within (g : Gm) (sz : Sto) (x0 : Int32) (x1 : Int32) (x2 : Int32) : Rf (cvI sz) (Em g 0) kX8_within 0 [some (.int x0), some (.int x1), some (.int x2)] [] sz (f_X8_within x0 x1 x2) := by
  unfold f_X8_within
  refine r_iload_n dX8_within_0 rfl ?_
  refine r_iload_n dX8_within_1 rfl ?_
  refine r_iclt dX8_within_2 (tgt := 14) (by decide) (fun c1 => ?_) (fun c1 => ?_)
  · refine r_iconst dX8_within_14 ci_0 ?_
    exact r_zret dX8_within_15 rfl rfl rfl
  · refine r_iload_n dX8_within_5 rfl ?_
    refine r_iload_n dX8_within_6 rfl ?_
    refine r_icgt dX8_within_7 (tgt := 14) (by decide) (fun c2 => ?_) (fun c2 => ?_)
    · refine r_iconst dX8_within_14 ci_0 ?_
      exact r_zret dX8_within_15 rfl rfl rfl
    · refine r_iconst dX8_within_10 ci_1 ?_
      refine r_goto dX8_within_11 (tgt := 15) (by decide) ?_
      exact r_zret dX8_within_15 rfl rfl rfl
theorem ok_X8_within (g : Gm) (sz : Sto) (x0 : Int32) (x1 : Int32) (x2 : Int32) : Ok g yX8_within kX8_within 0 [.int x0, .int x1, .int x2] sz (cvI sz) (f_X8_within x0 x1 x2) := Ok.of (by decide) rfl (Nat.le_of_ble_eq_true rfl) (lv := [some (.int x0), some (.int x1), some (.int x2)]) rfl (s_X8_within g sz x0 x1 x2)
theorem u_X8_within {α : Type} {cv : α → Res} {E : EE} {K : KK} {pc npc idx d : Nat} {lv : List (Option Value)} {st : List Value} {σ : Sto} {oc : Option (Int32)} {kf : Int32 → Option α} {x0 : Int32} {x1 : Int32} {x2 : Int32} (hOk : Ok E.1 yX8_within kX8_within d [.int x0, .int x1, .int x2] σ (cvI σ) oc) (hd : Dc K pc (.invokestatic idx) 3 npc) (hlk : Cond.methodLink K.2.1 idx yX8_within ∈ lw_good) (hw : (st.map fun v => v.category).sum ≤ 8) (hfit : fits_ E d 3) (hrm : room_ok E) (kk : ∀ q : Int32, Rf cv E K npc lv (.int q :: st) σ (kf q)) : Rf cv E K pc lv (.int x2 :: .int x1 :: .int x0 :: st) σ (oc.bind kf) := c_S (n := 3) (as := [.int x0, .int x1, .int x2]) hd hOk hlk wt_X8_within wn_X8 wc_X8_within ⟨by decide, by decide, by decide⟩ rfl rfl hw hfit hrm (fun b _ => kk b)
def f_X8_thing_B102 (k102 : Sto → Int32 → Option (Int32 × Sto)) (s0 : Sto) (x5 : Int32) : Option (Int32 × Sto) :=
  (if (4 : Int32) ≤ x5 then
    nm (sF s0 8 0 0 ((s0.1 8 0 0) + 1)) fun s23 => some ((s0.1 8 0 0), s23)
  else
    (if 0 ≤ ((4 * (s0.1 8 0 0)) + x5) ∧ ((4 * (s0.1 8 0 0)) + x5) < 24 then nm (sA s0 8 5 0 (upd (s0.2.1 8 5 0) (Int32.toNatClampNeg ((4 * (s0.1 8 0 0)) + x5)) 0)) fun s26 => nmI (x5 + 1) fun v27 => k102 s26 v27 else none))
def f_X8_thing_L102 : Nat → Sto → Int32 → Option (Int32 × Sto)
  | 0 => fun _ _ => none
  | n + 1 => f_X8_thing_B102 (f_X8_thing_L102 n)
def f_X8_thing (s0 : Sto) (x1 : Int32) (x2 : Int32) (x3 : Int32) (x4 : Int32) : Option (Int32 × Sto) :=
  (f_X8_within x1 0 6).bind fun q1 => (if q1 = 0 then
    some ((-1 : Int32), s0)
  else
    (f_X8_within x2 0 9).bind fun q3 => (if q3 = 0 then
      some ((-2 : Int32), s0)
    else
      (f_X8_within x3 0 99).bind fun q5 => (if q5 = 0 then
        some ((-2 : Int32), s0)
      else
        (f_X8_within x4 0 99).bind fun q7 => (if q7 = 0 then
          some ((-2 : Int32), s0)
        else
          (if (s0.1 8 0 0) = 6 then
            some ((-4 : Int32), s0)
          else
            (if 0 ≤ (s0.1 8 0 0) ∧ (s0.1 8 0 0) < 6 then nm (sA s0 8 1 0 (upd (s0.2.1 8 1 0) (Int32.toNatClampNeg (s0.1 8 0 0)) x1)) fun s12 => (if 0 ≤ (s12.1 8 0 0) ∧ (s12.1 8 0 0) < 6 then nm (sA s12 8 2 0 (upd (s12.2.1 8 2 0) (Int32.toNatClampNeg (s12.1 8 0 0)) x2)) fun s15 => (if 0 ≤ (s15.1 8 0 0) ∧ (s15.1 8 0 0) < 6 then nm (sA s15 8 3 0 (upd (s15.2.1 8 3 0) (Int32.toNatClampNeg (s15.1 8 0 0)) x3)) fun s18 => (if 0 ≤ (s18.1 8 0 0) ∧ (s18.1 8 0 0) < 6 then nm (sA s18 8 4 0 (upd (s18.2.1 8 4 0) (Int32.toNatClampNeg (s18.1 8 0 0)) x4)) fun s21 => f_X8_thing_L102 1000 s21 0 else none) else none) else none) else none))))))
set_option maxRecDepth 100000 in
theorem s_X8_thing_B102 (g : Gm) (k102 : Sto → Int32 → Option (Int32 × Sto)) (hk102 : ∀ (s0 : Sto) (x5 : Int32), Rf cvIw (Em g 1) kX8_thing 102 [some (.ref ((Em g 1).1.1 8 0 0)), none, none, none, none, some (.int x5)] [] s0 (k102 s0 x5)) (s0 : Sto) (x5 : Int32) : Rf cvIw (Em g 1) kX8_thing 102 [some (.ref ((Em g 1).1.1 8 0 0)), none, none, none, none, some (.int x5)] [] s0 (f_X8_thing_B102 k102 s0 x5) := by
  unfold f_X8_thing_B102
  refine r_iload dX8_thing_102 rfl ?_
  refine r_iconst dX8_thing_104 ci_4 ?_
  refine r_icge dX8_thing_105 (tgt := 129) (by decide) (fun c22 => ?_) (fun c22 => ?_)
  · refine r_aload_n dX8_thing_129 rfl ?_
    refine r_dup dX8_thing_130 rfl ?_
    refine gf_X8_102 rfl dX8_thing_131 ?_
    refine r_dup_x1 dX8_thing_134 rfl rfl ?_
    refine r_iconst dX8_thing_135 ci_1 ?_
    refine r_iadd dX8_thing_136 ?_
    refine pf_X8_102 rfl dX8_thing_137 (fun s23 => ?_)
    exact r_iret dX8_thing_140 rfl rfl
  · refine r_aload_n dX8_thing_108 rfl ?_
    refine gf_X8_24 rfl dX8_thing_109 ?_
    refine r_iconst dX8_thing_112 ci_4 ?_
    refine r_aload_n dX8_thing_113 rfl ?_
    refine gf_X8_102 rfl dX8_thing_114 ?_
    refine r_imul dX8_thing_117 ?_
    refine r_iload dX8_thing_118 rfl ?_
    refine r_iadd dX8_thing_120 ?_
    refine r_iconst dX8_thing_121 ci_0 ?_
    refine as_8_5 dX8_thing_122 (fun hg24 hj25 s26 => ?_)
    refine r_iincN dX8_thing_123 rfl ci_1 rfl (lt_b rfl) (fun v27 => ?_)
    refine r_goto dX8_thing_126 (tgt := 102) (by decide) ?_
    exact r_mask [true, false, false, false, false, true] (hk102 s26 v27)
theorem s_X8_thing_L102 (g : Gm) : ∀ (n : Nat) (s0 : Sto) (x5 : Int32), Rf cvIw (Em g 1) kX8_thing 102 [some (.ref ((Em g 1).1.1 8 0 0)), none, none, none, none, some (.int x5)] [] s0 (f_X8_thing_L102 n s0 x5)
  | 0, _, _ => r_none
  | n + 1, s0, x5 => s_X8_thing_B102 g (f_X8_thing_L102 n) (s_X8_thing_L102 g n) s0 x5
set_option maxRecDepth 100000 in
theorem s_X8_thing (g : Gm) (s0 : Sto) (x1 : Int32) (x2 : Int32) (x3 : Int32) (x4 : Int32) : Rf cvIw (Em g 1) kX8_thing 0 [some (.ref ((Em g 1).1.1 8 0 0)), some (.int x1), some (.int x2), some (.int x3), some (.int x4), none] [] s0 (f_X8_thing s0 x1 x2 x3 x4) := by
  unfold f_X8_thing
  refine r_iload_n dX8_thing_0 rfl ?_
  refine r_iconst dX8_thing_1 ci_0 ?_
  refine r_bipush dX8_thing_2 cb_6 ?_
  refine u_X8_within (ok_X8_within g s0 x1 0 6) dX8_thing_4 ml_X8_105 (Nat.le_of_ble_eq_true rfl) (fits_m (by decide) (by decide)) room_m (fun q1 => ?_)
  refine r_ifne dX8_thing_7 (tgt := 12) (by decide) (fun c2 => ?_) (fun c2 => ?_)
  · refine r_iconst dX8_thing_10 ci_m1 ?_
    exact r_iret dX8_thing_11 rfl rfl
  · refine r_iload_n dX8_thing_12 rfl ?_
    refine r_iconst dX8_thing_13 ci_0 ?_
    refine r_bipush dX8_thing_14 cb_9 ?_
    refine u_X8_within (ok_X8_within g s0 x2 0 9) dX8_thing_16 ml_X8_105 (Nat.le_of_ble_eq_true rfl) (fits_m (by decide) (by decide)) room_m (fun q3 => ?_)
    refine r_ifeq dX8_thing_19 (tgt := 43) (by decide) (fun c4 => ?_) (fun c4 => ?_)
    · refine r_bipush dX8_thing_43 cb_m2 ?_
      exact r_iret dX8_thing_45 rfl rfl
    · refine r_iload_n dX8_thing_22 rfl ?_
      refine r_iconst dX8_thing_23 ci_0 ?_
      refine r_bipush dX8_thing_24 cb_99 ?_
      refine u_X8_within (ok_X8_within g s0 x3 0 99) dX8_thing_26 ml_X8_105 (Nat.le_of_ble_eq_true rfl) (fits_m (by decide) (by decide)) room_m (fun q5 => ?_)
      refine r_ifeq dX8_thing_29 (tgt := 43) (by decide) (fun c6 => ?_) (fun c6 => ?_)
      · refine r_bipush dX8_thing_43 cb_m2 ?_
        exact r_iret dX8_thing_45 rfl rfl
      · refine r_iload dX8_thing_32 rfl ?_
        refine r_iconst dX8_thing_34 ci_0 ?_
        refine r_bipush dX8_thing_35 cb_99 ?_
        refine u_X8_within (ok_X8_within g s0 x4 0 99) dX8_thing_37 ml_X8_105 (Nat.le_of_ble_eq_true rfl) (fits_m (by decide) (by decide)) room_m (fun q7 => ?_)
        refine r_ifne dX8_thing_40 (tgt := 46) (by decide) (fun c8 => ?_) (fun c8 => ?_)
        · refine r_bipush dX8_thing_43 cb_m2 ?_
          exact r_iret dX8_thing_45 rfl rfl
        · refine r_aload_n dX8_thing_46 rfl ?_
          refine gf_X8_102 rfl dX8_thing_47 ?_
          refine r_bipush dX8_thing_50 cb_6 ?_
          refine r_icne dX8_thing_52 (tgt := 58) (by decide) (fun c9 => ?_) (fun c9 => ?_)
          · refine r_bipush dX8_thing_55 cb_m4 ?_
            exact r_iret dX8_thing_57 rfl rfl
          · refine r_aload_n dX8_thing_58 rfl ?_
            refine gf_X8_9 rfl dX8_thing_59 ?_
            refine r_aload_n dX8_thing_62 rfl ?_
            refine gf_X8_102 rfl dX8_thing_63 ?_
            refine r_iload_n dX8_thing_66 rfl ?_
            refine as_8_1 dX8_thing_67 (fun hg10 hj11 s12 => ?_)
            refine r_aload_n dX8_thing_68 rfl ?_
            refine gf_X8_15 rfl dX8_thing_69 ?_
            refine r_aload_n dX8_thing_72 rfl ?_
            refine gf_X8_102 rfl dX8_thing_73 ?_
            refine r_iload_n dX8_thing_76 rfl ?_
            refine as_8_2 dX8_thing_77 (fun hg13 hj14 s15 => ?_)
            refine r_aload_n dX8_thing_78 rfl ?_
            refine gf_X8_18 rfl dX8_thing_79 ?_
            refine r_aload_n dX8_thing_82 rfl ?_
            refine gf_X8_102 rfl dX8_thing_83 ?_
            refine r_iload_n dX8_thing_86 rfl ?_
            refine as_8_3 dX8_thing_87 (fun hg16 hj17 s18 => ?_)
            refine r_aload_n dX8_thing_88 rfl ?_
            refine gf_X8_21 rfl dX8_thing_89 ?_
            refine r_aload_n dX8_thing_92 rfl ?_
            refine gf_X8_102 rfl dX8_thing_93 ?_
            refine r_iload dX8_thing_96 rfl ?_
            refine as_8_4 dX8_thing_98 (fun hg19 hj20 s21 => ?_)
            refine r_iconst dX8_thing_99 ci_0 ?_
            refine r_istore dX8_thing_100 rfl (lt_b rfl) (lt_b rfl) ?_
            exact r_mask [true, false, false, false, false, true] (s_X8_thing_L102 g 1000 s21 0)
theorem ok_X8_thing (g : Gm) (s0 : Sto) (x1 : Int32) (x2 : Int32) (x3 : Int32) (x4 : Int32) : Ok g yX8_thing kX8_thing 1 [.ref ((Em g 1).1.1 8 0 0), .int x1, .int x2, .int x3, .int x4] s0 cvIw (f_X8_thing s0 x1 x2 x3 x4) := Ok.of (by decide) rfl (Nat.le_of_ble_eq_true rfl) (lv := [some (.ref ((Em g 1).1.1 8 0 0)), some (.int x1), some (.int x2), some (.int x3), some (.int x4), none]) rfl (s_X8_thing g s0 x1 x2 x3 x4)
theorem u_X8_thing {α : Type} {cv : α → Res} {E : EE} {K : KK} {pc npc idx d : Nat} {lv : List (Option Value)} {st : List Value} {σ : Sto} {oc : Option (Int32 × Sto)} {kf : (Int32 × Sto) → Option α} {x1 : Int32} {x2 : Int32} {x3 : Int32} {x4 : Int32} (hOk : Ok E.1 yX8_thing kX8_thing d [.ref (E.1.1 8 0 0), .int x1, .int x2, .int x3, .int x4] σ cvIw oc) (hd : Dc K pc (.invokevirtual idx) 3 npc) (hlk : Cond.methodLink K.2.1 idx yX8_thing ∈ lw_good) (hw : (st.map fun v => v.category).sum ≤ 8) (hfit : fits_ E d 6) (hrm : room_ok E) (kk : ∀ q : Int32 × Sto, Rf cv E K npc lv (.int q.1 :: st) q.2 (kf q)) : Rf cv E K pc lv (.int x4 :: .int x3 :: .int x2 :: .int x1 :: .ref (E.1.1 8 0 0) :: st) σ (oc.bind kf) := c_V (n := 4) (as := [.int x1, .int x2, .int x3, .int x4]) (c0 := 8) (i := 0) (CC := "ThawGivesModel") (T := TX8) (N := 43) hd hOk hlk wi_X8_thing wv_X8_thing wn_X8 wc_X8_thing rfl (by decide) (by decide) ⟨by decide, by decide, by decide⟩ rfl rfl hw hfit hrm (fun b _ => kk b)
def f_X8_isOne (s0 : Sto) (x1 : Int32) : Option (Int32) :=
  (f_X8_within x1 0 ((s0.1 8 0 0) - 1)).bind fun q1 => (if q1 = 0 ∨ q1 = 1 then some q1 else none)
set_option maxRecDepth 100000 in
theorem s_X8_isOne (g : Gm) (s0 : Sto) (x1 : Int32) : Rf (cvI s0) (Em g 1) kX8_isOne 0 [some (.ref ((Em g 1).1.1 8 0 0)), some (.int x1)] [] s0 (f_X8_isOne s0 x1) := by
  unfold f_X8_isOne
  refine r_iload_n dX8_isOne_0 rfl ?_
  refine r_iconst dX8_isOne_1 ci_0 ?_
  refine r_aload_n dX8_isOne_2 rfl ?_
  refine gf_X8_102 rfl dX8_isOne_3 ?_
  refine r_iconst dX8_isOne_6 ci_1 ?_
  refine r_isub dX8_isOne_7 ?_
  refine u_X8_within (ok_X8_within g s0 x1 0 ((s0.1 8 0 0) - 1)) dX8_isOne_8 ml_X8_105 (Nat.le_of_ble_eq_true rfl) (fits_m (by decide) (by decide)) room_m (fun q1 => ?_)
  exact r_gd (fun hz => r_zret dX8_isOne_11 rfl (nz01 hz) rfl)
theorem ok_X8_isOne (g : Gm) (s0 : Sto) (x1 : Int32) : Ok g yX8_isOne kX8_isOne 1 [.ref ((Em g 1).1.1 8 0 0), .int x1] s0 (cvI s0) (f_X8_isOne s0 x1) := Ok.of (by decide) rfl (Nat.le_of_ble_eq_true rfl) (lv := [some (.ref ((Em g 1).1.1 8 0 0)), some (.int x1)]) rfl (s_X8_isOne g s0 x1)
theorem u_X8_isOne {α : Type} {cv : α → Res} {E : EE} {K : KK} {pc npc idx d : Nat} {lv : List (Option Value)} {st : List Value} {σ : Sto} {oc : Option (Int32)} {kf : Int32 → Option α} {x1 : Int32} (hOk : Ok E.1 yX8_isOne kX8_isOne d [.ref (E.1.1 8 0 0), .int x1] σ (cvI σ) oc) (hd : Dc K pc (.invokevirtual idx) 3 npc) (hlk : Cond.methodLink K.2.1 idx yX8_isOne ∈ lw_good) (hw : (st.map fun v => v.category).sum ≤ 8) (hfit : fits_ E d 2) (hrm : room_ok E) (kk : ∀ q : Int32, Rf cv E K npc lv (.int q :: st) σ (kf q)) : Rf cv E K pc lv (.int x1 :: .ref (E.1.1 8 0 0) :: st) σ (oc.bind kf) := c_V (n := 1) (as := [.int x1]) (c0 := 8) (i := 0) (CC := "ThawGivesModel") (T := TX8) (N := 43) hd hOk hlk wi_X8_isOne wv_X8_isOne wn_X8 wc_X8_isOne rfl (by decide) (by decide) ⟨by decide, by decide, by decide⟩ rfl rfl hw hfit hrm (fun b _ => kk b)
