def f_J9_min_7cf53 (x0 : Int32) (x1 : Int32) : Option (Int32) :=
  (if x1 < x0 then
    some x1
  else
    some x0)
set_option maxRecDepth 100000 in
theorem s_J9_min_7cf53 (g : Gm) (sz : Sto) (x0 : Int32) (x1 : Int32) : Rf (cvI sz) (Em g 0) kJ9_min_7cf53 0 [some (.int x0), some (.int x1)] [] sz (f_J9_min_7cf53 x0 x1) := by
  unfold f_J9_min_7cf53
  refine r_iload_n dJ9_min_7cf53_0 rfl ?_
  refine r_iload_n dJ9_min_7cf53_1 rfl ?_
  refine r_icgt dJ9_min_7cf53_2 (tgt := 9) (by decide) (fun c1 => ?_) (fun c1 => ?_)
  · refine r_iload_n dJ9_min_7cf53_9 rfl ?_
    exact r_iret dJ9_min_7cf53_10 rfl rfl
  · refine r_iload_n dJ9_min_7cf53_5 rfl ?_
    refine r_goto dJ9_min_7cf53_6 (tgt := 10) (by decide) ?_
    exact r_iret dJ9_min_7cf53_10 rfl rfl
theorem ok_J9_min_7cf53 (g : Gm) (sz : Sto) (x0 : Int32) (x1 : Int32) : Ok g yJ9_min_7cf53 kJ9_min_7cf53 0 [.int x0, .int x1] sz (cvI sz) (f_J9_min_7cf53 x0 x1) := Ok.ofF (by decide +kernel) rfl (Nat.le_of_ble_eq_true rfl) (lv := [some (.int x0), some (.int x1)]) rfl (s_J9_min_7cf53 g sz x0 x1)
theorem u_J9_min_7cf53 {α : Type} {cv : α → Res} {E : EE} {K : KK} {pc npc idx d : Nat} {lv : List (Option Value)} {st : List Value} {σ : Sto} {oc : Option (Int32)} {kf : Int32 → Option α} {x0 : Int32} {x1 : Int32} (hOk : Ok E.1 yJ9_min_7cf53 kJ9_min_7cf53 d [.int x0, .int x1] σ (cvI σ) oc) (hd : Dc K pc (.invokestatic idx) 3 npc) (hlk : Cond.methodLink K.2.1 idx yJ9_min_7cf53 ∈ lw_good) (hw : (st.map fun v => v.category).sum ≤ 8) (hfit : fits_ E d 2) (hrm : room_ok E) (kk : ∀ q : Int32, Rf cv E K npc lv (.int q :: st) σ (kf q)) : Rf cv E K pc lv (.int x1 :: .int x0 :: st) σ (oc.bind kf) := c_S (n := 2) (as := [.int x0, .int x1]) hd hOk hlk wt_J9_min_7cf53 wn_J9 wc_J9_min_7cf53 ⟨by decide, by decide, by decide⟩ rfl rfl hw hfit hrm (fun b _ => kk b)
def f_X7_isUpTo (x0 : Int32) (x1 : Int32) : Option (Int32) :=
  (if x0 < 0 then
    some 0
  else
    (if x1 < x0 then
      some 0
    else
      some 1))
set_option maxRecDepth 100000 in
theorem s_X7_isUpTo (g : Gm) (sz : Sto) (x0 : Int32) (x1 : Int32) : Rf (cvI sz) (Em g 0) kX7_isUpTo 0 [some (.int x0), some (.int x1)] [] sz (f_X7_isUpTo x0 x1) := by
  unfold f_X7_isUpTo
  refine r_iload_n dX7_isUpTo_0 rfl ?_
  refine r_iflt dX7_isUpTo_1 (tgt := 13) (by decide) (fun c1 => ?_) (fun c1 => ?_)
  · refine r_iconst dX7_isUpTo_13 ci_0 ?_
    exact r_zret dX7_isUpTo_14 rfl rfl rfl
  · refine r_iload_n dX7_isUpTo_4 rfl ?_
    refine r_iload_n dX7_isUpTo_5 rfl ?_
    refine r_icgt dX7_isUpTo_6 (tgt := 13) (by decide) (fun c2 => ?_) (fun c2 => ?_)
    · refine r_iconst dX7_isUpTo_13 ci_0 ?_
      exact r_zret dX7_isUpTo_14 rfl rfl rfl
    · refine r_iconst dX7_isUpTo_9 ci_1 ?_
      refine r_goto dX7_isUpTo_10 (tgt := 14) (by decide) ?_
      exact r_zret dX7_isUpTo_14 rfl rfl rfl
theorem ok_X7_isUpTo (g : Gm) (sz : Sto) (x0 : Int32) (x1 : Int32) : Ok g yX7_isUpTo kX7_isUpTo 0 [.int x0, .int x1] sz (cvI sz) (f_X7_isUpTo x0 x1) := Ok.of (by decide) rfl (Nat.le_of_ble_eq_true rfl) (lv := [some (.int x0), some (.int x1)]) rfl (s_X7_isUpTo g sz x0 x1)
theorem u_X7_isUpTo {α : Type} {cv : α → Res} {E : EE} {K : KK} {pc npc idx d : Nat} {lv : List (Option Value)} {st : List Value} {σ : Sto} {oc : Option (Int32)} {kf : Int32 → Option α} {x0 : Int32} {x1 : Int32} (hOk : Ok E.1 yX7_isUpTo kX7_isUpTo d [.int x0, .int x1] σ (cvI σ) oc) (hd : Dc K pc (.invokestatic idx) 3 npc) (hlk : Cond.methodLink K.2.1 idx yX7_isUpTo ∈ lw_good) (hw : (st.map fun v => v.category).sum ≤ 8) (hfit : fits_ E d 2) (hrm : room_ok E) (kk : ∀ q : Int32, Rf cv E K npc lv (.int q :: st) σ (kf q)) : Rf cv E K pc lv (.int x1 :: .int x0 :: st) σ (oc.bind kf) := c_S (n := 2) (as := [.int x0, .int x1]) hd hOk hlk wt_X7_isUpTo wn_X7 wc_X7_isUpTo ⟨by decide, by decide, by decide⟩ rfl rfl hw hfit hrm (fun b _ => kk b)
def f_X5_begin_B24 (k24 : Sto → Nat → Int32 → Option (Sto)) (s0 : Sto) (i0 : Nat) (x5 : Int32) : Option (Sto) :=
  (if (4 : Int32) ≤ x5 then
    some s0
  else
    (if 0 ≤ x5 ∧ x5 < 4 then nm (sA s0 5 5 i0 (upd (s0.2.1 5 5 i0) (Int32.toNatClampNeg x5) 0)) fun s8 => nmI (x5 + 1) fun v9 => k24 s8 i0 v9 else none))
def f_X5_begin_L24 : Nat → Sto → Nat → Int32 → Option (Sto)
  | 0 => fun _ _ _ => none
  | n + 1 => f_X5_begin_B24 (f_X5_begin_L24 n)
def f_X5_begin (s0 : Sto) (i0 : Nat) (x1 : Int32) (x2 : Int32) (x3 : Int32) (x4 : Int32) : Option (Sto) :=
  nm (sF s0 5 1 i0 x1) fun s1 => nm (sF s1 5 2 i0 x2) fun s2 => nm (sF s2 5 3 i0 x3) fun s3 => nm (sF s3 5 4 i0 x4) fun s4 => f_X5_begin_L24 1000 s4 i0 0
set_option maxRecDepth 100000 in
theorem s_X5_begin_B24 (g : Gm) (k24 : Sto → Nat → Int32 → Option (Sto)) (hk24 : ∀ (s0 : Sto) (i0 : Nat) (x5 : Int32) (hi0 : i0 < 13), Rf cvV (Em g 0) kX5_begin 24 [some (.ref ((Em g 0).1.1 5 0 i0)), none, none, none, none, some (.int x5)] [] s0 (k24 s0 i0 x5)) (s0 : Sto) (i0 : Nat) (x5 : Int32) (hi0 : i0 < 13) : Rf cvV (Em g 0) kX5_begin 24 [some (.ref ((Em g 0).1.1 5 0 i0)), none, none, none, none, some (.int x5)] [] s0 (f_X5_begin_B24 k24 s0 i0 x5) := by
  unfold f_X5_begin_B24
  refine r_iload dX5_begin_24 rfl ?_
  refine r_aload_n dX5_begin_26 rfl ?_
  refine gf_X5_24 rfl dX5_begin_27 hi0 ?_
  refine ln_5_5 dX5_begin_30 hi0 ?_
  refine r_icge dX5_begin_31 (tgt := 48) (by decide) (fun c5 => ?_) (fun c5 => ?_)
  · exact r_vret dX5_begin_48 rfl rfl
  · refine r_aload_n dX5_begin_34 rfl ?_
    refine gf_X5_24 rfl dX5_begin_35 hi0 ?_
    refine r_iload dX5_begin_38 rfl ?_
    refine r_iconst dX5_begin_40 ci_0 ?_
    refine as_5_5 dX5_begin_41 hi0 (fun hg6 hj7 s8 => ?_)
    refine r_iincN dX5_begin_42 rfl ci_1 rfl (lt_b rfl) (fun v9 => ?_)
    refine r_goto dX5_begin_45 (tgt := 24) (by decide) ?_
    exact r_mask [true, false, false, false, false, true] (hk24 s8 i0 v9 hi0)
theorem s_X5_begin_L24 (g : Gm) : ∀ (n : Nat) (s0 : Sto) (i0 : Nat) (x5 : Int32) (hi0 : i0 < 13), Rf cvV (Em g 0) kX5_begin 24 [some (.ref ((Em g 0).1.1 5 0 i0)), none, none, none, none, some (.int x5)] [] s0 (f_X5_begin_L24 n s0 i0 x5)
  | 0, _, _, _, _ => r_none
  | n + 1, s0, i0, x5, hi0 => s_X5_begin_B24 g (f_X5_begin_L24 n) (s_X5_begin_L24 g n) s0 i0 x5 hi0
set_option maxRecDepth 100000 in
theorem s_X5_begin (g : Gm) (s0 : Sto) (i0 : Nat) (x1 : Int32) (x2 : Int32) (x3 : Int32) (x4 : Int32) (hi0 : i0 < 13) : Rf cvV (Em g 0) kX5_begin 0 [some (.ref ((Em g 0).1.1 5 0 i0)), some (.int x1), some (.int x2), some (.int x3), some (.int x4), none] [] s0 (f_X5_begin s0 i0 x1 x2 x3 x4) := by
  unfold f_X5_begin
  refine r_aload_n dX5_begin_0 rfl ?_
  refine r_iload_n dX5_begin_1 rfl ?_
  refine pf_X5_9 rfl dX5_begin_2 hi0 (fun s1 => ?_)
  refine r_aload_n dX5_begin_5 rfl ?_
  refine r_iload_n dX5_begin_6 rfl ?_
  refine pf_X5_15 rfl dX5_begin_7 hi0 (fun s2 => ?_)
  refine r_aload_n dX5_begin_10 rfl ?_
  refine r_iload_n dX5_begin_11 rfl ?_
  refine pf_X5_18 rfl dX5_begin_12 hi0 (fun s3 => ?_)
  refine r_aload_n dX5_begin_15 rfl ?_
  refine r_iload dX5_begin_16 rfl ?_
  refine pf_X5_21 rfl dX5_begin_18 hi0 (fun s4 => ?_)
  refine r_iconst dX5_begin_21 ci_0 ?_
  refine r_istore dX5_begin_22 rfl (lt_b rfl) (lt_b rfl) ?_
  exact r_mask [true, false, false, false, false, true] (s_X5_begin_L24 g 1000 s4 i0 0 hi0)
theorem ok_X5_begin (g : Gm) (s0 : Sto) (i0 : Nat) (x1 : Int32) (x2 : Int32) (x3 : Int32) (x4 : Int32) (hi0 : i0 < 13) : Ok g yX5_begin kX5_begin 0 [.ref ((Em g 0).1.1 5 0 i0), .int x1, .int x2, .int x3, .int x4] s0 cvV (f_X5_begin s0 i0 x1 x2 x3 x4) := Ok.of (by decide) rfl (Nat.le_of_ble_eq_true rfl) (lv := [some (.ref ((Em g 0).1.1 5 0 i0)), some (.int x1), some (.int x2), some (.int x3), some (.int x4), none]) rfl (s_X5_begin g s0 i0 x1 x2 x3 x4 hi0)
theorem u_X5_begin {α : Type} {cv : α → Res} {E : EE} {K : KK} {pc npc idx d : Nat} {lv : List (Option Value)} {st : List Value} {σ : Sto} {oc : Option (Sto)} {kf : Sto → Option α} {i0 : Nat} {x1 : Int32} {x2 : Int32} {x3 : Int32} {x4 : Int32} (hOk : Ok E.1 yX5_begin kX5_begin d [.ref (E.1.1 5 0 i0), .int x1, .int x2, .int x3, .int x4] σ cvV oc) (hd : Dc K pc (.invokevirtual idx) 3 npc) (hlk : Cond.methodLink K.2.1 idx yX5_begin ∈ lw_good) (hi : i0 < 13) (hw : (st.map fun v => v.category).sum ≤ 8) (hfit : fits_ E d 6) (hrm : room_ok E) (kk : ∀ τ : Sto, Rf cv E K npc lv st τ (kf τ)) : Rf cv E K pc lv (.int x4 :: .int x3 :: .int x2 :: .int x1 :: .ref (E.1.1 5 0 i0) :: st) σ (oc.bind kf) := c_V (n := 4) (as := [.int x1, .int x2, .int x3, .int x4]) (c0 := 5) (i := i0) (CC := "ThawGives$Thing") (T := TX5) (N := 7) hd hOk hlk wi_X5_begin wv_X5_begin wn_X5 wc_X5_begin rfl (by decide) hi ⟨by decide, by decide, by decide⟩ rfl rfl hw hfit hrm (fun b _ => kk b)
theorem un_X5_begin {α : Type} {cv : α → Res} {E : EE} {K : KK} {pc npc idx d : Nat} {lv : List (Option Value)} {st : List Value} {σ : Sto} {oc : Option (Sto)} {kf : Sto → Option α} {i0 : Nat} {x1 : Int32} {x2 : Int32} {x3 : Int32} {x4 : Int32} (hOk : Ok E.1 yX5_begin kX5_begin d [.ref (E.1.1 5 0 i0), .int x1, .int x2, .int x3, .int x4] σ cvV oc) (hd : Dc K pc (.invokevirtual idx) 3 npc) (hlk : Cond.methodLinkNest K.2.1 idx yX5_begin "ThawGives" ∈ lw_nest) (hi : i0 < 13) (hw : (st.map fun v => v.category).sum ≤ 8) (hfit : fits_ E d 6) (hrm : room_ok E) (kk : ∀ τ : Sto, Rf cv E K npc lv st τ (kf τ)) : Rf cv E K pc lv (.int x4 :: .int x3 :: .int x2 :: .int x1 :: .ref (E.1.1 5 0 i0) :: st) σ (oc.bind kf) := c_N (n := 4) (as := [.int x1, .int x2, .int x3, .int x4]) (c0 := 5) (i := i0) (CC := "ThawGives$Thing") (T := TX5) (N := 7) hd hOk hlk wi_X5_begin wv_X5_begin wn_X5 wc_X5_begin rfl (by decide) hi ⟨by decide, by decide, by decide⟩ rfl rfl hw hfit hrm (fun b _ => kk b)
def f_X7_thing (s0 : Sto) (x1 : Int32) (x2 : Int32) (x3 : Int32) (x4 : Int32) : Option (Int32 × Sto) :=
  (f_X7_isUpTo x1 6).bind fun q1 => (if q1 = 0 then
    some ((-1 : Int32), s0)
  else
    (f_X7_isUpTo x2 9).bind fun q3 => (if q3 = 0 then
      some ((-2 : Int32), s0)
    else
      (f_X7_isUpTo x3 99).bind fun q5 => (if q5 = 0 then
        some ((-2 : Int32), s0)
      else
        (f_X7_isUpTo x4 99).bind fun q7 => (if q7 = 0 then
          some ((-2 : Int32), s0)
        else
          (if (s0.1 6 1 0) < 6 then
            nmI ((s0.1 6 1 0)) fun v10 => (if 0 ≤ v10 ∧ v10 < 6 then (f_X5_begin s0 (6 * 0 + Int32.toNatClampNeg v10) x1 x2 x3 x4).bind fun q13 => nm (sF q13 6 1 0 ((q13.1 6 1 0) + 1)) fun s14 => some (v10, s14) else none)
          else
            some ((-4 : Int32), s0))))))
set_option maxRecDepth 100000 in
theorem s_X7_thing (g : Gm) (s0 : Sto) (x1 : Int32) (x2 : Int32) (x3 : Int32) (x4 : Int32) : Rf cvIw (Em g 1) kX7_thing 0 [some (.ref ((Em g 1).1.1 7 0 0)), some (.int x1), some (.int x2), some (.int x3), some (.int x4), none] [] s0 (f_X7_thing s0 x1 x2 x3 x4) := by
  unfold f_X7_thing
  refine r_iload_n dX7_thing_0 rfl ?_
  refine r_bipush dX7_thing_1 cb_6 ?_
  refine u_X7_isUpTo (ok_X7_isUpTo g s0 x1 6) dX7_thing_3 ml_X7_74 (Nat.le_of_ble_eq_true rfl) (fits_m (by decide) (by decide)) room_m (fun q1 => ?_)
  refine r_ifne dX7_thing_6 (tgt := 11) (by decide) (fun c2 => ?_) (fun c2 => ?_)
  · refine r_iconst dX7_thing_9 ci_m1 ?_
    exact r_iret dX7_thing_10 rfl rfl
  · refine r_iload_n dX7_thing_11 rfl ?_
    refine r_bipush dX7_thing_12 cb_9 ?_
    refine u_X7_isUpTo (ok_X7_isUpTo g s0 x2 9) dX7_thing_14 ml_X7_74 (Nat.le_of_ble_eq_true rfl) (fits_m (by decide) (by decide)) room_m (fun q3 => ?_)
    refine r_ifeq dX7_thing_17 (tgt := 39) (by decide) (fun c4 => ?_) (fun c4 => ?_)
    · refine r_bipush dX7_thing_39 cb_m2 ?_
      exact r_iret dX7_thing_41 rfl rfl
    · refine r_iload_n dX7_thing_20 rfl ?_
      refine r_bipush dX7_thing_21 cb_99 ?_
      refine u_X7_isUpTo (ok_X7_isUpTo g s0 x3 99) dX7_thing_23 ml_X7_74 (Nat.le_of_ble_eq_true rfl) (fits_m (by decide) (by decide)) room_m (fun q5 => ?_)
      refine r_ifeq dX7_thing_26 (tgt := 39) (by decide) (fun c6 => ?_) (fun c6 => ?_)
      · refine r_bipush dX7_thing_39 cb_m2 ?_
        exact r_iret dX7_thing_41 rfl rfl
      · refine r_iload dX7_thing_29 rfl ?_
        refine r_bipush dX7_thing_31 cb_99 ?_
        refine u_X7_isUpTo (ok_X7_isUpTo g s0 x4 99) dX7_thing_33 ml_X7_74 (Nat.le_of_ble_eq_true rfl) (fits_m (by decide) (by decide)) room_m (fun q7 => ?_)
        refine r_ifne dX7_thing_36 (tgt := 42) (by decide) (fun c8 => ?_) (fun c8 => ?_)
        · refine r_bipush dX7_thing_39 cb_m2 ?_
          exact r_iret dX7_thing_41 rfl rfl
        · refine r_aload_n dX7_thing_42 rfl ?_
          refine gf_X7_14 rfl dX7_thing_43 ?_
          refine gf_X7_78 rfl dX7_thing_46 (by decide) ?_
          refine r_bipush dX7_thing_49 cb_6 ?_
          refine r_iclt dX7_thing_51 (tgt := 57) (by decide) (fun c9 => ?_) (fun c9 => ?_)
          · refine r_aload_n dX7_thing_57 rfl ?_
            refine gf_X7_14 rfl dX7_thing_58 ?_
            refine gf_X7_78 rfl dX7_thing_61 (by decide) ?_
            refine r_istoreN dX7_thing_64 rfl (lt_b rfl) (lt_b rfl) (fun v10 => ?_)
            refine r_aload_n dX7_thing_66 rfl ?_
            refine gf_X7_14 rfl dX7_thing_67 ?_
            refine gf_X7_81 rfl dX7_thing_70 (by decide) ?_
            refine r_iload dX7_thing_73 rfl ?_
            refine al_6_0 dX7_thing_75 (by decide) (fun hg11 hj12 => ?_)
            refine r_iload_n dX7_thing_76 rfl ?_
            refine r_iload_n dX7_thing_77 rfl ?_
            refine r_iload_n dX7_thing_78 rfl ?_
            refine r_iload dX7_thing_79 rfl ?_
            refine un_X5_begin (ok_X5_begin g s0 (6 * 0 + Int32.toNatClampNeg v10) x1 x2 x3 x4 (by omega)) dX7_thing_81 mn_X7_85 (by omega) (Nat.le_of_ble_eq_true rfl) (fits_m (by decide) (by decide)) room_m (fun q13 => ?_)
            refine r_aload_n dX7_thing_84 rfl ?_
            refine gf_X7_14 rfl dX7_thing_85 ?_
            refine r_dup dX7_thing_88 rfl ?_
            refine gf_X7_78 rfl dX7_thing_89 (by decide) ?_
            refine r_iconst dX7_thing_92 ci_1 ?_
            refine r_iadd dX7_thing_93 ?_
            refine pf_X7_78 rfl dX7_thing_94 (by decide) (fun s14 => ?_)
            refine r_iload dX7_thing_97 rfl ?_
            exact r_iret dX7_thing_99 rfl rfl
          · refine r_bipush dX7_thing_54 cb_m4 ?_
            exact r_iret dX7_thing_56 rfl rfl
theorem ok_X7_thing (g : Gm) (s0 : Sto) (x1 : Int32) (x2 : Int32) (x3 : Int32) (x4 : Int32) : Ok g yX7_thing kX7_thing 1 [.ref ((Em g 1).1.1 7 0 0), .int x1, .int x2, .int x3, .int x4] s0 cvIw (f_X7_thing s0 x1 x2 x3 x4) := Ok.of (by decide) rfl (Nat.le_of_ble_eq_true rfl) (lv := [some (.ref ((Em g 1).1.1 7 0 0)), some (.int x1), some (.int x2), some (.int x3), some (.int x4), none]) rfl (s_X7_thing g s0 x1 x2 x3 x4)
theorem u_X7_thing {α : Type} {cv : α → Res} {E : EE} {K : KK} {pc npc idx d : Nat} {lv : List (Option Value)} {st : List Value} {σ : Sto} {oc : Option (Int32 × Sto)} {kf : (Int32 × Sto) → Option α} {x1 : Int32} {x2 : Int32} {x3 : Int32} {x4 : Int32} (hOk : Ok E.1 yX7_thing kX7_thing d [.ref (E.1.1 7 0 0), .int x1, .int x2, .int x3, .int x4] σ cvIw oc) (hd : Dc K pc (.invokevirtual idx) 3 npc) (hlk : Cond.methodLink K.2.1 idx yX7_thing ∈ lw_good) (hw : (st.map fun v => v.category).sum ≤ 8) (hfit : fits_ E d 6) (hrm : room_ok E) (kk : ∀ q : Int32 × Sto, Rf cv E K npc lv (.int q.1 :: st) q.2 (kf q)) : Rf cv E K pc lv (.int x4 :: .int x3 :: .int x2 :: .int x1 :: .ref (E.1.1 7 0 0) :: st) σ (oc.bind kf) := c_V (n := 4) (as := [.int x1, .int x2, .int x3, .int x4]) (c0 := 7) (i := 0) (CC := "ThawGives") (T := TX7) (N := 11) hd hOk hlk wi_X7_thing wv_X7_thing wn_X7 wc_X7_thing rfl (by decide) (by decide) ⟨by decide, by decide, by decide⟩ rfl rfl hw hfit hrm (fun b _ => kk b)
def f_X7_isThing (s0 : Sto) (x1 : Int32) : Option (Int32) :=
  (if x1 < 0 then
    some 0
  else
    (if (s0.1 6 1 0) ≤ x1 then
      some 0
    else
      some 1))
set_option maxRecDepth 100000 in
theorem s_X7_isThing (g : Gm) (s0 : Sto) (x1 : Int32) : Rf (cvI s0) (Em g 0) kX7_isThing 0 [some (.ref ((Em g 0).1.1 7 0 0)), some (.int x1)] [] s0 (f_X7_isThing s0 x1) := by
  unfold f_X7_isThing
  refine r_iload_n dX7_isThing_0 rfl ?_
  refine r_iflt dX7_isThing_1 (tgt := 19) (by decide) (fun c1 => ?_) (fun c1 => ?_)
  · refine r_iconst dX7_isThing_19 ci_0 ?_
    exact r_zret dX7_isThing_20 rfl rfl rfl
  · refine r_iload_n dX7_isThing_4 rfl ?_
    refine r_aload_n dX7_isThing_5 rfl ?_
    refine gf_X7_14 rfl dX7_isThing_6 ?_
    refine gf_X7_78 rfl dX7_isThing_9 (by decide) ?_
    refine r_icge dX7_isThing_12 (tgt := 19) (by decide) (fun c2 => ?_) (fun c2 => ?_)
    · refine r_iconst dX7_isThing_19 ci_0 ?_
      exact r_zret dX7_isThing_20 rfl rfl rfl
    · refine r_iconst dX7_isThing_15 ci_1 ?_
      refine r_goto dX7_isThing_16 (tgt := 20) (by decide) ?_
      exact r_zret dX7_isThing_20 rfl rfl rfl
theorem ok_X7_isThing (g : Gm) (s0 : Sto) (x1 : Int32) : Ok g yX7_isThing kX7_isThing 0 [.ref ((Em g 0).1.1 7 0 0), .int x1] s0 (cvI s0) (f_X7_isThing s0 x1) := Ok.of (by decide) rfl (Nat.le_of_ble_eq_true rfl) (lv := [some (.ref ((Em g 0).1.1 7 0 0)), some (.int x1)]) rfl (s_X7_isThing g s0 x1)
theorem u_X7_isThing {α : Type} {cv : α → Res} {E : EE} {K : KK} {pc npc idx d : Nat} {lv : List (Option Value)} {st : List Value} {σ : Sto} {oc : Option (Int32)} {kf : Int32 → Option α} {x1 : Int32} (hOk : Ok E.1 yX7_isThing kX7_isThing d [.ref (E.1.1 7 0 0), .int x1] σ (cvI σ) oc) (hd : Dc K pc (.invokevirtual idx) 3 npc) (hlk : Cond.methodLink K.2.1 idx yX7_isThing ∈ lw_good) (hw : (st.map fun v => v.category).sum ≤ 8) (hfit : fits_ E d 2) (hrm : room_ok E) (kk : ∀ q : Int32, Rf cv E K npc lv (.int q :: st) σ (kf q)) : Rf cv E K pc lv (.int x1 :: .ref (E.1.1 7 0 0) :: st) σ (oc.bind kf) := c_V (n := 1) (as := [.int x1]) (c0 := 7) (i := 0) (CC := "ThawGives") (T := TX7) (N := 11) hd hOk hlk wi_X7_isThing wv_X7_isThing wn_X7 wc_X7_isThing rfl (by decide) (by decide) ⟨by decide, by decide, by decide⟩ rfl rfl hw hfit hrm (fun b _ => kk b)
def f_X7_holding (s0 : Sto) : Option (Nat) :=
  (f_X7_isUpTo (s0.1 6 3 0) 5).bind fun q1 => (if q1 = 0 then
    some 6
  else
    (if 0 ≤ (s0.1 6 3 0) ∧ (s0.1 6 3 0) < 6 then some (Int32.toNatClampNeg (s0.1 6 3 0)) else none))
set_option maxRecDepth 100000 in
theorem s_X7_holding (g : Gm) (s0 : Sto) : Rf (cvR (Em g 1).1 1 s0) (Em g 1) kX7_holding 0 [some (.ref ((Em g 1).1.1 7 0 0))] [] s0 (f_X7_holding s0) := by
  unfold f_X7_holding
  refine r_aload_n dX7_holding_0 rfl ?_
  refine gf_X7_14 rfl dX7_holding_1 ?_
  refine gf_X7_140 rfl dX7_holding_4 (by decide) ?_
  refine r_iconst dX7_holding_7 ci_5 ?_
  refine u_X7_isUpTo (ok_X7_isUpTo g s0 (s0.1 6 3 0) 5) dX7_holding_8 ml_X7_74 (Nat.le_of_ble_eq_true rfl) (fits_m (by decide) (by decide)) room_m (fun q1 => ?_)
  refine r_ifeq dX7_holding_11 (tgt := 29) (by decide) (fun c2 => ?_) (fun c2 => ?_)
  · refine r_aload_n dX7_holding_29 rfl ?_
    refine gf_X7_56 rfl dX7_holding_30 ?_
    exact r_aret dX7_holding_33 rfl rfl
  · refine r_aload_n dX7_holding_14 rfl ?_
    refine gf_X7_47 rfl dX7_holding_15 ?_
    refine r_aload_n dX7_holding_18 rfl ?_
    refine gf_X7_14 rfl dX7_holding_19 ?_
    refine gf_X7_140 rfl dX7_holding_22 (by decide) ?_
    refine al_7_6 dX7_holding_25 (fun hg3 hj4 => ?_)
    refine r_goto dX7_holding_26 (tgt := 33) (by decide) ?_
    exact r_aret dX7_holding_33 rfl rfl
theorem ok_X7_holding (g : Gm) (s0 : Sto) : Ok g yX7_holding kX7_holding 1 [.ref ((Em g 1).1.1 7 0 0)] s0 (cvR (Em g 1).1 1 s0) (f_X7_holding s0) := Ok.of (by decide) rfl (Nat.le_of_ble_eq_true rfl) (lv := [some (.ref ((Em g 1).1.1 7 0 0))]) rfl (s_X7_holding g s0)
theorem u_X7_holding {α : Type} {cv : α → Res} {E : EE} {K : KK} {pc npc idx d : Nat} {lv : List (Option Value)} {st : List Value} {σ : Sto} {oc : Option (Nat)} {kf : Nat → Option α} (hOk : Ok E.1 yX7_holding kX7_holding d [.ref (E.1.1 7 0 0)] σ (cvR E.1 1 σ) oc) (hd : Dc K pc (.invokevirtual idx) 3 npc) (hlk : Cond.methodLink K.2.1 idx yX7_holding ∈ lw_good) (hw : (st.map fun v => v.category).sum ≤ 8) (hfit : fits_ E d 1) (hrm : room_ok E) (kk : ∀ q : Nat, Rf cv E K npc lv (.ref (E.1.1 1 0 q) :: st) σ (kf q)) : Rf cv E K pc lv (.ref (E.1.1 7 0 0) :: st) σ (oc.bind kf) := c_V (n := 0) (as := []) (c0 := 7) (i := 0) (CC := "ThawGives") (T := TX7) (N := 11) hd hOk hlk wi_X7_holding wv_X7_holding wn_X7 wc_X7_holding rfl (by decide) (by decide) ⟨by decide, by decide, by decide⟩ rfl rfl hw hfit hrm (fun b _ => kk b)
def f_X1_warmth_L45 (s0 : Sto) (k7 : Nat → Nat → Int32 → Int32 → Int32 → Option (Int32)) (i0 : Nat) (i1 : Nat) (x2 : Int32) (x3 : Int32) (x4 : Int32) (y0 : Int32) : Option (Int32) :=
  (if 0 ≤ x4 ∧ x4 < 100 then (if (s0.2.1 1 0 i0 (Int32.toNatClampNeg x4)) = 33 then
    nmI ((x3 ^^^ 1)) fun v9 => nmI (x4 + 1) fun v10 => k7 i0 i1 x2 v9 v10
  else (if (s0.2.1 1 0 i0 (Int32.toNatClampNeg x4)) = 38 then
    nmI (((x3 >>> (1 &&& 31)) &&& (x3 ||| (-2 : Int32)))) fun v12 => nmI (x4 + 1) fun v13 => k7 i0 i1 x2 v12 v13
  else (if (s0.2.1 1 0 i0 (Int32.toNatClampNeg x4)) = 60 then
    (if 0 ≤ x4 ∧ x4 < 100 then (if (s0.2.1 1 2 i0 (Int32.toNatClampNeg x4)) ≤ y0 then
      nmI (((x3 <<< (1 &&& 31)) ||| 0)) fun v18 => nmI (x4 + 1) fun v19 => k7 i0 i1 x2 v18 v19
    else
      nmI (((x3 <<< (1 &&& 31)) ||| 1)) fun v20 => nmI (x4 + 1) fun v21 => k7 i0 i1 x2 v20 v21) else none)
  else (if (s0.2.1 1 0 i0 (Int32.toNatClampNeg x4)) = 61 then
    (if 0 ≤ x4 ∧ x4 < 100 then (if y0 = (s0.2.1 1 2 i0 (Int32.toNatClampNeg x4)) then
      nmI (((x3 <<< (1 &&& 31)) ||| 1)) fun v28 => nmI (x4 + 1) fun v29 => k7 i0 i1 x2 v28 v29
    else
      nmI (((x3 <<< (1 &&& 31)) ||| 0)) fun v26 => nmI (x4 + 1) fun v27 => k7 i0 i1 x2 v26 v27) else none)
  else (if (s0.2.1 1 0 i0 (Int32.toNatClampNeg x4)) = 62 then
    (if 0 ≤ x4 ∧ x4 < 100 then (if y0 ≤ (s0.2.1 1 2 i0 (Int32.toNatClampNeg x4)) then
      nmI (((x3 <<< (1 &&& 31)) ||| 0)) fun v34 => nmI (x4 + 1) fun v35 => k7 i0 i1 x2 v34 v35
    else
      nmI (((x3 <<< (1 &&& 31)) ||| 1)) fun v36 => nmI (x4 + 1) fun v37 => k7 i0 i1 x2 v36 v37) else none)
  else (if (s0.2.1 1 0 i0 (Int32.toNatClampNeg x4)) = 124 then
    nmI (((x3 >>> (1 &&& 31)) ||| (x3 &&& 1))) fun v39 => nmI (x4 + 1) fun v40 => k7 i0 i1 x2 v39 v40
  else (if (x3 &&& 1) = 1 then
    (if 0 ≤ x4 ∧ x4 < 100 then nmI ((x2 + (s0.2.1 1 2 i0 (Int32.toNatClampNeg x4)))) fun v46 => nmI (x4 + 1) fun v47 => k7 i0 i1 v46 0 v47 else none)
  else
    nmI ((x2 + 0)) fun v42 => nmI (x4 + 1) fun v43 => k7 i0 i1 v42 0 v43))))))) else none)
def f_X1_warmth_L44 (s0 : Sto) (k7 : Nat → Nat → Int32 → Int32 → Int32 → Option (Int32)) (i0 : Nat) (i1 : Nat) (x2 : Int32) (x3 : Int32) (x4 : Int32) : Option (Int32) :=
  f_X1_warmth_L45 s0 k7 i0 i1 x2 x3 x4 0
def f_X1_warmth_B7 (s0 : Sto) (k7 : Nat → Nat → Int32 → Int32 → Int32 → Option (Int32)) (i0 : Nat) (i1 : Nat) (x2 : Int32) (x3 : Int32) (x4 : Int32) : Option (Int32) :=
  (if (s0.1 1 3 i0) ≤ x4 then
    some x2
  else
    (if 0 ≤ x4 ∧ x4 < 100 then nmI ((s0.2.1 1 1 i0 (Int32.toNatClampNeg x4))) fun v4 => (if v4 < 0 then
      f_X1_warmth_L44 s0 k7 i0 i1 x2 x3 x4
    else
      (if (6 : Int32) ≤ v4 then
        f_X1_warmth_L44 s0 k7 i0 i1 x2 x3 x4
      else
        (if 0 ≤ v4 ∧ v4 < 6 then f_X1_warmth_L45 s0 k7 i0 i1 x2 x3 x4 (s0.2.1 5 6 i1 (Int32.toNatClampNeg v4)) else none))) else none))
def f_X1_warmth_L7 (s0 : Sto) : Nat → Nat → Nat → Int32 → Int32 → Int32 → Option (Int32)
  | 0 => fun _ _ _ _ _ => none
  | n + 1 => f_X1_warmth_B7 s0 (f_X1_warmth_L7 s0 n)
def f_X1_warmth (s0 : Sto) (i0 : Nat) (i1 : Nat) : Option (Int32) :=
  f_X1_warmth_L7 s0 1000 i0 i1 0 0 0
set_option maxRecDepth 100000 in
theorem s_X1_warmth_L45 (g : Gm) (s0 : Sto) (k7 : Nat → Nat → Int32 → Int32 → Int32 → Option (Int32)) (hk7 : ∀ (i0 : Nat) (i1 : Nat) (x2 : Int32) (x3 : Int32) (x4 : Int32) (hi0 : i0 < 8) (hi1 : i1 < 13), Rf (cvI s0) (Em g 0) kX1_warmth 7 [some (.ref ((Em g 0).1.1 1 0 i0)), some (.ref ((Em g 0).1.1 5 7 i1)), some (.int x2), some (.int x3), some (.int x4), none, none] [] s0 (k7 i0 i1 x2 x3 x4)) (i0 : Nat) (i1 : Nat) (x2 : Int32) (x3 : Int32) (x4 : Int32) (y0 : Int32) (hi0 : i0 < 8) (hi1 : i1 < 13) : Rf (cvI s0) (Em g 0) kX1_warmth 45 [some (.ref ((Em g 0).1.1 1 0 i0)), some (.ref ((Em g 0).1.1 5 7 i1)), some (.int x2), some (.int x3), some (.int x4), none, none] [.int y0] s0 (f_X1_warmth_L45 s0 k7 i0 i1 x2 x3 x4 y0) := by
  unfold f_X1_warmth_L45
  refine r_istore dX1_warmth_45 rfl (lt_b rfl) (lt_b rfl) ?_
  refine r_aload_n dX1_warmth_47 rfl ?_
  refine gf_X1_9 rfl dX1_warmth_48 hi0 ?_
  refine r_iload dX1_warmth_51 rfl ?_
  refine al_1_0 dX1_warmth_53 hi0 (fun hg6 hj7 => ?_)
  refine r_by (fun e8 => ?_) (fun e8 => ?_)
  · refine r_look dX1_warmth_54 (by decide) (off := 133) (by rw [e8]; rfl) (tgt := 187) (by decide) ?_
    refine r_iload_n dX1_warmth_187 rfl ?_
    refine r_iconst dX1_warmth_188 ci_1 ?_
    refine r_ixor dX1_warmth_189 ?_
    refine r_istore_nN dX1_warmth_190 rfl (lt_b rfl) (lt_b rfl) (fun v9 => ?_)
    refine r_goto dX1_warmth_191 (tgt := 240) (by decide) ?_
    refine r_iincN dX1_warmth_240 rfl ci_1 rfl (lt_b rfl) (fun v10 => ?_)
    refine r_goto dX1_warmth_243 (tgt := 7) (by decide) ?_
    exact r_mask [true, true, true, true, true, false, false] (hk7 i0 i1 x2 v9 v10 hi0 hi1)
  refine r_by (fun e11 => ?_) (fun e11 => ?_)
  · refine r_look dX1_warmth_54 (by decide) (off := 140) (by rw [e11]; rfl) (tgt := 194) (by decide) ?_
    refine r_iload_n dX1_warmth_194 rfl ?_
    refine r_iconst dX1_warmth_195 ci_1 ?_
    refine r_ishr dX1_warmth_196 ?_
    refine r_iload_n dX1_warmth_197 rfl ?_
    refine r_bipush dX1_warmth_198 cb_m2 ?_
    refine r_ior dX1_warmth_200 ?_
    refine r_iand dX1_warmth_201 ?_
    refine r_istore_nN dX1_warmth_202 rfl (lt_b rfl) (lt_b rfl) (fun v12 => ?_)
    refine r_goto dX1_warmth_203 (tgt := 240) (by decide) ?_
    refine r_iincN dX1_warmth_240 rfl ci_1 rfl (lt_b rfl) (fun v13 => ?_)
    refine r_goto dX1_warmth_243 (tgt := 7) (by decide) ?_
    exact r_mask [true, true, true, true, true, false, false] (hk7 i0 i1 x2 v12 v13 hi0 hi1)
  refine r_by (fun e14 => ?_) (fun e14 => ?_)
  · refine r_look dX1_warmth_54 (by decide) (off := 58) (by rw [e14]; rfl) (tgt := 112) (by decide) ?_
    refine r_iload_n dX1_warmth_112 rfl ?_
    refine r_iconst dX1_warmth_113 ci_1 ?_
    refine r_ishl dX1_warmth_114 ?_
    refine r_iload dX1_warmth_115 rfl ?_
    refine r_aload_n dX1_warmth_117 rfl ?_
    refine gf_X1_18 rfl dX1_warmth_118 hi0 ?_
    refine r_iload dX1_warmth_121 rfl ?_
    refine al_1_2 dX1_warmth_123 hi0 (fun hg15 hj16 => ?_)
    refine r_icge dX1_warmth_124 (tgt := 131) (by decide) (fun c17 => ?_) (fun c17 => ?_)
    · refine r_iconst dX1_warmth_131 ci_0 ?_
      refine r_ior dX1_warmth_132 ?_
      refine r_istore_nN dX1_warmth_133 rfl (lt_b rfl) (lt_b rfl) (fun v18 => ?_)
      refine r_goto dX1_warmth_134 (tgt := 240) (by decide) ?_
      refine r_iincN dX1_warmth_240 rfl ci_1 rfl (lt_b rfl) (fun v19 => ?_)
      refine r_goto dX1_warmth_243 (tgt := 7) (by decide) ?_
      exact r_mask [true, true, true, true, true, false, false] (hk7 i0 i1 x2 v18 v19 hi0 hi1)
    · refine r_iconst dX1_warmth_127 ci_1 ?_
      refine r_goto dX1_warmth_128 (tgt := 132) (by decide) ?_
      refine r_ior dX1_warmth_132 ?_
      refine r_istore_nN dX1_warmth_133 rfl (lt_b rfl) (lt_b rfl) (fun v20 => ?_)
      refine r_goto dX1_warmth_134 (tgt := 240) (by decide) ?_
      refine r_iincN dX1_warmth_240 rfl ci_1 rfl (lt_b rfl) (fun v21 => ?_)
      refine r_goto dX1_warmth_243 (tgt := 7) (by decide) ?_
      exact r_mask [true, true, true, true, true, false, false] (hk7 i0 i1 x2 v20 v21 hi0 hi1)
  refine r_by (fun e22 => ?_) (fun e22 => ?_)
  · refine r_look dX1_warmth_54 (by decide) (off := 83) (by rw [e22]; rfl) (tgt := 137) (by decide) ?_
    refine r_iload_n dX1_warmth_137 rfl ?_
    refine r_iconst dX1_warmth_138 ci_1 ?_
    refine r_ishl dX1_warmth_139 ?_
    refine r_iload dX1_warmth_140 rfl ?_
    refine r_aload_n dX1_warmth_142 rfl ?_
    refine gf_X1_18 rfl dX1_warmth_143 hi0 ?_
    refine r_iload dX1_warmth_146 rfl ?_
    refine al_1_2 dX1_warmth_148 hi0 (fun hg23 hj24 => ?_)
    refine r_icne dX1_warmth_149 (tgt := 156) (by decide) (fun c25 => ?_) (fun c25 => ?_)
    · refine r_iconst dX1_warmth_152 ci_1 ?_
      refine r_goto dX1_warmth_153 (tgt := 157) (by decide) ?_
      refine r_ior dX1_warmth_157 ?_
      refine r_istore_nN dX1_warmth_158 rfl (lt_b rfl) (lt_b rfl) (fun v28 => ?_)
      refine r_goto dX1_warmth_159 (tgt := 240) (by decide) ?_
      refine r_iincN dX1_warmth_240 rfl ci_1 rfl (lt_b rfl) (fun v29 => ?_)
      refine r_goto dX1_warmth_243 (tgt := 7) (by decide) ?_
      exact r_mask [true, true, true, true, true, false, false] (hk7 i0 i1 x2 v28 v29 hi0 hi1)
    · refine r_iconst dX1_warmth_156 ci_0 ?_
      refine r_ior dX1_warmth_157 ?_
      refine r_istore_nN dX1_warmth_158 rfl (lt_b rfl) (lt_b rfl) (fun v26 => ?_)
      refine r_goto dX1_warmth_159 (tgt := 240) (by decide) ?_
      refine r_iincN dX1_warmth_240 rfl ci_1 rfl (lt_b rfl) (fun v27 => ?_)
      refine r_goto dX1_warmth_243 (tgt := 7) (by decide) ?_
      exact r_mask [true, true, true, true, true, false, false] (hk7 i0 i1 x2 v26 v27 hi0 hi1)
  refine r_by (fun e30 => ?_) (fun e30 => ?_)
  · refine r_look dX1_warmth_54 (by decide) (off := 108) (by rw [e30]; rfl) (tgt := 162) (by decide) ?_
    refine r_iload_n dX1_warmth_162 rfl ?_
    refine r_iconst dX1_warmth_163 ci_1 ?_
    refine r_ishl dX1_warmth_164 ?_
    refine r_iload dX1_warmth_165 rfl ?_
    refine r_aload_n dX1_warmth_167 rfl ?_
    refine gf_X1_18 rfl dX1_warmth_168 hi0 ?_
    refine r_iload dX1_warmth_171 rfl ?_
    refine al_1_2 dX1_warmth_173 hi0 (fun hg31 hj32 => ?_)
    refine r_icle dX1_warmth_174 (tgt := 181) (by decide) (fun c33 => ?_) (fun c33 => ?_)
    · refine r_iconst dX1_warmth_181 ci_0 ?_
      refine r_ior dX1_warmth_182 ?_
      refine r_istore_nN dX1_warmth_183 rfl (lt_b rfl) (lt_b rfl) (fun v34 => ?_)
      refine r_goto dX1_warmth_184 (tgt := 240) (by decide) ?_
      refine r_iincN dX1_warmth_240 rfl ci_1 rfl (lt_b rfl) (fun v35 => ?_)
      refine r_goto dX1_warmth_243 (tgt := 7) (by decide) ?_
      exact r_mask [true, true, true, true, true, false, false] (hk7 i0 i1 x2 v34 v35 hi0 hi1)
    · refine r_iconst dX1_warmth_177 ci_1 ?_
      refine r_goto dX1_warmth_178 (tgt := 182) (by decide) ?_
      refine r_ior dX1_warmth_182 ?_
      refine r_istore_nN dX1_warmth_183 rfl (lt_b rfl) (lt_b rfl) (fun v36 => ?_)
      refine r_goto dX1_warmth_184 (tgt := 240) (by decide) ?_
      refine r_iincN dX1_warmth_240 rfl ci_1 rfl (lt_b rfl) (fun v37 => ?_)
      refine r_goto dX1_warmth_243 (tgt := 7) (by decide) ?_
      exact r_mask [true, true, true, true, true, false, false] (hk7 i0 i1 x2 v36 v37 hi0 hi1)
  refine r_by (fun e38 => ?_) (fun e38 => ?_)
  · refine r_look dX1_warmth_54 (by decide) (off := 152) (by rw [e38]; rfl) (tgt := 206) (by decide) ?_
    refine r_iload_n dX1_warmth_206 rfl ?_
    refine r_iconst dX1_warmth_207 ci_1 ?_
    refine r_ishr dX1_warmth_208 ?_
    refine r_iload_n dX1_warmth_209 rfl ?_
    refine r_iconst dX1_warmth_210 ci_1 ?_
    refine r_iand dX1_warmth_211 ?_
    refine r_ior dX1_warmth_212 ?_
    refine r_istore_nN dX1_warmth_213 rfl (lt_b rfl) (lt_b rfl) (fun v39 => ?_)
    refine r_goto dX1_warmth_214 (tgt := 240) (by decide) ?_
    refine r_iincN dX1_warmth_240 rfl ci_1 rfl (lt_b rfl) (fun v40 => ?_)
    refine r_goto dX1_warmth_243 (tgt := 7) (by decide) ?_
    exact r_mask [true, true, true, true, true, false, false] (hk7 i0 i1 x2 v39 v40 hi0 hi1)
  refine r_look dX1_warmth_54 (by decide) (off := 163) ((lv_osw e8 (by decide)).trans ((lv_osw e11 (by decide)).trans ((lv_osw e14 (by decide)).trans ((lv_osw e22 (by decide)).trans ((lv_osw e30 (by decide)).trans ((lv_osw e38 (by decide)).trans (rfl))))))) (tgt := 217) (by decide) ?_
  refine r_iload_n dX1_warmth_217 rfl ?_
  refine r_iload_n dX1_warmth_218 rfl ?_
  refine r_iconst dX1_warmth_219 ci_1 ?_
  refine r_iand dX1_warmth_220 ?_
  refine r_iconst dX1_warmth_221 ci_1 ?_
  refine r_icne dX1_warmth_222 (tgt := 235) (by decide) (fun c41 => ?_) (fun c41 => ?_)
  · refine r_aload_n dX1_warmth_225 rfl ?_
    refine gf_X1_18 rfl dX1_warmth_226 hi0 ?_
    refine r_iload dX1_warmth_229 rfl ?_
    refine al_1_2 dX1_warmth_231 hi0 (fun hg44 hj45 => ?_)
    refine r_goto dX1_warmth_232 (tgt := 236) (by decide) ?_
    refine r_iadd dX1_warmth_236 ?_
    refine r_istore_nN dX1_warmth_237 rfl (lt_b rfl) (lt_b rfl) (fun v46 => ?_)
    refine r_iconst dX1_warmth_238 ci_0 ?_
    refine r_istore_n dX1_warmth_239 rfl (lt_b rfl) (lt_b rfl) ?_
    refine r_iincN dX1_warmth_240 rfl ci_1 rfl (lt_b rfl) (fun v47 => ?_)
    refine r_goto dX1_warmth_243 (tgt := 7) (by decide) ?_
    exact r_mask [true, true, true, true, true, false, false] (hk7 i0 i1 v46 0 v47 hi0 hi1)
  · refine r_iconst dX1_warmth_235 ci_0 ?_
    refine r_iadd dX1_warmth_236 ?_
    refine r_istore_nN dX1_warmth_237 rfl (lt_b rfl) (lt_b rfl) (fun v42 => ?_)
    refine r_iconst dX1_warmth_238 ci_0 ?_
    refine r_istore_n dX1_warmth_239 rfl (lt_b rfl) (lt_b rfl) ?_
    refine r_iincN dX1_warmth_240 rfl ci_1 rfl (lt_b rfl) (fun v43 => ?_)
    refine r_goto dX1_warmth_243 (tgt := 7) (by decide) ?_
    exact r_mask [true, true, true, true, true, false, false] (hk7 i0 i1 v42 0 v43 hi0 hi1)
set_option maxRecDepth 100000 in
theorem s_X1_warmth_L44 (g : Gm) (s0 : Sto) (k7 : Nat → Nat → Int32 → Int32 → Int32 → Option (Int32)) (hk7 : ∀ (i0 : Nat) (i1 : Nat) (x2 : Int32) (x3 : Int32) (x4 : Int32) (hi0 : i0 < 8) (hi1 : i1 < 13), Rf (cvI s0) (Em g 0) kX1_warmth 7 [some (.ref ((Em g 0).1.1 1 0 i0)), some (.ref ((Em g 0).1.1 5 7 i1)), some (.int x2), some (.int x3), some (.int x4), none, none] [] s0 (k7 i0 i1 x2 x3 x4)) (i0 : Nat) (i1 : Nat) (x2 : Int32) (x3 : Int32) (x4 : Int32) (hi0 : i0 < 8) (hi1 : i1 < 13) : Rf (cvI s0) (Em g 0) kX1_warmth 44 [some (.ref ((Em g 0).1.1 1 0 i0)), some (.ref ((Em g 0).1.1 5 7 i1)), some (.int x2), some (.int x3), some (.int x4), none, none] [] s0 (f_X1_warmth_L44 s0 k7 i0 i1 x2 x3 x4) := by
  unfold f_X1_warmth_L44
  refine r_iconst dX1_warmth_44 ci_0 ?_
  exact r_mask [true, true, true, true, true, false, false] (s_X1_warmth_L45 g s0 k7 hk7 i0 i1 x2 x3 x4 0 hi0 hi1)
set_option maxRecDepth 100000 in
theorem s_X1_warmth_B7 (g : Gm) (s0 : Sto) (k7 : Nat → Nat → Int32 → Int32 → Int32 → Option (Int32)) (hk7 : ∀ (i0 : Nat) (i1 : Nat) (x2 : Int32) (x3 : Int32) (x4 : Int32) (hi0 : i0 < 8) (hi1 : i1 < 13), Rf (cvI s0) (Em g 0) kX1_warmth 7 [some (.ref ((Em g 0).1.1 1 0 i0)), some (.ref ((Em g 0).1.1 5 7 i1)), some (.int x2), some (.int x3), some (.int x4), none, none] [] s0 (k7 i0 i1 x2 x3 x4)) (i0 : Nat) (i1 : Nat) (x2 : Int32) (x3 : Int32) (x4 : Int32) (hi0 : i0 < 8) (hi1 : i1 < 13) : Rf (cvI s0) (Em g 0) kX1_warmth 7 [some (.ref ((Em g 0).1.1 1 0 i0)), some (.ref ((Em g 0).1.1 5 7 i1)), some (.int x2), some (.int x3), some (.int x4), none, none] [] s0 (f_X1_warmth_B7 s0 k7 i0 i1 x2 x3 x4) := by
  unfold f_X1_warmth_B7
  refine r_iload dX1_warmth_7 rfl ?_
  refine r_aload_n dX1_warmth_9 rfl ?_
  refine gf_X1_21 rfl dX1_warmth_10 hi0 ?_
  refine r_icge dX1_warmth_13 (tgt := 246) (by decide) (fun c1 => ?_) (fun c1 => ?_)
  · refine r_iload_n dX1_warmth_246 rfl ?_
    exact r_iret dX1_warmth_247 rfl rfl
  · refine r_aload_n dX1_warmth_16 rfl ?_
    refine gf_X1_15 rfl dX1_warmth_17 hi0 ?_
    refine r_iload dX1_warmth_20 rfl ?_
    refine al_1_1 dX1_warmth_22 hi0 (fun hg2 hj3 => ?_)
    refine r_istoreN dX1_warmth_23 rfl (lt_b rfl) (lt_b rfl) (fun v4 => ?_)
    refine r_iload dX1_warmth_25 rfl ?_
    refine r_iflt dX1_warmth_27 (tgt := 44) (by decide) (fun c5 => ?_) (fun c5 => ?_)
    · exact r_mask [true, true, true, true, true, false, false] (s_X1_warmth_L44 g s0 k7 hk7 i0 i1 x2 x3 x4 hi0 hi1)
    · refine r_iload dX1_warmth_30 rfl ?_
      refine r_aload_n dX1_warmth_32 rfl ?_
      refine ln_5_6 dX1_warmth_33 hi1 ?_
      refine r_icge dX1_warmth_34 (tgt := 44) (by decide) (fun c48 => ?_) (fun c48 => ?_)
      · exact r_mask [true, true, true, true, true, false, false] (s_X1_warmth_L44 g s0 k7 hk7 i0 i1 x2 x3 x4 hi0 hi1)
      · refine r_aload_n dX1_warmth_37 rfl ?_
        refine r_iload dX1_warmth_38 rfl ?_
        refine al_5_6 dX1_warmth_40 hi1 (fun hg49 hj50 => ?_)
        refine r_goto dX1_warmth_41 (tgt := 45) (by decide) ?_
        exact r_mask [true, true, true, true, true, false, false] (s_X1_warmth_L45 g s0 k7 hk7 i0 i1 x2 x3 x4 (s0.2.1 5 6 i1 (Int32.toNatClampNeg v4)) hi0 hi1)
theorem s_X1_warmth_L7 (g : Gm) (s0 : Sto) : ∀ (n : Nat) (i0 : Nat) (i1 : Nat) (x2 : Int32) (x3 : Int32) (x4 : Int32) (hi0 : i0 < 8) (hi1 : i1 < 13), Rf (cvI s0) (Em g 0) kX1_warmth 7 [some (.ref ((Em g 0).1.1 1 0 i0)), some (.ref ((Em g 0).1.1 5 7 i1)), some (.int x2), some (.int x3), some (.int x4), none, none] [] s0 (f_X1_warmth_L7 s0 n i0 i1 x2 x3 x4)
  | 0, _, _, _, _, _, _, _ => r_none
  | n + 1, i0, i1, x2, x3, x4, hi0, hi1 => s_X1_warmth_B7 g s0 (f_X1_warmth_L7 s0 n) (s_X1_warmth_L7 g s0 n) i0 i1 x2 x3 x4 hi0 hi1
set_option maxRecDepth 100000 in
theorem s_X1_warmth (g : Gm) (s0 : Sto) (i0 : Nat) (i1 : Nat) (hi0 : i0 < 8) (hi1 : i1 < 13) : Rf (cvI s0) (Em g 0) kX1_warmth 0 [some (.ref ((Em g 0).1.1 1 0 i0)), some (.ref ((Em g 0).1.1 5 7 i1)), none, none, none, none, none] [] s0 (f_X1_warmth s0 i0 i1) := by
  unfold f_X1_warmth
  refine r_iconst dX1_warmth_0 ci_0 ?_
  refine r_istore_n dX1_warmth_1 rfl (lt_b rfl) (lt_b rfl) ?_
  refine r_iconst dX1_warmth_2 ci_0 ?_
  refine r_istore_n dX1_warmth_3 rfl (lt_b rfl) (lt_b rfl) ?_
  refine r_iconst dX1_warmth_4 ci_0 ?_
  refine r_istore dX1_warmth_5 rfl (lt_b rfl) (lt_b rfl) ?_
  exact r_mask [true, true, true, true, true, false, false] (s_X1_warmth_L7 g s0 1000 i0 i1 0 0 0 hi0 hi1)
theorem ok_X1_warmth (g : Gm) (s0 : Sto) (i0 : Nat) (i1 : Nat) (hi0 : i0 < 8) (hi1 : i1 < 13) : Ok g yX1_warmth kX1_warmth 0 [.ref ((Em g 0).1.1 1 0 i0), .ref ((Em g 0).1.1 5 7 i1)] s0 (cvI s0) (f_X1_warmth s0 i0 i1) := Ok.of (by decide) rfl (Nat.le_of_ble_eq_true rfl) (lv := [some (.ref ((Em g 0).1.1 1 0 i0)), some (.ref ((Em g 0).1.1 5 7 i1)), none, none, none, none, none]) rfl (s_X1_warmth g s0 i0 i1 hi0 hi1)
theorem u_X1_warmth {α : Type} {cv : α → Res} {E : EE} {K : KK} {pc npc idx d : Nat} {lv : List (Option Value)} {st : List Value} {σ : Sto} {oc : Option (Int32)} {kf : Int32 → Option α} {i0 : Nat} {i1 : Nat} (hOk : Ok E.1 yX1_warmth kX1_warmth d [.ref (E.1.1 1 0 i0), .ref (E.1.1 5 7 i1)] σ (cvI σ) oc) (hd : Dc K pc (.invokevirtual idx) 3 npc) (hlk : Cond.methodLink K.2.1 idx yX1_warmth ∈ lw_good) (hi : i0 < 8) (hw : (st.map fun v => v.category).sum ≤ 8) (hfit : fits_ E d 7) (hrm : room_ok E) (kk : ∀ q : Int32, Rf cv E K npc lv (.int q :: st) σ (kf q)) : Rf cv E K pc lv (.ref (E.1.1 5 7 i1) :: .ref (E.1.1 1 0 i0) :: st) σ (oc.bind kf) := c_V (n := 1) (as := [.ref (E.1.1 5 7 i1)]) (c0 := 1) (i := i0) (CC := "ThawGives$Pass") (T := TX1) (N := 5) hd hOk hlk wi_X1_warmth wv_X1_warmth wn_X1 wc_X1_warmth rfl (by decide) hi ⟨by decide, by decide, by decide⟩ rfl rfl hw hfit hrm (fun b _ => kk b)
theorem un_X1_warmth {α : Type} {cv : α → Res} {E : EE} {K : KK} {pc npc idx d : Nat} {lv : List (Option Value)} {st : List Value} {σ : Sto} {oc : Option (Int32)} {kf : Int32 → Option α} {i0 : Nat} {i1 : Nat} (hOk : Ok E.1 yX1_warmth kX1_warmth d [.ref (E.1.1 1 0 i0), .ref (E.1.1 5 7 i1)] σ (cvI σ) oc) (hd : Dc K pc (.invokevirtual idx) 3 npc) (hlk : Cond.methodLinkNest K.2.1 idx yX1_warmth "ThawGives" ∈ lw_nest) (hi : i0 < 8) (hw : (st.map fun v => v.category).sum ≤ 8) (hfit : fits_ E d 7) (hrm : room_ok E) (kk : ∀ q : Int32, Rf cv E K npc lv (.int q :: st) σ (kf q)) : Rf cv E K pc lv (.ref (E.1.1 5 7 i1) :: .ref (E.1.1 1 0 i0) :: st) σ (oc.bind kf) := c_N (n := 1) (as := [.ref (E.1.1 5 7 i1)]) (c0 := 1) (i := i0) (CC := "ThawGives$Pass") (T := TX1) (N := 5) hd hOk hlk wi_X1_warmth wv_X1_warmth wn_X1 wc_X1_warmth rfl (by decide) hi ⟨by decide, by decide, by decide⟩ rfl rfl hw hfit hrm (fun b _ => kk b)
def f_J9_floorMod_7cf53 (x0 : Int32) (x1 : Int32) : Option (Int32) :=
  (if ¬ x1 = 0 then nmI ((x0 - x0 / x1 * x1)) fun v2 => (if 0 ≤ (x0 ^^^ x1) then
    some v2
  else
    (if v2 = 0 then
      some v2
    else
      some (v2 + x1))) else none)
set_option maxRecDepth 100000 in
theorem s_J9_floorMod_7cf53 (g : Gm) (sz : Sto) (x0 : Int32) (x1 : Int32) : Rf (cvI sz) (Em g 0) kJ9_floorMod_7cf53 0 [some (.int x0), some (.int x1), none] [] sz (f_J9_floorMod_7cf53 x0 x1) := by
  unfold f_J9_floorMod_7cf53
  refine r_iload_n dJ9_floorMod_7cf53_0 rfl ?_
  refine r_iload_n dJ9_floorMod_7cf53_1 rfl ?_
  refine r_gd (fun hz1 => ?_)
  refine r_irem dJ9_floorMod_7cf53_2 hz1 ?_
  refine r_istore_nN dJ9_floorMod_7cf53_3 rfl (lt_b rfl) (lt_b rfl) (fun v2 => ?_)
  refine r_iload_n dJ9_floorMod_7cf53_4 rfl ?_
  refine r_iload_n dJ9_floorMod_7cf53_5 rfl ?_
  refine r_ixor dJ9_floorMod_7cf53_6 ?_
  refine r_ifge dJ9_floorMod_7cf53_7 (tgt := 18) (by decide) (fun c3 => ?_) (fun c3 => ?_)
  · refine r_iload_n dJ9_floorMod_7cf53_18 rfl ?_
    exact r_iret dJ9_floorMod_7cf53_19 rfl rfl
  · refine r_iload_n dJ9_floorMod_7cf53_10 rfl ?_
    refine r_ifeq dJ9_floorMod_7cf53_11 (tgt := 18) (by decide) (fun c4 => ?_) (fun c4 => ?_)
    · refine r_iload_n dJ9_floorMod_7cf53_18 rfl ?_
      exact r_iret dJ9_floorMod_7cf53_19 rfl rfl
    · refine r_iload_n dJ9_floorMod_7cf53_14 rfl ?_
      refine r_iload_n dJ9_floorMod_7cf53_15 rfl ?_
      refine r_iadd dJ9_floorMod_7cf53_16 ?_
      exact r_iret dJ9_floorMod_7cf53_17 rfl rfl
theorem ok_J9_floorMod_7cf53 (g : Gm) (sz : Sto) (x0 : Int32) (x1 : Int32) : Ok g yJ9_floorMod_7cf53 kJ9_floorMod_7cf53 0 [.int x0, .int x1] sz (cvI sz) (f_J9_floorMod_7cf53 x0 x1) := Ok.ofF (by decide +kernel) rfl (Nat.le_of_ble_eq_true rfl) (lv := [some (.int x0), some (.int x1), none]) rfl (s_J9_floorMod_7cf53 g sz x0 x1)
theorem u_J9_floorMod_7cf53 {α : Type} {cv : α → Res} {E : EE} {K : KK} {pc npc idx d : Nat} {lv : List (Option Value)} {st : List Value} {σ : Sto} {oc : Option (Int32)} {kf : Int32 → Option α} {x0 : Int32} {x1 : Int32} (hOk : Ok E.1 yJ9_floorMod_7cf53 kJ9_floorMod_7cf53 d [.int x0, .int x1] σ (cvI σ) oc) (hd : Dc K pc (.invokestatic idx) 3 npc) (hlk : Cond.methodLink K.2.1 idx yJ9_floorMod_7cf53 ∈ lw_good) (hw : (st.map fun v => v.category).sum ≤ 8) (hfit : fits_ E d 3) (hrm : room_ok E) (kk : ∀ q : Int32, Rf cv E K npc lv (.int q :: st) σ (kf q)) : Rf cv E K pc lv (.int x1 :: .int x0 :: st) σ (oc.bind kf) := c_S (n := 2) (as := [.int x0, .int x1]) hd hOk hlk wt_J9_floorMod_7cf53 wn_J9 wc_J9_floorMod_7cf53 ⟨by decide, by decide, by decide⟩ rfl rfl hw hfit hrm (fun b _ => kk b)
def f_X5_meltIn_L99 (s0 : Sto) (i0 : Nat) (x1 : Int32) (x3 : Int32) (y0 : Int32) : Option (Int32 × Sto) :=
  (if (s0.1 5 1 i0) = 1 then
    some ((x3 + 2), s0)
  else (if (s0.1 5 1 i0) = 2 then
    some ((x3 / 2), s0)
  else (if (s0.1 5 1 i0) = 3 then
    some (y0, s0)
  else (if (s0.1 5 1 i0) = 4 then
    (if (x1 - x1 / 4 * 4) = 0 then
      some ((2 * (x3 + 2)), s0)
    else
      some ((x3 + 2), s0))
  else (if (s0.1 5 1 i0) = 5 then
    some (((x3 / 2) + (s0.1 5 2 i0)), s0)
  else (if (s0.1 5 1 i0) = 6 then
    (f_J9_floorMod_7cf53 x1 4).bind fun q29 => (if 0 ≤ q29 ∧ q29 < 4 then some ((y0 + (s0.2.1 5 5 i0 (Int32.toNatClampNeg q29))), s0) else none)
  else some (x3, s0)))))))
def f_X5_meltIn (s0 : Sto) (i0 : Nat) (x1 : Int32) (i2 : Nat) : Option (Int32 × Sto) :=
  (if 0 ≤ (0 : Int32) ∧ (0 : Int32) < 6 then nm (sA s0 5 6 i0 (upd (s0.2.1 5 6 i0) (Int32.toNatClampNeg 0) (s0.1 5 0 i0))) fun s3 => (if 0 ≤ (1 : Int32) ∧ (1 : Int32) < 6 then nm (sA s3 5 6 i0 (upd (s3.2.1 5 6 i0) (Int32.toNatClampNeg 1) (s3.1 5 1 i0))) fun s6 => (if 0 ≤ (2 : Int32) ∧ (2 : Int32) < 6 then nm (sA s6 5 6 i0 (upd (s6.2.1 5 6 i0) (Int32.toNatClampNeg 2) (s6.1 5 2 i0))) fun s9 => (if 0 ≤ (3 : Int32) ∧ (3 : Int32) < 6 then nm (sA s9 5 6 i0 (upd (s9.2.1 5 6 i0) (Int32.toNatClampNeg 3) ((s9.1 5 3 i0) / 10))) fun s12 => (if 0 ≤ (4 : Int32) ∧ (4 : Int32) < 6 then nm (sA s12 5 6 i0 (upd (s12.2.1 5 6 i0) (Int32.toNatClampNeg 4) ((s12.1 5 4 i0) / 10))) fun s15 => (if 0 ≤ (5 : Int32) ∧ (5 : Int32) < 6 then nm (sA s15 5 6 i0 (upd (s15.2.1 5 6 i0) (Int32.toNatClampNeg 5) (x1 - x1 / 10 * 10))) fun s18 => (f_X1_warmth s18 i2 i0).bind fun q19 => nmI (((8 + q19) - ((s18.1 5 3 i0) / 10))) fun v20 => (if (s18.1 5 2 i0) ≤ x1 then
    f_X5_meltIn_L99 s18 i0 x1 v20 v20
  else
    f_X5_meltIn_L99 s18 i0 x1 v20 0) else none) else none) else none) else none) else none) else none)
set_option maxRecDepth 100000 in
theorem s_X5_meltIn_L99 (g : Gm) (s0 : Sto) (i0 : Nat) (x1 : Int32) (x3 : Int32) (y0 : Int32) (hi0 : i0 < 13) : Rf cvIw (Em g 1) kX5_meltIn 99 [some (.ref ((Em g 1).1.1 5 0 i0)), some (.int x1), none, some (.int x3), none] [.int y0] s0 (f_X5_meltIn_L99 s0 i0 x1 x3 y0) := by
  unfold f_X5_meltIn_L99
  refine r_istore dX5_meltIn_99 rfl (lt_b rfl) (lt_b rfl) ?_
  refine r_aload_n dX5_meltIn_101 rfl ?_
  refine gf_X5_9 rfl dX5_meltIn_102 hi0 ?_
  refine r_by (fun e22 => ?_) (fun e22 => ?_)
  · refine r_tabIn dX5_meltIn_105 e22 (z := 1) (by decide) (by decide) (by decide) (off := 39) rfl (tgt := 144) (by decide) ?_
    refine r_iload_n dX5_meltIn_144 rfl ?_
    refine r_iconst dX5_meltIn_145 ci_2 ?_
    refine r_iadd dX5_meltIn_146 ?_
    exact r_iret dX5_meltIn_147 rfl rfl
  refine r_by (fun e23 => ?_) (fun e23 => ?_)
  · refine r_tabIn dX5_meltIn_105 e23 (z := 2) (by decide) (by decide) (by decide) (off := 43) rfl (tgt := 148) (by decide) ?_
    refine r_iload_n dX5_meltIn_148 rfl ?_
    refine r_iconst dX5_meltIn_149 ci_2 ?_
    refine r_idiv dX5_meltIn_150 (by decide) ?_
    exact r_iret dX5_meltIn_151 rfl rfl
  refine r_by (fun e24 => ?_) (fun e24 => ?_)
  · refine r_tabIn dX5_meltIn_105 e24 (z := 3) (by decide) (by decide) (by decide) (off := 47) rfl (tgt := 152) (by decide) ?_
    refine r_iload dX5_meltIn_152 rfl ?_
    exact r_iret dX5_meltIn_154 rfl rfl
  refine r_by (fun e25 => ?_) (fun e25 => ?_)
  · refine r_tabIn dX5_meltIn_105 e25 (z := 4) (by decide) (by decide) (by decide) (off := 50) rfl (tgt := 155) (by decide) ?_
    refine r_iload_n dX5_meltIn_155 rfl ?_
    refine r_iconst dX5_meltIn_156 ci_4 ?_
    refine r_irem dX5_meltIn_157 (by decide) ?_
    refine r_ifne dX5_meltIn_158 (tgt := 169) (by decide) (fun c26 => ?_) (fun c26 => ?_)
    · refine r_iconst dX5_meltIn_161 ci_2 ?_
      refine r_iload_n dX5_meltIn_162 rfl ?_
      refine r_iconst dX5_meltIn_163 ci_2 ?_
      refine r_iadd dX5_meltIn_164 ?_
      refine r_imul dX5_meltIn_165 ?_
      refine r_goto dX5_meltIn_166 (tgt := 172) (by decide) ?_
      exact r_iret dX5_meltIn_172 rfl rfl
    · refine r_iload_n dX5_meltIn_169 rfl ?_
      refine r_iconst dX5_meltIn_170 ci_2 ?_
      refine r_iadd dX5_meltIn_171 ?_
      exact r_iret dX5_meltIn_172 rfl rfl
  refine r_by (fun e27 => ?_) (fun e27 => ?_)
  · refine r_tabIn dX5_meltIn_105 e27 (z := 5) (by decide) (by decide) (by decide) (off := 68) rfl (tgt := 173) (by decide) ?_
    refine r_iload_n dX5_meltIn_173 rfl ?_
    refine r_iconst dX5_meltIn_174 ci_2 ?_
    refine r_idiv dX5_meltIn_175 (by decide) ?_
    refine r_aload_n dX5_meltIn_176 rfl ?_
    refine gf_X5_15 rfl dX5_meltIn_177 hi0 ?_
    refine r_iadd dX5_meltIn_180 ?_
    exact r_iret dX5_meltIn_181 rfl rfl
  refine r_by (fun e28 => ?_) (fun e28 => ?_)
  · refine r_tabIn dX5_meltIn_105 e28 (z := 6) (by decide) (by decide) (by decide) (off := 77) rfl (tgt := 182) (by decide) ?_
    refine r_iload dX5_meltIn_182 rfl ?_
    refine r_aload_n dX5_meltIn_184 rfl ?_
    refine gf_X5_24 rfl dX5_meltIn_185 hi0 ?_
    refine r_iload_n dX5_meltIn_188 rfl ?_
    refine r_aload_n dX5_meltIn_189 rfl ?_
    refine gf_X5_24 rfl dX5_meltIn_190 hi0 ?_
    refine ln_5_5 dX5_meltIn_193 hi0 ?_
    refine u_J9_floorMod_7cf53 (ok_J9_floorMod_7cf53 g s0 x1 4) dX5_meltIn_194 ml_X5_46 (Nat.le_of_ble_eq_true rfl) (fits_m (by decide) (by decide)) room_m (fun q29 => ?_)
    refine al_5_5 dX5_meltIn_197 hi0 (fun hg30 hj31 => ?_)
    refine r_iadd dX5_meltIn_198 ?_
    exact r_iret dX5_meltIn_199 rfl rfl
  refine r_tabOut dX5_meltIn_105 (by have a0 := sw_ne e22 (z := 1) (by decide); have a1 := sw_ne e23 (z := 2) (by decide); have a2 := sw_ne e24 (z := 3) (by decide); have a3 := sw_ne e25 (z := 4) (by decide); have a4 := sw_ne e27 (z := 5) (by decide); have a5 := sw_ne e28 (z := 6) (by decide); omega) (tgt := 200) (by decide) ?_
  refine r_iload_n dX5_meltIn_200 rfl ?_
  exact r_iret dX5_meltIn_201 rfl rfl
set_option maxRecDepth 100000 in
theorem s_X5_meltIn (g : Gm) (s0 : Sto) (i0 : Nat) (x1 : Int32) (i2 : Nat) (hi0 : i0 < 13) (hi2 : i2 < 8) : Rf cvIw (Em g 1) kX5_meltIn 0 [some (.ref ((Em g 1).1.1 5 0 i0)), some (.int x1), some (.ref ((Em g 1).1.1 1 0 i2)), none, none] [] s0 (f_X5_meltIn s0 i0 x1 i2) := by
  unfold f_X5_meltIn
  refine r_aload_n dX5_meltIn_0 rfl ?_
  refine gf_X5_28 rfl dX5_meltIn_1 hi0 ?_
  refine r_iconst dX5_meltIn_4 ci_0 ?_
  refine r_aload_n dX5_meltIn_5 rfl ?_
  refine gf_X5_31 rfl dX5_meltIn_6 hi0 ?_
  refine as_5_6 dX5_meltIn_9 hi0 (fun hg1 hj2 s3 => ?_)
  refine r_aload_n dX5_meltIn_10 rfl ?_
  refine gf_X5_28 rfl dX5_meltIn_11 hi0 ?_
  refine r_iconst dX5_meltIn_14 ci_1 ?_
  refine r_aload_n dX5_meltIn_15 rfl ?_
  refine gf_X5_9 rfl dX5_meltIn_16 hi0 ?_
  refine as_5_6 dX5_meltIn_19 hi0 (fun hg4 hj5 s6 => ?_)
  refine r_aload_n dX5_meltIn_20 rfl ?_
  refine gf_X5_28 rfl dX5_meltIn_21 hi0 ?_
  refine r_iconst dX5_meltIn_24 ci_2 ?_
  refine r_aload_n dX5_meltIn_25 rfl ?_
  refine gf_X5_15 rfl dX5_meltIn_26 hi0 ?_
  refine as_5_6 dX5_meltIn_29 hi0 (fun hg7 hj8 s9 => ?_)
  refine r_aload_n dX5_meltIn_30 rfl ?_
  refine gf_X5_28 rfl dX5_meltIn_31 hi0 ?_
  refine r_iconst dX5_meltIn_34 ci_3 ?_
  refine r_aload_n dX5_meltIn_35 rfl ?_
  refine gf_X5_18 rfl dX5_meltIn_36 hi0 ?_
  refine r_bipush dX5_meltIn_39 cb_10 ?_
  refine r_idiv dX5_meltIn_41 (by decide) ?_
  refine as_5_6 dX5_meltIn_42 hi0 (fun hg10 hj11 s12 => ?_)
  refine r_aload_n dX5_meltIn_43 rfl ?_
  refine gf_X5_28 rfl dX5_meltIn_44 hi0 ?_
  refine r_iconst dX5_meltIn_47 ci_4 ?_
  refine r_aload_n dX5_meltIn_48 rfl ?_
  refine gf_X5_21 rfl dX5_meltIn_49 hi0 ?_
  refine r_bipush dX5_meltIn_52 cb_10 ?_
  refine r_idiv dX5_meltIn_54 (by decide) ?_
  refine as_5_6 dX5_meltIn_55 hi0 (fun hg13 hj14 s15 => ?_)
  refine r_aload_n dX5_meltIn_56 rfl ?_
  refine gf_X5_28 rfl dX5_meltIn_57 hi0 ?_
  refine r_iconst dX5_meltIn_60 ci_5 ?_
  refine r_iload_n dX5_meltIn_61 rfl ?_
  refine r_bipush dX5_meltIn_62 cb_10 ?_
  refine r_irem dX5_meltIn_64 (by decide) ?_
  refine as_5_6 dX5_meltIn_65 hi0 (fun hg16 hj17 s18 => ?_)
  refine r_bipush dX5_meltIn_66 cb_8 ?_
  refine r_aload_n dX5_meltIn_68 rfl ?_
  refine r_aload_n dX5_meltIn_69 rfl ?_
  refine gf_X5_28 rfl dX5_meltIn_70 hi0 ?_
  refine un_X1_warmth (ok_X1_warmth g s18 i2 i0 hi2 hi0) dX5_meltIn_73 mn_X5_40 hi2 (Nat.le_of_ble_eq_true rfl) (fits_m (by decide) (by decide)) room_m (fun q19 => ?_)
  refine r_iadd dX5_meltIn_76 ?_
  refine r_aload_n dX5_meltIn_77 rfl ?_
  refine gf_X5_18 rfl dX5_meltIn_78 hi0 ?_
  refine r_bipush dX5_meltIn_81 cb_10 ?_
  refine r_idiv dX5_meltIn_83 (by decide) ?_
  refine r_isub dX5_meltIn_84 ?_
  refine r_istore_nN dX5_meltIn_85 rfl (lt_b rfl) (lt_b rfl) (fun v20 => ?_)
  refine r_iload_n dX5_meltIn_86 rfl ?_
  refine r_aload_n dX5_meltIn_87 rfl ?_
  refine gf_X5_15 rfl dX5_meltIn_88 hi0 ?_
  refine r_icge dX5_meltIn_91 (tgt := 98) (by decide) (fun c21 => ?_) (fun c21 => ?_)
  · refine r_iload_n dX5_meltIn_98 rfl ?_
    exact r_mask [true, true, false, true, false] (s_X5_meltIn_L99 g s18 i0 x1 v20 v20 hi0)
  · refine r_iconst dX5_meltIn_94 ci_0 ?_
    refine r_goto dX5_meltIn_95 (tgt := 99) (by decide) ?_
    exact r_mask [true, true, false, true, false] (s_X5_meltIn_L99 g s18 i0 x1 v20 0 hi0)
theorem ok_X5_meltIn (g : Gm) (s0 : Sto) (i0 : Nat) (x1 : Int32) (i2 : Nat) (hi0 : i0 < 13) (hi2 : i2 < 8) : Ok g yX5_meltIn kX5_meltIn 1 [.ref ((Em g 1).1.1 5 0 i0), .int x1, .ref ((Em g 1).1.1 1 0 i2)] s0 cvIw (f_X5_meltIn s0 i0 x1 i2) := Ok.of (by decide) rfl (Nat.le_of_ble_eq_true rfl) (lv := [some (.ref ((Em g 1).1.1 5 0 i0)), some (.int x1), some (.ref ((Em g 1).1.1 1 0 i2)), none, none]) rfl (s_X5_meltIn g s0 i0 x1 i2 hi0 hi2)
theorem u_X5_meltIn {α : Type} {cv : α → Res} {E : EE} {K : KK} {pc npc idx d : Nat} {lv : List (Option Value)} {st : List Value} {σ : Sto} {oc : Option (Int32 × Sto)} {kf : (Int32 × Sto) → Option α} {i0 : Nat} {x1 : Int32} {i2 : Nat} (hOk : Ok E.1 yX5_meltIn kX5_meltIn d [.ref (E.1.1 5 0 i0), .int x1, .ref (E.1.1 1 0 i2)] σ cvIw oc) (hd : Dc K pc (.invokevirtual idx) 3 npc) (hlk : Cond.methodLink K.2.1 idx yX5_meltIn ∈ lw_good) (hi : i0 < 13) (hw : (st.map fun v => v.category).sum ≤ 8) (hfit : fits_ E d 5) (hrm : room_ok E) (kk : ∀ q : Int32 × Sto, Rf cv E K npc lv (.int q.1 :: st) q.2 (kf q)) : Rf cv E K pc lv (.ref (E.1.1 1 0 i2) :: .int x1 :: .ref (E.1.1 5 0 i0) :: st) σ (oc.bind kf) := c_V (n := 2) (as := [.int x1, .ref (E.1.1 1 0 i2)]) (c0 := 5) (i := i0) (CC := "ThawGives$Thing") (T := TX5) (N := 7) hd hOk hlk wi_X5_meltIn wv_X5_meltIn wn_X5 wc_X5_meltIn rfl (by decide) hi ⟨by decide, by decide, by decide⟩ rfl rfl hw hfit hrm (fun b _ => kk b)
theorem un_X5_meltIn {α : Type} {cv : α → Res} {E : EE} {K : KK} {pc npc idx d : Nat} {lv : List (Option Value)} {st : List Value} {σ : Sto} {oc : Option (Int32 × Sto)} {kf : (Int32 × Sto) → Option α} {i0 : Nat} {x1 : Int32} {i2 : Nat} (hOk : Ok E.1 yX5_meltIn kX5_meltIn d [.ref (E.1.1 5 0 i0), .int x1, .ref (E.1.1 1 0 i2)] σ cvIw oc) (hd : Dc K pc (.invokevirtual idx) 3 npc) (hlk : Cond.methodLinkNest K.2.1 idx yX5_meltIn "ThawGives" ∈ lw_nest) (hi : i0 < 13) (hw : (st.map fun v => v.category).sum ≤ 8) (hfit : fits_ E d 5) (hrm : room_ok E) (kk : ∀ q : Int32 × Sto, Rf cv E K npc lv (.int q.1 :: st) q.2 (kf q)) : Rf cv E K pc lv (.ref (E.1.1 1 0 i2) :: .int x1 :: .ref (E.1.1 5 0 i0) :: st) σ (oc.bind kf) := c_N (n := 2) (as := [.int x1, .ref (E.1.1 1 0 i2)]) (c0 := 5) (i := i0) (CC := "ThawGives$Thing") (T := TX5) (N := 7) hd hOk hlk wi_X5_meltIn wv_X5_meltIn wn_X5 wc_X5_meltIn rfl (by decide) hi ⟨by decide, by decide, by decide⟩ rfl rfl hw hfit hrm (fun b _ => kk b)
def f_X5_become (s0 : Sto) (i0 : Nat) (i1 : Nat) : Option (Sto) :=
  nm (sF s0 5 0 i0 (s0.1 5 0 i1)) fun s1 => nm (sF s1 5 1 i0 (s1.1 5 1 i1)) fun s2 => nm (sF s2 5 2 i0 (s2.1 5 2 i1)) fun s3 => nm (sF s3 5 3 i0 (s3.1 5 3 i1)) fun s4 => nm (sF s4 5 4 i0 (s4.1 5 4 i1)) fun s5 => (if acok (0 : Int32) (0 : Int32) (4 : Int32) 4 then nm (sA s5 5 5 i0 (va_cpy (s5.2.1 5 5 i1) (s5.2.1 5 5 i0) (Int32.toNatClampNeg (0 : Int32)) (Int32.toNatClampNeg (0 : Int32)) (Int32.toNatClampNeg (4 : Int32)))) fun s6 => some s6 else none)
set_option maxRecDepth 100000 in
theorem s_X5_become (g : Gm) (s0 : Sto) (i0 : Nat) (i1 : Nat) (hi0 : i0 < 13) (hi1 : i1 < 13) : Rf cvV (Em g 2) kX5_become 0 [some (.ref ((Em g 2).1.1 5 0 i0)), some (.ref ((Em g 2).1.1 5 0 i1))] [] s0 (f_X5_become s0 i0 i1) := by
  unfold f_X5_become
  refine r_aload_n dX5_become_0 rfl ?_
  refine r_aload_n dX5_become_1 rfl ?_
  refine gf_X5_31 rfl dX5_become_2 hi1 ?_
  refine pf_X5_31 rfl dX5_become_5 hi0 (fun s1 => ?_)
  refine r_aload_n dX5_become_8 rfl ?_
  refine r_aload_n dX5_become_9 rfl ?_
  refine gf_X5_9 rfl dX5_become_10 hi1 ?_
  refine pf_X5_9 rfl dX5_become_13 hi0 (fun s2 => ?_)
  refine r_aload_n dX5_become_16 rfl ?_
  refine r_aload_n dX5_become_17 rfl ?_
  refine gf_X5_15 rfl dX5_become_18 hi1 ?_
  refine pf_X5_15 rfl dX5_become_21 hi0 (fun s3 => ?_)
  refine r_aload_n dX5_become_24 rfl ?_
  refine r_aload_n dX5_become_25 rfl ?_
  refine gf_X5_18 rfl dX5_become_26 hi1 ?_
  refine pf_X5_18 rfl dX5_become_29 hi0 (fun s4 => ?_)
  refine r_aload_n dX5_become_32 rfl ?_
  refine r_aload_n dX5_become_33 rfl ?_
  refine gf_X5_21 rfl dX5_become_34 hi1 ?_
  refine pf_X5_21 rfl dX5_become_37 hi0 (fun s5 => ?_)
  refine r_aload_n dX5_become_40 rfl ?_
  refine gf_X5_24 rfl dX5_become_41 hi1 ?_
  refine r_iconst dX5_become_44 ci_0 ?_
  refine r_aload_n dX5_become_45 rfl ?_
  refine gf_X5_24 rfl dX5_become_46 hi0 ?_
  refine r_iconst dX5_become_49 ci_0 ?_
  refine r_aload_n dX5_become_50 rfl ?_
  refine gf_X5_24 rfl dX5_become_51 hi0 ?_
  refine ln_5_5 dX5_become_54 hi0 ?_
  refine g_copyi (c0 := 5) (k := 5) (N := 4) dX5_become_55 ml_X5_34 (by decide) rfl rfl (show _ < 13 from hi1) (show _ < 13 from hi0) (Nat.le_of_ble_eq_true rfl) (acr_m (by decide)) (fun h7 s6 => ?_)
  exact r_vret dX5_become_58 rfl rfl
theorem ok_X5_become (g : Gm) (s0 : Sto) (i0 : Nat) (i1 : Nat) (hi0 : i0 < 13) (hi1 : i1 < 13) : Ok g yX5_become kX5_become 2 [.ref ((Em g 2).1.1 5 0 i0), .ref ((Em g 2).1.1 5 0 i1)] s0 cvV (f_X5_become s0 i0 i1) := Ok.of (by decide) rfl (Nat.le_of_ble_eq_true rfl) (lv := [some (.ref ((Em g 2).1.1 5 0 i0)), some (.ref ((Em g 2).1.1 5 0 i1))]) rfl (s_X5_become g s0 i0 i1 hi0 hi1)
theorem u_X5_become {α : Type} {cv : α → Res} {E : EE} {K : KK} {pc npc idx d : Nat} {lv : List (Option Value)} {st : List Value} {σ : Sto} {oc : Option (Sto)} {kf : Sto → Option α} {i0 : Nat} {i1 : Nat} (hOk : Ok E.1 yX5_become kX5_become d [.ref (E.1.1 5 0 i0), .ref (E.1.1 5 0 i1)] σ cvV oc) (hd : Dc K pc (.invokevirtual idx) 3 npc) (hlk : Cond.methodLink K.2.1 idx yX5_become ∈ lw_good) (hi : i0 < 13) (hw : (st.map fun v => v.category).sum ≤ 8) (hfit : fits_ E d 2) (hrm : room_ok E) (kk : ∀ τ : Sto, Rf cv E K npc lv st τ (kf τ)) : Rf cv E K pc lv (.ref (E.1.1 5 0 i1) :: .ref (E.1.1 5 0 i0) :: st) σ (oc.bind kf) := c_V (n := 1) (as := [.ref (E.1.1 5 0 i1)]) (c0 := 5) (i := i0) (CC := "ThawGives$Thing") (T := TX5) (N := 7) hd hOk hlk wi_X5_become wv_X5_become wn_X5 wc_X5_become rfl (by decide) hi ⟨by decide, by decide, by decide⟩ rfl rfl hw hfit hrm (fun b _ => kk b)
theorem un_X5_become {α : Type} {cv : α → Res} {E : EE} {K : KK} {pc npc idx d : Nat} {lv : List (Option Value)} {st : List Value} {σ : Sto} {oc : Option (Sto)} {kf : Sto → Option α} {i0 : Nat} {i1 : Nat} (hOk : Ok E.1 yX5_become kX5_become d [.ref (E.1.1 5 0 i0), .ref (E.1.1 5 0 i1)] σ cvV oc) (hd : Dc K pc (.invokevirtual idx) 3 npc) (hlk : Cond.methodLinkNest K.2.1 idx yX5_become "ThawGives" ∈ lw_nest) (hi : i0 < 13) (hw : (st.map fun v => v.category).sum ≤ 8) (hfit : fits_ E d 2) (hrm : room_ok E) (kk : ∀ τ : Sto, Rf cv E K npc lv st τ (kf τ)) : Rf cv E K pc lv (.ref (E.1.1 5 0 i1) :: .ref (E.1.1 5 0 i0) :: st) σ (oc.bind kf) := c_N (n := 1) (as := [.ref (E.1.1 5 0 i1)]) (c0 := 5) (i := i0) (CC := "ThawGives$Thing") (T := TX5) (N := 7) hd hOk hlk wi_X5_become wv_X5_become wn_X5 wc_X5_become rfl (by decide) hi ⟨by decide, by decide, by decide⟩ rfl rfl hw hfit hrm (fun b _ => kk b)
def f_X5_isOut (s0 : Sto) (i0 : Nat) : Option (Int32) :=
  (if (s0.1 5 4 i0) = 0 then
    some 1
  else
    some 0)
set_option maxRecDepth 100000 in
theorem s_X5_isOut (g : Gm) (s0 : Sto) (i0 : Nat) (hi0 : i0 < 13) : Rf (cvI s0) (Em g 0) kX5_isOut 0 [some (.ref ((Em g 0).1.1 5 0 i0))] [] s0 (f_X5_isOut s0 i0) := by
  unfold f_X5_isOut
  refine r_aload_n dX5_isOut_0 rfl ?_
  refine gf_X5_21 rfl dX5_isOut_1 hi0 ?_
  refine r_ifne dX5_isOut_4 (tgt := 11) (by decide) (fun c1 => ?_) (fun c1 => ?_)
  · refine r_iconst dX5_isOut_7 ci_1 ?_
    refine r_goto dX5_isOut_8 (tgt := 12) (by decide) ?_
    exact r_zret dX5_isOut_12 rfl rfl rfl
  · refine r_iconst dX5_isOut_11 ci_0 ?_
    exact r_zret dX5_isOut_12 rfl rfl rfl
theorem ok_X5_isOut (g : Gm) (s0 : Sto) (i0 : Nat) (hi0 : i0 < 13) : Ok g yX5_isOut kX5_isOut 0 [.ref ((Em g 0).1.1 5 0 i0)] s0 (cvI s0) (f_X5_isOut s0 i0) := Ok.of (by decide) rfl (Nat.le_of_ble_eq_true rfl) (lv := [some (.ref ((Em g 0).1.1 5 0 i0))]) rfl (s_X5_isOut g s0 i0 hi0)
theorem u_X5_isOut {α : Type} {cv : α → Res} {E : EE} {K : KK} {pc npc idx d : Nat} {lv : List (Option Value)} {st : List Value} {σ : Sto} {oc : Option (Int32)} {kf : Int32 → Option α} {i0 : Nat} (hOk : Ok E.1 yX5_isOut kX5_isOut d [.ref (E.1.1 5 0 i0)] σ (cvI σ) oc) (hd : Dc K pc (.invokevirtual idx) 3 npc) (hlk : Cond.methodLink K.2.1 idx yX5_isOut ∈ lw_good) (hi : i0 < 13) (hw : (st.map fun v => v.category).sum ≤ 8) (hfit : fits_ E d 1) (hrm : room_ok E) (kk : ∀ q : Int32, Rf cv E K npc lv (.int q :: st) σ (kf q)) : Rf cv E K pc lv (.ref (E.1.1 5 0 i0) :: st) σ (oc.bind kf) := c_V (n := 0) (as := []) (c0 := 5) (i := i0) (CC := "ThawGives$Thing") (T := TX5) (N := 7) hd hOk hlk wi_X5_isOut wv_X5_isOut wn_X5 wc_X5_isOut rfl (by decide) hi ⟨by decide, by decide, by decide⟩ rfl rfl hw hfit hrm (fun b _ => kk b)
theorem un_X5_isOut {α : Type} {cv : α → Res} {E : EE} {K : KK} {pc npc idx d : Nat} {lv : List (Option Value)} {st : List Value} {σ : Sto} {oc : Option (Int32)} {kf : Int32 → Option α} {i0 : Nat} (hOk : Ok E.1 yX5_isOut kX5_isOut d [.ref (E.1.1 5 0 i0)] σ (cvI σ) oc) (hd : Dc K pc (.invokevirtual idx) 3 npc) (hlk : Cond.methodLinkNest K.2.1 idx yX5_isOut "ThawGives" ∈ lw_nest) (hi : i0 < 13) (hw : (st.map fun v => v.category).sum ≤ 8) (hfit : fits_ E d 1) (hrm : room_ok E) (kk : ∀ q : Int32, Rf cv E K npc lv (.int q :: st) σ (kf q)) : Rf cv E K pc lv (.ref (E.1.1 5 0 i0) :: st) σ (oc.bind kf) := c_N (n := 0) (as := []) (c0 := 5) (i := i0) (CC := "ThawGives$Thing") (T := TX5) (N := 7) hd hOk hlk wi_X5_isOut wv_X5_isOut wn_X5 wc_X5_isOut rfl (by decide) hi ⟨by decide, by decide, by decide⟩ rfl rfl hw hfit hrm (fun b _ => kk b)
def f_J9_max_7cf53 (x0 : Int32) (x1 : Int32) : Option (Int32) :=
  (if x0 < x1 then
    some x1
  else
    some x0)
set_option maxRecDepth 100000 in
theorem s_J9_max_7cf53 (g : Gm) (sz : Sto) (x0 : Int32) (x1 : Int32) : Rf (cvI sz) (Em g 0) kJ9_max_7cf53 0 [some (.int x0), some (.int x1)] [] sz (f_J9_max_7cf53 x0 x1) := by
  unfold f_J9_max_7cf53
  refine r_iload_n dJ9_max_7cf53_0 rfl ?_
  refine r_iload_n dJ9_max_7cf53_1 rfl ?_
  refine r_iclt dJ9_max_7cf53_2 (tgt := 9) (by decide) (fun c1 => ?_) (fun c1 => ?_)
  · refine r_iload_n dJ9_max_7cf53_9 rfl ?_
    exact r_iret dJ9_max_7cf53_10 rfl rfl
  · refine r_iload_n dJ9_max_7cf53_5 rfl ?_
    refine r_goto dJ9_max_7cf53_6 (tgt := 10) (by decide) ?_
    exact r_iret dJ9_max_7cf53_10 rfl rfl
theorem ok_J9_max_7cf53 (g : Gm) (sz : Sto) (x0 : Int32) (x1 : Int32) : Ok g yJ9_max_7cf53 kJ9_max_7cf53 0 [.int x0, .int x1] sz (cvI sz) (f_J9_max_7cf53 x0 x1) := Ok.ofF (by decide +kernel) rfl (Nat.le_of_ble_eq_true rfl) (lv := [some (.int x0), some (.int x1)]) rfl (s_J9_max_7cf53 g sz x0 x1)
theorem u_J9_max_7cf53 {α : Type} {cv : α → Res} {E : EE} {K : KK} {pc npc idx d : Nat} {lv : List (Option Value)} {st : List Value} {σ : Sto} {oc : Option (Int32)} {kf : Int32 → Option α} {x0 : Int32} {x1 : Int32} (hOk : Ok E.1 yJ9_max_7cf53 kJ9_max_7cf53 d [.int x0, .int x1] σ (cvI σ) oc) (hd : Dc K pc (.invokestatic idx) 3 npc) (hlk : Cond.methodLink K.2.1 idx yJ9_max_7cf53 ∈ lw_good) (hw : (st.map fun v => v.category).sum ≤ 8) (hfit : fits_ E d 2) (hrm : room_ok E) (kk : ∀ q : Int32, Rf cv E K npc lv (.int q :: st) σ (kf q)) : Rf cv E K pc lv (.int x1 :: .int x0 :: st) σ (oc.bind kf) := c_S (n := 2) (as := [.int x0, .int x1]) hd hOk hlk wt_J9_max_7cf53 wn_J9 wc_J9_max_7cf53 ⟨by decide, by decide, by decide⟩ rfl rfl hw hfit hrm (fun b _ => kk b)
def f_X5_snowOn (s0 : Sto) (i0 : Nat) (x1 : Int32) : Option (Sto) :=
  (f_X5_isOut s0 i0).bind fun q1 => (if q1 = 0 then
    (f_J9_min_7cf53 99 ((s0.1 5 4 i0) + x1)).bind fun q3 => nm (sF s0 5 4 i0 q3) fun s4 => some s4
  else
    some s0)
set_option maxRecDepth 100000 in
theorem s_X5_snowOn (g : Gm) (s0 : Sto) (i0 : Nat) (x1 : Int32) (hi0 : i0 < 13) : Rf cvV (Em g 1) kX5_snowOn 0 [some (.ref ((Em g 1).1.1 5 0 i0)), some (.int x1)] [] s0 (f_X5_snowOn s0 i0 x1) := by
  unfold f_X5_snowOn
  refine r_aload_n dX5_snowOn_0 rfl ?_
  refine u_X5_isOut (ok_X5_isOut g s0 i0 hi0) dX5_snowOn_1 ml_X5_52 hi0 (Nat.le_of_ble_eq_true rfl) (fits_m (by decide) (by decide)) room_m (fun q1 => ?_)
  refine r_ifne dX5_snowOn_4 (tgt := 22) (by decide) (fun c2 => ?_) (fun c2 => ?_)
  · refine r_aload_n dX5_snowOn_7 rfl ?_
    refine r_bipush dX5_snowOn_8 cb_99 ?_
    refine r_aload_n dX5_snowOn_10 rfl ?_
    refine gf_X5_21 rfl dX5_snowOn_11 hi0 ?_
    refine r_iload_n dX5_snowOn_14 rfl ?_
    refine r_iadd dX5_snowOn_15 ?_
    refine u_J9_min_7cf53 (ok_J9_min_7cf53 g s0 99 ((s0.1 5 4 i0) + x1)) dX5_snowOn_16 ml_X5_60 (Nat.le_of_ble_eq_true rfl) (fits_m (by decide) (by decide)) room_m (fun q3 => ?_)
    refine pf_X5_21 rfl dX5_snowOn_19 hi0 (fun s4 => ?_)
    exact r_vret dX5_snowOn_22 rfl rfl
  · exact r_vret dX5_snowOn_22 rfl rfl
theorem ok_X5_snowOn (g : Gm) (s0 : Sto) (i0 : Nat) (x1 : Int32) (hi0 : i0 < 13) : Ok g yX5_snowOn kX5_snowOn 1 [.ref ((Em g 1).1.1 5 0 i0), .int x1] s0 cvV (f_X5_snowOn s0 i0 x1) := Ok.of (by decide) rfl (Nat.le_of_ble_eq_true rfl) (lv := [some (.ref ((Em g 1).1.1 5 0 i0)), some (.int x1)]) rfl (s_X5_snowOn g s0 i0 x1 hi0)
theorem u_X5_snowOn {α : Type} {cv : α → Res} {E : EE} {K : KK} {pc npc idx d : Nat} {lv : List (Option Value)} {st : List Value} {σ : Sto} {oc : Option (Sto)} {kf : Sto → Option α} {i0 : Nat} {x1 : Int32} (hOk : Ok E.1 yX5_snowOn kX5_snowOn d [.ref (E.1.1 5 0 i0), .int x1] σ cvV oc) (hd : Dc K pc (.invokevirtual idx) 3 npc) (hlk : Cond.methodLink K.2.1 idx yX5_snowOn ∈ lw_good) (hi : i0 < 13) (hw : (st.map fun v => v.category).sum ≤ 8) (hfit : fits_ E d 2) (hrm : room_ok E) (kk : ∀ τ : Sto, Rf cv E K npc lv st τ (kf τ)) : Rf cv E K pc lv (.int x1 :: .ref (E.1.1 5 0 i0) :: st) σ (oc.bind kf) := c_V (n := 1) (as := [.int x1]) (c0 := 5) (i := i0) (CC := "ThawGives$Thing") (T := TX5) (N := 7) hd hOk hlk wi_X5_snowOn wv_X5_snowOn wn_X5 wc_X5_snowOn rfl (by decide) hi ⟨by decide, by decide, by decide⟩ rfl rfl hw hfit hrm (fun b _ => kk b)
theorem un_X5_snowOn {α : Type} {cv : α → Res} {E : EE} {K : KK} {pc npc idx d : Nat} {lv : List (Option Value)} {st : List Value} {σ : Sto} {oc : Option (Sto)} {kf : Sto → Option α} {i0 : Nat} {x1 : Int32} (hOk : Ok E.1 yX5_snowOn kX5_snowOn d [.ref (E.1.1 5 0 i0), .int x1] σ cvV oc) (hd : Dc K pc (.invokevirtual idx) 3 npc) (hlk : Cond.methodLinkNest K.2.1 idx yX5_snowOn "ThawGives" ∈ lw_nest) (hi : i0 < 13) (hw : (st.map fun v => v.category).sum ≤ 8) (hfit : fits_ E d 2) (hrm : room_ok E) (kk : ∀ τ : Sto, Rf cv E K npc lv st τ (kf τ)) : Rf cv E K pc lv (.int x1 :: .ref (E.1.1 5 0 i0) :: st) σ (oc.bind kf) := c_N (n := 1) (as := [.int x1]) (c0 := 5) (i := i0) (CC := "ThawGives$Thing") (T := TX5) (N := 7) hd hOk hlk wi_X5_snowOn wv_X5_snowOn wn_X5 wc_X5_snowOn rfl (by decide) hi ⟨by decide, by decide, by decide⟩ rfl rfl hw hfit hrm (fun b _ => kk b)
def f_X5_goWeek (s0 : Sto) (i0 : Nat) (x1 : Int32) (i2 : Nat) : Option (Sto) :=
  (f_X5_isOut s0 i0).bind fun q1 => (if q1 = 0 then
    (f_X5_meltIn s0 i0 x1 i2).bind fun q3 => (f_J9_min_7cf53 99 ((s0.1 5 4 i0) - q3.1)).bind fun q4 => (f_J9_max_7cf53 0 q4).bind fun q5 => nm (sF q3.2 5 4 i0 q5) fun s6 => (if (x1 - x1 / 5 * 5) = 0 then
      (f_X5_snowOn s6 i0 (s6.1 1 4 i2)).bind fun q8 => some q8
    else
      some s6)
  else
    some s0)
set_option maxRecDepth 100000 in
theorem s_X5_goWeek (g : Gm) (s0 : Sto) (i0 : Nat) (x1 : Int32) (i2 : Nat) (hi0 : i0 < 13) (hi2 : i2 < 8) : Rf cvV (Em g 2) kX5_goWeek 0 [some (.ref ((Em g 2).1.1 5 0 i0)), some (.int x1), some (.ref ((Em g 2).1.1 1 0 i2))] [] s0 (f_X5_goWeek s0 i0 x1 i2) := by
  unfold f_X5_goWeek
  refine r_aload_n dX5_goWeek_0 rfl ?_
  refine u_X5_isOut (ok_X5_isOut g s0 i0 hi0) dX5_goWeek_1 ml_X5_52 hi0 (Nat.le_of_ble_eq_true rfl) (fits_m (by decide) (by decide)) room_m (fun q1 => ?_)
  refine r_ifeq dX5_goWeek_4 (tgt := 8) (by decide) (fun c2 => ?_) (fun c2 => ?_)
  · refine r_aload_n dX5_goWeek_8 rfl ?_
    refine r_iconst dX5_goWeek_9 ci_0 ?_
    refine r_bipush dX5_goWeek_10 cb_99 ?_
    refine r_aload_n dX5_goWeek_12 rfl ?_
    refine gf_X5_21 rfl dX5_goWeek_13 hi0 ?_
    refine r_aload_n dX5_goWeek_16 rfl ?_
    refine r_iload_n dX5_goWeek_17 rfl ?_
    refine r_aload_n dX5_goWeek_18 rfl ?_
    refine u_X5_meltIn (ok_X5_meltIn g s0 i0 x1 i2 hi0 hi2) dX5_goWeek_19 ml_X5_56 hi0 (Nat.le_of_ble_eq_true rfl) (fits_m (by decide) (by decide)) room_m (fun q3 => ?_)
    refine r_isub dX5_goWeek_22 ?_
    refine u_J9_min_7cf53 (ok_J9_min_7cf53 g q3.2 99 ((s0.1 5 4 i0) - q3.1)) dX5_goWeek_23 ml_X5_60 (Nat.le_of_ble_eq_true rfl) (fits_m (by decide) (by decide)) room_m (fun q4 => ?_)
    refine u_J9_max_7cf53 (ok_J9_max_7cf53 g q3.2 0 q4) dX5_goWeek_26 ml_X5_63 (Nat.le_of_ble_eq_true rfl) (fits_m (by decide) (by decide)) room_m (fun q5 => ?_)
    refine pf_X5_21 rfl dX5_goWeek_29 hi0 (fun s6 => ?_)
    refine r_iload_n dX5_goWeek_32 rfl ?_
    refine r_iconst dX5_goWeek_33 ci_5 ?_
    refine r_irem dX5_goWeek_34 (by decide) ?_
    refine r_ifne dX5_goWeek_35 (tgt := 46) (by decide) (fun c7 => ?_) (fun c7 => ?_)
    · refine r_aload_n dX5_goWeek_38 rfl ?_
      refine r_aload_n dX5_goWeek_39 rfl ?_
      refine gf_X5_66 rfl dX5_goWeek_40 hi2 ?_
      refine u_X5_snowOn (ok_X5_snowOn g s6 i0 (s6.1 1 4 i2) hi0) dX5_goWeek_43 ml_X5_69 hi0 (Nat.le_of_ble_eq_true rfl) (fits_m (by decide) (by decide)) room_m (fun q8 => ?_)
      exact r_vret dX5_goWeek_46 rfl rfl
    · exact r_vret dX5_goWeek_46 rfl rfl
  · exact r_vret dX5_goWeek_7 rfl rfl
theorem ok_X5_goWeek (g : Gm) (s0 : Sto) (i0 : Nat) (x1 : Int32) (i2 : Nat) (hi0 : i0 < 13) (hi2 : i2 < 8) : Ok g yX5_goWeek kX5_goWeek 2 [.ref ((Em g 2).1.1 5 0 i0), .int x1, .ref ((Em g 2).1.1 1 0 i2)] s0 cvV (f_X5_goWeek s0 i0 x1 i2) := Ok.of (by decide) rfl (Nat.le_of_ble_eq_true rfl) (lv := [some (.ref ((Em g 2).1.1 5 0 i0)), some (.int x1), some (.ref ((Em g 2).1.1 1 0 i2))]) rfl (s_X5_goWeek g s0 i0 x1 i2 hi0 hi2)
theorem u_X5_goWeek {α : Type} {cv : α → Res} {E : EE} {K : KK} {pc npc idx d : Nat} {lv : List (Option Value)} {st : List Value} {σ : Sto} {oc : Option (Sto)} {kf : Sto → Option α} {i0 : Nat} {x1 : Int32} {i2 : Nat} (hOk : Ok E.1 yX5_goWeek kX5_goWeek d [.ref (E.1.1 5 0 i0), .int x1, .ref (E.1.1 1 0 i2)] σ cvV oc) (hd : Dc K pc (.invokevirtual idx) 3 npc) (hlk : Cond.methodLink K.2.1 idx yX5_goWeek ∈ lw_good) (hi : i0 < 13) (hw : (st.map fun v => v.category).sum ≤ 8) (hfit : fits_ E d 3) (hrm : room_ok E) (kk : ∀ τ : Sto, Rf cv E K npc lv st τ (kf τ)) : Rf cv E K pc lv (.ref (E.1.1 1 0 i2) :: .int x1 :: .ref (E.1.1 5 0 i0) :: st) σ (oc.bind kf) := c_V (n := 2) (as := [.int x1, .ref (E.1.1 1 0 i2)]) (c0 := 5) (i := i0) (CC := "ThawGives$Thing") (T := TX5) (N := 7) hd hOk hlk wi_X5_goWeek wv_X5_goWeek wn_X5 wc_X5_goWeek rfl (by decide) hi ⟨by decide, by decide, by decide⟩ rfl rfl hw hfit hrm (fun b _ => kk b)
theorem un_X5_goWeek {α : Type} {cv : α → Res} {E : EE} {K : KK} {pc npc idx d : Nat} {lv : List (Option Value)} {st : List Value} {σ : Sto} {oc : Option (Sto)} {kf : Sto → Option α} {i0 : Nat} {x1 : Int32} {i2 : Nat} (hOk : Ok E.1 yX5_goWeek kX5_goWeek d [.ref (E.1.1 5 0 i0), .int x1, .ref (E.1.1 1 0 i2)] σ cvV oc) (hd : Dc K pc (.invokevirtual idx) 3 npc) (hlk : Cond.methodLinkNest K.2.1 idx yX5_goWeek "ThawGives" ∈ lw_nest) (hi : i0 < 13) (hw : (st.map fun v => v.category).sum ≤ 8) (hfit : fits_ E d 3) (hrm : room_ok E) (kk : ∀ τ : Sto, Rf cv E K npc lv st τ (kf τ)) : Rf cv E K pc lv (.ref (E.1.1 1 0 i2) :: .int x1 :: .ref (E.1.1 5 0 i0) :: st) σ (oc.bind kf) := c_N (n := 2) (as := [.int x1, .ref (E.1.1 1 0 i2)]) (c0 := 5) (i := i0) (CC := "ThawGives$Thing") (T := TX5) (N := 7) hd hOk hlk wi_X5_goWeek wv_X5_goWeek wn_X5 wc_X5_goWeek rfl (by decide) hi ⟨by decide, by decide, by decide⟩ rfl rfl hw hfit hrm (fun b _ => kk b)
def f_X7_whenOf_B23 (k23 : Sto → Nat → Int32 → Option (Int32 × Sto)) (s0 : Sto) (i2 : Nat) (x3 : Int32) : Option (Int32 × Sto) :=
  (if (60 : Int32) < x3 then
    some (61, s0)
  else
    (f_X5_isOut s0 12).bind fun q7 => (if q7 = 0 then
      (f_X5_goWeek s0 12 ((s0.1 6 2 0) + x3) i2).bind fun q9 => nmI (x3 + 1) fun v10 => k23 q9 i2 v10
    else
      some (x3, s0)))
def f_X7_whenOf_L23 : Nat → Sto → Nat → Int32 → Option (Int32 × Sto)
  | 0 => fun _ _ _ => none
  | n + 1 => f_X7_whenOf_B23 (f_X7_whenOf_L23 n)
def f_X7_whenOf (s0 : Sto) (x1 : Int32) : Option (Int32 × Sto) :=
  (f_X7_holding s0).bind fun q1 => (if q1 < 8 then (if 0 ≤ x1 ∧ x1 < 6 then (f_X5_become s0 12 (6 * 0 + Int32.toNatClampNeg x1)).bind fun q5 => f_X7_whenOf_L23 1000 q5 q1 0 else none) else none)
set_option maxRecDepth 100000 in
theorem s_X7_whenOf_B23 (g : Gm) (k23 : Sto → Nat → Int32 → Option (Int32 × Sto)) (hk23 : ∀ (s0 : Sto) (i2 : Nat) (x3 : Int32) (hi2 : i2 < 8), Rf cvIw (Em g 3) kX7_whenOf 23 [some (.ref ((Em g 3).1.1 7 0 0)), none, some (.ref ((Em g 3).1.1 1 0 i2)), some (.int x3)] [] s0 (k23 s0 i2 x3)) (s0 : Sto) (i2 : Nat) (x3 : Int32) (hi2 : i2 < 8) : Rf cvIw (Em g 3) kX7_whenOf 23 [some (.ref ((Em g 3).1.1 7 0 0)), none, some (.ref ((Em g 3).1.1 1 0 i2)), some (.int x3)] [] s0 (f_X7_whenOf_B23 k23 s0 i2 x3) := by
  unfold f_X7_whenOf_B23
  refine r_iload_n dX7_whenOf_23 rfl ?_
  refine r_bipush dX7_whenOf_24 cb_60 ?_
  refine r_icgt dX7_whenOf_26 (tgt := 64) (by decide) (fun c6 => ?_) (fun c6 => ?_)
  · refine r_bipush dX7_whenOf_64 cb_61 ?_
    exact r_iret dX7_whenOf_66 rfl rfl
  · refine r_aload_n dX7_whenOf_29 rfl ?_
    refine gf_X7_30 rfl dX7_whenOf_30 ?_
    refine un_X5_isOut (ok_X5_isOut g s0 12 (by decide)) dX7_whenOf_33 mn_X7_269 (by decide) (Nat.le_of_ble_eq_true rfl) (fits_m (by decide) (by decide)) room_m (fun q7 => ?_)
    refine r_ifeq dX7_whenOf_36 (tgt := 41) (by decide) (fun c8 => ?_) (fun c8 => ?_)
    · refine r_aload_n dX7_whenOf_41 rfl ?_
      refine gf_X7_30 rfl dX7_whenOf_42 ?_
      refine r_aload_n dX7_whenOf_45 rfl ?_
      refine gf_X7_14 rfl dX7_whenOf_46 ?_
      refine gf_X7_105 rfl dX7_whenOf_49 (by decide) ?_
      refine r_iload_n dX7_whenOf_52 rfl ?_
      refine r_iadd dX7_whenOf_53 ?_
      refine r_aload_n dX7_whenOf_54 rfl ?_
      refine un_X5_goWeek (ok_X5_goWeek g s0 12 ((s0.1 6 2 0) + x3) i2 (by decide) hi2) dX7_whenOf_55 mn_X7_262 (by decide) (Nat.le_of_ble_eq_true rfl) (fits_m (by decide) (by decide)) room_m (fun q9 => ?_)
      refine r_iincN dX7_whenOf_58 rfl ci_1 rfl (lt_b rfl) (fun v10 => ?_)
      refine r_goto dX7_whenOf_61 (tgt := 23) (by decide) ?_
      exact r_mask [true, false, true, true] (hk23 q9 i2 v10 hi2)
    · refine r_iload_n dX7_whenOf_39 rfl ?_
      exact r_iret dX7_whenOf_40 rfl rfl
theorem s_X7_whenOf_L23 (g : Gm) : ∀ (n : Nat) (s0 : Sto) (i2 : Nat) (x3 : Int32) (hi2 : i2 < 8), Rf cvIw (Em g 3) kX7_whenOf 23 [some (.ref ((Em g 3).1.1 7 0 0)), none, some (.ref ((Em g 3).1.1 1 0 i2)), some (.int x3)] [] s0 (f_X7_whenOf_L23 n s0 i2 x3)
  | 0, _, _, _, _ => r_none
  | n + 1, s0, i2, x3, hi2 => s_X7_whenOf_B23 g (f_X7_whenOf_L23 n) (s_X7_whenOf_L23 g n) s0 i2 x3 hi2
set_option maxRecDepth 100000 in
theorem s_X7_whenOf (g : Gm) (s0 : Sto) (x1 : Int32) : Rf cvIw (Em g 3) kX7_whenOf 0 [some (.ref ((Em g 3).1.1 7 0 0)), some (.int x1), none, none] [] s0 (f_X7_whenOf s0 x1) := by
  unfold f_X7_whenOf
  refine r_aload_n dX7_whenOf_0 rfl ?_
  refine u_X7_holding (ok_X7_holding g s0) dX7_whenOf_1 ml_X7_108 (Nat.le_of_ble_eq_true rfl) (fits_m (by decide) (by decide)) room_m (fun q1 => ?_)
  refine r_gd (fun h2 => ?_)
  refine r_astore_n dX7_whenOf_4 rfl (lt_b rfl) (lt_b rfl) ?_
  refine r_aload_n dX7_whenOf_5 rfl ?_
  refine gf_X7_30 rfl dX7_whenOf_6 ?_
  refine r_aload_n dX7_whenOf_9 rfl ?_
  refine gf_X7_14 rfl dX7_whenOf_10 ?_
  refine gf_X7_81 rfl dX7_whenOf_13 (by decide) ?_
  refine r_iload_n dX7_whenOf_16 rfl ?_
  refine al_6_0 dX7_whenOf_17 (by decide) (fun hg3 hj4 => ?_)
  refine un_X5_become (ok_X5_become g s0 12 (6 * 0 + Int32.toNatClampNeg x1) (by decide) (by omega)) dX7_whenOf_18 mn_X7_266 (by decide) (Nat.le_of_ble_eq_true rfl) (fits_m (by decide) (by decide)) room_m (fun q5 => ?_)
  refine r_iconst dX7_whenOf_21 ci_0 ?_
  refine r_istore_n dX7_whenOf_22 rfl (lt_b rfl) (lt_b rfl) ?_
  exact r_mask [true, false, true, true] (s_X7_whenOf_L23 g 1000 q5 q1 0 h2)
theorem ok_X7_whenOf (g : Gm) (s0 : Sto) (x1 : Int32) : Ok g yX7_whenOf kX7_whenOf 3 [.ref ((Em g 3).1.1 7 0 0), .int x1] s0 cvIw (f_X7_whenOf s0 x1) := Ok.of (by decide) rfl (Nat.le_of_ble_eq_true rfl) (lv := [some (.ref ((Em g 3).1.1 7 0 0)), some (.int x1), none, none]) rfl (s_X7_whenOf g s0 x1)
theorem u_X7_whenOf {α : Type} {cv : α → Res} {E : EE} {K : KK} {pc npc idx d : Nat} {lv : List (Option Value)} {st : List Value} {σ : Sto} {oc : Option (Int32 × Sto)} {kf : (Int32 × Sto) → Option α} {x1 : Int32} (hOk : Ok E.1 yX7_whenOf kX7_whenOf d [.ref (E.1.1 7 0 0), .int x1] σ cvIw oc) (hd : Dc K pc (.invokevirtual idx) 3 npc) (hlk : Cond.methodLink K.2.1 idx yX7_whenOf ∈ lw_good) (hw : (st.map fun v => v.category).sum ≤ 8) (hfit : fits_ E d 4) (hrm : room_ok E) (kk : ∀ q : Int32 × Sto, Rf cv E K npc lv (.int q.1 :: st) q.2 (kf q)) : Rf cv E K pc lv (.int x1 :: .ref (E.1.1 7 0 0) :: st) σ (oc.bind kf) := c_V (n := 1) (as := [.int x1]) (c0 := 7) (i := 0) (CC := "ThawGives") (T := TX7) (N := 11) hd hOk hlk wi_X7_whenOf wv_X7_whenOf wn_X7 wc_X7_whenOf rfl (by decide) (by decide) ⟨by decide, by decide, by decide⟩ rfl rfl hw hfit hrm (fun b _ => kk b)
def f_X7_orNever (x0 : Int32) : Option (Int32) :=
  (if x0 = 61 then
    some (-5 : Int32)
  else
    some x0)
set_option maxRecDepth 100000 in
theorem s_X7_orNever (g : Gm) (sz : Sto) (x0 : Int32) : Rf (cvI sz) (Em g 0) kX7_orNever 0 [some (.int x0)] [] sz (f_X7_orNever x0) := by
  unfold f_X7_orNever
  refine r_iload_n dX7_orNever_0 rfl ?_
  refine r_bipush dX7_orNever_1 cb_61 ?_
  refine r_icne dX7_orNever_3 (tgt := 11) (by decide) (fun c1 => ?_) (fun c1 => ?_)
  · refine r_bipush dX7_orNever_6 cb_m5 ?_
    refine r_goto dX7_orNever_8 (tgt := 12) (by decide) ?_
    exact r_iret dX7_orNever_12 rfl rfl
  · refine r_iload_n dX7_orNever_11 rfl ?_
    exact r_iret dX7_orNever_12 rfl rfl
theorem ok_X7_orNever (g : Gm) (sz : Sto) (x0 : Int32) : Ok g yX7_orNever kX7_orNever 0 [.int x0] sz (cvI sz) (f_X7_orNever x0) := Ok.of (by decide) rfl (Nat.le_of_ble_eq_true rfl) (lv := [some (.int x0)]) rfl (s_X7_orNever g sz x0)
theorem u_X7_orNever {α : Type} {cv : α → Res} {E : EE} {K : KK} {pc npc idx d : Nat} {lv : List (Option Value)} {st : List Value} {σ : Sto} {oc : Option (Int32)} {kf : Int32 → Option α} {x0 : Int32} (hOk : Ok E.1 yX7_orNever kX7_orNever d [.int x0] σ (cvI σ) oc) (hd : Dc K pc (.invokestatic idx) 3 npc) (hlk : Cond.methodLink K.2.1 idx yX7_orNever ∈ lw_good) (hw : (st.map fun v => v.category).sum ≤ 8) (hfit : fits_ E d 1) (hrm : room_ok E) (kk : ∀ q : Int32, Rf cv E K npc lv (.int q :: st) σ (kf q)) : Rf cv E K pc lv (.int x0 :: st) σ (oc.bind kf) := c_S (n := 1) (as := [.int x0]) hd hOk hlk wt_X7_orNever wn_X7 wc_X7_orNever ⟨by decide, by decide, by decide⟩ rfl rfl hw hfit hrm (fun b _ => kk b)
def f_X7_of (s0 : Sto) (x1 : Int32) (x2 : Int32) : Option (Int32 × Sto) :=
  (f_X7_isThing s0 x1).bind fun q1 => (if q1 = 0 then
    some ((-10001 : Int32), s0)
  else
    (if 0 ≤ x1 ∧ x1 < 6 then (if x2 = 0 then
      some ((s0.1 5 1 (6 * 0 + Int32.toNatClampNeg x1)), s0)
    else (if x2 = 1 then
      some ((s0.1 5 2 (6 * 0 + Int32.toNatClampNeg x1)), s0)
    else (if x2 = 2 then
      some ((s0.1 5 3 (6 * 0 + Int32.toNatClampNeg x1)), s0)
    else (if x2 = 3 then
      some ((s0.1 5 4 (6 * 0 + Int32.toNatClampNeg x1)), s0)
    else (if x2 = 4 then
      (f_X7_holding s0).bind fun q10 => (if q10 < 8 then (f_X5_meltIn s0 (6 * 0 + Int32.toNatClampNeg x1) (s0.1 6 2 0) q10).bind fun q12 => some (q12.1, q12.2) else none)
    else (if x2 = 5 then
      (f_X7_whenOf s0 x1).bind fun q14 => (f_X7_orNever q14.1).bind fun q15 => some (q15, q14.2)
    else some ((-10001 : Int32), s0))))))) else none))
set_option maxRecDepth 100000 in
theorem s_X7_of (g : Gm) (s0 : Sto) (x1 : Int32) (x2 : Int32) : Rf cvIw (Em g 4) kX7_of 0 [some (.ref ((Em g 4).1.1 7 0 0)), some (.int x1), some (.int x2), none] [] s0 (f_X7_of s0 x1 x2) := by
  unfold f_X7_of
  refine r_aload_n dX7_of_0 rfl ?_
  refine r_iload_n dX7_of_1 rfl ?_
  refine u_X7_isThing (ok_X7_isThing g s0 x1) dX7_of_2 ml_X7_89 (Nat.le_of_ble_eq_true rfl) (fits_m (by decide) (by decide)) room_m (fun q1 => ?_)
  refine r_ifne dX7_of_5 (tgt := 12) (by decide) (fun c2 => ?_) (fun c2 => ?_)
  · refine r_sipush dX7_of_8 cs_m10001 ?_
    exact r_iret dX7_of_11 rfl rfl
  · refine r_aload_n dX7_of_12 rfl ?_
    refine gf_X7_14 rfl dX7_of_13 ?_
    refine gf_X7_81 rfl dX7_of_16 (by decide) ?_
    refine r_iload_n dX7_of_19 rfl ?_
    refine al_6_0 dX7_of_20 (by decide) (fun hg3 hj4 => ?_)
    refine r_astore_n dX7_of_21 rfl (lt_b rfl) (lt_b rfl) ?_
    refine r_iload_n dX7_of_22 rfl ?_
    refine r_by (fun e5 => ?_) (fun e5 => ?_)
    · refine r_tabIn dX7_of_23 e5 (z := 0) (by decide) (by decide) (by decide) (off := 37) rfl (tgt := 60) (by decide) ?_
      refine r_aload_n dX7_of_60 rfl ?_
      refine gf_X7_93 rfl dX7_of_61 (by omega) ?_
      exact r_iret dX7_of_64 rfl rfl
    refine r_by (fun e6 => ?_) (fun e6 => ?_)
    · refine r_tabIn dX7_of_23 e6 (z := 1) (by decide) (by decide) (by decide) (off := 42) rfl (tgt := 65) (by decide) ?_
      refine r_aload_n dX7_of_65 rfl ?_
      refine gf_X7_96 rfl dX7_of_66 (by omega) ?_
      exact r_iret dX7_of_69 rfl rfl
    refine r_by (fun e7 => ?_) (fun e7 => ?_)
    · refine r_tabIn dX7_of_23 e7 (z := 2) (by decide) (by decide) (by decide) (off := 47) rfl (tgt := 70) (by decide) ?_
      refine r_aload_n dX7_of_70 rfl ?_
      refine gf_X7_99 rfl dX7_of_71 (by omega) ?_
      exact r_iret dX7_of_74 rfl rfl
    refine r_by (fun e8 => ?_) (fun e8 => ?_)
    · refine r_tabIn dX7_of_23 e8 (z := 3) (by decide) (by decide) (by decide) (off := 52) rfl (tgt := 75) (by decide) ?_
      refine r_aload_n dX7_of_75 rfl ?_
      refine gf_X7_102 rfl dX7_of_76 (by omega) ?_
      exact r_iret dX7_of_79 rfl rfl
    refine r_by (fun e9 => ?_) (fun e9 => ?_)
    · refine r_tabIn dX7_of_23 e9 (z := 4) (by decide) (by decide) (by decide) (off := 57) rfl (tgt := 80) (by decide) ?_
      refine r_aload_n dX7_of_80 rfl ?_
      refine r_aload_n dX7_of_81 rfl ?_
      refine gf_X7_14 rfl dX7_of_82 ?_
      refine gf_X7_105 rfl dX7_of_85 (by decide) ?_
      refine r_aload_n dX7_of_88 rfl ?_
      refine u_X7_holding (ok_X7_holding g s0) dX7_of_89 ml_X7_108 (Nat.le_of_ble_eq_true rfl) (fits_m (by decide) (by decide)) room_m (fun q10 => ?_)
      refine r_gd (fun h11 => ?_)
      refine un_X5_meltIn (ok_X5_meltIn g s0 (6 * 0 + Int32.toNatClampNeg x1) (s0.1 6 2 0) q10 (by omega) h11) dX7_of_92 mn_X7_112 (by omega) (Nat.le_of_ble_eq_true rfl) (fits_m (by decide) (by decide)) room_m (fun q12 => ?_)
      exact r_iret dX7_of_95 rfl rfl
    refine r_by (fun e13 => ?_) (fun e13 => ?_)
    · refine r_tabIn dX7_of_23 e13 (z := 5) (by decide) (by decide) (by decide) (off := 73) rfl (tgt := 96) (by decide) ?_
      refine r_aload_n dX7_of_96 rfl ?_
      refine r_iload_n dX7_of_97 rfl ?_
      refine u_X7_whenOf (ok_X7_whenOf g s0 x1) dX7_of_98 ml_X7_116 (Nat.le_of_ble_eq_true rfl) (fits_m (by decide) (by decide)) room_m (fun q14 => ?_)
      refine u_X7_orNever (ok_X7_orNever g q14.2 q14.1) dX7_of_101 ml_X7_120 (Nat.le_of_ble_eq_true rfl) (fits_m (by decide) (by decide)) room_m (fun q15 => ?_)
      exact r_iret dX7_of_104 rfl rfl
    refine r_tabOut dX7_of_23 (by have a0 := sw_ne e5 (z := 0) (by decide); have a1 := sw_ne e6 (z := 1) (by decide); have a2 := sw_ne e7 (z := 2) (by decide); have a3 := sw_ne e8 (z := 3) (by decide); have a4 := sw_ne e9 (z := 4) (by decide); have a5 := sw_ne e13 (z := 5) (by decide); omega) (tgt := 105) (by decide) ?_
    refine r_sipush dX7_of_105 cs_m10001 ?_
    exact r_iret dX7_of_108 rfl rfl
theorem ok_X7_of (g : Gm) (s0 : Sto) (x1 : Int32) (x2 : Int32) : Ok g yX7_of kX7_of 4 [.ref ((Em g 4).1.1 7 0 0), .int x1, .int x2] s0 cvIw (f_X7_of s0 x1 x2) := Ok.of (by decide) rfl (Nat.le_of_ble_eq_true rfl) (lv := [some (.ref ((Em g 4).1.1 7 0 0)), some (.int x1), some (.int x2), none]) rfl (s_X7_of g s0 x1 x2)
theorem u_X7_of {α : Type} {cv : α → Res} {E : EE} {K : KK} {pc npc idx d : Nat} {lv : List (Option Value)} {st : List Value} {σ : Sto} {oc : Option (Int32 × Sto)} {kf : (Int32 × Sto) → Option α} {x1 : Int32} {x2 : Int32} (hOk : Ok E.1 yX7_of kX7_of d [.ref (E.1.1 7 0 0), .int x1, .int x2] σ cvIw oc) (hd : Dc K pc (.invokevirtual idx) 3 npc) (hlk : Cond.methodLink K.2.1 idx yX7_of ∈ lw_good) (hw : (st.map fun v => v.category).sum ≤ 8) (hfit : fits_ E d 4) (hrm : room_ok E) (kk : ∀ q : Int32 × Sto, Rf cv E K npc lv (.int q.1 :: st) q.2 (kf q)) : Rf cv E K pc lv (.int x2 :: .int x1 :: .ref (E.1.1 7 0 0) :: st) σ (oc.bind kf) := c_V (n := 2) (as := [.int x1, .int x2]) (c0 := 7) (i := 0) (CC := "ThawGives") (T := TX7) (N := 11) hd hOk hlk wi_X7_of wv_X7_of wn_X7 wc_X7_of rfl (by decide) (by decide) ⟨by decide, by decide, by decide⟩ rfl rfl hw hfit hrm (fun b _ => kk b)
def f_X5_put (s0 : Sto) (i0 : Nat) (x1 : Int32) (x2 : Int32) : Option (Sto) :=
  (if x1 = 0 then
    nm (sF s0 5 3 i0 x2) fun s5 => some s5
  else
    (if x1 = 1 then
      nm (sF s0 5 4 i0 x2) fun s4 => some s4
    else
      nm (sF s0 5 2 i0 x2) fun s3 => some s3))
set_option maxRecDepth 100000 in
theorem s_X5_put (g : Gm) (s0 : Sto) (i0 : Nat) (x1 : Int32) (x2 : Int32) (hi0 : i0 < 13) : Rf cvV (Em g 0) kX5_put 0 [some (.ref ((Em g 0).1.1 5 0 i0)), some (.int x1), some (.int x2)] [] s0 (f_X5_put s0 i0 x1 x2) := by
  unfold f_X5_put
  refine r_iload_n dX5_put_0 rfl ?_
  refine r_ifne dX5_put_1 (tgt := 12) (by decide) (fun c1 => ?_) (fun c1 => ?_)
  · refine r_aload_n dX5_put_4 rfl ?_
    refine r_iload_n dX5_put_5 rfl ?_
    refine pf_X5_18 rfl dX5_put_6 hi0 (fun s5 => ?_)
    refine r_goto dX5_put_9 (tgt := 30) (by decide) ?_
    exact r_vret dX5_put_30 rfl rfl
  · refine r_iload_n dX5_put_12 rfl ?_
    refine r_iconst dX5_put_13 ci_1 ?_
    refine r_icne dX5_put_14 (tgt := 25) (by decide) (fun c2 => ?_) (fun c2 => ?_)
    · refine r_aload_n dX5_put_17 rfl ?_
      refine r_iload_n dX5_put_18 rfl ?_
      refine pf_X5_21 rfl dX5_put_19 hi0 (fun s4 => ?_)
      refine r_goto dX5_put_22 (tgt := 30) (by decide) ?_
      exact r_vret dX5_put_30 rfl rfl
    · refine r_aload_n dX5_put_25 rfl ?_
      refine r_iload_n dX5_put_26 rfl ?_
      refine pf_X5_15 rfl dX5_put_27 hi0 (fun s3 => ?_)
      exact r_vret dX5_put_30 rfl rfl
theorem ok_X5_put (g : Gm) (s0 : Sto) (i0 : Nat) (x1 : Int32) (x2 : Int32) (hi0 : i0 < 13) : Ok g yX5_put kX5_put 0 [.ref ((Em g 0).1.1 5 0 i0), .int x1, .int x2] s0 cvV (f_X5_put s0 i0 x1 x2) := Ok.of (by decide) rfl (Nat.le_of_ble_eq_true rfl) (lv := [some (.ref ((Em g 0).1.1 5 0 i0)), some (.int x1), some (.int x2)]) rfl (s_X5_put g s0 i0 x1 x2 hi0)
theorem u_X5_put {α : Type} {cv : α → Res} {E : EE} {K : KK} {pc npc idx d : Nat} {lv : List (Option Value)} {st : List Value} {σ : Sto} {oc : Option (Sto)} {kf : Sto → Option α} {i0 : Nat} {x1 : Int32} {x2 : Int32} (hOk : Ok E.1 yX5_put kX5_put d [.ref (E.1.1 5 0 i0), .int x1, .int x2] σ cvV oc) (hd : Dc K pc (.invokevirtual idx) 3 npc) (hlk : Cond.methodLink K.2.1 idx yX5_put ∈ lw_good) (hi : i0 < 13) (hw : (st.map fun v => v.category).sum ≤ 8) (hfit : fits_ E d 3) (hrm : room_ok E) (kk : ∀ τ : Sto, Rf cv E K npc lv st τ (kf τ)) : Rf cv E K pc lv (.int x2 :: .int x1 :: .ref (E.1.1 5 0 i0) :: st) σ (oc.bind kf) := c_V (n := 2) (as := [.int x1, .int x2]) (c0 := 5) (i := i0) (CC := "ThawGives$Thing") (T := TX5) (N := 7) hd hOk hlk wi_X5_put wv_X5_put wn_X5 wc_X5_put rfl (by decide) hi ⟨by decide, by decide, by decide⟩ rfl rfl hw hfit hrm (fun b _ => kk b)
theorem un_X5_put {α : Type} {cv : α → Res} {E : EE} {K : KK} {pc npc idx d : Nat} {lv : List (Option Value)} {st : List Value} {σ : Sto} {oc : Option (Sto)} {kf : Sto → Option α} {i0 : Nat} {x1 : Int32} {x2 : Int32} (hOk : Ok E.1 yX5_put kX5_put d [.ref (E.1.1 5 0 i0), .int x1, .int x2] σ cvV oc) (hd : Dc K pc (.invokevirtual idx) 3 npc) (hlk : Cond.methodLinkNest K.2.1 idx yX5_put "ThawGives" ∈ lw_nest) (hi : i0 < 13) (hw : (st.map fun v => v.category).sum ≤ 8) (hfit : fits_ E d 3) (hrm : room_ok E) (kk : ∀ τ : Sto, Rf cv E K npc lv st τ (kf τ)) : Rf cv E K pc lv (.int x2 :: .int x1 :: .ref (E.1.1 5 0 i0) :: st) σ (oc.bind kf) := c_N (n := 2) (as := [.int x1, .int x2]) (c0 := 5) (i := i0) (CC := "ThawGives$Thing") (T := TX5) (N := 7) hd hOk hlk wi_X5_put wv_X5_put wn_X5 wc_X5_put rfl (by decide) hi ⟨by decide, by decide, by decide⟩ rfl rfl hw hfit hrm (fun b _ => kk b)
def f_X7_set_L58 (s0 : Sto) (x2 : Int32) (x3 : Int32) (i4 : Nat) (y0 : Int32) : Option (Int32 × Sto) :=
  (f_X5_put s0 i4 x2 x3).bind fun q10 => some (y0, q10)
def f_X7_set (s0 : Sto) (x1 : Int32) (x2 : Int32) (x3 : Int32) : Option (Int32 × Sto) :=
  (f_X7_isThing s0 x1).bind fun q1 => (if q1 = 0 then
    some ((-1 : Int32), s0)
  else
    (f_X7_isUpTo x2 1).bind fun q3 => (if q3 = 0 then
      some ((-1 : Int32), s0)
    else
      (f_X7_isUpTo x3 99).bind fun q5 => (if q5 = 0 then
        some ((-2 : Int32), s0)
      else
        (if 0 ≤ x1 ∧ x1 < 6 then (if x2 = 0 then
          f_X7_set_L58 s0 x2 x3 (6 * 0 + Int32.toNatClampNeg x1) (s0.1 5 3 (6 * 0 + Int32.toNatClampNeg x1))
        else
          f_X7_set_L58 s0 x2 x3 (6 * 0 + Int32.toNatClampNeg x1) (s0.1 5 4 (6 * 0 + Int32.toNatClampNeg x1))) else none))))
set_option maxRecDepth 100000 in
theorem s_X7_set_L58 (g : Gm) (s0 : Sto) (x2 : Int32) (x3 : Int32) (i4 : Nat) (y0 : Int32) (hi4 : i4 < 13) : Rf cvIw (Em g 1) kX7_set 58 [none, none, some (.int x2), some (.int x3), some (.ref ((Em g 1).1.1 5 0 i4)), none] [.int y0] s0 (f_X7_set_L58 s0 x2 x3 i4 y0) := by
  unfold f_X7_set_L58
  refine r_istore dX7_set_58 rfl (lt_b rfl) (lt_b rfl) ?_
  refine r_aload dX7_set_60 rfl ?_
  refine r_iload_n dX7_set_62 rfl ?_
  refine r_iload_n dX7_set_63 rfl ?_
  refine un_X5_put (ok_X5_put g s0 i4 x2 x3 hi4) dX7_set_64 mn_X7_123 hi4 (Nat.le_of_ble_eq_true rfl) (fits_m (by decide) (by decide)) room_m (fun q10 => ?_)
  refine r_iload dX7_set_67 rfl ?_
  exact r_iret dX7_set_69 rfl rfl
set_option maxRecDepth 100000 in
theorem s_X7_set (g : Gm) (s0 : Sto) (x1 : Int32) (x2 : Int32) (x3 : Int32) : Rf cvIw (Em g 1) kX7_set 0 [some (.ref ((Em g 1).1.1 7 0 0)), some (.int x1), some (.int x2), some (.int x3), none, none] [] s0 (f_X7_set s0 x1 x2 x3) := by
  unfold f_X7_set
  refine r_aload_n dX7_set_0 rfl ?_
  refine r_iload_n dX7_set_1 rfl ?_
  refine u_X7_isThing (ok_X7_isThing g s0 x1) dX7_set_2 ml_X7_89 (Nat.le_of_ble_eq_true rfl) (fits_m (by decide) (by decide)) room_m (fun q1 => ?_)
  refine r_ifeq dX7_set_5 (tgt := 16) (by decide) (fun c2 => ?_) (fun c2 => ?_)
  · refine r_iconst dX7_set_16 ci_m1 ?_
    exact r_iret dX7_set_17 rfl rfl
  · refine r_iload_n dX7_set_8 rfl ?_
    refine r_iconst dX7_set_9 ci_1 ?_
    refine u_X7_isUpTo (ok_X7_isUpTo g s0 x2 1) dX7_set_10 ml_X7_74 (Nat.le_of_ble_eq_true rfl) (fits_m (by decide) (by decide)) room_m (fun q3 => ?_)
    refine r_ifne dX7_set_13 (tgt := 18) (by decide) (fun c4 => ?_) (fun c4 => ?_)
    · refine r_iconst dX7_set_16 ci_m1 ?_
      exact r_iret dX7_set_17 rfl rfl
    · refine r_iload_n dX7_set_18 rfl ?_
      refine r_bipush dX7_set_19 cb_99 ?_
      refine u_X7_isUpTo (ok_X7_isUpTo g s0 x3 99) dX7_set_21 ml_X7_74 (Nat.le_of_ble_eq_true rfl) (fits_m (by decide) (by decide)) room_m (fun q5 => ?_)
      refine r_ifne dX7_set_24 (tgt := 30) (by decide) (fun c6 => ?_) (fun c6 => ?_)
      · refine r_bipush dX7_set_27 cb_m2 ?_
        exact r_iret dX7_set_29 rfl rfl
      · refine r_aload_n dX7_set_30 rfl ?_
        refine gf_X7_14 rfl dX7_set_31 ?_
        refine gf_X7_81 rfl dX7_set_34 (by decide) ?_
        refine r_iload_n dX7_set_37 rfl ?_
        refine al_6_0 dX7_set_38 (by decide) (fun hg7 hj8 => ?_)
        refine r_astore dX7_set_39 rfl (lt_b rfl) (lt_b rfl) ?_
        refine r_iload_n dX7_set_41 rfl ?_
        refine r_ifne dX7_set_42 (tgt := 53) (by decide) (fun c9 => ?_) (fun c9 => ?_)
        · refine r_aload dX7_set_45 rfl ?_
          refine gf_X7_99 rfl dX7_set_47 (by omega) ?_
          refine r_goto dX7_set_50 (tgt := 58) (by decide) ?_
          exact r_mask [false, false, true, true, true, false] (s_X7_set_L58 g s0 x2 x3 (6 * 0 + Int32.toNatClampNeg x1) (s0.1 5 3 (6 * 0 + Int32.toNatClampNeg x1)) (by omega))
        · refine r_aload dX7_set_53 rfl ?_
          refine gf_X7_102 rfl dX7_set_55 (by omega) ?_
          exact r_mask [false, false, true, true, true, false] (s_X7_set_L58 g s0 x2 x3 (6 * 0 + Int32.toNatClampNeg x1) (s0.1 5 4 (6 * 0 + Int32.toNatClampNeg x1)) (by omega))
theorem ok_X7_set (g : Gm) (s0 : Sto) (x1 : Int32) (x2 : Int32) (x3 : Int32) : Ok g yX7_set kX7_set 1 [.ref ((Em g 1).1.1 7 0 0), .int x1, .int x2, .int x3] s0 cvIw (f_X7_set s0 x1 x2 x3) := Ok.of (by decide) rfl (Nat.le_of_ble_eq_true rfl) (lv := [some (.ref ((Em g 1).1.1 7 0 0)), some (.int x1), some (.int x2), some (.int x3), none, none]) rfl (s_X7_set g s0 x1 x2 x3)
theorem u_X7_set {α : Type} {cv : α → Res} {E : EE} {K : KK} {pc npc idx d : Nat} {lv : List (Option Value)} {st : List Value} {σ : Sto} {oc : Option (Int32 × Sto)} {kf : (Int32 × Sto) → Option α} {x1 : Int32} {x2 : Int32} {x3 : Int32} (hOk : Ok E.1 yX7_set kX7_set d [.ref (E.1.1 7 0 0), .int x1, .int x2, .int x3] σ cvIw oc) (hd : Dc K pc (.invokevirtual idx) 3 npc) (hlk : Cond.methodLink K.2.1 idx yX7_set ∈ lw_good) (hw : (st.map fun v => v.category).sum ≤ 8) (hfit : fits_ E d 6) (hrm : room_ok E) (kk : ∀ q : Int32 × Sto, Rf cv E K npc lv (.int q.1 :: st) q.2 (kf q)) : Rf cv E K pc lv (.int x3 :: .int x2 :: .int x1 :: .ref (E.1.1 7 0 0) :: st) σ (oc.bind kf) := c_V (n := 3) (as := [.int x1, .int x2, .int x3]) (c0 := 7) (i := 0) (CC := "ThawGives") (T := TX7) (N := 11) hd hOk hlk wi_X7_set wv_X7_set wn_X7 wc_X7_set rfl (by decide) (by decide) ⟨by decide, by decide, by decide⟩ rfl rfl hw hfit hrm (fun b _ => kk b)
def f_X7_melts (s0 : Sto) (x1 : Int32) (x2 : Int32) : Option (Int32 × Sto) :=
  (f_X7_isThing s0 x1).bind fun q1 => (if q1 = 0 then
    some ((-10001 : Int32), s0)
  else
    (f_X7_isUpTo x2 60).bind fun q3 => (if q3 = 0 then
      some ((-10002 : Int32), s0)
    else
      (if 0 ≤ x1 ∧ x1 < 6 then (f_X7_holding s0).bind fun q7 => (if q7 < 8 then (f_X5_meltIn s0 (6 * 0 + Int32.toNatClampNeg x1) ((s0.1 6 2 0) + x2) q7).bind fun q9 => some (q9.1, q9.2) else none) else none)))
set_option maxRecDepth 100000 in
theorem s_X7_melts (g : Gm) (s0 : Sto) (x1 : Int32) (x2 : Int32) : Rf cvIw (Em g 2) kX7_melts 0 [some (.ref ((Em g 2).1.1 7 0 0)), some (.int x1), some (.int x2)] [] s0 (f_X7_melts s0 x1 x2) := by
  unfold f_X7_melts
  refine r_aload_n dX7_melts_0 rfl ?_
  refine r_iload_n dX7_melts_1 rfl ?_
  refine u_X7_isThing (ok_X7_isThing g s0 x1) dX7_melts_2 ml_X7_89 (Nat.le_of_ble_eq_true rfl) (fits_m (by decide) (by decide)) room_m (fun q1 => ?_)
  refine r_ifne dX7_melts_5 (tgt := 12) (by decide) (fun c2 => ?_) (fun c2 => ?_)
  · refine r_sipush dX7_melts_8 cs_m10001 ?_
    exact r_iret dX7_melts_11 rfl rfl
  · refine r_iload_n dX7_melts_12 rfl ?_
    refine r_bipush dX7_melts_13 cb_60 ?_
    refine u_X7_isUpTo (ok_X7_isUpTo g s0 x2 60) dX7_melts_15 ml_X7_74 (Nat.le_of_ble_eq_true rfl) (fits_m (by decide) (by decide)) room_m (fun q3 => ?_)
    refine r_ifne dX7_melts_18 (tgt := 25) (by decide) (fun c4 => ?_) (fun c4 => ?_)
    · refine r_sipush dX7_melts_21 cs_m10002 ?_
      exact r_iret dX7_melts_24 rfl rfl
    · refine r_aload_n dX7_melts_25 rfl ?_
      refine gf_X7_14 rfl dX7_melts_26 ?_
      refine gf_X7_81 rfl dX7_melts_29 (by decide) ?_
      refine r_iload_n dX7_melts_32 rfl ?_
      refine al_6_0 dX7_melts_33 (by decide) (fun hg5 hj6 => ?_)
      refine r_aload_n dX7_melts_34 rfl ?_
      refine gf_X7_14 rfl dX7_melts_35 ?_
      refine gf_X7_105 rfl dX7_melts_38 (by decide) ?_
      refine r_iload_n dX7_melts_41 rfl ?_
      refine r_iadd dX7_melts_42 ?_
      refine r_aload_n dX7_melts_43 rfl ?_
      refine u_X7_holding (ok_X7_holding g s0) dX7_melts_44 ml_X7_108 (Nat.le_of_ble_eq_true rfl) (fits_m (by decide) (by decide)) room_m (fun q7 => ?_)
      refine r_gd (fun h8 => ?_)
      refine un_X5_meltIn (ok_X5_meltIn g s0 (6 * 0 + Int32.toNatClampNeg x1) ((s0.1 6 2 0) + x2) q7 (by omega) h8) dX7_melts_47 mn_X7_112 (by omega) (Nat.le_of_ble_eq_true rfl) (fits_m (by decide) (by decide)) room_m (fun q9 => ?_)
      exact r_iret dX7_melts_50 rfl rfl
theorem ok_X7_melts (g : Gm) (s0 : Sto) (x1 : Int32) (x2 : Int32) : Ok g yX7_melts kX7_melts 2 [.ref ((Em g 2).1.1 7 0 0), .int x1, .int x2] s0 cvIw (f_X7_melts s0 x1 x2) := Ok.of (by decide) rfl (Nat.le_of_ble_eq_true rfl) (lv := [some (.ref ((Em g 2).1.1 7 0 0)), some (.int x1), some (.int x2)]) rfl (s_X7_melts g s0 x1 x2)
theorem u_X7_melts {α : Type} {cv : α → Res} {E : EE} {K : KK} {pc npc idx d : Nat} {lv : List (Option Value)} {st : List Value} {σ : Sto} {oc : Option (Int32 × Sto)} {kf : (Int32 × Sto) → Option α} {x1 : Int32} {x2 : Int32} (hOk : Ok E.1 yX7_melts kX7_melts d [.ref (E.1.1 7 0 0), .int x1, .int x2] σ cvIw oc) (hd : Dc K pc (.invokevirtual idx) 3 npc) (hlk : Cond.methodLink K.2.1 idx yX7_melts ∈ lw_good) (hw : (st.map fun v => v.category).sum ≤ 8) (hfit : fits_ E d 3) (hrm : room_ok E) (kk : ∀ q : Int32 × Sto, Rf cv E K npc lv (.int q.1 :: st) q.2 (kf q)) : Rf cv E K pc lv (.int x2 :: .int x1 :: .ref (E.1.1 7 0 0) :: st) σ (oc.bind kf) := c_V (n := 2) (as := [.int x1, .int x2]) (c0 := 7) (i := 0) (CC := "ThawGives") (T := TX7) (N := 11) hd hOk hlk wi_X7_melts wv_X7_melts wn_X7 wc_X7_melts rfl (by decide) (by decide) ⟨by decide, by decide, by decide⟩ rfl rfl hw hfit hrm (fun b _ => kk b)
def f_X7_row (s0 : Sto) (x1 : Int32) (x2 : Int32) (x3 : Int32) : Option (Int32 × Sto) :=
  (f_X7_isThing s0 x1).bind fun q1 => (if q1 = 0 then
    some ((-1 : Int32), s0)
  else
    (f_X7_isUpTo x2 3).bind fun q3 => (if q3 = 0 then
      some ((-1 : Int32), s0)
    else
      (f_X7_isUpTo x3 9).bind fun q5 => (if q5 = 0 then
        some ((-2 : Int32), s0)
      else
        (if 0 ≤ x1 ∧ x1 < 6 then (if (s0.1 5 1 (6 * 0 + Int32.toNatClampNeg x1)) = 6 then
          (if 0 ≤ x2 ∧ x2 < 4 then nmI ((s0.2.1 5 5 (6 * 0 + Int32.toNatClampNeg x1) (Int32.toNatClampNeg x2))) fun v12 => (if 0 ≤ x2 ∧ x2 < 4 then nm (sA s0 5 5 (6 * 0 + Int32.toNatClampNeg x1) (upd (s0.2.1 5 5 (6 * 0 + Int32.toNatClampNeg x1)) (Int32.toNatClampNeg x2) x3)) fun s15 => some (v12, s15) else none) else none)
        else
          some ((-3 : Int32), s0)) else none))))
set_option maxRecDepth 100000 in
theorem s_X7_row (g : Gm) (s0 : Sto) (x1 : Int32) (x2 : Int32) (x3 : Int32) : Rf cvIw (Em g 1) kX7_row 0 [some (.ref ((Em g 1).1.1 7 0 0)), some (.int x1), some (.int x2), some (.int x3), none, none] [] s0 (f_X7_row s0 x1 x2 x3) := by
  unfold f_X7_row
  refine r_aload_n dX7_row_0 rfl ?_
  refine r_iload_n dX7_row_1 rfl ?_
  refine u_X7_isThing (ok_X7_isThing g s0 x1) dX7_row_2 ml_X7_89 (Nat.le_of_ble_eq_true rfl) (fits_m (by decide) (by decide)) room_m (fun q1 => ?_)
  refine r_ifeq dX7_row_5 (tgt := 16) (by decide) (fun c2 => ?_) (fun c2 => ?_)
  · refine r_iconst dX7_row_16 ci_m1 ?_
    exact r_iret dX7_row_17 rfl rfl
  · refine r_iload_n dX7_row_8 rfl ?_
    refine r_iconst dX7_row_9 ci_3 ?_
    refine u_X7_isUpTo (ok_X7_isUpTo g s0 x2 3) dX7_row_10 ml_X7_74 (Nat.le_of_ble_eq_true rfl) (fits_m (by decide) (by decide)) room_m (fun q3 => ?_)
    refine r_ifne dX7_row_13 (tgt := 18) (by decide) (fun c4 => ?_) (fun c4 => ?_)
    · refine r_iconst dX7_row_16 ci_m1 ?_
      exact r_iret dX7_row_17 rfl rfl
    · refine r_iload_n dX7_row_18 rfl ?_
      refine r_bipush dX7_row_19 cb_9 ?_
      refine u_X7_isUpTo (ok_X7_isUpTo g s0 x3 9) dX7_row_21 ml_X7_74 (Nat.le_of_ble_eq_true rfl) (fits_m (by decide) (by decide)) room_m (fun q5 => ?_)
      refine r_ifne dX7_row_24 (tgt := 30) (by decide) (fun c6 => ?_) (fun c6 => ?_)
      · refine r_bipush dX7_row_27 cb_m2 ?_
        exact r_iret dX7_row_29 rfl rfl
      · refine r_aload_n dX7_row_30 rfl ?_
        refine gf_X7_14 rfl dX7_row_31 ?_
        refine gf_X7_81 rfl dX7_row_34 (by decide) ?_
        refine r_iload_n dX7_row_37 rfl ?_
        refine al_6_0 dX7_row_38 (by decide) (fun hg7 hj8 => ?_)
        refine r_astore dX7_row_39 rfl (lt_b rfl) (lt_b rfl) ?_
        refine r_aload dX7_row_41 rfl ?_
        refine gf_X7_93 rfl dX7_row_43 (by omega) ?_
        refine r_bipush dX7_row_46 cb_6 ?_
        refine r_iceq dX7_row_48 (tgt := 54) (by decide) (fun c9 => ?_) (fun c9 => ?_)
        · refine r_aload dX7_row_54 rfl ?_
          refine gf_X7_127 rfl dX7_row_56 (by omega) ?_
          refine r_iload_n dX7_row_59 rfl ?_
          refine al_5_5 dX7_row_60 (by omega) (fun hg10 hj11 => ?_)
          refine r_istoreN dX7_row_61 rfl (lt_b rfl) (lt_b rfl) (fun v12 => ?_)
          refine r_aload dX7_row_63 rfl ?_
          refine gf_X7_127 rfl dX7_row_65 (by omega) ?_
          refine r_iload_n dX7_row_68 rfl ?_
          refine r_iload_n dX7_row_69 rfl ?_
          refine as_5_5 dX7_row_70 (by omega) (fun hg13 hj14 s15 => ?_)
          refine r_iload dX7_row_71 rfl ?_
          exact r_iret dX7_row_73 rfl rfl
        · refine r_bipush dX7_row_51 cb_m3 ?_
          exact r_iret dX7_row_53 rfl rfl
theorem ok_X7_row (g : Gm) (s0 : Sto) (x1 : Int32) (x2 : Int32) (x3 : Int32) : Ok g yX7_row kX7_row 1 [.ref ((Em g 1).1.1 7 0 0), .int x1, .int x2, .int x3] s0 cvIw (f_X7_row s0 x1 x2 x3) := Ok.of (by decide) rfl (Nat.le_of_ble_eq_true rfl) (lv := [some (.ref ((Em g 1).1.1 7 0 0)), some (.int x1), some (.int x2), some (.int x3), none, none]) rfl (s_X7_row g s0 x1 x2 x3)
theorem u_X7_row {α : Type} {cv : α → Res} {E : EE} {K : KK} {pc npc idx d : Nat} {lv : List (Option Value)} {st : List Value} {σ : Sto} {oc : Option (Int32 × Sto)} {kf : (Int32 × Sto) → Option α} {x1 : Int32} {x2 : Int32} {x3 : Int32} (hOk : Ok E.1 yX7_row kX7_row d [.ref (E.1.1 7 0 0), .int x1, .int x2, .int x3] σ cvIw oc) (hd : Dc K pc (.invokevirtual idx) 3 npc) (hlk : Cond.methodLink K.2.1 idx yX7_row ∈ lw_good) (hw : (st.map fun v => v.category).sum ≤ 8) (hfit : fits_ E d 6) (hrm : room_ok E) (kk : ∀ q : Int32 × Sto, Rf cv E K npc lv (.int q.1 :: st) q.2 (kf q)) : Rf cv E K pc lv (.int x3 :: .int x2 :: .int x1 :: .ref (E.1.1 7 0 0) :: st) σ (oc.bind kf) := c_V (n := 3) (as := [.int x1, .int x2, .int x3]) (c0 := 7) (i := 0) (CC := "ThawGives") (T := TX7) (N := 11) hd hOk hlk wi_X7_row wv_X7_row wn_X7 wc_X7_row rfl (by decide) (by decide) ⟨by decide, by decide, by decide⟩ rfl rfl hw hfit hrm (fun b _ => kk b)
def f_X4_add (s0 : Sto) (x1 : Int32) : Option (Sto) :=
  (if (100 : Int32) ≤ (s0.1 4 1 0) then
    some s0
  else
    (if 0 ≤ (s0.1 4 1 0) ∧ (s0.1 4 1 0) < 100 then nm (sA s0 4 0 0 (upd (s0.2.1 4 0 0) (Int32.toNatClampNeg (s0.1 4 1 0)) (vp_nar .byte (Int8.toInt32 (Int32.toInt8 x1))))) fun s4 => nm (sF s4 4 1 0 ((s4.1 4 1 0) + 1)) fun s5 => some s5 else none))
set_option maxRecDepth 100000 in
theorem s_X4_add (g : Gm) (s0 : Sto) (x1 : Int32) : Rf cvV (Em g 0) kX4_add 0 [some (.ref ((Em g 0).1.1 4 0 0)), some (.int x1)] [] s0 (f_X4_add s0 x1) := by
  unfold f_X4_add
  refine r_aload_n dX4_add_0 rfl ?_
  refine gf_X4_15 rfl dX4_add_1 ?_
  refine r_bipush dX4_add_4 cb_100 ?_
  refine r_icge dX4_add_6 (tgt := 30) (by decide) (fun c1 => ?_) (fun c1 => ?_)
  · exact r_vret dX4_add_30 rfl rfl
  · refine r_aload_n dX4_add_9 rfl ?_
    refine gf_X4_9 rfl dX4_add_10 ?_
    refine r_aload_n dX4_add_13 rfl ?_
    refine gf_X4_15 rfl dX4_add_14 ?_
    refine r_iload_n dX4_add_17 rfl ?_
    refine r_i2b dX4_add_18 ?_
    refine as_4_0 dX4_add_19 (fun hg2 hj3 s4 => ?_)
    refine r_aload_n dX4_add_20 rfl ?_
    refine r_dup dX4_add_21 rfl ?_
    refine gf_X4_15 rfl dX4_add_22 ?_
    refine r_iconst dX4_add_25 ci_1 ?_
    refine r_iadd dX4_add_26 ?_
    refine pf_X4_15 rfl dX4_add_27 (fun s5 => ?_)
    exact r_vret dX4_add_30 rfl rfl
theorem ok_X4_add (g : Gm) (s0 : Sto) (x1 : Int32) : Ok g yX4_add kX4_add 0 [.ref ((Em g 0).1.1 4 0 0), .int x1] s0 cvV (f_X4_add s0 x1) := Ok.of (by decide) rfl (Nat.le_of_ble_eq_true rfl) (lv := [some (.ref ((Em g 0).1.1 4 0 0)), some (.int x1)]) rfl (s_X4_add g s0 x1)
theorem u_X4_add {α : Type} {cv : α → Res} {E : EE} {K : KK} {pc npc idx d : Nat} {lv : List (Option Value)} {st : List Value} {σ : Sto} {oc : Option (Sto)} {kf : Sto → Option α} {x1 : Int32} (hOk : Ok E.1 yX4_add kX4_add d [.ref (E.1.1 4 0 0), .int x1] σ cvV oc) (hd : Dc K pc (.invokevirtual idx) 3 npc) (hlk : Cond.methodLink K.2.1 idx yX4_add ∈ lw_good) (hw : (st.map fun v => v.category).sum ≤ 8) (hfit : fits_ E d 2) (hrm : room_ok E) (kk : ∀ τ : Sto, Rf cv E K npc lv st τ (kf τ)) : Rf cv E K pc lv (.int x1 :: .ref (E.1.1 4 0 0) :: st) σ (oc.bind kf) := c_V (n := 1) (as := [.int x1]) (c0 := 4) (i := 0) (CC := "ThawGives$Text") (T := TX4) (N := 5) hd hOk hlk wi_X4_add wv_X4_add wn_X4 wc_X4_add rfl (by decide) (by decide) ⟨by decide, by decide, by decide⟩ rfl rfl hw hfit hrm (fun b _ => kk b)
theorem un_X4_add {α : Type} {cv : α → Res} {E : EE} {K : KK} {pc npc idx d : Nat} {lv : List (Option Value)} {st : List Value} {σ : Sto} {oc : Option (Sto)} {kf : Sto → Option α} {x1 : Int32} (hOk : Ok E.1 yX4_add kX4_add d [.ref (E.1.1 4 0 0), .int x1] σ cvV oc) (hd : Dc K pc (.invokevirtual idx) 3 npc) (hlk : Cond.methodLinkNest K.2.1 idx yX4_add "ThawGives" ∈ lw_nest) (hw : (st.map fun v => v.category).sum ≤ 8) (hfit : fits_ E d 2) (hrm : room_ok E) (kk : ∀ τ : Sto, Rf cv E K npc lv st τ (kf τ)) : Rf cv E K pc lv (.int x1 :: .ref (E.1.1 4 0 0) :: st) σ (oc.bind kf) := c_N (n := 1) (as := [.int x1]) (c0 := 4) (i := 0) (CC := "ThawGives$Text") (T := TX4) (N := 5) hd hOk hlk wi_X4_add wv_X4_add wn_X4 wc_X4_add rfl (by decide) (by decide) ⟨by decide, by decide, by decide⟩ rfl rfl hw hfit hrm (fun b _ => kk b)
def f_X7_feed (s0 : Sto) (x1 : Int32) : Option (Int32 × Sto) :=
  (f_X7_isUpTo x1 127).bind fun q1 => (if q1 = 0 then
    some ((-2 : Int32), s0)
  else
    (if (s0.1 4 1 0) < 100 then
      (f_X4_add s0 x1).bind fun q4 => some ((q4.1 4 1 0), q4)
    else
      some ((-4 : Int32), s0)))
set_option maxRecDepth 100000 in
theorem s_X7_feed (g : Gm) (s0 : Sto) (x1 : Int32) : Rf cvIw (Em g 1) kX7_feed 0 [some (.ref ((Em g 1).1.1 7 0 0)), some (.int x1)] [] s0 (f_X7_feed s0 x1) := by
  unfold f_X7_feed
  refine r_iload_n dX7_feed_0 rfl ?_
  refine r_bipush dX7_feed_1 cb_127 ?_
  refine u_X7_isUpTo (ok_X7_isUpTo g s0 x1 127) dX7_feed_3 ml_X7_74 (Nat.le_of_ble_eq_true rfl) (fits_m (by decide) (by decide)) room_m (fun q1 => ?_)
  refine r_ifne dX7_feed_6 (tgt := 12) (by decide) (fun c2 => ?_) (fun c2 => ?_)
  · refine r_bipush dX7_feed_9 cb_m2 ?_
    exact r_iret dX7_feed_11 rfl rfl
  · refine r_aload_n dX7_feed_12 rfl ?_
    refine gf_X7_41 rfl dX7_feed_13 ?_
    refine gf_X7_130 rfl dX7_feed_16 ?_
    refine r_bipush dX7_feed_19 cb_100 ?_
    refine r_iclt dX7_feed_21 (tgt := 27) (by decide) (fun c3 => ?_) (fun c3 => ?_)
    · refine r_aload_n dX7_feed_27 rfl ?_
      refine gf_X7_41 rfl dX7_feed_28 ?_
      refine r_iload_n dX7_feed_31 rfl ?_
      refine un_X4_add (ok_X4_add g s0 x1) dX7_feed_32 mn_X7_133 (Nat.le_of_ble_eq_true rfl) (fits_m (by decide) (by decide)) room_m (fun q4 => ?_)
      refine r_aload_n dX7_feed_35 rfl ?_
      refine gf_X7_41 rfl dX7_feed_36 ?_
      refine gf_X7_130 rfl dX7_feed_39 ?_
      exact r_iret dX7_feed_42 rfl rfl
    · refine r_bipush dX7_feed_24 cb_m4 ?_
      exact r_iret dX7_feed_26 rfl rfl
theorem ok_X7_feed (g : Gm) (s0 : Sto) (x1 : Int32) : Ok g yX7_feed kX7_feed 1 [.ref ((Em g 1).1.1 7 0 0), .int x1] s0 cvIw (f_X7_feed s0 x1) := Ok.of (by decide) rfl (Nat.le_of_ble_eq_true rfl) (lv := [some (.ref ((Em g 1).1.1 7 0 0)), some (.int x1)]) rfl (s_X7_feed g s0 x1)
theorem u_X7_feed {α : Type} {cv : α → Res} {E : EE} {K : KK} {pc npc idx d : Nat} {lv : List (Option Value)} {st : List Value} {σ : Sto} {oc : Option (Int32 × Sto)} {kf : (Int32 × Sto) → Option α} {x1 : Int32} (hOk : Ok E.1 yX7_feed kX7_feed d [.ref (E.1.1 7 0 0), .int x1] σ cvIw oc) (hd : Dc K pc (.invokevirtual idx) 3 npc) (hlk : Cond.methodLink K.2.1 idx yX7_feed ∈ lw_good) (hw : (st.map fun v => v.category).sum ≤ 8) (hfit : fits_ E d 2) (hrm : room_ok E) (kk : ∀ q : Int32 × Sto, Rf cv E K npc lv (.int q.1 :: st) q.2 (kf q)) : Rf cv E K pc lv (.int x1 :: .ref (E.1.1 7 0 0) :: st) σ (oc.bind kf) := c_V (n := 1) (as := [.int x1]) (c0 := 7) (i := 0) (CC := "ThawGives") (T := TX7) (N := 11) hd hOk hlk wi_X7_feed wv_X7_feed wn_X7 wc_X7_feed rfl (by decide) (by decide) ⟨by decide, by decide, by decide⟩ rfl rfl hw hfit hrm (fun b _ => kk b)
def f_X1_clear (s0 : Sto) (i0 : Nat) : Option (Sto) :=
  nm (sF s0 1 3 i0 0) fun s1 => nm (sF s1 1 4 i0 0) fun s2 => some s2
set_option maxRecDepth 100000 in
theorem s_X1_clear (g : Gm) (s0 : Sto) (i0 : Nat) (hi0 : i0 < 8) : Rf cvV (Em g 0) kX1_clear 0 [some (.ref ((Em g 0).1.1 1 0 i0))] [] s0 (f_X1_clear s0 i0) := by
  unfold f_X1_clear
  refine r_aload_n dX1_clear_0 rfl ?_
  refine r_iconst dX1_clear_1 ci_0 ?_
  refine pf_X1_21 rfl dX1_clear_2 hi0 (fun s1 => ?_)
  refine r_aload_n dX1_clear_5 rfl ?_
  refine r_iconst dX1_clear_6 ci_0 ?_
  refine pf_X1_25 rfl dX1_clear_7 hi0 (fun s2 => ?_)
  exact r_vret dX1_clear_10 rfl rfl
theorem ok_X1_clear (g : Gm) (s0 : Sto) (i0 : Nat) (hi0 : i0 < 8) : Ok g yX1_clear kX1_clear 0 [.ref ((Em g 0).1.1 1 0 i0)] s0 cvV (f_X1_clear s0 i0) := Ok.of (by decide) rfl (Nat.le_of_ble_eq_true rfl) (lv := [some (.ref ((Em g 0).1.1 1 0 i0))]) rfl (s_X1_clear g s0 i0 hi0)
theorem u_X1_clear {α : Type} {cv : α → Res} {E : EE} {K : KK} {pc npc idx d : Nat} {lv : List (Option Value)} {st : List Value} {σ : Sto} {oc : Option (Sto)} {kf : Sto → Option α} {i0 : Nat} (hOk : Ok E.1 yX1_clear kX1_clear d [.ref (E.1.1 1 0 i0)] σ cvV oc) (hd : Dc K pc (.invokevirtual idx) 3 npc) (hlk : Cond.methodLink K.2.1 idx yX1_clear ∈ lw_good) (hi : i0 < 8) (hw : (st.map fun v => v.category).sum ≤ 8) (hfit : fits_ E d 1) (hrm : room_ok E) (kk : ∀ τ : Sto, Rf cv E K npc lv st τ (kf τ)) : Rf cv E K pc lv (.ref (E.1.1 1 0 i0) :: st) σ (oc.bind kf) := c_V (n := 0) (as := []) (c0 := 1) (i := i0) (CC := "ThawGives$Pass") (T := TX1) (N := 5) hd hOk hlk wi_X1_clear wv_X1_clear wn_X1 wc_X1_clear rfl (by decide) hi ⟨by decide, by decide, by decide⟩ rfl rfl hw hfit hrm (fun b _ => kk b)
theorem un_X1_clear {α : Type} {cv : α → Res} {E : EE} {K : KK} {pc npc idx d : Nat} {lv : List (Option Value)} {st : List Value} {σ : Sto} {oc : Option (Sto)} {kf : Sto → Option α} {i0 : Nat} (hOk : Ok E.1 yX1_clear kX1_clear d [.ref (E.1.1 1 0 i0)] σ cvV oc) (hd : Dc K pc (.invokevirtual idx) 3 npc) (hlk : Cond.methodLinkNest K.2.1 idx yX1_clear "ThawGives" ∈ lw_nest) (hi : i0 < 8) (hw : (st.map fun v => v.category).sum ≤ 8) (hfit : fits_ E d 1) (hrm : room_ok E) (kk : ∀ τ : Sto, Rf cv E K npc lv st τ (kf τ)) : Rf cv E K pc lv (.ref (E.1.1 1 0 i0) :: st) σ (oc.bind kf) := c_N (n := 0) (as := []) (c0 := 1) (i := i0) (CC := "ThawGives$Pass") (T := TX1) (N := 5) hd hOk hlk wi_X1_clear wv_X1_clear wn_X1 wc_X1_clear rfl (by decide) hi ⟨by decide, by decide, by decide⟩ rfl rfl hw hfit hrm (fun b _ => kk b)
def f_J0_coder_7d493 (n0 : Nat) : Option (Int32) :=
  (if (1 : Int32) = 0 then
    some 1
  else
    some 0)
set_option maxRecDepth 100000 in
theorem s_J0_coder_7d493 (g : Gm) (sz : Sto) (n0 : Nat) (hn0 : n0 < 5) : Rf (cvI sz) (Em g 0) kJ0_coder_7d493 0 [some (.ref ((Em g 0).1.2.2.2.2.1 n0))] [] sz (f_J0_coder_7d493 n0) := by
  unfold f_J0_coder_7d493
  refine g_comp dJ0_coder_7d493_0 fl_J0_38 ?_
  refine r_ifeq dJ0_coder_7d493_3 (tgt := 13) (by decide) (fun c1 => ?_) (fun c1 => ?_)
  · refine r_iconst dJ0_coder_7d493_13 ci_1 ?_
    exact r_zret dJ0_coder_7d493_14 rfl rfl rfl
  · refine r_aload_n dJ0_coder_7d493_6 rfl ?_
    refine g_scod dJ0_coder_7d493_7 fl_J0_15 hn0 ?_
    refine r_goto dJ0_coder_7d493_10 (tgt := 14) (by decide) ?_
    exact r_zret dJ0_coder_7d493_14 rfl rfl rfl
theorem ok_J0_coder_7d493 (g : Gm) (sz : Sto) (n0 : Nat) (hn0 : n0 < 5) : Ok g yJ0_coder_7d493 kJ0_coder_7d493 0 [.ref ((Em g 0).1.2.2.2.2.1 n0)] sz (cvI sz) (f_J0_coder_7d493 n0) := Ok.of (by decide) rfl (Nat.le_of_ble_eq_true rfl) (lv := [some (.ref ((Em g 0).1.2.2.2.2.1 n0))]) rfl (s_J0_coder_7d493 g sz n0 hn0)
theorem u_J0_coder_7d493 {α : Type} {cv : α → Res} {E : EE} {K : KK} {pc npc idx d : Nat} {lv : List (Option Value)} {st : List Value} {σ : Sto} {oc : Option (Int32)} {kf : Int32 → Option α} {n0 : Nat} (hOk : Ok E.1 yJ0_coder_7d493 kJ0_coder_7d493 d [.ref (E.1.2.2.2.2.1 n0)] σ (cvI σ) oc) (hd : Dc K pc (.invokevirtual idx) 3 npc) (hlk : Cond.methodLink K.2.1 idx yJ0_coder_7d493 ∈ lw_good) (hi : n0 < 5) (hw : (st.map fun v => v.category).sum ≤ 8) (hfit : fits_ E d 1) (hrm : room_ok E) (kk : ∀ q : Int32, Rf cv E K npc lv (.int q :: st) σ (kf q)) : Rf cv E K pc lv (.ref (E.1.2.2.2.2.1 n0) :: st) σ (oc.bind kf) := c_VS (n := 0) (as := []) hd hOk hlk wi_J0_coder_7d493 wv_J0_coder_7d493 wn_J0 wc_J0_coder_7d493 hi ⟨by decide, by decide, by decide⟩ rfl rfl hw hfit hrm (fun b _ => kk b)
def f_J0_length_8abf5 (n0 : Nat) : Option (Int32) :=
  (f_J0_coder_7d493 n0).bind fun q1 => some ((sln n0) >>> (q1 &&& 31))
set_option maxRecDepth 100000 in
theorem s_J0_length_8abf5 (g : Gm) (sz : Sto) (n0 : Nat) (hn0 : n0 < 5) : Rf (cvI sz) (Em g 1) kJ0_length_8abf5 0 [some (.ref ((Em g 1).1.2.2.2.2.1 n0))] [] sz (f_J0_length_8abf5 n0) := by
  unfold f_J0_length_8abf5
  refine r_aload_n dJ0_length_8abf5_0 rfl ?_
  refine g_sval dJ0_length_8abf5_1 fl_J0_9 hn0 ?_
  refine g_slen dJ0_length_8abf5_4 hn0 ?_
  refine r_aload_n dJ0_length_8abf5_5 rfl ?_
  refine u_J0_coder_7d493 (ok_J0_coder_7d493 g sz n0 hn0) dJ0_length_8abf5_6 ml_J0_335 hn0 (Nat.le_of_ble_eq_true rfl) (fits_m (by decide) (by decide)) room_m (fun q1 => ?_)
  refine r_ishr dJ0_length_8abf5_9 ?_
  exact r_iret dJ0_length_8abf5_10 rfl rfl
theorem ok_J0_length_8abf5 (g : Gm) (sz : Sto) (n0 : Nat) (hn0 : n0 < 5) : Ok g yJ0_length_8abf5 kJ0_length_8abf5 1 [.ref ((Em g 1).1.2.2.2.2.1 n0)] sz (cvI sz) (f_J0_length_8abf5 n0) := Ok.of (by decide) rfl (Nat.le_of_ble_eq_true rfl) (lv := [some (.ref ((Em g 1).1.2.2.2.2.1 n0))]) rfl (s_J0_length_8abf5 g sz n0 hn0)
theorem u_J0_length_8abf5 {α : Type} {cv : α → Res} {E : EE} {K : KK} {pc npc idx d : Nat} {lv : List (Option Value)} {st : List Value} {σ : Sto} {oc : Option (Int32)} {kf : Int32 → Option α} {n0 : Nat} (hOk : Ok E.1 yJ0_length_8abf5 kJ0_length_8abf5 d [.ref (E.1.2.2.2.2.1 n0)] σ (cvI σ) oc) (hd : Dc K pc (.invokevirtual idx) 3 npc) (hlk : Cond.methodLink K.2.1 idx yJ0_length_8abf5 ∈ lw_good) (hi : n0 < 5) (hw : (st.map fun v => v.category).sum ≤ 8) (hfit : fits_ E d 1) (hrm : room_ok E) (kk : ∀ q : Int32, Rf cv E K npc lv (.int q :: st) σ (kf q)) : Rf cv E K pc lv (.ref (E.1.2.2.2.2.1 n0) :: st) σ (oc.bind kf) := c_VS (n := 0) (as := []) hd hOk hlk wi_J0_length_8abf5 wv_J0_length_8abf5 wn_J0 wc_J0_length_8abf5 hi ⟨by decide, by decide, by decide⟩ rfl rfl hw hfit hrm (fun b _ => kk b)
def f_J0_isLatin1_aae02 (n0 : Nat) : Option (Int32) :=
  (if (1 : Int32) = 0 then
    some 0
  else
    (if (0 : Int32) = 0 then
      some 1
    else
      some 0))
set_option maxRecDepth 100000 in
theorem s_J0_isLatin1_aae02 (g : Gm) (sz : Sto) (n0 : Nat) (hn0 : n0 < 5) : Rf (cvI sz) (Em g 0) kJ0_isLatin1_aae02 0 [some (.ref ((Em g 0).1.2.2.2.2.1 n0))] [] sz (f_J0_isLatin1_aae02 n0) := by
  unfold f_J0_isLatin1_aae02
  refine g_comp dJ0_isLatin1_aae02_0 fl_J0_38 ?_
  refine r_ifeq dJ0_isLatin1_aae02_3 (tgt := 17) (by decide) (fun c1 => ?_) (fun c1 => ?_)
  · refine r_iconst dJ0_isLatin1_aae02_17 ci_0 ?_
    exact r_zret dJ0_isLatin1_aae02_18 rfl rfl rfl
  · refine r_aload_n dJ0_isLatin1_aae02_6 rfl ?_
    refine g_scod dJ0_isLatin1_aae02_7 fl_J0_15 hn0 ?_
    refine r_ifne dJ0_isLatin1_aae02_10 (tgt := 17) (by decide) (fun c2 => ?_) (fun c2 => ?_)
    · refine r_iconst dJ0_isLatin1_aae02_13 ci_1 ?_
      refine r_goto dJ0_isLatin1_aae02_14 (tgt := 18) (by decide) ?_
      exact r_zret dJ0_isLatin1_aae02_18 rfl rfl rfl
    · refine r_iconst dJ0_isLatin1_aae02_17 ci_0 ?_
      exact r_zret dJ0_isLatin1_aae02_18 rfl rfl rfl
theorem ok_J0_isLatin1_aae02 (g : Gm) (sz : Sto) (n0 : Nat) (hn0 : n0 < 5) : Ok g yJ0_isLatin1_aae02 kJ0_isLatin1_aae02 0 [.ref ((Em g 0).1.2.2.2.2.1 n0)] sz (cvI sz) (f_J0_isLatin1_aae02 n0) := Ok.of (by decide) rfl (Nat.le_of_ble_eq_true rfl) (lv := [some (.ref ((Em g 0).1.2.2.2.2.1 n0))]) rfl (s_J0_isLatin1_aae02 g sz n0 hn0)
theorem u_J0_isLatin1_aae02 {α : Type} {cv : α → Res} {E : EE} {K : KK} {pc npc idx d : Nat} {lv : List (Option Value)} {st : List Value} {σ : Sto} {oc : Option (Int32)} {kf : Int32 → Option α} {n0 : Nat} (hOk : Ok E.1 yJ0_isLatin1_aae02 kJ0_isLatin1_aae02 d [.ref (E.1.2.2.2.2.1 n0)] σ (cvI σ) oc) (hd : Dc K pc (.invokevirtual idx) 3 npc) (hlk : Cond.methodLink K.2.1 idx yJ0_isLatin1_aae02 ∈ lw_good) (hi : n0 < 5) (hw : (st.map fun v => v.category).sum ≤ 8) (hfit : fits_ E d 1) (hrm : room_ok E) (kk : ∀ q : Int32, Rf cv E K npc lv (.int q :: st) σ (kf q)) : Rf cv E K pc lv (.ref (E.1.2.2.2.2.1 n0) :: st) σ (oc.bind kf) := c_VS (n := 0) (as := []) hd hOk hlk wi_J0_isLatin1_aae02 wv_J0_isLatin1_aae02 wn_J0 wc_J0_isLatin1_aae02 hi ⟨by decide, by decide, by decide⟩ rfl rfl hw hfit hrm (fun b _ => kk b)
def f_J3_checkIndex_8e157_L9 (x0 : Int32) (x1 : Int32) : Option (Int32) :=
  none
def f_J3_checkIndex_8e157 (x0 : Int32) (x1 : Int32) : Option (Int32) :=
  (if x0 < 0 then
    f_J3_checkIndex_8e157_L9 x0 x1
  else
    (if x0 < x1 then
      some x0
    else
      f_J3_checkIndex_8e157_L9 x0 x1))
set_option maxRecDepth 100000 in
theorem sA_J3_checkIndex_8e157_L9 (g : Gm) (a9 : Nat) (sz : Sto) (x0 : Int32) (x1 : Int32) : Rf (cvI sz) (Em g 0) kJ3_checkIndex_8e157 9 [some (.int x0), some (.int x1), some (.ref a9)] [] sz (f_J3_checkIndex_8e157_L9 x0 x1) := by
  unfold f_J3_checkIndex_8e157_L9
  exact r_none
set_option maxRecDepth 100000 in
theorem sA_J3_checkIndex_8e157 (g : Gm) (a9 : Nat) (sz : Sto) (x0 : Int32) (x1 : Int32) : Rf (cvI sz) (Em g 0) kJ3_checkIndex_8e157 0 [some (.int x0), some (.int x1), some (.ref a9)] [] sz (f_J3_checkIndex_8e157 x0 x1) := by
  unfold f_J3_checkIndex_8e157
  refine r_iload_n dJ3_checkIndex_8e157_0 rfl ?_
  refine r_iflt dJ3_checkIndex_8e157_1 (tgt := 9) (by decide) (fun c1 => ?_) (fun c1 => ?_)
  · exact r_mask [true, true, true] (sA_J3_checkIndex_8e157_L9 g a9 sz x0 x1)
  · refine r_iload_n dJ3_checkIndex_8e157_4 rfl ?_
    refine r_iload_n dJ3_checkIndex_8e157_5 rfl ?_
    refine r_iclt dJ3_checkIndex_8e157_6 (tgt := 16) (by decide) (fun c2 => ?_) (fun c2 => ?_)
    · refine r_iload_n dJ3_checkIndex_8e157_16 rfl ?_
      exact r_iret dJ3_checkIndex_8e157_17 rfl rfl
    · exact r_mask [true, true, true] (sA_J3_checkIndex_8e157_L9 g a9 sz x0 x1)
theorem okA_J3_checkIndex_8e157 (g : Gm) (a9 : Nat) (sz : Sto) (x0 : Int32) (x1 : Int32) : Ok g yJ3_checkIndex_8e157 kJ3_checkIndex_8e157 0 [.int x0, .int x1, .ref a9] sz (cvI sz) (f_J3_checkIndex_8e157 x0 x1) := Ok.of (by decide) rfl (Nat.le_of_ble_eq_true rfl) (lv := [some (.int x0), some (.int x1), some (.ref a9)]) rfl (sA_J3_checkIndex_8e157 g a9 sz x0 x1)
theorem uA_J3_checkIndex_8e157 {α : Type} {cv : α → Res} {E : EE} {K : KK} {pc npc idx d : Nat} {lv : List (Option Value)} {st : List Value} {σ : Sto} {oc : Option (Int32)} {kf : Int32 → Option α} {a9 : Nat} {x0 : Int32} {x1 : Int32} (hOk : Ok E.1 yJ3_checkIndex_8e157 kJ3_checkIndex_8e157 d [.int x0, .int x1, .ref a9] σ (cvI σ) oc) (hd : Dc K pc (.invokestatic idx) 3 npc) (hlk : Cond.methodLink K.2.1 idx yJ3_checkIndex_8e157 ∈ lw_good) (hw : (st.map fun v => v.category).sum ≤ 8) (hfit : fits_ E d 3) (hrm : room_ok E) (kk : ∀ q : Int32, Rf cv E K npc lv (.int q :: st) σ (kf q)) : Rf cv E K pc lv (.ref a9 :: .int x1 :: .int x0 :: st) σ (oc.bind kf) := c_S (n := 3) (as := [.int x0, .int x1, .ref a9]) hd hOk hlk wt_J3_checkIndex_8e157 wn_J3 wc_J3_checkIndex_8e157 ⟨by decide, by decide, by decide⟩ rfl rfl hw hfit hrm (fun b _ => kk b)
set_option maxRecDepth 100000 in
theorem sB_J3_checkIndex_8e157_L9 (g : Gm) (sz : Sto) (x0 : Int32) (x1 : Int32) : Rf (cvI sz) (Em g 0) kJ3_checkIndex_8e157 9 [some (.int x0), some (.int x1), some (.null)] [] sz (f_J3_checkIndex_8e157_L9 x0 x1) := by
  unfold f_J3_checkIndex_8e157_L9
  exact r_none
set_option maxRecDepth 100000 in
theorem sB_J3_checkIndex_8e157 (g : Gm) (sz : Sto) (x0 : Int32) (x1 : Int32) : Rf (cvI sz) (Em g 0) kJ3_checkIndex_8e157 0 [some (.int x0), some (.int x1), some (.null)] [] sz (f_J3_checkIndex_8e157 x0 x1) := by
  unfold f_J3_checkIndex_8e157
  refine r_iload_n dJ3_checkIndex_8e157_0 rfl ?_
  refine r_iflt dJ3_checkIndex_8e157_1 (tgt := 9) (by decide) (fun c1 => ?_) (fun c1 => ?_)
  · exact r_mask [true, true, true] (sB_J3_checkIndex_8e157_L9 g sz x0 x1)
  · refine r_iload_n dJ3_checkIndex_8e157_4 rfl ?_
    refine r_iload_n dJ3_checkIndex_8e157_5 rfl ?_
    refine r_iclt dJ3_checkIndex_8e157_6 (tgt := 16) (by decide) (fun c2 => ?_) (fun c2 => ?_)
    · refine r_iload_n dJ3_checkIndex_8e157_16 rfl ?_
      exact r_iret dJ3_checkIndex_8e157_17 rfl rfl
    · exact r_mask [true, true, true] (sB_J3_checkIndex_8e157_L9 g sz x0 x1)
theorem okB_J3_checkIndex_8e157 (g : Gm) (sz : Sto) (x0 : Int32) (x1 : Int32) : Ok g yJ3_checkIndex_8e157 kJ3_checkIndex_8e157 0 [.int x0, .int x1, .null] sz (cvI sz) (f_J3_checkIndex_8e157 x0 x1) := Ok.of (by decide) rfl (Nat.le_of_ble_eq_true rfl) (lv := [some (.int x0), some (.int x1), some (.null)]) rfl (sB_J3_checkIndex_8e157 g sz x0 x1)
theorem uB_J3_checkIndex_8e157 {α : Type} {cv : α → Res} {E : EE} {K : KK} {pc npc idx d : Nat} {lv : List (Option Value)} {st : List Value} {σ : Sto} {oc : Option (Int32)} {kf : Int32 → Option α} {x0 : Int32} {x1 : Int32} (hOk : Ok E.1 yJ3_checkIndex_8e157 kJ3_checkIndex_8e157 d [.int x0, .int x1, .null] σ (cvI σ) oc) (hd : Dc K pc (.invokestatic idx) 3 npc) (hlk : Cond.methodLink K.2.1 idx yJ3_checkIndex_8e157 ∈ lw_good) (hw : (st.map fun v => v.category).sum ≤ 8) (hfit : fits_ E d 3) (hrm : room_ok E) (kk : ∀ q : Int32, Rf cv E K npc lv (.int q :: st) σ (kf q)) : Rf cv E K pc lv (.null :: .int x1 :: .int x0 :: st) σ (oc.bind kf) := c_S (n := 3) (as := [.int x0, .int x1, .null]) hd hOk hlk wt_J3_checkIndex_8e157 wn_J3 wc_J3_checkIndex_8e157 ⟨by decide, by decide, by decide⟩ rfl rfl hw hfit hrm (fun b _ => kk b)
def f_J0_checkIndex_df160 (x0 : Int32) (x1 : Int32) : Option (Unit) :=
  (f_J3_checkIndex_8e157 x0 x1).bind fun q1 => some ()
set_option maxRecDepth 100000 in
theorem s_J0_checkIndex_df160 (g : Gm) (sz : Sto) (x0 : Int32) (x1 : Int32) : Rf (cvU sz) (Em g 1) kJ0_checkIndex_df160 0 [some (.int x0), some (.int x1)] [] sz (f_J0_checkIndex_df160 x0 x1) := by
  unfold f_J0_checkIndex_df160
  refine r_iload_n dJ0_checkIndex_df160_0 rfl ?_
  refine r_iload_n dJ0_checkIndex_df160_1 rfl ?_
  refine g_fmt dJ0_checkIndex_df160_2 fl_J0_1053 ?_ (fun a9 => ?_)
  · refine uB_J3_checkIndex_8e157 (okB_J3_checkIndex_8e157 g sz x0 x1) dJ0_checkIndex_df160_5 ml_J0_1059 (Nat.le_of_ble_eq_true rfl) (fits_m (by decide) (by decide)) room_m (fun q1 => ?_)
    refine r_pop dJ0_checkIndex_df160_8 rfl ?_
    exact r_vret dJ0_checkIndex_df160_9 rfl rfl
  · refine uA_J3_checkIndex_8e157 (okA_J3_checkIndex_8e157 g a9 sz x0 x1) dJ0_checkIndex_df160_5 ml_J0_1059 (Nat.le_of_ble_eq_true rfl) (fits_m (by decide) (by decide)) room_m (fun q1 => ?_)
    refine r_pop dJ0_checkIndex_df160_8 rfl ?_
    exact r_vret dJ0_checkIndex_df160_9 rfl rfl
theorem ok_J0_checkIndex_df160 (g : Gm) (sz : Sto) (x0 : Int32) (x1 : Int32) : Ok g yJ0_checkIndex_df160 kJ0_checkIndex_df160 1 [.int x0, .int x1] sz (cvU sz) (f_J0_checkIndex_df160 x0 x1) := Ok.of (by decide) rfl (Nat.le_of_ble_eq_true rfl) (lv := [some (.int x0), some (.int x1)]) rfl (s_J0_checkIndex_df160 g sz x0 x1)
theorem u_J0_checkIndex_df160 {α : Type} {cv : α → Res} {E : EE} {K : KK} {pc npc idx d : Nat} {lv : List (Option Value)} {st : List Value} {σ : Sto} {oc : Option (Unit)} {kf : Unit → Option α} {x0 : Int32} {x1 : Int32} (hOk : Ok E.1 yJ0_checkIndex_df160 kJ0_checkIndex_df160 d [.int x0, .int x1] σ (cvU σ) oc) (hd : Dc K pc (.invokestatic idx) 3 npc) (hlk : Cond.methodLink K.2.1 idx yJ0_checkIndex_df160 ∈ lw_good) (hw : (st.map fun v => v.category).sum ≤ 8) (hfit : fits_ E d 2) (hrm : room_ok E) (kk : ∀ q : Unit, Rf cv E K npc lv st σ (kf q)) : Rf cv E K pc lv (.int x1 :: .int x0 :: st) σ (oc.bind kf) := c_S (n := 2) (as := [.int x0, .int x1]) hd hOk hlk wt_J0_checkIndex_df160 wn_J0 wc_J0_checkIndex_df160 ⟨by decide, by decide, by decide⟩ rfl rfl hw hfit hrm (fun b _ => kk b)
def f_J1_charAt_3b067 (n0 : Nat) (x1 : Int32) : Option (Int32) :=
  (f_J0_checkIndex_df160 x1 (sln n0)).bind fun q1 => (if 0 ≤ x1 ∧ x1 < sln n0 then (if vp_nar .char (UInt32.toInt32 (Int32.toUInt32 ((sby n0 (x1).toNatClampNeg) &&& 255) % 65536)) = (UInt32.toInt32 (Int32.toUInt32 ((sby n0 (x1).toNatClampNeg) &&& 255) % 65536)) then some (UInt32.toInt32 (Int32.toUInt32 ((sby n0 (x1).toNatClampNeg) &&& 255) % 65536)) else none) else none)
set_option maxRecDepth 100000 in
theorem s_J1_charAt_3b067 (g : Gm) (sz : Sto) (n0 : Nat) (x1 : Int32) (hn0 : n0 < 5) : Rf (cvI sz) (Em g 2) kJ1_charAt_3b067 0 [some (.ref ((Em g 2).1.2.2.2.2.2 n0)), some (.int x1)] [] sz (f_J1_charAt_3b067 n0 x1) := by
  unfold f_J1_charAt_3b067
  refine r_iload_n dJ1_charAt_3b067_0 rfl ?_
  refine r_aload_n dJ1_charAt_3b067_1 rfl ?_
  refine g_slen dJ1_charAt_3b067_2 hn0 ?_
  refine u_J0_checkIndex_df160 (ok_J0_checkIndex_df160 g sz x1 (sln n0)) dJ1_charAt_3b067_3 ml_J1_9 (Nat.le_of_ble_eq_true rfl) (fits_m (by decide) (by decide)) room_m (fun q1 => ?_)
  refine r_aload_n dJ1_charAt_3b067_6 rfl ?_
  refine r_iload_n dJ1_charAt_3b067_7 rfl ?_
  refine g_sbald dJ1_charAt_3b067_8 hn0 (fun hg2 hj3 => ?_)
  refine r_sipush dJ1_charAt_3b067_9 cs_255 ?_
  refine r_iand dJ1_charAt_3b067_12 ?_
  refine r_i2c dJ1_charAt_3b067_13 ?_
  exact r_gd (fun hz => r_zret dJ1_charAt_3b067_14 rfl (nvc hz) rfl)
theorem ok_J1_charAt_3b067 (g : Gm) (sz : Sto) (n0 : Nat) (x1 : Int32) (hn0 : n0 < 5) : Ok g yJ1_charAt_3b067 kJ1_charAt_3b067 2 [.ref ((Em g 2).1.2.2.2.2.2 n0), .int x1] sz (cvI sz) (f_J1_charAt_3b067 n0 x1) := Ok.of (by decide) rfl (Nat.le_of_ble_eq_true rfl) (lv := [some (.ref ((Em g 2).1.2.2.2.2.2 n0)), some (.int x1)]) rfl (s_J1_charAt_3b067 g sz n0 x1 hn0)
theorem u_J1_charAt_3b067 {α : Type} {cv : α → Res} {E : EE} {K : KK} {pc npc idx d : Nat} {lv : List (Option Value)} {st : List Value} {σ : Sto} {oc : Option (Int32)} {kf : Int32 → Option α} {n0 : Nat} {x1 : Int32} (hOk : Ok E.1 yJ1_charAt_3b067 kJ1_charAt_3b067 d [.ref (E.1.2.2.2.2.2 n0), .int x1] σ (cvI σ) oc) (hd : Dc K pc (.invokestatic idx) 3 npc) (hlk : Cond.methodLink K.2.1 idx yJ1_charAt_3b067 ∈ lw_good) (hw : (st.map fun v => v.category).sum ≤ 8) (hfit : fits_ E d 2) (hrm : room_ok E) (kk : ∀ q : Int32, Rf cv E K npc lv (.int q :: st) σ (kf q)) : Rf cv E K pc lv (.int x1 :: .ref (E.1.2.2.2.2.2 n0) :: st) σ (oc.bind kf) := c_S (n := 2) (as := [.ref (E.1.2.2.2.2.2 n0), .int x1]) hd hOk hlk wt_J1_charAt_3b067 wn_J1 wc_J1_charAt_3b067 ⟨by decide, by decide, by decide⟩ rfl rfl hw hfit hrm (fun b _ => kk b)
def f_J0_charAt_5068e (n0 : Nat) (x1 : Int32) : Option (Int32) :=
  (f_J0_isLatin1_aae02 n0).bind fun q1 => (if q1 = 0 then
    none
  else
    (f_J1_charAt_3b067 n0 x1).bind fun q3 => (if vp_nar .char q3 = q3 then some q3 else none))
set_option maxRecDepth 100000 in
theorem s_J0_charAt_5068e (g : Gm) (sz : Sto) (n0 : Nat) (x1 : Int32) (hn0 : n0 < 5) : Rf (cvI sz) (Em g 3) kJ0_charAt_5068e 0 [some (.ref ((Em g 3).1.2.2.2.2.1 n0)), some (.int x1)] [] sz (f_J0_charAt_5068e n0 x1) := by
  unfold f_J0_charAt_5068e
  refine r_aload_n dJ0_charAt_5068e_0 rfl ?_
  refine u_J0_isLatin1_aae02 (ok_J0_isLatin1_aae02 g sz n0 hn0) dJ0_charAt_5068e_1 ml_J0_492 hn0 (Nat.le_of_ble_eq_true rfl) (fits_m (by decide) (by decide)) room_m (fun q1 => ?_)
  refine r_ifeq dJ0_charAt_5068e_4 (tgt := 16) (by decide) (fun c2 => ?_) (fun c2 => ?_)
  · refine r_aload_n dJ0_charAt_5068e_16 rfl ?_
    refine g_sval dJ0_charAt_5068e_17 fl_J0_9 hn0 ?_
    refine r_iload_n dJ0_charAt_5068e_20 rfl ?_
    exact r_none
  · refine r_aload_n dJ0_charAt_5068e_7 rfl ?_
    refine g_sval dJ0_charAt_5068e_8 fl_J0_9 hn0 ?_
    refine r_iload_n dJ0_charAt_5068e_11 rfl ?_
    refine u_J1_charAt_3b067 (ok_J1_charAt_3b067 g sz n0 x1 hn0) dJ0_charAt_5068e_12 ml_J0_495 (Nat.le_of_ble_eq_true rfl) (fits_m (by decide) (by decide)) room_m (fun q3 => ?_)
    exact r_gd (fun hz => r_zret dJ0_charAt_5068e_15 rfl (nvc hz) rfl)
theorem ok_J0_charAt_5068e (g : Gm) (sz : Sto) (n0 : Nat) (x1 : Int32) (hn0 : n0 < 5) : Ok g yJ0_charAt_5068e kJ0_charAt_5068e 3 [.ref ((Em g 3).1.2.2.2.2.1 n0), .int x1] sz (cvI sz) (f_J0_charAt_5068e n0 x1) := Ok.of (by decide) rfl (Nat.le_of_ble_eq_true rfl) (lv := [some (.ref ((Em g 3).1.2.2.2.2.1 n0)), some (.int x1)]) rfl (s_J0_charAt_5068e g sz n0 x1 hn0)
theorem u_J0_charAt_5068e {α : Type} {cv : α → Res} {E : EE} {K : KK} {pc npc idx d : Nat} {lv : List (Option Value)} {st : List Value} {σ : Sto} {oc : Option (Int32)} {kf : Int32 → Option α} {n0 : Nat} {x1 : Int32} (hOk : Ok E.1 yJ0_charAt_5068e kJ0_charAt_5068e d [.ref (E.1.2.2.2.2.1 n0), .int x1] σ (cvI σ) oc) (hd : Dc K pc (.invokevirtual idx) 3 npc) (hlk : Cond.methodLink K.2.1 idx yJ0_charAt_5068e ∈ lw_good) (hi : n0 < 5) (hw : (st.map fun v => v.category).sum ≤ 8) (hfit : fits_ E d 2) (hrm : room_ok E) (kk : ∀ q : Int32, Rf cv E K npc lv (.int q :: st) σ (kf q)) : Rf cv E K pc lv (.int x1 :: .ref (E.1.2.2.2.2.1 n0) :: st) σ (oc.bind kf) := c_VS (n := 1) (as := [.int x1]) hd hOk hlk wi_J0_charAt_5068e wv_J0_charAt_5068e wn_J0 wc_J0_charAt_5068e hi ⟨by decide, by decide, by decide⟩ rfl rfl hw hfit hrm (fun b _ => kk b)
