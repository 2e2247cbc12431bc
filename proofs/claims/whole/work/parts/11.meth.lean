def f_X4_take (s0 : Sto) (x1 : Int32) : Option (Int32 × Sto) :=
  (if (s0.1 4 1 0) ≤ (s0.1 4 2 0) then
    some (0, s0)
  else
    (if 0 ≤ (s0.1 4 2 0) ∧ (s0.1 4 2 0) < 100 then (if (s0.2.1 4 0 0 (Int32.toNatClampNeg (s0.1 4 2 0))) = x1 then
      nm (sF s0 4 2 0 ((s0.1 4 2 0) + 1)) fun s5 => some (1, s5)
    else
      some (0, s0)) else none))
set_option maxRecDepth 100000 in
theorem s_X4_take (g : Gm) (s0 : Sto) (x1 : Int32) : Rf cvIw (Em g 0) kX4_take 0 [some (.ref ((Em g 0).1.1 4 0 0)), some (.int x1)] [] s0 (f_X4_take s0 x1) := by
  unfold f_X4_take
  refine r_aload_n dX4_take_0 rfl ?_
  refine gf_X4_19 rfl dX4_take_1 ?_
  refine r_aload_n dX4_take_4 rfl ?_
  refine gf_X4_15 rfl dX4_take_5 ?_
  refine r_icge dX4_take_8 (tgt := 24) (by decide) (fun c1 => ?_) (fun c1 => ?_)
  · refine r_iconst dX4_take_24 ci_0 ?_
    exact r_zret dX4_take_25 rfl rfl rfl
  · refine r_aload_n dX4_take_11 rfl ?_
    refine gf_X4_9 rfl dX4_take_12 ?_
    refine r_aload_n dX4_take_15 rfl ?_
    refine gf_X4_19 rfl dX4_take_16 ?_
    refine al_4_0 dX4_take_19 (fun hg2 hj3 => ?_)
    refine r_iload_n dX4_take_20 rfl ?_
    refine r_iceq dX4_take_21 (tgt := 26) (by decide) (fun c4 => ?_) (fun c4 => ?_)
    · refine r_aload_n dX4_take_26 rfl ?_
      refine r_dup dX4_take_27 rfl ?_
      refine gf_X4_19 rfl dX4_take_28 ?_
      refine r_iconst dX4_take_31 ci_1 ?_
      refine r_iadd dX4_take_32 ?_
      refine pf_X4_19 rfl dX4_take_33 (fun s5 => ?_)
      refine r_iconst dX4_take_36 ci_1 ?_
      exact r_zret dX4_take_37 rfl rfl rfl
    · refine r_iconst dX4_take_24 ci_0 ?_
      exact r_zret dX4_take_25 rfl rfl rfl
theorem ok_X4_take (g : Gm) (s0 : Sto) (x1 : Int32) : Ok g yX4_take kX4_take 0 [.ref ((Em g 0).1.1 4 0 0), .int x1] s0 cvIw (f_X4_take s0 x1) := Ok.of (by decide) rfl (Nat.le_of_ble_eq_true rfl) (lv := [some (.ref ((Em g 0).1.1 4 0 0)), some (.int x1)]) rfl (s_X4_take g s0 x1)
theorem u_X4_take {α : Type} {cv : α → Res} {E : EE} {K : KK} {pc npc idx d : Nat} {lv : List (Option Value)} {st : List Value} {σ : Sto} {oc : Option (Int32 × Sto)} {kf : (Int32 × Sto) → Option α} {x1 : Int32} (hOk : Ok E.1 yX4_take kX4_take d [.ref (E.1.1 4 0 0), .int x1] σ cvIw oc) (hd : Dc K pc (.invokevirtual idx) 3 npc) (hlk : Cond.methodLink K.2.1 idx yX4_take ∈ lw_good) (hw : (st.map fun v => v.category).sum ≤ 8) (hfit : fits_ E d 2) (hrm : room_ok E) (kk : ∀ q : Int32 × Sto, Rf cv E K npc lv (.int q.1 :: st) q.2 (kf q)) : Rf cv E K pc lv (.int x1 :: .ref (E.1.1 4 0 0) :: st) σ (oc.bind kf) := c_V (n := 1) (as := [.int x1]) (c0 := 4) (i := 0) (CC := "ThawGives$Text") (T := TX4) (N := 5) hd hOk hlk wi_X4_take wv_X4_take wn_X4 wc_X4_take rfl (by decide) (by decide) ⟨by decide, by decide, by decide⟩ rfl rfl hw hfit hrm (fun b _ => kk b)
theorem un_X4_take {α : Type} {cv : α → Res} {E : EE} {K : KK} {pc npc idx d : Nat} {lv : List (Option Value)} {st : List Value} {σ : Sto} {oc : Option (Int32 × Sto)} {kf : (Int32 × Sto) → Option α} {x1 : Int32} (hOk : Ok E.1 yX4_take kX4_take d [.ref (E.1.1 4 0 0), .int x1] σ cvIw oc) (hd : Dc K pc (.invokevirtual idx) 3 npc) (hlk : Cond.methodLinkNest K.2.1 idx yX4_take "ThawGives" ∈ lw_nest) (hw : (st.map fun v => v.category).sum ≤ 8) (hfit : fits_ E d 2) (hrm : room_ok E) (kk : ∀ q : Int32 × Sto, Rf cv E K npc lv (.int q.1 :: st) q.2 (kf q)) : Rf cv E K pc lv (.int x1 :: .ref (E.1.1 4 0 0) :: st) σ (oc.bind kf) := c_N (n := 1) (as := [.int x1]) (c0 := 4) (i := 0) (CC := "ThawGives$Text") (T := TX4) (N := 5) hd hOk hlk wi_X4_take wv_X4_take wn_X4 wc_X4_take rfl (by decide) (by decide) ⟨by decide, by decide, by decide⟩ rfl rfl hw hfit hrm (fun b _ => kk b)
def f_X4_takeWord_B2 (k2 : Sto → Nat → Int32 → Option (Int32 × Sto)) (s0 : Sto) (n1 : Nat) (x2 : Int32) : Option (Int32 × Sto) :=
  (f_J0_length_8abf5 n1).bind fun q1 => (if q1 ≤ x2 then
    some (1, s0)
  else
    (f_J0_charAt_5068e n1 x2).bind fun q3 => (f_X4_take s0 q3).bind fun q4 => (if q4.1 = 0 then
      some (0, q4.2)
    else
      nmI (x2 + 1) fun v6 => k2 q4.2 n1 v6))
def f_X4_takeWord_L2 : Nat → Sto → Nat → Int32 → Option (Int32 × Sto)
  | 0 => fun _ _ _ => none
  | n + 1 => f_X4_takeWord_B2 (f_X4_takeWord_L2 n)
def f_X4_takeWord (s0 : Sto) (n1 : Nat) : Option (Int32 × Sto) :=
  f_X4_takeWord_L2 1000 s0 n1 0
set_option maxRecDepth 100000 in
theorem s_X4_takeWord_B2 (g : Gm) (k2 : Sto → Nat → Int32 → Option (Int32 × Sto)) (hk2 : ∀ (s0 : Sto) (n1 : Nat) (x2 : Int32) (hn1 : n1 < 5), Rf cvIw (Em g 4) kX4_takeWord 2 [some (.ref ((Em g 4).1.1 4 0 0)), some (.ref ((Em g 4).1.2.2.2.2.1 n1)), some (.int x2)] [] s0 (k2 s0 n1 x2)) (s0 : Sto) (n1 : Nat) (x2 : Int32) (hn1 : n1 < 5) : Rf cvIw (Em g 4) kX4_takeWord 2 [some (.ref ((Em g 4).1.1 4 0 0)), some (.ref ((Em g 4).1.2.2.2.2.1 n1)), some (.int x2)] [] s0 (f_X4_takeWord_B2 k2 s0 n1 x2) := by
  unfold f_X4_takeWord_B2
  refine r_iload_n dX4_takeWord_2 rfl ?_
  refine r_aload_n dX4_takeWord_3 rfl ?_
  refine u_J0_length_8abf5 (ok_J0_length_8abf5 g s0 n1 hn1) dX4_takeWord_4 ml_X4_43 hn1 (Nat.le_of_ble_eq_true rfl) (fits_m (by decide) (by decide)) room_m (fun q1 => ?_)
  refine r_icge dX4_takeWord_7 (tgt := 30) (by decide) (fun c2 => ?_) (fun c2 => ?_)
  · refine r_iconst dX4_takeWord_30 ci_1 ?_
    exact r_zret dX4_takeWord_31 rfl rfl rfl
  · refine r_aload_n dX4_takeWord_10 rfl ?_
    refine r_aload_n dX4_takeWord_11 rfl ?_
    refine r_iload_n dX4_takeWord_12 rfl ?_
    refine u_J0_charAt_5068e (ok_J0_charAt_5068e g s0 n1 x2 hn1) dX4_takeWord_13 ml_X4_48 hn1 (Nat.le_of_ble_eq_true rfl) (fits_m (by decide) (by decide)) room_m (fun q3 => ?_)
    refine u_X4_take (ok_X4_take g s0 q3) dX4_takeWord_16 ml_X4_39 (Nat.le_of_ble_eq_true rfl) (fits_m (by decide) (by decide)) room_m (fun q4 => ?_)
    refine r_ifne dX4_takeWord_19 (tgt := 24) (by decide) (fun c5 => ?_) (fun c5 => ?_)
    · refine r_iconst dX4_takeWord_22 ci_0 ?_
      exact r_zret dX4_takeWord_23 rfl rfl rfl
    · refine r_iincN dX4_takeWord_24 rfl ci_1 rfl (lt_b rfl) (fun v6 => ?_)
      refine r_goto dX4_takeWord_27 (tgt := 2) (by decide) ?_
      exact r_mask [true, true, true] (hk2 q4.2 n1 v6 hn1)
theorem s_X4_takeWord_L2 (g : Gm) : ∀ (n : Nat) (s0 : Sto) (n1 : Nat) (x2 : Int32) (hn1 : n1 < 5), Rf cvIw (Em g 4) kX4_takeWord 2 [some (.ref ((Em g 4).1.1 4 0 0)), some (.ref ((Em g 4).1.2.2.2.2.1 n1)), some (.int x2)] [] s0 (f_X4_takeWord_L2 n s0 n1 x2)
  | 0, _, _, _, _ => r_none
  | n + 1, s0, n1, x2, hn1 => s_X4_takeWord_B2 g (f_X4_takeWord_L2 n) (s_X4_takeWord_L2 g n) s0 n1 x2 hn1
set_option maxRecDepth 100000 in
theorem s_X4_takeWord (g : Gm) (s0 : Sto) (n1 : Nat) (hn1 : n1 < 5) : Rf cvIw (Em g 4) kX4_takeWord 0 [some (.ref ((Em g 4).1.1 4 0 0)), some (.ref ((Em g 4).1.2.2.2.2.1 n1)), none] [] s0 (f_X4_takeWord s0 n1) := by
  unfold f_X4_takeWord
  refine r_iconst dX4_takeWord_0 ci_0 ?_
  refine r_istore_n dX4_takeWord_1 rfl (lt_b rfl) (lt_b rfl) ?_
  exact r_mask [true, true, true] (s_X4_takeWord_L2 g 1000 s0 n1 0 hn1)
theorem ok_X4_takeWord (g : Gm) (s0 : Sto) (n1 : Nat) (hn1 : n1 < 5) : Ok g yX4_takeWord kX4_takeWord 4 [.ref ((Em g 4).1.1 4 0 0), .ref ((Em g 4).1.2.2.2.2.1 n1)] s0 cvIw (f_X4_takeWord s0 n1) := Ok.of (by decide) rfl (Nat.le_of_ble_eq_true rfl) (lv := [some (.ref ((Em g 4).1.1 4 0 0)), some (.ref ((Em g 4).1.2.2.2.2.1 n1)), none]) rfl (s_X4_takeWord g s0 n1 hn1)
theorem u_X4_takeWord {α : Type} {cv : α → Res} {E : EE} {K : KK} {pc npc idx d : Nat} {lv : List (Option Value)} {st : List Value} {σ : Sto} {oc : Option (Int32 × Sto)} {kf : (Int32 × Sto) → Option α} {n1 : Nat} (hOk : Ok E.1 yX4_takeWord kX4_takeWord d [.ref (E.1.1 4 0 0), .ref (E.1.2.2.2.2.1 n1)] σ cvIw oc) (hd : Dc K pc (.invokevirtual idx) 3 npc) (hlk : Cond.methodLink K.2.1 idx yX4_takeWord ∈ lw_good) (hw : (st.map fun v => v.category).sum ≤ 8) (hfit : fits_ E d 3) (hrm : room_ok E) (kk : ∀ q : Int32 × Sto, Rf cv E K npc lv (.int q.1 :: st) q.2 (kf q)) : Rf cv E K pc lv (.ref (E.1.2.2.2.2.1 n1) :: .ref (E.1.1 4 0 0) :: st) σ (oc.bind kf) := c_V (n := 1) (as := [.ref (E.1.2.2.2.2.1 n1)]) (c0 := 4) (i := 0) (CC := "ThawGives$Text") (T := TX4) (N := 5) hd hOk hlk wi_X4_takeWord wv_X4_takeWord wn_X4 wc_X4_takeWord rfl (by decide) (by decide) ⟨by decide, by decide, by decide⟩ rfl rfl hw hfit hrm (fun b _ => kk b)
theorem un_X4_takeWord {α : Type} {cv : α → Res} {E : EE} {K : KK} {pc npc idx d : Nat} {lv : List (Option Value)} {st : List Value} {σ : Sto} {oc : Option (Int32 × Sto)} {kf : (Int32 × Sto) → Option α} {n1 : Nat} (hOk : Ok E.1 yX4_takeWord kX4_takeWord d [.ref (E.1.1 4 0 0), .ref (E.1.2.2.2.2.1 n1)] σ cvIw oc) (hd : Dc K pc (.invokevirtual idx) 3 npc) (hlk : Cond.methodLinkNest K.2.1 idx yX4_takeWord "ThawGives" ∈ lw_nest) (hw : (st.map fun v => v.category).sum ≤ 8) (hfit : fits_ E d 3) (hrm : room_ok E) (kk : ∀ q : Int32 × Sto, Rf cv E K npc lv (.int q.1 :: st) q.2 (kf q)) : Rf cv E K pc lv (.ref (E.1.2.2.2.2.1 n1) :: .ref (E.1.1 4 0 0) :: st) σ (oc.bind kf) := c_N (n := 1) (as := [.ref (E.1.2.2.2.2.1 n1)]) (c0 := 4) (i := 0) (CC := "ThawGives$Text") (T := TX4) (N := 5) hd hOk hlk wi_X4_takeWord wv_X4_takeWord wn_X4 wc_X4_takeWord rfl (by decide) (by decide) ⟨by decide, by decide, by decide⟩ rfl rfl hw hfit hrm (fun b _ => kk b)
def f_X4_takeNumber_L96 (s0 : Sto) (x1 : Int32) : Option (Int32 × Sto) :=
  (if (s0.1 4 2 0) ≤ x1 then
    some (0, s0)
  else
    some (1, s0))
def f_X4_takeNumber_B10 (k10 : Sto → Int32 → Option (Int32 × Sto)) (s0 : Sto) (x1 : Int32) : Option (Int32 × Sto) :=
  (if (s0.1 4 1 0) ≤ (s0.1 4 2 0) then
    f_X4_takeNumber_L96 s0 x1
  else
    (if (x1 + 2) ≤ (s0.1 4 2 0) then
      f_X4_takeNumber_L96 s0 x1
    else
      (if 0 ≤ (s0.1 4 2 0) ∧ (s0.1 4 2 0) < 100 then (if (s0.2.1 4 0 0 (Int32.toNatClampNeg (s0.1 4 2 0))) < 48 then
        f_X4_takeNumber_L96 s0 x1
      else
        (if 0 ≤ (s0.1 4 2 0) ∧ (s0.1 4 2 0) < 100 then (if (57 : Int32) < (s0.2.1 4 0 0 (Int32.toNatClampNeg (s0.1 4 2 0))) then
          f_X4_takeNumber_L96 s0 x1
        else
          (if 0 ≤ (s0.1 4 2 0) ∧ (s0.1 4 2 0) < 100 then nm (sF s0 4 3 0 (((10 * (s0.1 4 3 0)) + (s0.2.1 4 0 0 (Int32.toNatClampNeg (s0.1 4 2 0)))) - 48)) fun s14 => nm (sF s14 4 2 0 ((s14.1 4 2 0) + 1)) fun s15 => k10 s15 x1 else none)) else none)) else none)))
def f_X4_takeNumber_L10 : Nat → Sto → Int32 → Option (Int32 × Sto)
  | 0 => fun _ _ => none
  | n + 1 => f_X4_takeNumber_B10 (f_X4_takeNumber_L10 n)
def f_X4_takeNumber (s0 : Sto) : Option (Int32 × Sto) :=
  nmI ((s0.1 4 2 0)) fun v1 => nm (sF s0 4 3 0 0) fun s2 => f_X4_takeNumber_L10 1000 s2 v1
set_option maxRecDepth 100000 in
theorem s_X4_takeNumber_L96 (g : Gm) (s0 : Sto) (x1 : Int32) : Rf cvIw (Em g 0) kX4_takeNumber 96 [some (.ref ((Em g 0).1.1 4 0 0)), some (.int x1)] [] s0 (f_X4_takeNumber_L96 s0 x1) := by
  unfold f_X4_takeNumber_L96
  refine r_aload_n dX4_takeNumber_96 rfl ?_
  refine gf_X4_19 rfl dX4_takeNumber_97 ?_
  refine r_iload_n dX4_takeNumber_100 rfl ?_
  refine r_icle dX4_takeNumber_101 (tgt := 108) (by decide) (fun c4 => ?_) (fun c4 => ?_)
  · refine r_iconst dX4_takeNumber_108 ci_0 ?_
    exact r_zret dX4_takeNumber_109 rfl rfl rfl
  · refine r_iconst dX4_takeNumber_104 ci_1 ?_
    refine r_goto dX4_takeNumber_105 (tgt := 109) (by decide) ?_
    exact r_zret dX4_takeNumber_109 rfl rfl rfl
set_option maxRecDepth 100000 in
theorem s_X4_takeNumber_B10 (g : Gm) (k10 : Sto → Int32 → Option (Int32 × Sto)) (hk10 : ∀ (s0 : Sto) (x1 : Int32), Rf cvIw (Em g 0) kX4_takeNumber 10 [some (.ref ((Em g 0).1.1 4 0 0)), some (.int x1)] [] s0 (k10 s0 x1)) (s0 : Sto) (x1 : Int32) : Rf cvIw (Em g 0) kX4_takeNumber 10 [some (.ref ((Em g 0).1.1 4 0 0)), some (.int x1)] [] s0 (f_X4_takeNumber_B10 k10 s0 x1) := by
  unfold f_X4_takeNumber_B10
  refine r_aload_n dX4_takeNumber_10 rfl ?_
  refine gf_X4_19 rfl dX4_takeNumber_11 ?_
  refine r_aload_n dX4_takeNumber_14 rfl ?_
  refine gf_X4_15 rfl dX4_takeNumber_15 ?_
  refine r_icge dX4_takeNumber_18 (tgt := 96) (by decide) (fun c3 => ?_) (fun c3 => ?_)
  · exact r_mask [true, true] (s_X4_takeNumber_L96 g s0 x1)
  · refine r_aload_n dX4_takeNumber_21 rfl ?_
    refine gf_X4_19 rfl dX4_takeNumber_22 ?_
    refine r_iload_n dX4_takeNumber_25 rfl ?_
    refine r_iconst dX4_takeNumber_26 ci_2 ?_
    refine r_iadd dX4_takeNumber_27 ?_
    refine r_icge dX4_takeNumber_28 (tgt := 96) (by decide) (fun c5 => ?_) (fun c5 => ?_)
    · exact r_mask [true, true] (s_X4_takeNumber_L96 g s0 x1)
    · refine r_aload_n dX4_takeNumber_31 rfl ?_
      refine gf_X4_9 rfl dX4_takeNumber_32 ?_
      refine r_aload_n dX4_takeNumber_35 rfl ?_
      refine gf_X4_19 rfl dX4_takeNumber_36 ?_
      refine al_4_0 dX4_takeNumber_39 (fun hg6 hj7 => ?_)
      refine r_bipush dX4_takeNumber_40 cb_48 ?_
      refine r_iclt dX4_takeNumber_42 (tgt := 96) (by decide) (fun c8 => ?_) (fun c8 => ?_)
      · exact r_mask [true, true] (s_X4_takeNumber_L96 g s0 x1)
      · refine r_aload_n dX4_takeNumber_45 rfl ?_
        refine gf_X4_9 rfl dX4_takeNumber_46 ?_
        refine r_aload_n dX4_takeNumber_49 rfl ?_
        refine gf_X4_19 rfl dX4_takeNumber_50 ?_
        refine al_4_0 dX4_takeNumber_53 (fun hg9 hj10 => ?_)
        refine r_bipush dX4_takeNumber_54 cb_57 ?_
        refine r_icgt dX4_takeNumber_56 (tgt := 96) (by decide) (fun c11 => ?_) (fun c11 => ?_)
        · exact r_mask [true, true] (s_X4_takeNumber_L96 g s0 x1)
        · refine r_aload_n dX4_takeNumber_59 rfl ?_
          refine r_bipush dX4_takeNumber_60 cb_10 ?_
          refine r_aload_n dX4_takeNumber_62 rfl ?_
          refine gf_X4_22 rfl dX4_takeNumber_63 ?_
          refine r_imul dX4_takeNumber_66 ?_
          refine r_aload_n dX4_takeNumber_67 rfl ?_
          refine gf_X4_9 rfl dX4_takeNumber_68 ?_
          refine r_aload_n dX4_takeNumber_71 rfl ?_
          refine gf_X4_19 rfl dX4_takeNumber_72 ?_
          refine al_4_0 dX4_takeNumber_75 (fun hg12 hj13 => ?_)
          refine r_iadd dX4_takeNumber_76 ?_
          refine r_bipush dX4_takeNumber_77 cb_48 ?_
          refine r_isub dX4_takeNumber_79 ?_
          refine pf_X4_22 rfl dX4_takeNumber_80 (fun s14 => ?_)
          refine r_aload_n dX4_takeNumber_83 rfl ?_
          refine r_dup dX4_takeNumber_84 rfl ?_
          refine gf_X4_19 rfl dX4_takeNumber_85 ?_
          refine r_iconst dX4_takeNumber_88 ci_1 ?_
          refine r_iadd dX4_takeNumber_89 ?_
          refine pf_X4_19 rfl dX4_takeNumber_90 (fun s15 => ?_)
          refine r_goto dX4_takeNumber_93 (tgt := 10) (by decide) ?_
          exact r_mask [true, true] (hk10 s15 x1)
theorem s_X4_takeNumber_L10 (g : Gm) : ∀ (n : Nat) (s0 : Sto) (x1 : Int32), Rf cvIw (Em g 0) kX4_takeNumber 10 [some (.ref ((Em g 0).1.1 4 0 0)), some (.int x1)] [] s0 (f_X4_takeNumber_L10 n s0 x1)
  | 0, _, _ => r_none
  | n + 1, s0, x1 => s_X4_takeNumber_B10 g (f_X4_takeNumber_L10 n) (s_X4_takeNumber_L10 g n) s0 x1
set_option maxRecDepth 100000 in
theorem s_X4_takeNumber (g : Gm) (s0 : Sto) : Rf cvIw (Em g 0) kX4_takeNumber 0 [some (.ref ((Em g 0).1.1 4 0 0)), none] [] s0 (f_X4_takeNumber s0) := by
  unfold f_X4_takeNumber
  refine r_aload_n dX4_takeNumber_0 rfl ?_
  refine gf_X4_19 rfl dX4_takeNumber_1 ?_
  refine r_istore_nN dX4_takeNumber_4 rfl (lt_b rfl) (lt_b rfl) (fun v1 => ?_)
  refine r_aload_n dX4_takeNumber_5 rfl ?_
  refine r_iconst dX4_takeNumber_6 ci_0 ?_
  refine pf_X4_22 rfl dX4_takeNumber_7 (fun s2 => ?_)
  exact r_mask [true, true] (s_X4_takeNumber_L10 g 1000 s2 v1)
theorem ok_X4_takeNumber (g : Gm) (s0 : Sto) : Ok g yX4_takeNumber kX4_takeNumber 0 [.ref ((Em g 0).1.1 4 0 0)] s0 cvIw (f_X4_takeNumber s0) := Ok.of (by decide) rfl (Nat.le_of_ble_eq_true rfl) (lv := [some (.ref ((Em g 0).1.1 4 0 0)), none]) rfl (s_X4_takeNumber g s0)
theorem u_X4_takeNumber {α : Type} {cv : α → Res} {E : EE} {K : KK} {pc npc idx d : Nat} {lv : List (Option Value)} {st : List Value} {σ : Sto} {oc : Option (Int32 × Sto)} {kf : (Int32 × Sto) → Option α} (hOk : Ok E.1 yX4_takeNumber kX4_takeNumber d [.ref (E.1.1 4 0 0)] σ cvIw oc) (hd : Dc K pc (.invokevirtual idx) 3 npc) (hlk : Cond.methodLink K.2.1 idx yX4_takeNumber ∈ lw_good) (hw : (st.map fun v => v.category).sum ≤ 8) (hfit : fits_ E d 2) (hrm : room_ok E) (kk : ∀ q : Int32 × Sto, Rf cv E K npc lv (.int q.1 :: st) q.2 (kf q)) : Rf cv E K pc lv (.ref (E.1.1 4 0 0) :: st) σ (oc.bind kf) := c_V (n := 0) (as := []) (c0 := 4) (i := 0) (CC := "ThawGives$Text") (T := TX4) (N := 5) hd hOk hlk wi_X4_takeNumber wv_X4_takeNumber wn_X4 wc_X4_takeNumber rfl (by decide) (by decide) ⟨by decide, by decide, by decide⟩ rfl rfl hw hfit hrm (fun b _ => kk b)
theorem un_X4_takeNumber {α : Type} {cv : α → Res} {E : EE} {K : KK} {pc npc idx d : Nat} {lv : List (Option Value)} {st : List Value} {σ : Sto} {oc : Option (Int32 × Sto)} {kf : (Int32 × Sto) → Option α} (hOk : Ok E.1 yX4_takeNumber kX4_takeNumber d [.ref (E.1.1 4 0 0)] σ cvIw oc) (hd : Dc K pc (.invokevirtual idx) 3 npc) (hlk : Cond.methodLinkNest K.2.1 idx yX4_takeNumber "ThawGives" ∈ lw_nest) (hw : (st.map fun v => v.category).sum ≤ 8) (hfit : fits_ E d 2) (hrm : room_ok E) (kk : ∀ q : Int32 × Sto, Rf cv E K npc lv (.int q.1 :: st) q.2 (kf q)) : Rf cv E K pc lv (.ref (E.1.1 4 0 0) :: st) σ (oc.bind kf) := c_N (n := 0) (as := []) (c0 := 4) (i := 0) (CC := "ThawGives$Text") (T := TX4) (N := 5) hd hOk hlk wi_X4_takeNumber wv_X4_takeNumber wn_X4 wc_X4_takeNumber rfl (by decide) (by decide) ⟨by decide, by decide, by decide⟩ rfl rfl hw hfit hrm (fun b _ => kk b)
def f_X1_add (s0 : Sto) (i0 : Nat) (x1 : Int32) (x2 : Int32) (x3 : Int32) : Option (Sto) :=
  (if (100 : Int32) ≤ (s0.1 1 3 i0) then
    some s0
  else
    (if 0 ≤ (s0.1 1 3 i0) ∧ (s0.1 1 3 i0) < 100 then nm (sA s0 1 0 i0 (upd (s0.2.1 1 0 i0) (Int32.toNatClampNeg (s0.1 1 3 i0)) x1)) fun s4 => (if 0 ≤ (s4.1 1 3 i0) ∧ (s4.1 1 3 i0) < 100 then nm (sA s4 1 1 i0 (upd (s4.2.1 1 1 i0) (Int32.toNatClampNeg (s4.1 1 3 i0)) x2)) fun s7 => (if 0 ≤ (s7.1 1 3 i0) ∧ (s7.1 1 3 i0) < 100 then nm (sA s7 1 2 i0 (upd (s7.2.1 1 2 i0) (Int32.toNatClampNeg (s7.1 1 3 i0)) x3)) fun s10 => nm (sF s10 1 3 i0 ((s10.1 1 3 i0) + 1)) fun s11 => some s11 else none) else none) else none))
set_option maxRecDepth 100000 in
theorem s_X1_add (g : Gm) (s0 : Sto) (i0 : Nat) (x1 : Int32) (x2 : Int32) (x3 : Int32) (hi0 : i0 < 8) : Rf cvV (Em g 0) kX1_add 0 [some (.ref ((Em g 0).1.1 1 0 i0)), some (.int x1), some (.int x2), some (.int x3)] [] s0 (f_X1_add s0 i0 x1 x2 x3) := by
  unfold f_X1_add
  refine r_aload_n dX1_add_0 rfl ?_
  refine gf_X1_21 rfl dX1_add_1 hi0 ?_
  refine r_bipush dX1_add_4 cb_100 ?_
  refine r_icge dX1_add_6 (tgt := 49) (by decide) (fun c1 => ?_) (fun c1 => ?_)
  · exact r_vret dX1_add_49 rfl rfl
  · refine r_aload_n dX1_add_9 rfl ?_
    refine gf_X1_9 rfl dX1_add_10 hi0 ?_
    refine r_aload_n dX1_add_13 rfl ?_
    refine gf_X1_21 rfl dX1_add_14 hi0 ?_
    refine r_iload_n dX1_add_17 rfl ?_
    refine as_1_0 dX1_add_18 hi0 (fun hg2 hj3 s4 => ?_)
    refine r_aload_n dX1_add_19 rfl ?_
    refine gf_X1_15 rfl dX1_add_20 hi0 ?_
    refine r_aload_n dX1_add_23 rfl ?_
    refine gf_X1_21 rfl dX1_add_24 hi0 ?_
    refine r_iload_n dX1_add_27 rfl ?_
    refine as_1_1 dX1_add_28 hi0 (fun hg5 hj6 s7 => ?_)
    refine r_aload_n dX1_add_29 rfl ?_
    refine gf_X1_18 rfl dX1_add_30 hi0 ?_
    refine r_aload_n dX1_add_33 rfl ?_
    refine gf_X1_21 rfl dX1_add_34 hi0 ?_
    refine r_iload_n dX1_add_37 rfl ?_
    refine as_1_2 dX1_add_38 hi0 (fun hg8 hj9 s10 => ?_)
    refine r_aload_n dX1_add_39 rfl ?_
    refine r_dup dX1_add_40 rfl ?_
    refine gf_X1_21 rfl dX1_add_41 hi0 ?_
    refine r_iconst dX1_add_44 ci_1 ?_
    refine r_iadd dX1_add_45 ?_
    refine pf_X1_21 rfl dX1_add_46 hi0 (fun s11 => ?_)
    exact r_vret dX1_add_49 rfl rfl
theorem ok_X1_add (g : Gm) (s0 : Sto) (i0 : Nat) (x1 : Int32) (x2 : Int32) (x3 : Int32) (hi0 : i0 < 8) : Ok g yX1_add kX1_add 0 [.ref ((Em g 0).1.1 1 0 i0), .int x1, .int x2, .int x3] s0 cvV (f_X1_add s0 i0 x1 x2 x3) := Ok.of (by decide) rfl (Nat.le_of_ble_eq_true rfl) (lv := [some (.ref ((Em g 0).1.1 1 0 i0)), some (.int x1), some (.int x2), some (.int x3)]) rfl (s_X1_add g s0 i0 x1 x2 x3 hi0)
theorem u_X1_add {α : Type} {cv : α → Res} {E : EE} {K : KK} {pc npc idx d : Nat} {lv : List (Option Value)} {st : List Value} {σ : Sto} {oc : Option (Sto)} {kf : Sto → Option α} {i0 : Nat} {x1 : Int32} {x2 : Int32} {x3 : Int32} (hOk : Ok E.1 yX1_add kX1_add d [.ref (E.1.1 1 0 i0), .int x1, .int x2, .int x3] σ cvV oc) (hd : Dc K pc (.invokevirtual idx) 3 npc) (hlk : Cond.methodLink K.2.1 idx yX1_add ∈ lw_good) (hi : i0 < 8) (hw : (st.map fun v => v.category).sum ≤ 8) (hfit : fits_ E d 4) (hrm : room_ok E) (kk : ∀ τ : Sto, Rf cv E K npc lv st τ (kf τ)) : Rf cv E K pc lv (.int x3 :: .int x2 :: .int x1 :: .ref (E.1.1 1 0 i0) :: st) σ (oc.bind kf) := c_V (n := 3) (as := [.int x1, .int x2, .int x3]) (c0 := 1) (i := i0) (CC := "ThawGives$Pass") (T := TX1) (N := 5) hd hOk hlk wi_X1_add wv_X1_add wn_X1 wc_X1_add rfl (by decide) hi ⟨by decide, by decide, by decide⟩ rfl rfl hw hfit hrm (fun b _ => kk b)
theorem un_X1_add {α : Type} {cv : α → Res} {E : EE} {K : KK} {pc npc idx d : Nat} {lv : List (Option Value)} {st : List Value} {σ : Sto} {oc : Option (Sto)} {kf : Sto → Option α} {i0 : Nat} {x1 : Int32} {x2 : Int32} {x3 : Int32} (hOk : Ok E.1 yX1_add kX1_add d [.ref (E.1.1 1 0 i0), .int x1, .int x2, .int x3] σ cvV oc) (hd : Dc K pc (.invokevirtual idx) 3 npc) (hlk : Cond.methodLinkNest K.2.1 idx yX1_add "ThawGives" ∈ lw_nest) (hi : i0 < 8) (hw : (st.map fun v => v.category).sum ≤ 8) (hfit : fits_ E d 4) (hrm : room_ok E) (kk : ∀ τ : Sto, Rf cv E K npc lv st τ (kf τ)) : Rf cv E K pc lv (.int x3 :: .int x2 :: .int x1 :: .ref (E.1.1 1 0 i0) :: st) σ (oc.bind kf) := c_N (n := 3) (as := [.int x1, .int x2, .int x3]) (c0 := 1) (i := i0) (CC := "ThawGives$Pass") (T := TX1) (N := 5) hd hOk hlk wi_X1_add wv_X1_add wn_X1 wc_X1_add rfl (by decide) hi ⟨by decide, by decide, by decide⟩ rfl rfl hw hfit hrm (fun b _ => kk b)
def f_J1_canEncode_9a6ad (x0 : Int32) : Option (Int32) :=
  (if x0 < 0 then
    some 0
  else
    (if (255 : Int32) < x0 then
      some 0
    else
      some 1))
set_option maxRecDepth 100000 in
theorem s_J1_canEncode_9a6ad (g : Gm) (sz : Sto) (x0 : Int32) : Rf (cvI sz) (Em g 0) kJ1_canEncode_9a6ad 0 [some (.int x0)] [] sz (f_J1_canEncode_9a6ad x0) := by
  unfold f_J1_canEncode_9a6ad
  refine r_iload_n dJ1_canEncode_9a6ad_0 rfl ?_
  refine r_iflt dJ1_canEncode_9a6ad_1 (tgt := 15) (by decide) (fun c1 => ?_) (fun c1 => ?_)
  · refine r_iconst dJ1_canEncode_9a6ad_15 ci_0 ?_
    exact r_zret dJ1_canEncode_9a6ad_16 rfl rfl rfl
  · refine r_iload_n dJ1_canEncode_9a6ad_4 rfl ?_
    refine r_sipush dJ1_canEncode_9a6ad_5 cs_255 ?_
    refine r_icgt dJ1_canEncode_9a6ad_8 (tgt := 15) (by decide) (fun c2 => ?_) (fun c2 => ?_)
    · refine r_iconst dJ1_canEncode_9a6ad_15 ci_0 ?_
      exact r_zret dJ1_canEncode_9a6ad_16 rfl rfl rfl
    · refine r_iconst dJ1_canEncode_9a6ad_11 ci_1 ?_
      refine r_goto dJ1_canEncode_9a6ad_12 (tgt := 16) (by decide) ?_
      exact r_zret dJ1_canEncode_9a6ad_16 rfl rfl rfl
theorem ok_J1_canEncode_9a6ad (g : Gm) (sz : Sto) (x0 : Int32) : Ok g yJ1_canEncode_9a6ad kJ1_canEncode_9a6ad 0 [.int x0] sz (cvI sz) (f_J1_canEncode_9a6ad x0) := Ok.of (by decide) rfl (Nat.le_of_ble_eq_true rfl) (lv := [some (.int x0)]) rfl (s_J1_canEncode_9a6ad g sz x0)
theorem u_J1_canEncode_9a6ad {α : Type} {cv : α → Res} {E : EE} {K : KK} {pc npc idx d : Nat} {lv : List (Option Value)} {st : List Value} {σ : Sto} {oc : Option (Int32)} {kf : Int32 → Option α} {x0 : Int32} (hOk : Ok E.1 yJ1_canEncode_9a6ad kJ1_canEncode_9a6ad d [.int x0] σ (cvI σ) oc) (hd : Dc K pc (.invokestatic idx) 3 npc) (hlk : Cond.methodLink K.2.1 idx yJ1_canEncode_9a6ad ∈ lw_good) (hw : (st.map fun v => v.category).sum ≤ 8) (hfit : fits_ E d 1) (hrm : room_ok E) (kk : ∀ q : Int32, Rf cv E K npc lv (.int q :: st) σ (kf q)) : Rf cv E K pc lv (.int x0 :: st) σ (oc.bind kf) := c_S (n := 1) (as := [.int x0]) hd hOk hlk wt_J1_canEncode_9a6ad wn_J1 wc_J1_canEncode_9a6ad ⟨by decide, by decide, by decide⟩ rfl rfl hw hfit hrm (fun b _ => kk b)
def f_J1_indexOfChar_4cfef_B7 (k7 : Nat → Int32 → Int32 → Int32 → Option (Int32)) (n0 : Nat) (x3 : Int32) (x4 : Int32) (x5 : Int32) : Option (Int32) :=
  (if x3 ≤ x5 then
    some (-1 : Int32)
  else
    (if 0 ≤ x5 ∧ x5 < sln n0 then (if (sby n0 (x5).toNatClampNeg) = x4 then
      some x5
    else
      nmI (x5 + 1) fun v6 => k7 n0 x3 x4 v6) else none))
def f_J1_indexOfChar_4cfef_L7 : Nat → Nat → Int32 → Int32 → Int32 → Option (Int32)
  | 0 => fun _ _ _ _ => none
  | n + 1 => f_J1_indexOfChar_4cfef_B7 (f_J1_indexOfChar_4cfef_L7 n)
def f_J1_indexOfChar_4cfef (n0 : Nat) (x1 : Int32) (x2 : Int32) (x3 : Int32) : Option (Int32) :=
  nmI ((Int8.toInt32 (Int32.toInt8 x1))) fun v1 => f_J1_indexOfChar_4cfef_L7 1000 n0 x3 v1 x2
set_option maxRecDepth 100000 in
theorem s_J1_indexOfChar_4cfef_B7 (g : Gm) (sz : Sto) (k7 : Nat → Int32 → Int32 → Int32 → Option (Int32)) (hk7 : ∀ (n0 : Nat) (x3 : Int32) (x4 : Int32) (x5 : Int32) (hn0 : n0 < 5), Rf (cvI sz) (Em g 0) kJ1_indexOfChar_4cfef 7 [some (.ref ((Em g 0).1.2.2.2.2.2 n0)), none, none, some (.int x3), some (.int x4), some (.int x5)] [] sz (k7 n0 x3 x4 x5)) (n0 : Nat) (x3 : Int32) (x4 : Int32) (x5 : Int32) (hn0 : n0 < 5) : Rf (cvI sz) (Em g 0) kJ1_indexOfChar_4cfef 7 [some (.ref ((Em g 0).1.2.2.2.2.2 n0)), none, none, some (.int x3), some (.int x4), some (.int x5)] [] sz (f_J1_indexOfChar_4cfef_B7 k7 n0 x3 x4 x5) := by
  unfold f_J1_indexOfChar_4cfef_B7
  refine r_iload dJ1_indexOfChar_4cfef_7 rfl ?_
  refine r_iload_n dJ1_indexOfChar_4cfef_9 rfl ?_
  refine r_icge dJ1_indexOfChar_4cfef_10 (tgt := 31) (by decide) (fun c2 => ?_) (fun c2 => ?_)
  · refine r_iconst dJ1_indexOfChar_4cfef_31 ci_m1 ?_
    exact r_iret dJ1_indexOfChar_4cfef_32 rfl rfl
  · refine r_aload_n dJ1_indexOfChar_4cfef_13 rfl ?_
    refine r_iload dJ1_indexOfChar_4cfef_14 rfl ?_
    refine g_sbald dJ1_indexOfChar_4cfef_16 hn0 (fun hg3 hj4 => ?_)
    refine r_iload dJ1_indexOfChar_4cfef_17 rfl ?_
    refine r_icne dJ1_indexOfChar_4cfef_19 (tgt := 25) (by decide) (fun c5 => ?_) (fun c5 => ?_)
    · refine r_iload dJ1_indexOfChar_4cfef_22 rfl ?_
      exact r_iret dJ1_indexOfChar_4cfef_24 rfl rfl
    · refine r_iincN dJ1_indexOfChar_4cfef_25 rfl ci_1 rfl (lt_b rfl) (fun v6 => ?_)
      refine r_goto dJ1_indexOfChar_4cfef_28 (tgt := 7) (by decide) ?_
      exact r_mask [true, false, false, true, true, true] (hk7 n0 x3 x4 v6 hn0)
theorem s_J1_indexOfChar_4cfef_L7 (g : Gm) (sz : Sto) : ∀ (n : Nat) (n0 : Nat) (x3 : Int32) (x4 : Int32) (x5 : Int32) (hn0 : n0 < 5), Rf (cvI sz) (Em g 0) kJ1_indexOfChar_4cfef 7 [some (.ref ((Em g 0).1.2.2.2.2.2 n0)), none, none, some (.int x3), some (.int x4), some (.int x5)] [] sz (f_J1_indexOfChar_4cfef_L7 n n0 x3 x4 x5)
  | 0, _, _, _, _, _ => r_none
  | n + 1, n0, x3, x4, x5, hn0 => s_J1_indexOfChar_4cfef_B7 g sz (f_J1_indexOfChar_4cfef_L7 n) (s_J1_indexOfChar_4cfef_L7 g sz n) n0 x3 x4 x5 hn0
set_option maxRecDepth 100000 in
theorem s_J1_indexOfChar_4cfef (g : Gm) (sz : Sto) (n0 : Nat) (x1 : Int32) (x2 : Int32) (x3 : Int32) (hn0 : n0 < 5) : Rf (cvI sz) (Em g 0) kJ1_indexOfChar_4cfef 0 [some (.ref ((Em g 0).1.2.2.2.2.2 n0)), some (.int x1), some (.int x2), some (.int x3), none, none] [] sz (f_J1_indexOfChar_4cfef n0 x1 x2 x3) := by
  unfold f_J1_indexOfChar_4cfef
  refine r_iload_n dJ1_indexOfChar_4cfef_0 rfl ?_
  refine r_i2b dJ1_indexOfChar_4cfef_1 ?_
  refine r_istoreN dJ1_indexOfChar_4cfef_2 rfl (lt_b rfl) (lt_b rfl) (fun v1 => ?_)
  refine r_iload_n dJ1_indexOfChar_4cfef_4 rfl ?_
  refine r_istore dJ1_indexOfChar_4cfef_5 rfl (lt_b rfl) (lt_b rfl) ?_
  exact r_mask [true, false, false, true, true, true] (s_J1_indexOfChar_4cfef_L7 g sz 1000 n0 x3 v1 x2 hn0)
theorem ok_J1_indexOfChar_4cfef (g : Gm) (sz : Sto) (n0 : Nat) (x1 : Int32) (x2 : Int32) (x3 : Int32) (hn0 : n0 < 5) : Ok g yJ1_indexOfChar_4cfef kJ1_indexOfChar_4cfef 0 [.ref ((Em g 0).1.2.2.2.2.2 n0), .int x1, .int x2, .int x3] sz (cvI sz) (f_J1_indexOfChar_4cfef n0 x1 x2 x3) := Ok.of (by decide) rfl (Nat.le_of_ble_eq_true rfl) (lv := [some (.ref ((Em g 0).1.2.2.2.2.2 n0)), some (.int x1), some (.int x2), some (.int x3), none, none]) rfl (s_J1_indexOfChar_4cfef g sz n0 x1 x2 x3 hn0)
theorem u_J1_indexOfChar_4cfef {α : Type} {cv : α → Res} {E : EE} {K : KK} {pc npc idx d : Nat} {lv : List (Option Value)} {st : List Value} {σ : Sto} {oc : Option (Int32)} {kf : Int32 → Option α} {n0 : Nat} {x1 : Int32} {x2 : Int32} {x3 : Int32} (hOk : Ok E.1 yJ1_indexOfChar_4cfef kJ1_indexOfChar_4cfef d [.ref (E.1.2.2.2.2.2 n0), .int x1, .int x2, .int x3] σ (cvI σ) oc) (hd : Dc K pc (.invokestatic idx) 3 npc) (hlk : Cond.methodLink K.2.1 idx yJ1_indexOfChar_4cfef ∈ lw_good) (hw : (st.map fun v => v.category).sum ≤ 8) (hfit : fits_ E d 6) (hrm : room_ok E) (kk : ∀ q : Int32, Rf cv E K npc lv (.int q :: st) σ (kf q)) : Rf cv E K pc lv (.int x3 :: .int x2 :: .int x1 :: .ref (E.1.2.2.2.2.2 n0) :: st) σ (oc.bind kf) := c_S (n := 4) (as := [.ref (E.1.2.2.2.2.2 n0), .int x1, .int x2, .int x3]) hd hOk hlk wt_J1_indexOfChar_4cfef wn_J1 wc_J1_indexOfChar_4cfef ⟨by decide, by decide, by decide⟩ rfl rfl hw hfit hrm (fun b _ => kk b)
def f_J1_indexOf_4cfef (n0 : Nat) (x1 : Int32) (x2 : Int32) (x3 : Int32) : Option (Int32) :=
  (f_J1_canEncode_9a6ad x1).bind fun q1 => (if q1 = 0 then
    some (-1 : Int32)
  else
    (f_J9_max_7cf53 x2 0).bind fun q3 => (f_J9_min_7cf53 x3 (sln n0)).bind fun q4 => (if q3 < q4 then
      (f_J1_indexOfChar_4cfef n0 x1 q3 q4).bind fun q6 => some q6
    else
      some (-1 : Int32)))
set_option maxRecDepth 100000 in
theorem s_J1_indexOf_4cfef (g : Gm) (sz : Sto) (n0 : Nat) (x1 : Int32) (x2 : Int32) (x3 : Int32) (hn0 : n0 < 5) : Rf (cvI sz) (Em g 1) kJ1_indexOf_4cfef 0 [some (.ref ((Em g 1).1.2.2.2.2.2 n0)), some (.int x1), some (.int x2), some (.int x3)] [] sz (f_J1_indexOf_4cfef n0 x1 x2 x3) := by
  unfold f_J1_indexOf_4cfef
  refine r_iload_n dJ1_indexOf_4cfef_0 rfl ?_
  refine u_J1_canEncode_9a6ad (ok_J1_canEncode_9a6ad g sz x1) dJ1_indexOf_4cfef_1 ml_J1_88 (Nat.le_of_ble_eq_true rfl) (fits_m (by decide) (by decide)) room_m (fun q1 => ?_)
  refine r_ifne dJ1_indexOf_4cfef_4 (tgt := 9) (by decide) (fun c2 => ?_) (fun c2 => ?_)
  · refine r_iconst dJ1_indexOf_4cfef_7 ci_m1 ?_
    exact r_iret dJ1_indexOf_4cfef_8 rfl rfl
  · refine r_iload_n dJ1_indexOf_4cfef_9 rfl ?_
    refine r_iconst dJ1_indexOf_4cfef_10 ci_0 ?_
    refine u_J9_max_7cf53 (ok_J9_max_7cf53 g sz x2 0) dJ1_indexOf_4cfef_11 ml_J1_92 (Nat.le_of_ble_eq_true rfl) (fits_m (by decide) (by decide)) room_m (fun q3 => ?_)
    refine r_istore_n dJ1_indexOf_4cfef_14 rfl (lt_b rfl) (lt_b rfl) ?_
    refine r_iload_n dJ1_indexOf_4cfef_15 rfl ?_
    refine r_aload_n dJ1_indexOf_4cfef_16 rfl ?_
    refine g_slen dJ1_indexOf_4cfef_17 hn0 ?_
    refine u_J9_min_7cf53 (ok_J9_min_7cf53 g sz x3 (sln n0)) dJ1_indexOf_4cfef_18 ml_J1_38 (Nat.le_of_ble_eq_true rfl) (fits_m (by decide) (by decide)) room_m (fun q4 => ?_)
    refine r_istore_n dJ1_indexOf_4cfef_21 rfl (lt_b rfl) (lt_b rfl) ?_
    refine r_iload_n dJ1_indexOf_4cfef_22 rfl ?_
    refine r_iload_n dJ1_indexOf_4cfef_23 rfl ?_
    refine r_iclt dJ1_indexOf_4cfef_24 (tgt := 29) (by decide) (fun c5 => ?_) (fun c5 => ?_)
    · refine r_aload_n dJ1_indexOf_4cfef_29 rfl ?_
      refine r_iload_n dJ1_indexOf_4cfef_30 rfl ?_
      refine r_iload_n dJ1_indexOf_4cfef_31 rfl ?_
      refine r_iload_n dJ1_indexOf_4cfef_32 rfl ?_
      refine u_J1_indexOfChar_4cfef (ok_J1_indexOfChar_4cfef g sz n0 x1 q3 q4 hn0) dJ1_indexOf_4cfef_33 ml_J1_95 (Nat.le_of_ble_eq_true rfl) (fits_m (by decide) (by decide)) room_m (fun q6 => ?_)
      exact r_iret dJ1_indexOf_4cfef_36 rfl rfl
    · refine r_iconst dJ1_indexOf_4cfef_27 ci_m1 ?_
      exact r_iret dJ1_indexOf_4cfef_28 rfl rfl
theorem ok_J1_indexOf_4cfef (g : Gm) (sz : Sto) (n0 : Nat) (x1 : Int32) (x2 : Int32) (x3 : Int32) (hn0 : n0 < 5) : Ok g yJ1_indexOf_4cfef kJ1_indexOf_4cfef 1 [.ref ((Em g 1).1.2.2.2.2.2 n0), .int x1, .int x2, .int x3] sz (cvI sz) (f_J1_indexOf_4cfef n0 x1 x2 x3) := Ok.of (by decide) rfl (Nat.le_of_ble_eq_true rfl) (lv := [some (.ref ((Em g 1).1.2.2.2.2.2 n0)), some (.int x1), some (.int x2), some (.int x3)]) rfl (s_J1_indexOf_4cfef g sz n0 x1 x2 x3 hn0)
theorem u_J1_indexOf_4cfef {α : Type} {cv : α → Res} {E : EE} {K : KK} {pc npc idx d : Nat} {lv : List (Option Value)} {st : List Value} {σ : Sto} {oc : Option (Int32)} {kf : Int32 → Option α} {n0 : Nat} {x1 : Int32} {x2 : Int32} {x3 : Int32} (hOk : Ok E.1 yJ1_indexOf_4cfef kJ1_indexOf_4cfef d [.ref (E.1.2.2.2.2.2 n0), .int x1, .int x2, .int x3] σ (cvI σ) oc) (hd : Dc K pc (.invokestatic idx) 3 npc) (hlk : Cond.methodLink K.2.1 idx yJ1_indexOf_4cfef ∈ lw_good) (hw : (st.map fun v => v.category).sum ≤ 8) (hfit : fits_ E d 4) (hrm : room_ok E) (kk : ∀ q : Int32, Rf cv E K npc lv (.int q :: st) σ (kf q)) : Rf cv E K pc lv (.int x3 :: .int x2 :: .int x1 :: .ref (E.1.2.2.2.2.2 n0) :: st) σ (oc.bind kf) := c_S (n := 4) (as := [.ref (E.1.2.2.2.2.2 n0), .int x1, .int x2, .int x3]) hd hOk hlk wt_J1_indexOf_4cfef wn_J1 wc_J1_indexOf_4cfef ⟨by decide, by decide, by decide⟩ rfl rfl hw hfit hrm (fun b _ => kk b)
def f_J0_indexOf_7cf53 (n0 : Nat) (x1 : Int32) (x2 : Int32) : Option (Int32) :=
  (f_J0_isLatin1_aae02 n0).bind fun q1 => (if q1 = 0 then
    (f_J0_length_8abf5 n0).bind fun q3 => none
  else
    (f_J0_length_8abf5 n0).bind fun q4 => (f_J1_indexOf_4cfef n0 x1 x2 q4).bind fun q5 => some q5)
set_option maxRecDepth 100000 in
theorem s_J0_indexOf_7cf53 (g : Gm) (sz : Sto) (n0 : Nat) (x1 : Int32) (x2 : Int32) (hn0 : n0 < 5) : Rf (cvI sz) (Em g 2) kJ0_indexOf_7cf53 0 [some (.ref ((Em g 2).1.2.2.2.2.1 n0)), some (.int x1), some (.int x2)] [] sz (f_J0_indexOf_7cf53 n0 x1 x2) := by
  unfold f_J0_indexOf_7cf53
  refine r_aload_n dJ0_indexOf_7cf53_0 rfl ?_
  refine u_J0_isLatin1_aae02 (ok_J0_isLatin1_aae02 g sz n0 hn0) dJ0_indexOf_7cf53_1 ml_J0_492 hn0 (Nat.le_of_ble_eq_true rfl) (fits_m (by decide) (by decide)) room_m (fun q1 => ?_)
  refine r_ifeq dJ0_indexOf_7cf53_4 (tgt := 23) (by decide) (fun c2 => ?_) (fun c2 => ?_)
  · refine r_aload_n dJ0_indexOf_7cf53_23 rfl ?_
    refine g_sval dJ0_indexOf_7cf53_24 fl_J0_9 hn0 ?_
    refine r_iload_n dJ0_indexOf_7cf53_27 rfl ?_
    refine r_iload_n dJ0_indexOf_7cf53_28 rfl ?_
    refine r_aload_n dJ0_indexOf_7cf53_29 rfl ?_
    refine u_J0_length_8abf5 (ok_J0_length_8abf5 g sz n0 hn0) dJ0_indexOf_7cf53_30 ml_J0_505 hn0 (Nat.le_of_ble_eq_true rfl) (fits_m (by decide) (by decide)) room_m (fun q3 => ?_)
    exact r_none
  · refine r_aload_n dJ0_indexOf_7cf53_7 rfl ?_
    refine g_sval dJ0_indexOf_7cf53_8 fl_J0_9 hn0 ?_
    refine r_iload_n dJ0_indexOf_7cf53_11 rfl ?_
    refine r_iload_n dJ0_indexOf_7cf53_12 rfl ?_
    refine r_aload_n dJ0_indexOf_7cf53_13 rfl ?_
    refine u_J0_length_8abf5 (ok_J0_length_8abf5 g sz n0 hn0) dJ0_indexOf_7cf53_14 ml_J0_505 hn0 (Nat.le_of_ble_eq_true rfl) (fits_m (by decide) (by decide)) room_m (fun q4 => ?_)
    refine u_J1_indexOf_4cfef (ok_J1_indexOf_4cfef g sz n0 x1 x2 q4 hn0) dJ0_indexOf_7cf53_17 ml_J0_637 (Nat.le_of_ble_eq_true rfl) (fits_m (by decide) (by decide)) room_m (fun q5 => ?_)
    refine r_goto dJ0_indexOf_7cf53_20 (tgt := 36) (by decide) ?_
    exact r_iret dJ0_indexOf_7cf53_36 rfl rfl
theorem ok_J0_indexOf_7cf53 (g : Gm) (sz : Sto) (n0 : Nat) (x1 : Int32) (x2 : Int32) (hn0 : n0 < 5) : Ok g yJ0_indexOf_7cf53 kJ0_indexOf_7cf53 2 [.ref ((Em g 2).1.2.2.2.2.1 n0), .int x1, .int x2] sz (cvI sz) (f_J0_indexOf_7cf53 n0 x1 x2) := Ok.of (by decide) rfl (Nat.le_of_ble_eq_true rfl) (lv := [some (.ref ((Em g 2).1.2.2.2.2.1 n0)), some (.int x1), some (.int x2)]) rfl (s_J0_indexOf_7cf53 g sz n0 x1 x2 hn0)
theorem u_J0_indexOf_7cf53 {α : Type} {cv : α → Res} {E : EE} {K : KK} {pc npc idx d : Nat} {lv : List (Option Value)} {st : List Value} {σ : Sto} {oc : Option (Int32)} {kf : Int32 → Option α} {n0 : Nat} {x1 : Int32} {x2 : Int32} (hOk : Ok E.1 yJ0_indexOf_7cf53 kJ0_indexOf_7cf53 d [.ref (E.1.2.2.2.2.1 n0), .int x1, .int x2] σ (cvI σ) oc) (hd : Dc K pc (.invokevirtual idx) 3 npc) (hlk : Cond.methodLink K.2.1 idx yJ0_indexOf_7cf53 ∈ lw_good) (hi : n0 < 5) (hw : (st.map fun v => v.category).sum ≤ 8) (hfit : fits_ E d 3) (hrm : room_ok E) (kk : ∀ q : Int32, Rf cv E K npc lv (.int q :: st) σ (kf q)) : Rf cv E K pc lv (.int x2 :: .int x1 :: .ref (E.1.2.2.2.2.1 n0) :: st) σ (oc.bind kf) := c_VS (n := 2) (as := [.int x1, .int x2]) hd hOk hlk wi_J0_indexOf_7cf53 wv_J0_indexOf_7cf53 wn_J0 wc_J0_indexOf_7cf53 hi ⟨by decide, by decide, by decide⟩ rfl rfl hw hfit hrm (fun b _ => kk b)
def f_J0_indexOf_0f7a4 (n0 : Nat) (x1 : Int32) : Option (Int32) :=
  (f_J0_indexOf_7cf53 n0 x1 0).bind fun q1 => some q1
set_option maxRecDepth 100000 in
theorem s_J0_indexOf_0f7a4 (g : Gm) (sz : Sto) (n0 : Nat) (x1 : Int32) (hn0 : n0 < 5) : Rf (cvI sz) (Em g 3) kJ0_indexOf_0f7a4 0 [some (.ref ((Em g 3).1.2.2.2.2.1 n0)), some (.int x1)] [] sz (f_J0_indexOf_0f7a4 n0 x1) := by
  unfold f_J0_indexOf_0f7a4
  refine r_aload_n dJ0_indexOf_0f7a4_0 rfl ?_
  refine r_iload_n dJ0_indexOf_0f7a4_1 rfl ?_
  refine r_iconst dJ0_indexOf_0f7a4_2 ci_0 ?_
  refine u_J0_indexOf_7cf53 (ok_J0_indexOf_7cf53 g sz n0 x1 0 hn0) dJ0_indexOf_0f7a4_3 ml_J0_633 hn0 (Nat.le_of_ble_eq_true rfl) (fits_m (by decide) (by decide)) room_m (fun q1 => ?_)
  exact r_iret dJ0_indexOf_0f7a4_6 rfl rfl
theorem ok_J0_indexOf_0f7a4 (g : Gm) (sz : Sto) (n0 : Nat) (x1 : Int32) (hn0 : n0 < 5) : Ok g yJ0_indexOf_0f7a4 kJ0_indexOf_0f7a4 3 [.ref ((Em g 3).1.2.2.2.2.1 n0), .int x1] sz (cvI sz) (f_J0_indexOf_0f7a4 n0 x1) := Ok.of (by decide) rfl (Nat.le_of_ble_eq_true rfl) (lv := [some (.ref ((Em g 3).1.2.2.2.2.1 n0)), some (.int x1)]) rfl (s_J0_indexOf_0f7a4 g sz n0 x1 hn0)
theorem u_J0_indexOf_0f7a4 {α : Type} {cv : α → Res} {E : EE} {K : KK} {pc npc idx d : Nat} {lv : List (Option Value)} {st : List Value} {σ : Sto} {oc : Option (Int32)} {kf : Int32 → Option α} {n0 : Nat} {x1 : Int32} (hOk : Ok E.1 yJ0_indexOf_0f7a4 kJ0_indexOf_0f7a4 d [.ref (E.1.2.2.2.2.1 n0), .int x1] σ (cvI σ) oc) (hd : Dc K pc (.invokevirtual idx) 3 npc) (hlk : Cond.methodLink K.2.1 idx yJ0_indexOf_0f7a4 ∈ lw_good) (hi : n0 < 5) (hw : (st.map fun v => v.category).sum ≤ 8) (hfit : fits_ E d 2) (hrm : room_ok E) (kk : ∀ q : Int32, Rf cv E K npc lv (.int q :: st) σ (kf q)) : Rf cv E K pc lv (.int x1 :: .ref (E.1.2.2.2.2.1 n0) :: st) σ (oc.bind kf) := c_VS (n := 1) (as := [.int x1]) hd hOk hlk wi_J0_indexOf_0f7a4 wv_J0_indexOf_0f7a4 wn_J0 wc_J0_indexOf_0f7a4 hi ⟨by decide, by decide, by decide⟩ rfl rfl hw hfit hrm (fun b _ => kk b)
def f_X4_takeTest_L92 (s0 : Sto) (x1 : Int32) (x2 : Int32) : Option (Int32 × Sto) :=
  nm (sF s0 4 2 0 ((s0.1 4 2 0) + 1)) fun s6 => (f_X4_takeNumber s6).bind fun q7 => (if q7.1 = 0 then
    some (0, q7.2)
  else
    (if q7.2.2.2.2 < 8 then (f_X1_add q7.2 q7.2.2.2.2 x2 x1 (q7.2.1 4 3 0)).bind fun q10 => some (1, q10) else none))
def f_X4_takeTest_L71 (s0 : Sto) (x1 : Int32) (y0 : Int32) : Option (Int32 × Sto) :=
  (if y0 = 60 then
    f_X4_takeTest_L92 s0 x1 y0
  else
    (if y0 = 61 then
      f_X4_takeTest_L92 s0 x1 y0
    else
      (if y0 = 62 then
        f_X4_takeTest_L92 s0 x1 y0
      else
        some (0, s0))))
def f_X4_takeTest_L30 (s0 : Sto) (y0 : Int32) : Option (Int32 × Sto) :=
  (if 0 ≤ y0 then
    nm (sF s0 4 2 0 ((s0.1 4 2 0) + 1)) fun s3 => (if (s3.1 4 1 0) ≤ (s3.1 4 2 0) then
      f_X4_takeTest_L71 s3 y0 0
    else
      (if 0 ≤ (s3.1 4 2 0) ∧ (s3.1 4 2 0) < 100 then f_X4_takeTest_L71 s3 y0 (s3.2.1 4 0 0 (Int32.toNatClampNeg (s3.1 4 2 0))) else none))
  else
    some (0, s0))
def f_X4_takeTest (s0 : Sto) : Option (Int32 × Sto) :=
  (if (s0.1 4 1 0) ≤ (s0.1 4 2 0) then
    f_X4_takeTest_L30 s0 (-1 : Int32)
  else
    (if 0 ≤ (s0.1 4 2 0) ∧ (s0.1 4 2 0) < 100 then (f_J0_indexOf_0f7a4 3 (UInt32.toInt32 (Int32.toUInt32 (s0.2.1 4 0 0 (Int32.toNatClampNeg (s0.1 4 2 0))) % 65536))).bind fun q17 => f_X4_takeTest_L30 s0 q17 else none))
set_option maxRecDepth 100000 in
theorem s_X4_takeTest_L92 (g : Gm) (s0 : Sto) (x1 : Int32) (x2 : Int32) : Rf cvIw (Em g 4) kX4_takeTest 92 [some (.ref ((Em g 4).1.1 4 0 0)), some (.int x1), some (.int x2)] [] s0 (f_X4_takeTest_L92 s0 x1 x2) := by
  unfold f_X4_takeTest_L92
  refine r_aload_n dX4_takeTest_92 rfl ?_
  refine r_dup dX4_takeTest_93 rfl ?_
  refine gf_X4_19 rfl dX4_takeTest_94 ?_
  refine r_iconst dX4_takeTest_97 ci_1 ?_
  refine r_iadd dX4_takeTest_98 ?_
  refine pf_X4_19 rfl dX4_takeTest_99 (fun s6 => ?_)
  refine r_aload_n dX4_takeTest_102 rfl ?_
  refine u_X4_takeNumber (ok_X4_takeNumber g s6) dX4_takeTest_103 ml_X4_62 (Nat.le_of_ble_eq_true rfl) (fits_m (by decide) (by decide)) room_m (fun q7 => ?_)
  refine r_ifne dX4_takeTest_106 (tgt := 111) (by decide) (fun c8 => ?_) (fun c8 => ?_)
  · refine r_iconst dX4_takeTest_109 ci_0 ?_
    exact r_zret dX4_takeTest_110 rfl rfl rfl
  · refine r_aload_n dX4_takeTest_111 rfl ?_
    refine gf_X4_28 rfl dX4_takeTest_112 ?_
    refine r_gd (fun h9 => ?_)
    refine r_iload_n dX4_takeTest_115 rfl ?_
    refine r_iload_n dX4_takeTest_116 rfl ?_
    refine r_aload_n dX4_takeTest_117 rfl ?_
    refine gf_X4_22 rfl dX4_takeTest_118 ?_
    refine un_X1_add (ok_X1_add g q7.2 q7.2.2.2.2 x2 x1 (q7.2.1 4 3 0) h9) dX4_takeTest_121 mn_X4_71 h9 (Nat.le_of_ble_eq_true rfl) (fits_m (by decide) (by decide)) room_m (fun q10 => ?_)
    refine r_iconst dX4_takeTest_124 ci_1 ?_
    exact r_zret dX4_takeTest_125 rfl rfl rfl
set_option maxRecDepth 100000 in
theorem s_X4_takeTest_L71 (g : Gm) (s0 : Sto) (x1 : Int32) (y0 : Int32) : Rf cvIw (Em g 4) kX4_takeTest 71 [some (.ref ((Em g 4).1.1 4 0 0)), some (.int x1), none] [.int y0] s0 (f_X4_takeTest_L71 s0 x1 y0) := by
  unfold f_X4_takeTest_L71
  refine r_istore_n dX4_takeTest_71 rfl (lt_b rfl) (lt_b rfl) ?_
  refine r_iload_n dX4_takeTest_72 rfl ?_
  refine r_bipush dX4_takeTest_73 cb_60 ?_
  refine r_iceq dX4_takeTest_75 (tgt := 92) (by decide) (fun c5 => ?_) (fun c5 => ?_)
  · exact r_mask [true, true, true] (s_X4_takeTest_L92 g s0 x1 y0)
  · refine r_iload_n dX4_takeTest_78 rfl ?_
    refine r_bipush dX4_takeTest_79 cb_61 ?_
    refine r_iceq dX4_takeTest_81 (tgt := 92) (by decide) (fun c11 => ?_) (fun c11 => ?_)
    · exact r_mask [true, true, true] (s_X4_takeTest_L92 g s0 x1 y0)
    · refine r_iload_n dX4_takeTest_84 rfl ?_
      refine r_bipush dX4_takeTest_85 cb_62 ?_
      refine r_iceq dX4_takeTest_87 (tgt := 92) (by decide) (fun c12 => ?_) (fun c12 => ?_)
      · exact r_mask [true, true, true] (s_X4_takeTest_L92 g s0 x1 y0)
      · refine r_iconst dX4_takeTest_90 ci_0 ?_
        exact r_zret dX4_takeTest_91 rfl rfl rfl
set_option maxRecDepth 100000 in
theorem s_X4_takeTest_L30 (g : Gm) (s0 : Sto) (y0 : Int32) : Rf cvIw (Em g 4) kX4_takeTest 30 [some (.ref ((Em g 4).1.1 4 0 0)), none, none] [.int y0] s0 (f_X4_takeTest_L30 s0 y0) := by
  unfold f_X4_takeTest_L30
  refine r_istore_n dX4_takeTest_30 rfl (lt_b rfl) (lt_b rfl) ?_
  refine r_iload_n dX4_takeTest_31 rfl ?_
  refine r_ifge dX4_takeTest_32 (tgt := 37) (by decide) (fun c2 => ?_) (fun c2 => ?_)
  · refine r_aload_n dX4_takeTest_37 rfl ?_
    refine r_dup dX4_takeTest_38 rfl ?_
    refine gf_X4_19 rfl dX4_takeTest_39 ?_
    refine r_iconst dX4_takeTest_42 ci_1 ?_
    refine r_iadd dX4_takeTest_43 ?_
    refine pf_X4_19 rfl dX4_takeTest_44 (fun s3 => ?_)
    refine r_aload_n dX4_takeTest_47 rfl ?_
    refine gf_X4_19 rfl dX4_takeTest_48 ?_
    refine r_aload_n dX4_takeTest_51 rfl ?_
    refine gf_X4_15 rfl dX4_takeTest_52 ?_
    refine r_icge dX4_takeTest_55 (tgt := 70) (by decide) (fun c4 => ?_) (fun c4 => ?_)
    · refine r_iconst dX4_takeTest_70 ci_0 ?_
      exact r_mask [true, true, false] (s_X4_takeTest_L71 g s3 y0 0)
    · refine r_aload_n dX4_takeTest_58 rfl ?_
      refine gf_X4_9 rfl dX4_takeTest_59 ?_
      refine r_aload_n dX4_takeTest_62 rfl ?_
      refine gf_X4_19 rfl dX4_takeTest_63 ?_
      refine al_4_0 dX4_takeTest_66 (fun hg13 hj14 => ?_)
      refine r_goto dX4_takeTest_67 (tgt := 71) (by decide) ?_
      exact r_mask [true, true, false] (s_X4_takeTest_L71 g s3 y0 (s3.2.1 4 0 0 (Int32.toNatClampNeg (s3.1 4 2 0))))
  · refine r_iconst dX4_takeTest_35 ci_0 ?_
    exact r_zret dX4_takeTest_36 rfl rfl rfl
set_option maxRecDepth 100000 in
theorem s_X4_takeTest (g : Gm) (s0 : Sto) : Rf cvIw (Em g 4) kX4_takeTest 0 [some (.ref ((Em g 4).1.1 4 0 0)), none, none] [] s0 (f_X4_takeTest s0) := by
  unfold f_X4_takeTest
  refine r_aload_n dX4_takeTest_0 rfl ?_
  refine gf_X4_19 rfl dX4_takeTest_1 ?_
  refine r_aload_n dX4_takeTest_4 rfl ?_
  refine gf_X4_15 rfl dX4_takeTest_5 ?_
  refine r_icge dX4_takeTest_8 (tgt := 29) (by decide) (fun c1 => ?_) (fun c1 => ?_)
  · refine r_iconst dX4_takeTest_29 ci_m1 ?_
    exact r_mask [true, false, false] (s_X4_takeTest_L30 g s0 (-1 : Int32))
  · refine r_ldcS dX4_takeTest_11 st_X4_81 ?_
    refine r_aload_n dX4_takeTest_13 rfl ?_
    refine gf_X4_9 rfl dX4_takeTest_14 ?_
    refine r_aload_n dX4_takeTest_17 rfl ?_
    refine gf_X4_19 rfl dX4_takeTest_18 ?_
    refine al_4_0 dX4_takeTest_21 (fun hg15 hj16 => ?_)
    refine r_i2c dX4_takeTest_22 ?_
    refine u_J0_indexOf_0f7a4 (ok_J0_indexOf_0f7a4 g s0 3 (UInt32.toInt32 (Int32.toUInt32 (s0.2.1 4 0 0 (Int32.toNatClampNeg (s0.1 4 2 0))) % 65536)) (by decide)) dX4_takeTest_23 ml_X4_83 (by decide) (Nat.le_of_ble_eq_true rfl) (fits_m (by decide) (by decide)) room_m (fun q17 => ?_)
    refine r_goto dX4_takeTest_26 (tgt := 30) (by decide) ?_
    exact r_mask [true, false, false] (s_X4_takeTest_L30 g s0 q17)
theorem ok_X4_takeTest (g : Gm) (s0 : Sto) : Ok g yX4_takeTest kX4_takeTest 4 [.ref ((Em g 4).1.1 4 0 0)] s0 cvIw (f_X4_takeTest s0) := Ok.of (by decide) rfl (Nat.le_of_ble_eq_true rfl) (lv := [some (.ref ((Em g 4).1.1 4 0 0)), none, none]) rfl (s_X4_takeTest g s0)
theorem u_X4_takeTest {α : Type} {cv : α → Res} {E : EE} {K : KK} {pc npc idx d : Nat} {lv : List (Option Value)} {st : List Value} {σ : Sto} {oc : Option (Int32 × Sto)} {kf : (Int32 × Sto) → Option α} (hOk : Ok E.1 yX4_takeTest kX4_takeTest d [.ref (E.1.1 4 0 0)] σ cvIw oc) (hd : Dc K pc (.invokevirtual idx) 3 npc) (hlk : Cond.methodLink K.2.1 idx yX4_takeTest ∈ lw_good) (hw : (st.map fun v => v.category).sum ≤ 8) (hfit : fits_ E d 3) (hrm : room_ok E) (kk : ∀ q : Int32 × Sto, Rf cv E K npc lv (.int q.1 :: st) q.2 (kf q)) : Rf cv E K pc lv (.ref (E.1.1 4 0 0) :: st) σ (oc.bind kf) := c_V (n := 0) (as := []) (c0 := 4) (i := 0) (CC := "ThawGives$Text") (T := TX4) (N := 5) hd hOk hlk wi_X4_takeTest wv_X4_takeTest wn_X4 wc_X4_takeTest rfl (by decide) (by decide) ⟨by decide, by decide, by decide⟩ rfl rfl hw hfit hrm (fun b _ => kk b)
theorem un_X4_takeTest {α : Type} {cv : α → Res} {E : EE} {K : KK} {pc npc idx d : Nat} {lv : List (Option Value)} {st : List Value} {σ : Sto} {oc : Option (Int32 × Sto)} {kf : (Int32 × Sto) → Option α} (hOk : Ok E.1 yX4_takeTest kX4_takeTest d [.ref (E.1.1 4 0 0)] σ cvIw oc) (hd : Dc K pc (.invokevirtual idx) 3 npc) (hlk : Cond.methodLinkNest K.2.1 idx yX4_takeTest "ThawGives" ∈ lw_nest) (hw : (st.map fun v => v.category).sum ≤ 8) (hfit : fits_ E d 3) (hrm : room_ok E) (kk : ∀ q : Int32 × Sto, Rf cv E K npc lv (.int q.1 :: st) q.2 (kf q)) : Rf cv E K pc lv (.ref (E.1.1 4 0 0) :: st) σ (oc.bind kf) := c_N (n := 0) (as := []) (c0 := 4) (i := 0) (CC := "ThawGives$Text") (T := TX4) (N := 5) hd hOk hlk wi_X4_takeTest wv_X4_takeTest wn_X4 wc_X4_takeTest rfl (by decide) (by decide) ⟨by decide, by decide, by decide⟩ rfl rfl hw hfit hrm (fun b _ => kk b)
theorem u_X4_takePart {α : Type} {cv : α → Res} {E : EE} {K : KK} {pc npc idx d : Nat} {lv : List (Option Value)} {st : List Value} {σ : Sto} {oc : Option (Int32 × Sto)} {kf : (Int32 × Sto) → Option α} {x1 : Int32} (hOk : Ok E.1 yX4_takePart kX4_takePart d [.ref (E.1.1 4 0 0), .int x1] σ cvIw oc) (hd : Dc K pc (.invokevirtual idx) 3 npc) (hlk : Cond.methodLink K.2.1 idx yX4_takePart ∈ lw_good) (hw : (st.map fun v => v.category).sum ≤ 8) (hfit : fits_ E d 2) (hrm : room_ok E) (kk : ∀ q : Int32 × Sto, Rf cv E K npc lv (.int q.1 :: st) q.2 (kf q)) : Rf cv E K pc lv (.int x1 :: .ref (E.1.1 4 0 0) :: st) σ (oc.bind kf) := c_V (n := 1) (as := [.int x1]) (c0 := 4) (i := 0) (CC := "ThawGives$Text") (T := TX4) (N := 5) hd hOk hlk wi_X4_takePart wv_X4_takePart wn_X4 wc_X4_takePart rfl (by decide) (by decide) ⟨by decide, by decide, by decide⟩ rfl rfl hw hfit hrm (fun b _ => kk b)
theorem un_X4_takePart {α : Type} {cv : α → Res} {E : EE} {K : KK} {pc npc idx d : Nat} {lv : List (Option Value)} {st : List Value} {σ : Sto} {oc : Option (Int32 × Sto)} {kf : (Int32 × Sto) → Option α} {x1 : Int32} (hOk : Ok E.1 yX4_takePart kX4_takePart d [.ref (E.1.1 4 0 0), .int x1] σ cvIw oc) (hd : Dc K pc (.invokevirtual idx) 3 npc) (hlk : Cond.methodLinkNest K.2.1 idx yX4_takePart "ThawGives" ∈ lw_nest) (hw : (st.map fun v => v.category).sum ≤ 8) (hfit : fits_ E d 2) (hrm : room_ok E) (kk : ∀ q : Int32 × Sto, Rf cv E K npc lv (.int q.1 :: st) q.2 (kf q)) : Rf cv E K pc lv (.int x1 :: .ref (E.1.1 4 0 0) :: st) σ (oc.bind kf) := c_N (n := 1) (as := [.int x1]) (c0 := 4) (i := 0) (CC := "ThawGives$Text") (T := TX4) (N := 5) hd hOk hlk wi_X4_takePart wv_X4_takePart wn_X4 wc_X4_takePart rfl (by decide) (by decide) ⟨by decide, by decide, by decide⟩ rfl rfl hw hfit hrm (fun b _ => kk b)
def f_X4_takeEither_L138 (q : Sto → Int32 → Option (Int32 × Sto)) (s0 : Sto) (x2 : Int32) : Option (Int32 × Sto) :=
  (if x2 = 0 then
    some (1, s0)
  else
    (if s0.2.2.2 < 8 then (f_X1_add s0 s0.2.2.2 124 0 0).bind fun q6 => some (1, q6) else none))
def f_X4_takeEither_L107 (q : Sto → Int32 → Option (Int32 × Sto)) (k12 : Sto → Int32 → Int32 → Option (Int32 × Sto)) (s0 : Sto) (x1 : Int32) (x3 : Int32) (y0 : Int32) : Option (Int32 × Sto) :=
  (q s0 x1).bind fun q16 => (if q16.1 = 0 then
    some (0, q16.2)
  else
    (if x3 = 38 then
      (if q16.2.2.2.2 < 8 then (f_X1_add q16.2 q16.2.2.2.2 38 0 0).bind fun q20 => k12 q20 x1 y0 else none)
    else
      k12 q16.2 x1 y0))
def f_X4_takeEither_L102 (q : Sto → Int32 → Option (Int32 × Sto)) (k12 : Sto → Int32 → Int32 → Option (Int32 × Sto)) (s0 : Sto) (x1 : Int32) (x3 : Int32) : Option (Int32 × Sto) :=
  f_X4_takeEither_L107 q k12 s0 x1 x3 1
def f_X4_takeEither_L92 (q : Sto → Int32 → Option (Int32 × Sto)) (k12 : Sto → Int32 → Int32 → Option (Int32 × Sto)) (s0 : Sto) (x1 : Int32) (x2 : Int32) (x3 : Int32) : Option (Int32 × Sto) :=
  (if x2 = 0 then
    (if x3 = 124 then
      f_X4_takeEither_L102 q k12 s0 x1 x3
    else
      f_X4_takeEither_L107 q k12 s0 x1 x3 0)
  else
    f_X4_takeEither_L102 q k12 s0 x1 x3)
def f_X4_takeEither_L51 (q : Sto → Int32 → Option (Int32 × Sto)) (k12 : Sto → Int32 → Int32 → Option (Int32 × Sto)) (s0 : Sto) (x1 : Int32) (x2 : Int32) : Option (Int32 × Sto) :=
  (if 0 ≤ (s0.1 4 2 0) ∧ (s0.1 4 2 0) < 100 then nmI ((s0.2.1 4 0 0 (Int32.toNatClampNeg (s0.1 4 2 0)))) fun v12 => nm (sF s0 4 2 0 ((s0.1 4 2 0) + 1)) fun s13 => (if v12 = 124 then
    (if x2 = 0 then
      f_X4_takeEither_L92 q k12 s13 x1 x2 v12
    else
      (if s13.2.2.2 < 8 then (f_X1_add s13 s13.2.2.2 124 0 0).bind fun q24 => f_X4_takeEither_L92 q k12 q24 x1 x2 v12 else none))
  else
    f_X4_takeEither_L92 q k12 s13 x1 x2 v12) else none)
def f_X4_takeEither_B12 (q : Sto → Int32 → Option (Int32 × Sto)) (k12 : Sto → Int32 → Int32 → Option (Int32 × Sto)) (s0 : Sto) (x1 : Int32) (x2 : Int32) : Option (Int32 × Sto) :=
  (if (s0.1 4 1 0) ≤ (s0.1 4 2 0) then
    f_X4_takeEither_L138 q s0 x2
  else
    (if 0 ≤ (s0.1 4 2 0) ∧ (s0.1 4 2 0) < 100 then (if (s0.2.1 4 0 0 (Int32.toNatClampNeg (s0.1 4 2 0))) = 38 then
      f_X4_takeEither_L51 q k12 s0 x1 x2
    else
      (if 0 ≤ (s0.1 4 2 0) ∧ (s0.1 4 2 0) < 100 then (if (s0.2.1 4 0 0 (Int32.toNatClampNeg (s0.1 4 2 0))) = 124 then
        f_X4_takeEither_L51 q k12 s0 x1 x2
      else
        f_X4_takeEither_L138 q s0 x2) else none)) else none))
def f_X4_takeEither_L12 (q : Sto → Int32 → Option (Int32 × Sto)) : Nat → Sto → Int32 → Int32 → Option (Int32 × Sto)
  | 0 => fun _ _ _ => none
  | n + 1 => f_X4_takeEither_B12 q (f_X4_takeEither_L12 q n)
def f_X4_takeEither (q : Sto → Int32 → Option (Int32 × Sto)) (s0 : Sto) (x1 : Int32) : Option (Int32 × Sto) :=
  (q s0 x1).bind fun q1 => (if q1.1 = 0 then
    some (0, q1.2)
  else
    f_X4_takeEither_L12 q 1000 q1.2 x1 0)
set_option maxRecDepth 100000 in
theorem s_X4_takeEither_L138 (g : Gm) (D0 : Nat) (hD0 : 5 ≤ D0) (q : Sto → Int32 → Option (Int32 × Sto)) (hq : ∀ (s0 : Sto) (x1 : Int32), Ok g yX4_takePart kX4_takePart D0 [.ref (g.1 4 0 0), .int x1] s0 cvIw (q s0 x1)) (s0 : Sto) (x2 : Int32) : Rf cvIw (Em g (D0 + 1)) kX4_takeEither 138 [some (.ref ((Em g (D0 + 1)).1.1 4 0 0)), none, some (.int x2), none] [] s0 (f_X4_takeEither_L138 q s0 x2) := by
  unfold f_X4_takeEither_L138
  refine r_iload_n dX4_takeEither_138 rfl ?_
  refine r_ifeq dX4_takeEither_139 (tgt := 153) (by decide) (fun c4 => ?_) (fun c4 => ?_)
  · refine r_iconst dX4_takeEither_153 ci_1 ?_
    exact r_zret dX4_takeEither_154 rfl rfl rfl
  · refine r_aload_n dX4_takeEither_142 rfl ?_
    refine gf_X4_28 rfl dX4_takeEither_143 ?_
    refine r_gd (fun h5 => ?_)
    refine r_bipush dX4_takeEither_146 cb_124 ?_
    refine r_iconst dX4_takeEither_148 ci_0 ?_
    refine r_iconst dX4_takeEither_149 ci_0 ?_
    refine un_X1_add (ok_X1_add g s0 s0.2.2.2 124 0 0 h5) dX4_takeEither_150 mn_X4_71 h5 (Nat.le_of_ble_eq_true rfl) (fits_m (by omega) (by decide)) room_m (fun q6 => ?_)
    refine r_iconst dX4_takeEither_153 ci_1 ?_
    exact r_zret dX4_takeEither_154 rfl rfl rfl
set_option maxRecDepth 100000 in
theorem s_X4_takeEither_L107 (g : Gm) (D0 : Nat) (hD0 : 5 ≤ D0) (q : Sto → Int32 → Option (Int32 × Sto)) (hq : ∀ (s0 : Sto) (x1 : Int32), Ok g yX4_takePart kX4_takePart D0 [.ref (g.1 4 0 0), .int x1] s0 cvIw (q s0 x1)) (k12 : Sto → Int32 → Int32 → Option (Int32 × Sto)) (hk12 : ∀ (s0 : Sto) (x1 : Int32) (x2 : Int32), Rf cvIw (Em g (D0 + 1)) kX4_takeEither 12 [some (.ref ((Em g (D0 + 1)).1.1 4 0 0)), some (.int x1), some (.int x2), none] [] s0 (k12 s0 x1 x2)) (s0 : Sto) (x1 : Int32) (x3 : Int32) (y0 : Int32) : Rf cvIw (Em g (D0 + 1)) kX4_takeEither 107 [some (.ref ((Em g (D0 + 1)).1.1 4 0 0)), some (.int x1), none, some (.int x3)] [.int y0] s0 (f_X4_takeEither_L107 q k12 s0 x1 x3 y0) := by
  unfold f_X4_takeEither_L107
  refine r_istore_n dX4_takeEither_107 rfl (lt_b rfl) (lt_b rfl) ?_
  refine r_aload_n dX4_takeEither_108 rfl ?_
  refine r_iload_n dX4_takeEither_109 rfl ?_
  refine u_X4_takePart (hq s0 x1) dX4_takeEither_110 ml_X4_75 (Nat.le_of_ble_eq_true rfl) (fits_m (by omega) (by decide)) room_m (fun q16 => ?_)
  refine r_ifne dX4_takeEither_113 (tgt := 118) (by decide) (fun c17 => ?_) (fun c17 => ?_)
  · refine r_iconst dX4_takeEither_116 ci_0 ?_
    exact r_zret dX4_takeEither_117 rfl rfl rfl
  · refine r_iload_n dX4_takeEither_118 rfl ?_
    refine r_bipush dX4_takeEither_119 cb_38 ?_
    refine r_icne dX4_takeEither_121 (tgt := 135) (by decide) (fun c18 => ?_) (fun c18 => ?_)
    · refine r_aload_n dX4_takeEither_124 rfl ?_
      refine gf_X4_28 rfl dX4_takeEither_125 ?_
      refine r_gd (fun h19 => ?_)
      refine r_bipush dX4_takeEither_128 cb_38 ?_
      refine r_iconst dX4_takeEither_130 ci_0 ?_
      refine r_iconst dX4_takeEither_131 ci_0 ?_
      refine un_X1_add (ok_X1_add g q16.2 q16.2.2.2.2 38 0 0 h19) dX4_takeEither_132 mn_X4_71 h19 (Nat.le_of_ble_eq_true rfl) (fits_m (by omega) (by decide)) room_m (fun q20 => ?_)
      refine r_goto dX4_takeEither_135 (tgt := 12) (by decide) ?_
      exact r_mask [true, true, true, false] (hk12 q20 x1 y0)
    · refine r_goto dX4_takeEither_135 (tgt := 12) (by decide) ?_
      exact r_mask [true, true, true, false] (hk12 q16.2 x1 y0)
set_option maxRecDepth 100000 in
theorem s_X4_takeEither_L102 (g : Gm) (D0 : Nat) (hD0 : 5 ≤ D0) (q : Sto → Int32 → Option (Int32 × Sto)) (hq : ∀ (s0 : Sto) (x1 : Int32), Ok g yX4_takePart kX4_takePart D0 [.ref (g.1 4 0 0), .int x1] s0 cvIw (q s0 x1)) (k12 : Sto → Int32 → Int32 → Option (Int32 × Sto)) (hk12 : ∀ (s0 : Sto) (x1 : Int32) (x2 : Int32), Rf cvIw (Em g (D0 + 1)) kX4_takeEither 12 [some (.ref ((Em g (D0 + 1)).1.1 4 0 0)), some (.int x1), some (.int x2), none] [] s0 (k12 s0 x1 x2)) (s0 : Sto) (x1 : Int32) (x3 : Int32) : Rf cvIw (Em g (D0 + 1)) kX4_takeEither 102 [some (.ref ((Em g (D0 + 1)).1.1 4 0 0)), some (.int x1), none, some (.int x3)] [] s0 (f_X4_takeEither_L102 q k12 s0 x1 x3) := by
  unfold f_X4_takeEither_L102
  refine r_iconst dX4_takeEither_102 ci_1 ?_
  refine r_goto dX4_takeEither_103 (tgt := 107) (by decide) ?_
  exact r_mask [true, true, false, true] (s_X4_takeEither_L107 g D0 hD0 q hq k12 hk12 s0 x1 x3 1)
set_option maxRecDepth 100000 in
theorem s_X4_takeEither_L92 (g : Gm) (D0 : Nat) (hD0 : 5 ≤ D0) (q : Sto → Int32 → Option (Int32 × Sto)) (hq : ∀ (s0 : Sto) (x1 : Int32), Ok g yX4_takePart kX4_takePart D0 [.ref (g.1 4 0 0), .int x1] s0 cvIw (q s0 x1)) (k12 : Sto → Int32 → Int32 → Option (Int32 × Sto)) (hk12 : ∀ (s0 : Sto) (x1 : Int32) (x2 : Int32), Rf cvIw (Em g (D0 + 1)) kX4_takeEither 12 [some (.ref ((Em g (D0 + 1)).1.1 4 0 0)), some (.int x1), some (.int x2), none] [] s0 (k12 s0 x1 x2)) (s0 : Sto) (x1 : Int32) (x2 : Int32) (x3 : Int32) : Rf cvIw (Em g (D0 + 1)) kX4_takeEither 92 [some (.ref ((Em g (D0 + 1)).1.1 4 0 0)), some (.int x1), some (.int x2), some (.int x3)] [] s0 (f_X4_takeEither_L92 q k12 s0 x1 x2 x3) := by
  unfold f_X4_takeEither_L92
  refine r_iload_n dX4_takeEither_92 rfl ?_
  refine r_ifne dX4_takeEither_93 (tgt := 102) (by decide) (fun c15 => ?_) (fun c15 => ?_)
  · refine r_iload_n dX4_takeEither_96 rfl ?_
    refine r_bipush dX4_takeEither_97 cb_124 ?_
    refine r_icne dX4_takeEither_99 (tgt := 106) (by decide) (fun c21 => ?_) (fun c21 => ?_)
    · exact r_mask [true, true, false, true] (s_X4_takeEither_L102 g D0 hD0 q hq k12 hk12 s0 x1 x3)
    · refine r_iconst dX4_takeEither_106 ci_0 ?_
      exact r_mask [true, true, false, true] (s_X4_takeEither_L107 g D0 hD0 q hq k12 hk12 s0 x1 x3 0)
  · exact r_mask [true, true, false, true] (s_X4_takeEither_L102 g D0 hD0 q hq k12 hk12 s0 x1 x3)
set_option maxRecDepth 100000 in
theorem s_X4_takeEither_L51 (g : Gm) (D0 : Nat) (hD0 : 5 ≤ D0) (q : Sto → Int32 → Option (Int32 × Sto)) (hq : ∀ (s0 : Sto) (x1 : Int32), Ok g yX4_takePart kX4_takePart D0 [.ref (g.1 4 0 0), .int x1] s0 cvIw (q s0 x1)) (k12 : Sto → Int32 → Int32 → Option (Int32 × Sto)) (hk12 : ∀ (s0 : Sto) (x1 : Int32) (x2 : Int32), Rf cvIw (Em g (D0 + 1)) kX4_takeEither 12 [some (.ref ((Em g (D0 + 1)).1.1 4 0 0)), some (.int x1), some (.int x2), none] [] s0 (k12 s0 x1 x2)) (s0 : Sto) (x1 : Int32) (x2 : Int32) : Rf cvIw (Em g (D0 + 1)) kX4_takeEither 51 [some (.ref ((Em g (D0 + 1)).1.1 4 0 0)), some (.int x1), some (.int x2), none] [] s0 (f_X4_takeEither_L51 q k12 s0 x1 x2) := by
  unfold f_X4_takeEither_L51
  refine r_aload_n dX4_takeEither_51 rfl ?_
  refine gf_X4_9 rfl dX4_takeEither_52 ?_
  refine r_aload_n dX4_takeEither_55 rfl ?_
  refine gf_X4_19 rfl dX4_takeEither_56 ?_
  refine al_4_0 dX4_takeEither_59 (fun hg10 hj11 => ?_)
  refine r_istore_nN dX4_takeEither_60 rfl (lt_b rfl) (lt_b rfl) (fun v12 => ?_)
  refine r_aload_n dX4_takeEither_61 rfl ?_
  refine r_dup dX4_takeEither_62 rfl ?_
  refine gf_X4_19 rfl dX4_takeEither_63 ?_
  refine r_iconst dX4_takeEither_66 ci_1 ?_
  refine r_iadd dX4_takeEither_67 ?_
  refine pf_X4_19 rfl dX4_takeEither_68 (fun s13 => ?_)
  refine r_iload_n dX4_takeEither_71 rfl ?_
  refine r_bipush dX4_takeEither_72 cb_124 ?_
  refine r_icne dX4_takeEither_74 (tgt := 92) (by decide) (fun c14 => ?_) (fun c14 => ?_)
  · refine r_iload_n dX4_takeEither_77 rfl ?_
    refine r_ifeq dX4_takeEither_78 (tgt := 92) (by decide) (fun c22 => ?_) (fun c22 => ?_)
    · exact r_mask [true, true, true, true] (s_X4_takeEither_L92 g D0 hD0 q hq k12 hk12 s13 x1 x2 v12)
    · refine r_aload_n dX4_takeEither_81 rfl ?_
      refine gf_X4_28 rfl dX4_takeEither_82 ?_
      refine r_gd (fun h23 => ?_)
      refine r_bipush dX4_takeEither_85 cb_124 ?_
      refine r_iconst dX4_takeEither_87 ci_0 ?_
      refine r_iconst dX4_takeEither_88 ci_0 ?_
      refine un_X1_add (ok_X1_add g s13 s13.2.2.2 124 0 0 h23) dX4_takeEither_89 mn_X4_71 h23 (Nat.le_of_ble_eq_true rfl) (fits_m (by omega) (by decide)) room_m (fun q24 => ?_)
      exact r_mask [true, true, true, true] (s_X4_takeEither_L92 g D0 hD0 q hq k12 hk12 q24 x1 x2 v12)
  · exact r_mask [true, true, true, true] (s_X4_takeEither_L92 g D0 hD0 q hq k12 hk12 s13 x1 x2 v12)
set_option maxRecDepth 100000 in
theorem s_X4_takeEither_B12 (g : Gm) (D0 : Nat) (hD0 : 5 ≤ D0) (q : Sto → Int32 → Option (Int32 × Sto)) (hq : ∀ (s0 : Sto) (x1 : Int32), Ok g yX4_takePart kX4_takePart D0 [.ref (g.1 4 0 0), .int x1] s0 cvIw (q s0 x1)) (k12 : Sto → Int32 → Int32 → Option (Int32 × Sto)) (hk12 : ∀ (s0 : Sto) (x1 : Int32) (x2 : Int32), Rf cvIw (Em g (D0 + 1)) kX4_takeEither 12 [some (.ref ((Em g (D0 + 1)).1.1 4 0 0)), some (.int x1), some (.int x2), none] [] s0 (k12 s0 x1 x2)) (s0 : Sto) (x1 : Int32) (x2 : Int32) : Rf cvIw (Em g (D0 + 1)) kX4_takeEither 12 [some (.ref ((Em g (D0 + 1)).1.1 4 0 0)), some (.int x1), some (.int x2), none] [] s0 (f_X4_takeEither_B12 q k12 s0 x1 x2) := by
  unfold f_X4_takeEither_B12
  refine r_aload_n dX4_takeEither_12 rfl ?_
  refine gf_X4_19 rfl dX4_takeEither_13 ?_
  refine r_aload_n dX4_takeEither_16 rfl ?_
  refine gf_X4_15 rfl dX4_takeEither_17 ?_
  refine r_icge dX4_takeEither_20 (tgt := 138) (by decide) (fun c3 => ?_) (fun c3 => ?_)
  · exact r_mask [true, false, true, false] (s_X4_takeEither_L138 g D0 hD0 q hq s0 x2)
  · refine r_aload_n dX4_takeEither_23 rfl ?_
    refine gf_X4_9 rfl dX4_takeEither_24 ?_
    refine r_aload_n dX4_takeEither_27 rfl ?_
    refine gf_X4_19 rfl dX4_takeEither_28 ?_
    refine al_4_0 dX4_takeEither_31 (fun hg7 hj8 => ?_)
    refine r_bipush dX4_takeEither_32 cb_38 ?_
    refine r_iceq dX4_takeEither_34 (tgt := 51) (by decide) (fun c9 => ?_) (fun c9 => ?_)
    · exact r_mask [true, true, true, false] (s_X4_takeEither_L51 g D0 hD0 q hq k12 hk12 s0 x1 x2)
    · refine r_aload_n dX4_takeEither_37 rfl ?_
      refine gf_X4_9 rfl dX4_takeEither_38 ?_
      refine r_aload_n dX4_takeEither_41 rfl ?_
      refine gf_X4_19 rfl dX4_takeEither_42 ?_
      refine al_4_0 dX4_takeEither_45 (fun hg25 hj26 => ?_)
      refine r_bipush dX4_takeEither_46 cb_124 ?_
      refine r_icne dX4_takeEither_48 (tgt := 138) (by decide) (fun c27 => ?_) (fun c27 => ?_)
      · exact r_mask [true, true, true, false] (s_X4_takeEither_L51 g D0 hD0 q hq k12 hk12 s0 x1 x2)
      · exact r_mask [true, false, true, false] (s_X4_takeEither_L138 g D0 hD0 q hq s0 x2)
theorem s_X4_takeEither_L12 (g : Gm) (D0 : Nat) (hD0 : 5 ≤ D0) (q : Sto → Int32 → Option (Int32 × Sto)) (hq : ∀ (s0 : Sto) (x1 : Int32), Ok g yX4_takePart kX4_takePart D0 [.ref (g.1 4 0 0), .int x1] s0 cvIw (q s0 x1)) : ∀ (n : Nat) (s0 : Sto) (x1 : Int32) (x2 : Int32), Rf cvIw (Em g (D0 + 1)) kX4_takeEither 12 [some (.ref ((Em g (D0 + 1)).1.1 4 0 0)), some (.int x1), some (.int x2), none] [] s0 (f_X4_takeEither_L12 q n s0 x1 x2)
  | 0, _, _, _ => r_none
  | n + 1, s0, x1, x2 => s_X4_takeEither_B12 g D0 hD0 q hq (f_X4_takeEither_L12 q n) (s_X4_takeEither_L12 g D0 hD0 q hq n) s0 x1 x2
set_option maxRecDepth 100000 in
theorem s_X4_takeEither (g : Gm) (D0 : Nat) (hD0 : 5 ≤ D0) (q : Sto → Int32 → Option (Int32 × Sto)) (hq : ∀ (s0 : Sto) (x1 : Int32), Ok g yX4_takePart kX4_takePart D0 [.ref (g.1 4 0 0), .int x1] s0 cvIw (q s0 x1)) (s0 : Sto) (x1 : Int32) : Rf cvIw (Em g (D0 + 1)) kX4_takeEither 0 [some (.ref ((Em g (D0 + 1)).1.1 4 0 0)), some (.int x1), none, none] [] s0 (f_X4_takeEither q s0 x1) := by
  unfold f_X4_takeEither
  refine r_aload_n dX4_takeEither_0 rfl ?_
  refine r_iload_n dX4_takeEither_1 rfl ?_
  refine u_X4_takePart (hq s0 x1) dX4_takeEither_2 ml_X4_75 (Nat.le_of_ble_eq_true rfl) (fits_m (by omega) (by decide)) room_m (fun q1 => ?_)
  refine r_ifne dX4_takeEither_5 (tgt := 10) (by decide) (fun c2 => ?_) (fun c2 => ?_)
  · refine r_iconst dX4_takeEither_8 ci_0 ?_
    exact r_zret dX4_takeEither_9 rfl rfl rfl
  · refine r_iconst dX4_takeEither_10 ci_0 ?_
    refine r_istore_n dX4_takeEither_11 rfl (lt_b rfl) (lt_b rfl) ?_
    exact r_mask [true, true, true, false] (s_X4_takeEither_L12 g D0 hD0 q hq 1000 q1.2 x1 0)
theorem ok_X4_takeEither (g : Gm) (D0 : Nat) (hD0 : 5 ≤ D0) (q : Sto → Int32 → Option (Int32 × Sto)) (hq : ∀ (s0 : Sto) (x1 : Int32), Ok g yX4_takePart kX4_takePart D0 [.ref (g.1 4 0 0), .int x1] s0 cvIw (q s0 x1)) (s0 : Sto) (x1 : Int32) : Ok g yX4_takeEither kX4_takeEither (D0 + 1) [.ref ((Em g (D0 + 1)).1.1 4 0 0), .int x1] s0 cvIw (f_X4_takeEither q s0 x1) := Ok.of (by decide) rfl (Nat.le_of_ble_eq_true rfl) (lv := [some (.ref ((Em g (D0 + 1)).1.1 4 0 0)), some (.int x1), none, none]) rfl (s_X4_takeEither g D0 hD0 q hq s0 x1)
theorem u_X4_takeEither {α : Type} {cv : α → Res} {E : EE} {K : KK} {pc npc idx d : Nat} {lv : List (Option Value)} {st : List Value} {σ : Sto} {oc : Option (Int32 × Sto)} {kf : (Int32 × Sto) → Option α} {x1 : Int32} (hOk : Ok E.1 yX4_takeEither kX4_takeEither d [.ref (E.1.1 4 0 0), .int x1] σ cvIw oc) (hd : Dc K pc (.invokevirtual idx) 3 npc) (hlk : Cond.methodLink K.2.1 idx yX4_takeEither ∈ lw_good) (hw : (st.map fun v => v.category).sum ≤ 8) (hfit : fits_ E d 4) (hrm : room_ok E) (kk : ∀ q : Int32 × Sto, Rf cv E K npc lv (.int q.1 :: st) q.2 (kf q)) : Rf cv E K pc lv (.int x1 :: .ref (E.1.1 4 0 0) :: st) σ (oc.bind kf) := c_V (n := 1) (as := [.int x1]) (c0 := 4) (i := 0) (CC := "ThawGives$Text") (T := TX4) (N := 5) hd hOk hlk wi_X4_takeEither wv_X4_takeEither wn_X4 wc_X4_takeEither rfl (by decide) (by decide) ⟨by decide, by decide, by decide⟩ rfl rfl hw hfit hrm (fun b _ => kk b)
theorem un_X4_takeEither {α : Type} {cv : α → Res} {E : EE} {K : KK} {pc npc idx d : Nat} {lv : List (Option Value)} {st : List Value} {σ : Sto} {oc : Option (Int32 × Sto)} {kf : (Int32 × Sto) → Option α} {x1 : Int32} (hOk : Ok E.1 yX4_takeEither kX4_takeEither d [.ref (E.1.1 4 0 0), .int x1] σ cvIw oc) (hd : Dc K pc (.invokevirtual idx) 3 npc) (hlk : Cond.methodLinkNest K.2.1 idx yX4_takeEither "ThawGives" ∈ lw_nest) (hw : (st.map fun v => v.category).sum ≤ 8) (hfit : fits_ E d 4) (hrm : room_ok E) (kk : ∀ q : Int32 × Sto, Rf cv E K npc lv (.int q.1 :: st) q.2 (kf q)) : Rf cv E K pc lv (.int x1 :: .ref (E.1.1 4 0 0) :: st) σ (oc.bind kf) := c_N (n := 1) (as := [.int x1]) (c0 := 4) (i := 0) (CC := "ThawGives$Text") (T := TX4) (N := 5) hd hOk hlk wi_X4_takeEither wv_X4_takeEither wn_X4 wc_X4_takeEither rfl (by decide) (by decide) ⟨by decide, by decide, by decide⟩ rfl rfl hw hfit hrm (fun b _ => kk b)
def f_X4_takePart_L78 (q : Sto → Int32 → Option (Int32 × Sto)) (s0 : Sto) : Option (Int32 × Sto) :=
  (f_X4_takeTest s0).bind fun q3 => (if q3.1 = 0 ∨ q3.1 = 1 then some (q3.1, q3.2) else none)
def f_X4_takePart_L39 (q : Sto → Int32 → Option (Int32 × Sto)) (s0 : Sto) (x1 : Int32) : Option (Int32 × Sto) :=
  (if (4 : Int32) ≤ x1 then
    f_X4_takePart_L78 q s0
  else
    (f_X4_take s0 33).bind fun q4 => (if q4.1 = 0 then
      f_X4_takePart_L78 q q4.2
    else
      (q q4.2 (x1 + 1)).bind fun q6 => (if q6.1 = 0 then
        some (0, q6.2)
      else
        (if q6.2.2.2.2 < 8 then (f_X1_add q6.2 q6.2.2.2.2 33 0 0).bind fun q9 => some (1, q9) else none))))
def f_X4_takePart_K (q : Sto → Int32 → Option (Int32 × Sto)) (s0 : Sto) (x1 : Int32) : Option (Int32 × Sto) :=
  (if (4 : Int32) ≤ x1 then
    f_X4_takePart_L39 q s0 x1
  else
    (f_X4_take s0 40).bind fun q10 => (if q10.1 = 0 then
      f_X4_takePart_L39 q q10.2 x1
    else
      (f_X4_takeEither q q10.2 (x1 + 1)).bind fun q12 => (if q12.1 = 0 then
        some (0, q12.2)
      else
        (f_X4_take q12.2 41).bind fun q14 => (if q14.1 = 0 then
          some (0, q14.2)
        else
          some (1, q14.2)))))
set_option maxRecDepth 100000 in
theorem s_X4_takePart_L78 (g : Gm) (D0 : Nat) (hD0 : 5 ≤ D0) (q : Sto → Int32 → Option (Int32 × Sto)) (hq : ∀ (s0 : Sto) (x1 : Int32), Ok g yX4_takePart kX4_takePart D0 [.ref (g.1 4 0 0), .int x1] s0 cvIw (q s0 x1)) (s0 : Sto) : Rf cvIw (Em g (D0 + 2)) kX4_takePart 78 [some (.ref ((Em g (D0 + 2)).1.1 4 0 0)), none] [] s0 (f_X4_takePart_L78 q s0) := by
  unfold f_X4_takePart_L78
  refine r_aload_n dX4_takePart_78 rfl ?_
  refine u_X4_takeTest (ok_X4_takeTest g s0) dX4_takePart_79 ml_X4_78 (Nat.le_of_ble_eq_true rfl) (fits_m (by omega) (by decide)) room_m (fun q3 => ?_)
  exact r_gd (fun hz => r_zret dX4_takePart_82 rfl (nz01 hz) rfl)
set_option maxRecDepth 100000 in
theorem s_X4_takePart_L39 (g : Gm) (D0 : Nat) (hD0 : 5 ≤ D0) (q : Sto → Int32 → Option (Int32 × Sto)) (hq : ∀ (s0 : Sto) (x1 : Int32), Ok g yX4_takePart kX4_takePart D0 [.ref (g.1 4 0 0), .int x1] s0 cvIw (q s0 x1)) (s0 : Sto) (x1 : Int32) : Rf cvIw (Em g (D0 + 2)) kX4_takePart 39 [some (.ref ((Em g (D0 + 2)).1.1 4 0 0)), some (.int x1)] [] s0 (f_X4_takePart_L39 q s0 x1) := by
  unfold f_X4_takePart_L39
  refine r_iload_n dX4_takePart_39 rfl ?_
  refine r_iconst dX4_takePart_40 ci_4 ?_
  refine r_icge dX4_takePart_41 (tgt := 78) (by decide) (fun c2 => ?_) (fun c2 => ?_)
  · exact r_mask [true, false] (s_X4_takePart_L78 g D0 hD0 q hq s0)
  · refine r_aload_n dX4_takePart_44 rfl ?_
    refine r_bipush dX4_takePart_45 cb_33 ?_
    refine u_X4_take (ok_X4_take g s0 33) dX4_takePart_47 ml_X4_39 (Nat.le_of_ble_eq_true rfl) (fits_m (by omega) (by decide)) room_m (fun q4 => ?_)
    refine r_ifeq dX4_takePart_50 (tgt := 78) (by decide) (fun c5 => ?_) (fun c5 => ?_)
    · exact r_mask [true, false] (s_X4_takePart_L78 g D0 hD0 q hq q4.2)
    · refine r_aload_n dX4_takePart_53 rfl ?_
      refine r_iload_n dX4_takePart_54 rfl ?_
      refine r_iconst dX4_takePart_55 ci_1 ?_
      refine r_iadd dX4_takePart_56 ?_
      refine u_X4_takePart (hq q4.2 (x1 + 1)) dX4_takePart_57 ml_X4_75 (Nat.le_of_ble_eq_true rfl) (fits_m (by omega) (by decide)) room_m (fun q6 => ?_)
      refine r_ifne dX4_takePart_60 (tgt := 65) (by decide) (fun c7 => ?_) (fun c7 => ?_)
      · refine r_iconst dX4_takePart_63 ci_0 ?_
        exact r_zret dX4_takePart_64 rfl rfl rfl
      · refine r_aload_n dX4_takePart_65 rfl ?_
        refine gf_X4_28 rfl dX4_takePart_66 ?_
        refine r_gd (fun h8 => ?_)
        refine r_bipush dX4_takePart_69 cb_33 ?_
        refine r_iconst dX4_takePart_71 ci_0 ?_
        refine r_iconst dX4_takePart_72 ci_0 ?_
        refine un_X1_add (ok_X1_add g q6.2 q6.2.2.2.2 33 0 0 h8) dX4_takePart_73 mn_X4_71 h8 (Nat.le_of_ble_eq_true rfl) (fits_m (by omega) (by decide)) room_m (fun q9 => ?_)
        refine r_iconst dX4_takePart_76 ci_1 ?_
        exact r_zret dX4_takePart_77 rfl rfl rfl
set_option maxRecDepth 100000 in
theorem s_X4_takePart (g : Gm) (D0 : Nat) (hD0 : 5 ≤ D0) (q : Sto → Int32 → Option (Int32 × Sto)) (hq : ∀ (s0 : Sto) (x1 : Int32), Ok g yX4_takePart kX4_takePart D0 [.ref (g.1 4 0 0), .int x1] s0 cvIw (q s0 x1)) (s0 : Sto) (x1 : Int32) : Rf cvIw (Em g (D0 + 2)) kX4_takePart 0 [some (.ref ((Em g (D0 + 2)).1.1 4 0 0)), some (.int x1)] [] s0 (f_X4_takePart_K q s0 x1) := by
  unfold f_X4_takePart_K
  refine r_iload_n dX4_takePart_0 rfl ?_
  refine r_iconst dX4_takePart_1 ci_4 ?_
  refine r_icge dX4_takePart_2 (tgt := 39) (by decide) (fun c1 => ?_) (fun c1 => ?_)
  · exact r_mask [true, true] (s_X4_takePart_L39 g D0 hD0 q hq s0 x1)
  · refine r_aload_n dX4_takePart_5 rfl ?_
    refine r_bipush dX4_takePart_6 cb_40 ?_
    refine u_X4_take (ok_X4_take g s0 40) dX4_takePart_8 ml_X4_39 (Nat.le_of_ble_eq_true rfl) (fits_m (by omega) (by decide)) room_m (fun q10 => ?_)
    refine r_ifeq dX4_takePart_11 (tgt := 39) (by decide) (fun c11 => ?_) (fun c11 => ?_)
    · exact r_mask [true, true] (s_X4_takePart_L39 g D0 hD0 q hq q10.2 x1)
    · refine r_aload_n dX4_takePart_14 rfl ?_
      refine r_iload_n dX4_takePart_15 rfl ?_
      refine r_iconst dX4_takePart_16 ci_1 ?_
      refine r_iadd dX4_takePart_17 ?_
      refine u_X4_takeEither (ok_X4_takeEither g D0 hD0 q hq q10.2 (x1 + 1)) dX4_takePart_18 ml_X4_68 (Nat.le_of_ble_eq_true rfl) (fits_m (by omega) (by decide)) room_m (fun q12 => ?_)
      refine r_ifeq dX4_takePart_21 (tgt := 37) (by decide) (fun c13 => ?_) (fun c13 => ?_)
      · refine r_iconst dX4_takePart_37 ci_0 ?_
        exact r_zret dX4_takePart_38 rfl rfl rfl
      · refine r_aload_n dX4_takePart_24 rfl ?_
        refine r_bipush dX4_takePart_25 cb_41 ?_
        refine u_X4_take (ok_X4_take g q12.2 41) dX4_takePart_27 ml_X4_39 (Nat.le_of_ble_eq_true rfl) (fits_m (by omega) (by decide)) room_m (fun q14 => ?_)
        refine r_ifeq dX4_takePart_30 (tgt := 37) (by decide) (fun c15 => ?_) (fun c15 => ?_)
        · refine r_iconst dX4_takePart_37 ci_0 ?_
          exact r_zret dX4_takePart_38 rfl rfl rfl
        · refine r_iconst dX4_takePart_33 ci_1 ?_
          refine r_goto dX4_takePart_34 (tgt := 38) (by decide) ?_
          exact r_zret dX4_takePart_38 rfl rfl rfl
theorem ok_X4_takePart_K (g : Gm) (D0 : Nat) (hD0 : 5 ≤ D0) (q : Sto → Int32 → Option (Int32 × Sto)) (hq : ∀ (s0 : Sto) (x1 : Int32), Ok g yX4_takePart kX4_takePart D0 [.ref (g.1 4 0 0), .int x1] s0 cvIw (q s0 x1)) (s0 : Sto) (x1 : Int32) : Ok g yX4_takePart kX4_takePart (D0 + 2) [.ref ((Em g (D0 + 2)).1.1 4 0 0), .int x1] s0 cvIw (f_X4_takePart_K q s0 x1) := Ok.of (by decide) rfl (Nat.le_of_ble_eq_true rfl) (lv := [some (.ref ((Em g (D0 + 2)).1.1 4 0 0)), some (.int x1)]) rfl (s_X4_takePart g D0 hD0 q hq s0 x1)
def f_X4_takePart : Nat → Sto → Int32 → Option (Int32 × Sto)
  | 0 => fun _ _ => none
  | n + 1 => f_X4_takePart_K (f_X4_takePart n)
theorem ok_X4_takePart (g : Gm) : ∀ (n : Nat) (s0 : Sto) (x1 : Int32), Ok g yX4_takePart kX4_takePart (5 + 2 * n) [.ref (g.1 4 0 0), .int x1] s0 cvIw (f_X4_takePart n s0 x1)
  | 0, _, _ => fun a h => nomatch h
  | n + 1, s0, x1 => ok_X4_takePart_K g (5 + 2 * n) (by omega) (f_X4_takePart n) (ok_X4_takePart g n) s0 x1
def f_X4_takeClause_L104 (s0 : Sto) (y0 : Int32) : Option (Int32 × Sto) :=
  (f_X4_take s0 32).bind fun q10 => (if q10.1 = 0 then
    some (0, q10.2)
  else
    (f_X4_takeEither (f_X4_takePart 12) q10.2 0).bind fun q12 => (if q12.1 = 0 then
      some (0, q12.2)
    else
      (if q12.2.2.2.2 < 8 then (f_X1_add q12.2 q12.2.2.2.2 59 0 y0).bind fun q15 => some (1, q15) else none)))
def f_X4_takeClause_L49 (s0 : Sto) (x1 : Int32) (n90 : Nat) : Option (Int32 × Sto) :=
  (f_X4_takeWord s0 n90).bind fun q4 => (if q4.1 = 0 then
    some (0, q4.2)
  else
    (f_X4_takeNumber q4.2).bind fun q6 => (if q6.1 = 0 then
      some (0, q6.2)
    else
      (if x1 = 115 then
        (if q6.2.2.2.2 < 8 then nm (sF q6.2 1 4 q6.2.2.2.2 (q6.2.1 4 3 0)) fun s17 => some (1, s17) else none)
      else
        (if x1 = 119 then
          f_X4_takeClause_L104 q6.2 (q6.2.1 4 3 0)
        else
          f_X4_takeClause_L104 q6.2 (-(q6.2.1 4 3 0))))))
def f_X4_takeClause_L24 (s0 : Sto) (y0 : Int32) : Option (Int32 × Sto) :=
  (if y0 = 119 then
    f_X4_takeClause_L49 s0 y0 0
  else
    (if y0 = 102 then
      f_X4_takeClause_L49 s0 y0 1
    else
      f_X4_takeClause_L49 s0 y0 2))
def f_X4_takeClause (s0 : Sto) : Option (Int32 × Sto) :=
  (if (s0.1 4 1 0) ≤ (s0.1 4 2 0) then
    f_X4_takeClause_L24 s0 0
  else
    (if 0 ≤ (s0.1 4 2 0) ∧ (s0.1 4 2 0) < 100 then f_X4_takeClause_L24 s0 (s0.2.1 4 0 0 (Int32.toNatClampNeg (s0.1 4 2 0))) else none))
set_option maxRecDepth 100000 in
theorem s_X4_takeClause_L104 (g : Gm) (s0 : Sto) (y0 : Int32) : Rf cvIw (Em g 31) kX4_takeClause 104 [some (.ref ((Em g 31).1.1 4 0 0)), none, none, none] [.int y0] s0 (f_X4_takeClause_L104 s0 y0) := by
  unfold f_X4_takeClause_L104
  refine r_istore_n dX4_takeClause_104 rfl (lt_b rfl) (lt_b rfl) ?_
  refine r_aload_n dX4_takeClause_105 rfl ?_
  refine r_bipush dX4_takeClause_106 cb_32 ?_
  refine u_X4_take (ok_X4_take g s0 32) dX4_takeClause_108 ml_X4_39 (Nat.le_of_ble_eq_true rfl) (fits_m (by decide) (by decide)) room_m (fun q10 => ?_)
  refine r_ifeq dX4_takeClause_111 (tgt := 122) (by decide) (fun c11 => ?_) (fun c11 => ?_)
  · refine r_iconst dX4_takeClause_122 ci_0 ?_
    exact r_zret dX4_takeClause_123 rfl rfl rfl
  · refine r_aload_n dX4_takeClause_114 rfl ?_
    refine r_iconst dX4_takeClause_115 ci_0 ?_
    refine u_X4_takeEither (ok_X4_takeEither g _ (by decide) (f_X4_takePart 12) (ok_X4_takePart g 12) q10.2 0) dX4_takeClause_116 ml_X4_68 (Nat.le_of_ble_eq_true rfl) (fits_m (by decide) (by decide)) room_m (fun q12 => ?_)
    refine r_ifne dX4_takeClause_119 (tgt := 124) (by decide) (fun c13 => ?_) (fun c13 => ?_)
    · refine r_iconst dX4_takeClause_122 ci_0 ?_
      exact r_zret dX4_takeClause_123 rfl rfl rfl
    · refine r_aload_n dX4_takeClause_124 rfl ?_
      refine gf_X4_28 rfl dX4_takeClause_125 ?_
      refine r_gd (fun h14 => ?_)
      refine r_bipush dX4_takeClause_128 cb_59 ?_
      refine r_iconst dX4_takeClause_130 ci_0 ?_
      refine r_iload_n dX4_takeClause_131 rfl ?_
      refine un_X1_add (ok_X1_add g q12.2 q12.2.2.2.2 59 0 y0 h14) dX4_takeClause_132 mn_X4_71 h14 (Nat.le_of_ble_eq_true rfl) (fits_m (by decide) (by decide)) room_m (fun q15 => ?_)
      refine r_iconst dX4_takeClause_135 ci_1 ?_
      exact r_zret dX4_takeClause_136 rfl rfl rfl
set_option maxRecDepth 100000 in
theorem s_X4_takeClause_L49 (g : Gm) (s0 : Sto) (x1 : Int32) (n90 : Nat) (hn90 : n90 < 5) : Rf cvIw (Em g 31) kX4_takeClause 49 [some (.ref ((Em g 31).1.1 4 0 0)), some (.int x1), none, none] [.ref ((Em g 31).1.2.2.2.2.1 n90)] s0 (f_X4_takeClause_L49 s0 x1 n90) := by
  unfold f_X4_takeClause_L49
  refine r_astore_n dX4_takeClause_49 rfl (lt_b rfl) (lt_b rfl) ?_
  refine r_aload_n dX4_takeClause_50 rfl ?_
  refine r_aload_n dX4_takeClause_51 rfl ?_
  refine u_X4_takeWord (ok_X4_takeWord g s0 n90 hn90) dX4_takeClause_52 ml_X4_58 (Nat.le_of_ble_eq_true rfl) (fits_m (by decide) (by decide)) room_m (fun q4 => ?_)
  refine r_ifeq dX4_takeClause_55 (tgt := 65) (by decide) (fun c5 => ?_) (fun c5 => ?_)
  · refine r_iconst dX4_takeClause_65 ci_0 ?_
    exact r_zret dX4_takeClause_66 rfl rfl rfl
  · refine r_aload_n dX4_takeClause_58 rfl ?_
    refine u_X4_takeNumber (ok_X4_takeNumber g q4.2) dX4_takeClause_59 ml_X4_62 (Nat.le_of_ble_eq_true rfl) (fits_m (by decide) (by decide)) room_m (fun q6 => ?_)
    refine r_ifne dX4_takeClause_62 (tgt := 67) (by decide) (fun c7 => ?_) (fun c7 => ?_)
    · refine r_iconst dX4_takeClause_65 ci_0 ?_
      exact r_zret dX4_takeClause_66 rfl rfl rfl
    · refine r_iload_n dX4_takeClause_67 rfl ?_
      refine r_bipush dX4_takeClause_68 cb_115 ?_
      refine r_icne dX4_takeClause_70 (tgt := 86) (by decide) (fun c8 => ?_) (fun c8 => ?_)
      · refine r_aload_n dX4_takeClause_73 rfl ?_
        refine gf_X4_28 rfl dX4_takeClause_74 ?_
        refine r_gd (fun h16 => ?_)
        refine r_aload_n dX4_takeClause_77 rfl ?_
        refine gf_X4_22 rfl dX4_takeClause_78 ?_
        refine pf_X4_65 rfl dX4_takeClause_81 h16 (fun s17 => ?_)
        refine r_iconst dX4_takeClause_84 ci_1 ?_
        exact r_zret dX4_takeClause_85 rfl rfl rfl
      · refine r_iload_n dX4_takeClause_86 rfl ?_
        refine r_bipush dX4_takeClause_87 cb_119 ?_
        refine r_icne dX4_takeClause_89 (tgt := 99) (by decide) (fun c9 => ?_) (fun c9 => ?_)
        · refine r_aload_n dX4_takeClause_92 rfl ?_
          refine gf_X4_22 rfl dX4_takeClause_93 ?_
          refine r_goto dX4_takeClause_96 (tgt := 104) (by decide) ?_
          exact r_mask [true, false, false, false] (s_X4_takeClause_L104 g q6.2 (q6.2.1 4 3 0))
        · refine r_aload_n dX4_takeClause_99 rfl ?_
          refine gf_X4_22 rfl dX4_takeClause_100 ?_
          refine r_ineg dX4_takeClause_103 ?_
          exact r_mask [true, false, false, false] (s_X4_takeClause_L104 g q6.2 (-(q6.2.1 4 3 0)))
set_option maxRecDepth 100000 in
theorem s_X4_takeClause_L24 (g : Gm) (s0 : Sto) (y0 : Int32) : Rf cvIw (Em g 31) kX4_takeClause 24 [some (.ref ((Em g 31).1.1 4 0 0)), none, none, none] [.int y0] s0 (f_X4_takeClause_L24 s0 y0) := by
  unfold f_X4_takeClause_L24
  refine r_istore_n dX4_takeClause_24 rfl (lt_b rfl) (lt_b rfl) ?_
  refine r_iload_n dX4_takeClause_25 rfl ?_
  refine r_bipush dX4_takeClause_26 cb_119 ?_
  refine r_icne dX4_takeClause_28 (tgt := 36) (by decide) (fun c2 => ?_) (fun c2 => ?_)
  · refine r_ldcS dX4_takeClause_31 st_X4_52 ?_
    refine r_goto dX4_takeClause_33 (tgt := 49) (by decide) ?_
    exact r_mask [true, true, false, false] (s_X4_takeClause_L49 g s0 y0 0 (by decide))
  · refine r_iload_n dX4_takeClause_36 rfl ?_
    refine r_bipush dX4_takeClause_37 cb_102 ?_
    refine r_icne dX4_takeClause_39 (tgt := 47) (by decide) (fun c3 => ?_) (fun c3 => ?_)
    · refine r_ldcS dX4_takeClause_42 st_X4_54 ?_
      refine r_goto dX4_takeClause_44 (tgt := 49) (by decide) ?_
      exact r_mask [true, true, false, false] (s_X4_takeClause_L49 g s0 y0 1 (by decide))
    · refine r_ldcS dX4_takeClause_47 st_X4_56 ?_
      exact r_mask [true, true, false, false] (s_X4_takeClause_L49 g s0 y0 2 (by decide))
set_option maxRecDepth 100000 in
theorem s_X4_takeClause (g : Gm) (s0 : Sto) : Rf cvIw (Em g 31) kX4_takeClause 0 [some (.ref ((Em g 31).1.1 4 0 0)), none, none, none] [] s0 (f_X4_takeClause s0) := by
  unfold f_X4_takeClause
  refine r_aload_n dX4_takeClause_0 rfl ?_
  refine gf_X4_19 rfl dX4_takeClause_1 ?_
  refine r_aload_n dX4_takeClause_4 rfl ?_
  refine gf_X4_15 rfl dX4_takeClause_5 ?_
  refine r_icge dX4_takeClause_8 (tgt := 23) (by decide) (fun c1 => ?_) (fun c1 => ?_)
  · refine r_iconst dX4_takeClause_23 ci_0 ?_
    exact r_mask [true, false, false, false] (s_X4_takeClause_L24 g s0 0)
  · refine r_aload_n dX4_takeClause_11 rfl ?_
    refine gf_X4_9 rfl dX4_takeClause_12 ?_
    refine r_aload_n dX4_takeClause_15 rfl ?_
    refine gf_X4_19 rfl dX4_takeClause_16 ?_
    refine al_4_0 dX4_takeClause_19 (fun hg18 hj19 => ?_)
    refine r_goto dX4_takeClause_20 (tgt := 24) (by decide) ?_
    exact r_mask [true, false, false, false] (s_X4_takeClause_L24 g s0 (s0.2.1 4 0 0 (Int32.toNatClampNeg (s0.1 4 2 0))))
theorem ok_X4_takeClause (g : Gm) (s0 : Sto) : Ok g yX4_takeClause kX4_takeClause 31 [.ref ((Em g 31).1.1 4 0 0)] s0 cvIw (f_X4_takeClause s0) := Ok.of (by decide) rfl (Nat.le_of_ble_eq_true rfl) (lv := [some (.ref ((Em g 31).1.1 4 0 0)), none, none, none]) rfl (s_X4_takeClause g s0)
theorem u_X4_takeClause {α : Type} {cv : α → Res} {E : EE} {K : KK} {pc npc idx d : Nat} {lv : List (Option Value)} {st : List Value} {σ : Sto} {oc : Option (Int32 × Sto)} {kf : (Int32 × Sto) → Option α} (hOk : Ok E.1 yX4_takeClause kX4_takeClause d [.ref (E.1.1 4 0 0)] σ cvIw oc) (hd : Dc K pc (.invokevirtual idx) 3 npc) (hlk : Cond.methodLink K.2.1 idx yX4_takeClause ∈ lw_good) (hw : (st.map fun v => v.category).sum ≤ 8) (hfit : fits_ E d 4) (hrm : room_ok E) (kk : ∀ q : Int32 × Sto, Rf cv E K npc lv (.int q.1 :: st) q.2 (kf q)) : Rf cv E K pc lv (.ref (E.1.1 4 0 0) :: st) σ (oc.bind kf) := c_V (n := 0) (as := []) (c0 := 4) (i := 0) (CC := "ThawGives$Text") (T := TX4) (N := 5) hd hOk hlk wi_X4_takeClause wv_X4_takeClause wn_X4 wc_X4_takeClause rfl (by decide) (by decide) ⟨by decide, by decide, by decide⟩ rfl rfl hw hfit hrm (fun b _ => kk b)
theorem un_X4_takeClause {α : Type} {cv : α → Res} {E : EE} {K : KK} {pc npc idx d : Nat} {lv : List (Option Value)} {st : List Value} {σ : Sto} {oc : Option (Int32 × Sto)} {kf : (Int32 × Sto) → Option α} (hOk : Ok E.1 yX4_takeClause kX4_takeClause d [.ref (E.1.1 4 0 0)] σ cvIw oc) (hd : Dc K pc (.invokevirtual idx) 3 npc) (hlk : Cond.methodLinkNest K.2.1 idx yX4_takeClause "ThawGives" ∈ lw_nest) (hw : (st.map fun v => v.category).sum ≤ 8) (hfit : fits_ E d 4) (hrm : room_ok E) (kk : ∀ q : Int32 × Sto, Rf cv E K npc lv (.int q.1 :: st) q.2 (kf q)) : Rf cv E K pc lv (.ref (E.1.1 4 0 0) :: st) σ (oc.bind kf) := c_N (n := 0) (as := []) (c0 := 4) (i := 0) (CC := "ThawGives$Text") (T := TX4) (N := 5) hd hOk hlk wi_X4_takeClause wv_X4_takeClause wn_X4 wc_X4_takeClause rfl (by decide) (by decide) ⟨by decide, by decide, by decide⟩ rfl rfl hw hfit hrm (fun b _ => kk b)
def f_X4_readInto_B20 (k20 : Sto → Int32 → Option (Int32 × Sto)) (s0 : Sto) (x2 : Int32) : Option (Int32 × Sto) :=
  (if x2 < 0 then
    some ((s0.1 4 2 0), s0)
  else
    (f_X4_takeClause s0).bind fun q6 => (if q6.1 = 0 then
      some ((q6.2.1 4 2 0), q6.2)
    else
      (if (q6.2.1 4 2 0) < (q6.2.1 4 1 0) then
        (if x2 = 0 then
          some ((q6.2.1 4 2 0), q6.2)
        else
          (f_X4_take q6.2 59).bind fun q10 => (if q10.1 = 0 then
            some ((q10.2.1 4 2 0), q10.2)
          else
            nmI (x2 + (-1 : Int32)) fun v12 => k20 q10.2 v12))
      else
        some ((-1 : Int32), q6.2))))
def f_X4_readInto_L20 : Nat → Sto → Int32 → Option (Int32 × Sto)
  | 0 => fun _ _ => none
  | n + 1 => f_X4_readInto_B20 (f_X4_readInto_L20 n)
def f_X4_readInto (s0 : Sto) (i1 : Nat) : Option (Int32 × Sto) :=
  nm (sT s0 i1) fun s1 => (if s1.2.2.2 < 8 then (f_X1_clear s1 s1.2.2.2).bind fun q3 => nm (sF q3 4 2 0 0) fun s4 => f_X4_readInto_L20 1000 s4 9 else none)
set_option maxRecDepth 100000 in
theorem s_X4_readInto_B20 (g : Gm) (k20 : Sto → Int32 → Option (Int32 × Sto)) (hk20 : ∀ (s0 : Sto) (x2 : Int32), Rf cvIw (Em g 32) kX4_readInto 20 [some (.ref ((Em g 32).1.1 4 0 0)), none, some (.int x2)] [] s0 (k20 s0 x2)) (s0 : Sto) (x2 : Int32) : Rf cvIw (Em g 32) kX4_readInto 20 [some (.ref ((Em g 32).1.1 4 0 0)), none, some (.int x2)] [] s0 (f_X4_readInto_B20 k20 s0 x2) := by
  unfold f_X4_readInto_B20
  refine r_iload_n dX4_readInto_20 rfl ?_
  refine r_iflt dX4_readInto_21 (tgt := 73) (by decide) (fun c5 => ?_) (fun c5 => ?_)
  · refine r_aload_n dX4_readInto_73 rfl ?_
    refine gf_X4_19 rfl dX4_readInto_74 ?_
    exact r_iret dX4_readInto_77 rfl rfl
  · refine r_aload_n dX4_readInto_24 rfl ?_
    refine u_X4_takeClause (ok_X4_takeClause g s0) dX4_readInto_25 ml_X4_35 (Nat.le_of_ble_eq_true rfl) (fits_m (by decide) (by decide)) room_m (fun q6 => ?_)
    refine r_ifne dX4_readInto_28 (tgt := 36) (by decide) (fun c7 => ?_) (fun c7 => ?_)
    · refine r_aload_n dX4_readInto_31 rfl ?_
      refine gf_X4_19 rfl dX4_readInto_32 ?_
      exact r_iret dX4_readInto_35 rfl rfl
    · refine r_aload_n dX4_readInto_36 rfl ?_
      refine gf_X4_19 rfl dX4_readInto_37 ?_
      refine r_aload_n dX4_readInto_40 rfl ?_
      refine gf_X4_15 rfl dX4_readInto_41 ?_
      refine r_iclt dX4_readInto_44 (tgt := 49) (by decide) (fun c8 => ?_) (fun c8 => ?_)
      · refine r_iload_n dX4_readInto_49 rfl ?_
        refine r_ifeq dX4_readInto_50 (tgt := 62) (by decide) (fun c9 => ?_) (fun c9 => ?_)
        · refine r_aload_n dX4_readInto_62 rfl ?_
          refine gf_X4_19 rfl dX4_readInto_63 ?_
          exact r_iret dX4_readInto_66 rfl rfl
        · refine r_aload_n dX4_readInto_53 rfl ?_
          refine r_bipush dX4_readInto_54 cb_59 ?_
          refine u_X4_take (ok_X4_take g q6.2 59) dX4_readInto_56 ml_X4_39 (Nat.le_of_ble_eq_true rfl) (fits_m (by decide) (by decide)) room_m (fun q10 => ?_)
          refine r_ifne dX4_readInto_59 (tgt := 67) (by decide) (fun c11 => ?_) (fun c11 => ?_)
          · refine r_aload_n dX4_readInto_62 rfl ?_
            refine gf_X4_19 rfl dX4_readInto_63 ?_
            exact r_iret dX4_readInto_66 rfl rfl
          · refine r_iincN dX4_readInto_67 rfl ci_m1 rfl (lt_b rfl) (fun v12 => ?_)
            refine r_goto dX4_readInto_70 (tgt := 20) (by decide) ?_
            exact r_mask [true, false, true] (hk20 q10.2 v12)
      · refine r_iconst dX4_readInto_47 ci_m1 ?_
        exact r_iret dX4_readInto_48 rfl rfl
theorem s_X4_readInto_L20 (g : Gm) : ∀ (n : Nat) (s0 : Sto) (x2 : Int32), Rf cvIw (Em g 32) kX4_readInto 20 [some (.ref ((Em g 32).1.1 4 0 0)), none, some (.int x2)] [] s0 (f_X4_readInto_L20 n s0 x2)
  | 0, _, _ => r_none
  | n + 1, s0, x2 => s_X4_readInto_B20 g (f_X4_readInto_L20 n) (s_X4_readInto_L20 g n) s0 x2
set_option maxRecDepth 100000 in
theorem s_X4_readInto (g : Gm) (s0 : Sto) (i1 : Nat) (hi1 : i1 < 8) : Rf cvIw (Em g 32) kX4_readInto 0 [some (.ref ((Em g 32).1.1 4 0 0)), some (.ref ((Em g 32).1.1 1 0 i1)), none] [] s0 (f_X4_readInto s0 i1) := by
  unfold f_X4_readInto
  refine r_aload_n dX4_readInto_0 rfl ?_
  refine r_aload_n dX4_readInto_1 rfl ?_
  refine pf_pass rfl dX4_readInto_2 fl_X4_28 hi1 (fun s1 => ?_)
  refine r_aload_n dX4_readInto_5 rfl ?_
  refine gf_X4_28 rfl dX4_readInto_6 ?_
  refine r_gd (fun h2 => ?_)
  refine un_X1_clear (ok_X1_clear g s1 s1.2.2.2 h2) dX4_readInto_9 mn_X4_32 h2 (Nat.le_of_ble_eq_true rfl) (fits_m (by decide) (by decide)) room_m (fun q3 => ?_)
  refine r_aload_n dX4_readInto_12 rfl ?_
  refine r_iconst dX4_readInto_13 ci_0 ?_
  refine pf_X4_19 rfl dX4_readInto_14 (fun s4 => ?_)
  refine r_bipush dX4_readInto_17 cb_9 ?_
  refine r_istore_n dX4_readInto_19 rfl (lt_b rfl) (lt_b rfl) ?_
  exact r_mask [true, false, true] (s_X4_readInto_L20 g 1000 s4 9)
theorem ok_X4_readInto (g : Gm) (s0 : Sto) (i1 : Nat) (hi1 : i1 < 8) : Ok g yX4_readInto kX4_readInto 32 [.ref ((Em g 32).1.1 4 0 0), .ref ((Em g 32).1.1 1 0 i1)] s0 cvIw (f_X4_readInto s0 i1) := Ok.of (by decide) rfl (Nat.le_of_ble_eq_true rfl) (lv := [some (.ref ((Em g 32).1.1 4 0 0)), some (.ref ((Em g 32).1.1 1 0 i1)), none]) rfl (s_X4_readInto g s0 i1 hi1)
theorem u_X4_readInto {α : Type} {cv : α → Res} {E : EE} {K : KK} {pc npc idx d : Nat} {lv : List (Option Value)} {st : List Value} {σ : Sto} {oc : Option (Int32 × Sto)} {kf : (Int32 × Sto) → Option α} {i1 : Nat} (hOk : Ok E.1 yX4_readInto kX4_readInto d [.ref (E.1.1 4 0 0), .ref (E.1.1 1 0 i1)] σ cvIw oc) (hd : Dc K pc (.invokevirtual idx) 3 npc) (hlk : Cond.methodLink K.2.1 idx yX4_readInto ∈ lw_good) (hw : (st.map fun v => v.category).sum ≤ 8) (hfit : fits_ E d 3) (hrm : room_ok E) (kk : ∀ q : Int32 × Sto, Rf cv E K npc lv (.int q.1 :: st) q.2 (kf q)) : Rf cv E K pc lv (.ref (E.1.1 1 0 i1) :: .ref (E.1.1 4 0 0) :: st) σ (oc.bind kf) := c_V (n := 1) (as := [.ref (E.1.1 1 0 i1)]) (c0 := 4) (i := 0) (CC := "ThawGives$Text") (T := TX4) (N := 5) hd hOk hlk wi_X4_readInto wv_X4_readInto wn_X4 wc_X4_readInto rfl (by decide) (by decide) ⟨by decide, by decide, by decide⟩ rfl rfl hw hfit hrm (fun b _ => kk b)
theorem un_X4_readInto {α : Type} {cv : α → Res} {E : EE} {K : KK} {pc npc idx d : Nat} {lv : List (Option Value)} {st : List Value} {σ : Sto} {oc : Option (Int32 × Sto)} {kf : (Int32 × Sto) → Option α} {i1 : Nat} (hOk : Ok E.1 yX4_readInto kX4_readInto d [.ref (E.1.1 4 0 0), .ref (E.1.1 1 0 i1)] σ cvIw oc) (hd : Dc K pc (.invokevirtual idx) 3 npc) (hlk : Cond.methodLinkNest K.2.1 idx yX4_readInto "ThawGives" ∈ lw_nest) (hw : (st.map fun v => v.category).sum ≤ 8) (hfit : fits_ E d 3) (hrm : room_ok E) (kk : ∀ q : Int32 × Sto, Rf cv E K npc lv (.int q.1 :: st) q.2 (kf q)) : Rf cv E K pc lv (.ref (E.1.1 1 0 i1) :: .ref (E.1.1 4 0 0) :: st) σ (oc.bind kf) := c_N (n := 1) (as := [.ref (E.1.1 1 0 i1)]) (c0 := 4) (i := 0) (CC := "ThawGives$Text") (T := TX4) (N := 5) hd hOk hlk wi_X4_readInto wv_X4_readInto wn_X4 wc_X4_readInto rfl (by decide) (by decide) ⟨by decide, by decide, by decide⟩ rfl rfl hw hfit hrm (fun b _ => kk b)
def f_X7_col (s0 : Sto) : Option (Int32 × Sto) :=
  (if (s0.1 7 7 0) < 6 then
    (if 0 ≤ (s0.1 7 7 0) ∧ (s0.1 7 7 0) < 6 then (f_X4_readInto s0 (Int32.toNatClampNeg (s0.1 7 7 0))).bind fun q4 => nmI (q4.1) fun v5 => nm (sF q4.2 4 1 0 0) fun s6 => (if v5 < 0 then
      nm (sF s6 6 3 0 (s6.1 7 7 0)) fun s8 => nm (sF s8 7 7 0 ((s8.1 7 7 0) + 1)) fun s9 => some ((s9.1 6 3 0), s9)
    else
      some (((-10 : Int32) - v5), s6)) else none)
  else
    some ((-4 : Int32), s0))
set_option maxRecDepth 100000 in
theorem s_X7_col (g : Gm) (s0 : Sto) : Rf cvIw (Em g 33) kX7_col 0 [some (.ref ((Em g 33).1.1 7 0 0)), none] [] s0 (f_X7_col s0) := by
  unfold f_X7_col
  refine r_aload_n dX7_col_0 rfl ?_
  refine gf_X7_51 rfl dX7_col_1 ?_
  refine r_bipush dX7_col_4 cb_6 ?_
  refine r_iclt dX7_col_6 (tgt := 12) (by decide) (fun c1 => ?_) (fun c1 => ?_)
  · refine r_aload_n dX7_col_12 rfl ?_
    refine gf_X7_41 rfl dX7_col_13 ?_
    refine r_aload_n dX7_col_16 rfl ?_
    refine gf_X7_47 rfl dX7_col_17 ?_
    refine r_aload_n dX7_col_20 rfl ?_
    refine gf_X7_51 rfl dX7_col_21 ?_
    refine al_7_6 dX7_col_24 (fun hg2 hj3 => ?_)
    refine un_X4_readInto (ok_X4_readInto g s0 (Int32.toNatClampNeg (s0.1 7 7 0)) (by omega)) dX7_col_25 mn_X7_136 (Nat.le_of_ble_eq_true rfl) (fits_m (by decide) (by decide)) room_m (fun q4 => ?_)
    refine r_istore_nN dX7_col_28 rfl (lt_b rfl) (lt_b rfl) (fun v5 => ?_)
    refine r_aload_n dX7_col_29 rfl ?_
    refine gf_X7_41 rfl dX7_col_30 ?_
    refine r_iconst dX7_col_33 ci_0 ?_
    refine pf_X7_130 rfl dX7_col_34 (fun s6 => ?_)
    refine r_iload_n dX7_col_37 rfl ?_
    refine r_iflt dX7_col_38 (tgt := 46) (by decide) (fun c7 => ?_) (fun c7 => ?_)
    · refine r_aload_n dX7_col_46 rfl ?_
      refine gf_X7_14 rfl dX7_col_47 ?_
      refine r_aload_n dX7_col_50 rfl ?_
      refine gf_X7_51 rfl dX7_col_51 ?_
      refine pf_X7_140 rfl dX7_col_54 (by decide) (fun s8 => ?_)
      refine r_aload_n dX7_col_57 rfl ?_
      refine r_dup dX7_col_58 rfl ?_
      refine gf_X7_51 rfl dX7_col_59 ?_
      refine r_iconst dX7_col_62 ci_1 ?_
      refine r_iadd dX7_col_63 ?_
      refine pf_X7_51 rfl dX7_col_64 (fun s9 => ?_)
      refine r_aload_n dX7_col_67 rfl ?_
      refine gf_X7_14 rfl dX7_col_68 ?_
      refine gf_X7_140 rfl dX7_col_71 (by decide) ?_
      exact r_iret dX7_col_74 rfl rfl
    · refine r_bipush dX7_col_41 cb_m10 ?_
      refine r_iload_n dX7_col_43 rfl ?_
      refine r_isub dX7_col_44 ?_
      exact r_iret dX7_col_45 rfl rfl
  · refine r_bipush dX7_col_9 cb_m4 ?_
    exact r_iret dX7_col_11 rfl rfl
theorem ok_X7_col (g : Gm) (s0 : Sto) : Ok g yX7_col kX7_col 33 [.ref ((Em g 33).1.1 7 0 0)] s0 cvIw (f_X7_col s0) := Ok.of (by decide) rfl (Nat.le_of_ble_eq_true rfl) (lv := [some (.ref ((Em g 33).1.1 7 0 0)), none]) rfl (s_X7_col g s0)
theorem u_X7_col {α : Type} {cv : α → Res} {E : EE} {K : KK} {pc npc idx d : Nat} {lv : List (Option Value)} {st : List Value} {σ : Sto} {oc : Option (Int32 × Sto)} {kf : (Int32 × Sto) → Option α} (hOk : Ok E.1 yX7_col kX7_col d [.ref (E.1.1 7 0 0)] σ cvIw oc) (hd : Dc K pc (.invokevirtual idx) 3 npc) (hlk : Cond.methodLink K.2.1 idx yX7_col ∈ lw_good) (hw : (st.map fun v => v.category).sum ≤ 8) (hfit : fits_ E d 2) (hrm : room_ok E) (kk : ∀ q : Int32 × Sto, Rf cv E K npc lv (.int q.1 :: st) q.2 (kf q)) : Rf cv E K pc lv (.ref (E.1.1 7 0 0) :: st) σ (oc.bind kf) := c_V (n := 0) (as := []) (c0 := 7) (i := 0) (CC := "ThawGives") (T := TX7) (N := 11) hd hOk hlk wi_X7_col wv_X7_col wn_X7 wc_X7_col rfl (by decide) (by decide) ⟨by decide, by decide, by decide⟩ rfl rfl hw hfit hrm (fun b _ => kk b)
def f_X7_goWeeks_B8 (k8 : Sto → Nat → Int32 → Nat → Int32 → Option (Sto)) (s0 : Sto) (i1 : Nat) (x2 : Int32) (i3 : Nat) (x4 : Int32) : Option (Sto) :=
  (if x2 ≤ x4 then
    some s0
  else
    (f_X5_goWeek s0 i1 ((s0.1 6 2 0) + x4) i3).bind fun q4 => nmI (x4 + 1) fun v5 => k8 q4 i1 x2 i3 v5)
def f_X7_goWeeks_L8 : Nat → Sto → Nat → Int32 → Nat → Int32 → Option (Sto)
  | 0 => fun _ _ _ _ _ => none
  | n + 1 => f_X7_goWeeks_B8 (f_X7_goWeeks_L8 n)
def f_X7_goWeeks (s0 : Sto) (i1 : Nat) (x2 : Int32) : Option (Sto) :=
  (f_X7_holding s0).bind fun q1 => (if q1 < 8 then f_X7_goWeeks_L8 1000 s0 i1 x2 q1 0 else none)
set_option maxRecDepth 100000 in
theorem s_X7_goWeeks_B8 (g : Gm) (k8 : Sto → Nat → Int32 → Nat → Int32 → Option (Sto)) (hk8 : ∀ (s0 : Sto) (i1 : Nat) (x2 : Int32) (i3 : Nat) (x4 : Int32) (hi1 : i1 < 13) (hi3 : i3 < 8), Rf cvV (Em g 3) kX7_goWeeks 8 [some (.ref ((Em g 3).1.1 7 0 0)), some (.ref ((Em g 3).1.1 5 0 i1)), some (.int x2), some (.ref ((Em g 3).1.1 1 0 i3)), some (.int x4)] [] s0 (k8 s0 i1 x2 i3 x4)) (s0 : Sto) (i1 : Nat) (x2 : Int32) (i3 : Nat) (x4 : Int32) (hi1 : i1 < 13) (hi3 : i3 < 8) : Rf cvV (Em g 3) kX7_goWeeks 8 [some (.ref ((Em g 3).1.1 7 0 0)), some (.ref ((Em g 3).1.1 5 0 i1)), some (.int x2), some (.ref ((Em g 3).1.1 1 0 i3)), some (.int x4)] [] s0 (f_X7_goWeeks_B8 k8 s0 i1 x2 i3 x4) := by
  unfold f_X7_goWeeks_B8
  refine r_iload dX7_goWeeks_8 rfl ?_
  refine r_iload_n dX7_goWeeks_10 rfl ?_
  refine r_icge dX7_goWeeks_11 (tgt := 35) (by decide) (fun c3 => ?_) (fun c3 => ?_)
  · exact r_vret dX7_goWeeks_35 rfl rfl
  · refine r_aload_n dX7_goWeeks_14 rfl ?_
    refine r_aload_n dX7_goWeeks_15 rfl ?_
    refine gf_X7_14 rfl dX7_goWeeks_16 ?_
    refine gf_X7_105 rfl dX7_goWeeks_19 (by decide) ?_
    refine r_iload dX7_goWeeks_22 rfl ?_
    refine r_iadd dX7_goWeeks_24 ?_
    refine r_aload_n dX7_goWeeks_25 rfl ?_
    refine un_X5_goWeek (ok_X5_goWeek g s0 i1 ((s0.1 6 2 0) + x4) i3 hi1 hi3) dX7_goWeeks_26 mn_X7_262 hi1 (Nat.le_of_ble_eq_true rfl) (fits_m (by decide) (by decide)) room_m (fun q4 => ?_)
    refine r_iincN dX7_goWeeks_29 rfl ci_1 rfl (lt_b rfl) (fun v5 => ?_)
    refine r_goto dX7_goWeeks_32 (tgt := 8) (by decide) ?_
    exact r_mask [true, true, true, true, true] (hk8 q4 i1 x2 i3 v5 hi1 hi3)
theorem s_X7_goWeeks_L8 (g : Gm) : ∀ (n : Nat) (s0 : Sto) (i1 : Nat) (x2 : Int32) (i3 : Nat) (x4 : Int32) (hi1 : i1 < 13) (hi3 : i3 < 8), Rf cvV (Em g 3) kX7_goWeeks 8 [some (.ref ((Em g 3).1.1 7 0 0)), some (.ref ((Em g 3).1.1 5 0 i1)), some (.int x2), some (.ref ((Em g 3).1.1 1 0 i3)), some (.int x4)] [] s0 (f_X7_goWeeks_L8 n s0 i1 x2 i3 x4)
  | 0, _, _, _, _, _, _, _ => r_none
  | n + 1, s0, i1, x2, i3, x4, hi1, hi3 => s_X7_goWeeks_B8 g (f_X7_goWeeks_L8 n) (s_X7_goWeeks_L8 g n) s0 i1 x2 i3 x4 hi1 hi3
set_option maxRecDepth 100000 in
theorem s_X7_goWeeks (g : Gm) (s0 : Sto) (i1 : Nat) (x2 : Int32) (hi1 : i1 < 13) : Rf cvV (Em g 3) kX7_goWeeks 0 [some (.ref ((Em g 3).1.1 7 0 0)), some (.ref ((Em g 3).1.1 5 0 i1)), some (.int x2), none, none] [] s0 (f_X7_goWeeks s0 i1 x2) := by
  unfold f_X7_goWeeks
  refine r_aload_n dX7_goWeeks_0 rfl ?_
  refine u_X7_holding (ok_X7_holding g s0) dX7_goWeeks_1 ml_X7_108 (Nat.le_of_ble_eq_true rfl) (fits_m (by decide) (by decide)) room_m (fun q1 => ?_)
  refine r_gd (fun h2 => ?_)
  refine r_astore_n dX7_goWeeks_4 rfl (lt_b rfl) (lt_b rfl) ?_
  refine r_iconst dX7_goWeeks_5 ci_0 ?_
  refine r_istore dX7_goWeeks_6 rfl (lt_b rfl) (lt_b rfl) ?_
  exact r_mask [true, true, true, true, true] (s_X7_goWeeks_L8 g 1000 s0 i1 x2 q1 0 hi1 h2)
theorem ok_X7_goWeeks (g : Gm) (s0 : Sto) (i1 : Nat) (x2 : Int32) (hi1 : i1 < 13) : Ok g yX7_goWeeks kX7_goWeeks 3 [.ref ((Em g 3).1.1 7 0 0), .ref ((Em g 3).1.1 5 0 i1), .int x2] s0 cvV (f_X7_goWeeks s0 i1 x2) := Ok.of (by decide) rfl (Nat.le_of_ble_eq_true rfl) (lv := [some (.ref ((Em g 3).1.1 7 0 0)), some (.ref ((Em g 3).1.1 5 0 i1)), some (.int x2), none, none]) rfl (s_X7_goWeeks g s0 i1 x2 hi1)
theorem u_X7_goWeeks {α : Type} {cv : α → Res} {E : EE} {K : KK} {pc npc idx d : Nat} {lv : List (Option Value)} {st : List Value} {σ : Sto} {oc : Option (Sto)} {kf : Sto → Option α} {i1 : Nat} {x2 : Int32} (hOk : Ok E.1 yX7_goWeeks kX7_goWeeks d [.ref (E.1.1 7 0 0), .ref (E.1.1 5 0 i1), .int x2] σ cvV oc) (hd : Dc K pc (.invokevirtual idx) 3 npc) (hlk : Cond.methodLink K.2.1 idx yX7_goWeeks ∈ lw_good) (hw : (st.map fun v => v.category).sum ≤ 8) (hfit : fits_ E d 5) (hrm : room_ok E) (kk : ∀ τ : Sto, Rf cv E K npc lv st τ (kf τ)) : Rf cv E K pc lv (.int x2 :: .ref (E.1.1 5 0 i1) :: .ref (E.1.1 7 0 0) :: st) σ (oc.bind kf) := c_V (n := 2) (as := [.ref (E.1.1 5 0 i1), .int x2]) (c0 := 7) (i := 0) (CC := "ThawGives") (T := TX7) (N := 11) hd hOk hlk wi_X7_goWeeks wv_X7_goWeeks wn_X7 wc_X7_goWeeks rfl (by decide) (by decide) ⟨by decide, by decide, by decide⟩ rfl rfl hw hfit hrm (fun b _ => kk b)
def f_X7_depthBehind (s0 : Sto) (x1 : Int32) (x2 : Int32) : Option (Int32 × Sto) :=
  (if 0 ≤ x1 ∧ x1 < 6 then (f_X5_become s0 12 (6 * 0 + Int32.toNatClampNeg x1)).bind fun q3 => (f_X7_goWeeks q3 12 x2).bind fun q4 => some ((q4.1 5 4 12), q4) else none)
set_option maxRecDepth 100000 in
theorem s_X7_depthBehind (g : Gm) (s0 : Sto) (x1 : Int32) (x2 : Int32) : Rf cvIw (Em g 4) kX7_depthBehind 0 [some (.ref ((Em g 4).1.1 7 0 0)), some (.int x1), some (.int x2)] [] s0 (f_X7_depthBehind s0 x1 x2) := by
  unfold f_X7_depthBehind
  refine r_aload_n dX7_depthBehind_0 rfl ?_
  refine gf_X7_30 rfl dX7_depthBehind_1 ?_
  refine r_aload_n dX7_depthBehind_4 rfl ?_
  refine gf_X7_14 rfl dX7_depthBehind_5 ?_
  refine gf_X7_81 rfl dX7_depthBehind_8 (by decide) ?_
  refine r_iload_n dX7_depthBehind_11 rfl ?_
  refine al_6_0 dX7_depthBehind_12 (by decide) (fun hg1 hj2 => ?_)
  refine un_X5_become (ok_X5_become g s0 12 (6 * 0 + Int32.toNatClampNeg x1) (by decide) (by omega)) dX7_depthBehind_13 mn_X7_266 (by decide) (Nat.le_of_ble_eq_true rfl) (fits_m (by decide) (by decide)) room_m (fun q3 => ?_)
  refine r_aload_n dX7_depthBehind_16 rfl ?_
  refine r_aload_n dX7_depthBehind_17 rfl ?_
  refine gf_X7_30 rfl dX7_depthBehind_18 ?_
  refine r_iload_n dX7_depthBehind_21 rfl ?_
  refine u_X7_goWeeks (ok_X7_goWeeks g q3 12 x2 (by decide)) dX7_depthBehind_22 ml_X7_159 (Nat.le_of_ble_eq_true rfl) (fits_m (by decide) (by decide)) room_m (fun q4 => ?_)
  refine r_aload_n dX7_depthBehind_25 rfl ?_
  refine gf_X7_30 rfl dX7_depthBehind_26 ?_
  refine gf_X7_102 rfl dX7_depthBehind_29 (by decide) ?_
  exact r_iret dX7_depthBehind_32 rfl rfl
theorem ok_X7_depthBehind (g : Gm) (s0 : Sto) (x1 : Int32) (x2 : Int32) : Ok g yX7_depthBehind kX7_depthBehind 4 [.ref ((Em g 4).1.1 7 0 0), .int x1, .int x2] s0 cvIw (f_X7_depthBehind s0 x1 x2) := Ok.of (by decide) rfl (Nat.le_of_ble_eq_true rfl) (lv := [some (.ref ((Em g 4).1.1 7 0 0)), some (.int x1), some (.int x2)]) rfl (s_X7_depthBehind g s0 x1 x2)
theorem u_X7_depthBehind {α : Type} {cv : α → Res} {E : EE} {K : KK} {pc npc idx d : Nat} {lv : List (Option Value)} {st : List Value} {σ : Sto} {oc : Option (Int32 × Sto)} {kf : (Int32 × Sto) → Option α} {x1 : Int32} {x2 : Int32} (hOk : Ok E.1 yX7_depthBehind kX7_depthBehind d [.ref (E.1.1 7 0 0), .int x1, .int x2] σ cvIw oc) (hd : Dc K pc (.invokevirtual idx) 3 npc) (hlk : Cond.methodLink K.2.1 idx yX7_depthBehind ∈ lw_good) (hw : (st.map fun v => v.category).sum ≤ 8) (hfit : fits_ E d 3) (hrm : room_ok E) (kk : ∀ q : Int32 × Sto, Rf cv E K npc lv (.int q.1 :: st) q.2 (kf q)) : Rf cv E K pc lv (.int x2 :: .int x1 :: .ref (E.1.1 7 0 0) :: st) σ (oc.bind kf) := c_V (n := 2) (as := [.int x1, .int x2]) (c0 := 7) (i := 0) (CC := "ThawGives") (T := TX7) (N := 11) hd hOk hlk wi_X7_depthBehind wv_X7_depthBehind wn_X7 wc_X7_depthBehind rfl (by decide) (by decide) ⟨by decide, by decide, by decide⟩ rfl rfl hw hfit hrm (fun b _ => kk b)
def f_X7_outBits_B4 (k4 : Sto → Int32 → Int32 → Int32 → Option (Int32 × Sto)) (s0 : Sto) (x1 : Int32) (x2 : Int32) (x3 : Int32) : Option (Int32 × Sto) :=
  (if (s0.1 6 1 0) ≤ x3 then
    some (x2, s0)
  else
    (f_X7_depthBehind s0 x3 x1).bind fun q2 => (if q2.1 = 0 then
      nmI ((x2 ||| (1 <<< (x3 &&& 31)))) fun v5 => nmI (x3 + 1) fun v6 => k4 q2.2 x1 v5 v6
    else
      nmI (x3 + 1) fun v4 => k4 q2.2 x1 x2 v4))
def f_X7_outBits_L4 : Nat → Sto → Int32 → Int32 → Int32 → Option (Int32 × Sto)
  | 0 => fun _ _ _ _ => none
  | n + 1 => f_X7_outBits_B4 (f_X7_outBits_L4 n)
def f_X7_outBits (s0 : Sto) (x1 : Int32) : Option (Int32 × Sto) :=
  f_X7_outBits_L4 1000 s0 x1 0 0
set_option maxRecDepth 100000 in
theorem s_X7_outBits_B4 (g : Gm) (k4 : Sto → Int32 → Int32 → Int32 → Option (Int32 × Sto)) (hk4 : ∀ (s0 : Sto) (x1 : Int32) (x2 : Int32) (x3 : Int32), Rf cvIw (Em g 5) kX7_outBits 4 [some (.ref ((Em g 5).1.1 7 0 0)), some (.int x1), some (.int x2), some (.int x3)] [] s0 (k4 s0 x1 x2 x3)) (s0 : Sto) (x1 : Int32) (x2 : Int32) (x3 : Int32) : Rf cvIw (Em g 5) kX7_outBits 4 [some (.ref ((Em g 5).1.1 7 0 0)), some (.int x1), some (.int x2), some (.int x3)] [] s0 (f_X7_outBits_B4 k4 s0 x1 x2 x3) := by
  unfold f_X7_outBits_B4
  refine r_iload_n dX7_outBits_4 rfl ?_
  refine r_aload_n dX7_outBits_5 rfl ?_
  refine gf_X7_14 rfl dX7_outBits_6 ?_
  refine gf_X7_78 rfl dX7_outBits_9 (by decide) ?_
  refine r_icge dX7_outBits_12 (tgt := 36) (by decide) (fun c1 => ?_) (fun c1 => ?_)
  · refine r_iload_n dX7_outBits_36 rfl ?_
    exact r_iret dX7_outBits_37 rfl rfl
  · refine r_aload_n dX7_outBits_15 rfl ?_
    refine r_iload_n dX7_outBits_16 rfl ?_
    refine r_iload_n dX7_outBits_17 rfl ?_
    refine u_X7_depthBehind (ok_X7_depthBehind g s0 x3 x1) dX7_outBits_18 ml_X7_163 (Nat.le_of_ble_eq_true rfl) (fits_m (by decide) (by decide)) room_m (fun q2 => ?_)
    refine r_ifne dX7_outBits_21 (tgt := 30) (by decide) (fun c3 => ?_) (fun c3 => ?_)
    · refine r_iload_n dX7_outBits_24 rfl ?_
      refine r_iconst dX7_outBits_25 ci_1 ?_
      refine r_iload_n dX7_outBits_26 rfl ?_
      refine r_ishl dX7_outBits_27 ?_
      refine r_ior dX7_outBits_28 ?_
      refine r_istore_nN dX7_outBits_29 rfl (lt_b rfl) (lt_b rfl) (fun v5 => ?_)
      refine r_iincN dX7_outBits_30 rfl ci_1 rfl (lt_b rfl) (fun v6 => ?_)
      refine r_goto dX7_outBits_33 (tgt := 4) (by decide) ?_
      exact r_mask [true, true, true, true] (hk4 q2.2 x1 v5 v6)
    · refine r_iincN dX7_outBits_30 rfl ci_1 rfl (lt_b rfl) (fun v4 => ?_)
      refine r_goto dX7_outBits_33 (tgt := 4) (by decide) ?_
      exact r_mask [true, true, true, true] (hk4 q2.2 x1 x2 v4)
theorem s_X7_outBits_L4 (g : Gm) : ∀ (n : Nat) (s0 : Sto) (x1 : Int32) (x2 : Int32) (x3 : Int32), Rf cvIw (Em g 5) kX7_outBits 4 [some (.ref ((Em g 5).1.1 7 0 0)), some (.int x1), some (.int x2), some (.int x3)] [] s0 (f_X7_outBits_L4 n s0 x1 x2 x3)
  | 0, _, _, _, _ => r_none
  | n + 1, s0, x1, x2, x3 => s_X7_outBits_B4 g (f_X7_outBits_L4 n) (s_X7_outBits_L4 g n) s0 x1 x2 x3
set_option maxRecDepth 100000 in
theorem s_X7_outBits (g : Gm) (s0 : Sto) (x1 : Int32) : Rf cvIw (Em g 5) kX7_outBits 0 [some (.ref ((Em g 5).1.1 7 0 0)), some (.int x1), none, none] [] s0 (f_X7_outBits s0 x1) := by
  unfold f_X7_outBits
  refine r_iconst dX7_outBits_0 ci_0 ?_
  refine r_istore_n dX7_outBits_1 rfl (lt_b rfl) (lt_b rfl) ?_
  refine r_iconst dX7_outBits_2 ci_0 ?_
  refine r_istore_n dX7_outBits_3 rfl (lt_b rfl) (lt_b rfl) ?_
  exact r_mask [true, true, true, true] (s_X7_outBits_L4 g 1000 s0 x1 0 0)
theorem ok_X7_outBits (g : Gm) (s0 : Sto) (x1 : Int32) : Ok g yX7_outBits kX7_outBits 5 [.ref ((Em g 5).1.1 7 0 0), .int x1] s0 cvIw (f_X7_outBits s0 x1) := Ok.of (by decide) rfl (Nat.le_of_ble_eq_true rfl) (lv := [some (.ref ((Em g 5).1.1 7 0 0)), some (.int x1), none, none]) rfl (s_X7_outBits g s0 x1)
theorem u_X7_outBits {α : Type} {cv : α → Res} {E : EE} {K : KK} {pc npc idx d : Nat} {lv : List (Option Value)} {st : List Value} {σ : Sto} {oc : Option (Int32 × Sto)} {kf : (Int32 × Sto) → Option α} {x1 : Int32} (hOk : Ok E.1 yX7_outBits kX7_outBits d [.ref (E.1.1 7 0 0), .int x1] σ cvIw oc) (hd : Dc K pc (.invokevirtual idx) 3 npc) (hlk : Cond.methodLink K.2.1 idx yX7_outBits ∈ lw_good) (hw : (st.map fun v => v.category).sum ≤ 8) (hfit : fits_ E d 4) (hrm : room_ok E) (kk : ∀ q : Int32 × Sto, Rf cv E K npc lv (.int q.1 :: st) q.2 (kf q)) : Rf cv E K pc lv (.int x1 :: .ref (E.1.1 7 0 0) :: st) σ (oc.bind kf) := c_V (n := 1) (as := [.int x1]) (c0 := 7) (i := 0) (CC := "ThawGives") (T := TX7) (N := 11) hd hOk hlk wi_X7_outBits wv_X7_outBits wn_X7 wc_X7_outBits rfl (by decide) (by decide) ⟨by decide, by decide, by decide⟩ rfl rfl hw hfit hrm (fun b _ => kk b)
def f_X7_depthOfAll_B4 (k4 : Sto → Int32 → Int32 → Int32 → Option (Int32 × Sto)) (s0 : Sto) (x1 : Int32) (x2 : Int32) (x3 : Int32) : Option (Int32 × Sto) :=
  (if (s0.1 6 1 0) ≤ x3 then
    some (x2, s0)
  else
    (f_X7_depthBehind s0 x3 x1).bind fun q2 => nmI ((x2 + q2.1)) fun v3 => nmI (x3 + 1) fun v4 => k4 q2.2 x1 v3 v4)
def f_X7_depthOfAll_L4 : Nat → Sto → Int32 → Int32 → Int32 → Option (Int32 × Sto)
  | 0 => fun _ _ _ _ => none
  | n + 1 => f_X7_depthOfAll_B4 (f_X7_depthOfAll_L4 n)
def f_X7_depthOfAll (s0 : Sto) (x1 : Int32) : Option (Int32 × Sto) :=
  f_X7_depthOfAll_L4 1000 s0 x1 0 0
set_option maxRecDepth 100000 in
theorem s_X7_depthOfAll_B4 (g : Gm) (k4 : Sto → Int32 → Int32 → Int32 → Option (Int32 × Sto)) (hk4 : ∀ (s0 : Sto) (x1 : Int32) (x2 : Int32) (x3 : Int32), Rf cvIw (Em g 5) kX7_depthOfAll 4 [some (.ref ((Em g 5).1.1 7 0 0)), some (.int x1), some (.int x2), some (.int x3)] [] s0 (k4 s0 x1 x2 x3)) (s0 : Sto) (x1 : Int32) (x2 : Int32) (x3 : Int32) : Rf cvIw (Em g 5) kX7_depthOfAll 4 [some (.ref ((Em g 5).1.1 7 0 0)), some (.int x1), some (.int x2), some (.int x3)] [] s0 (f_X7_depthOfAll_B4 k4 s0 x1 x2 x3) := by
  unfold f_X7_depthOfAll_B4
  refine r_iload_n dX7_depthOfAll_4 rfl ?_
  refine r_aload_n dX7_depthOfAll_5 rfl ?_
  refine gf_X7_14 rfl dX7_depthOfAll_6 ?_
  refine gf_X7_78 rfl dX7_depthOfAll_9 (by decide) ?_
  refine r_icge dX7_depthOfAll_12 (tgt := 30) (by decide) (fun c1 => ?_) (fun c1 => ?_)
  · refine r_iload_n dX7_depthOfAll_30 rfl ?_
    exact r_iret dX7_depthOfAll_31 rfl rfl
  · refine r_iload_n dX7_depthOfAll_15 rfl ?_
    refine r_aload_n dX7_depthOfAll_16 rfl ?_
    refine r_iload_n dX7_depthOfAll_17 rfl ?_
    refine r_iload_n dX7_depthOfAll_18 rfl ?_
    refine u_X7_depthBehind (ok_X7_depthBehind g s0 x3 x1) dX7_depthOfAll_19 ml_X7_163 (Nat.le_of_ble_eq_true rfl) (fits_m (by decide) (by decide)) room_m (fun q2 => ?_)
    refine r_iadd dX7_depthOfAll_22 ?_
    refine r_istore_nN dX7_depthOfAll_23 rfl (lt_b rfl) (lt_b rfl) (fun v3 => ?_)
    refine r_iincN dX7_depthOfAll_24 rfl ci_1 rfl (lt_b rfl) (fun v4 => ?_)
    refine r_goto dX7_depthOfAll_27 (tgt := 4) (by decide) ?_
    exact r_mask [true, true, true, true] (hk4 q2.2 x1 v3 v4)
theorem s_X7_depthOfAll_L4 (g : Gm) : ∀ (n : Nat) (s0 : Sto) (x1 : Int32) (x2 : Int32) (x3 : Int32), Rf cvIw (Em g 5) kX7_depthOfAll 4 [some (.ref ((Em g 5).1.1 7 0 0)), some (.int x1), some (.int x2), some (.int x3)] [] s0 (f_X7_depthOfAll_L4 n s0 x1 x2 x3)
  | 0, _, _, _, _ => r_none
  | n + 1, s0, x1, x2, x3 => s_X7_depthOfAll_B4 g (f_X7_depthOfAll_L4 n) (s_X7_depthOfAll_L4 g n) s0 x1 x2 x3
set_option maxRecDepth 100000 in
theorem s_X7_depthOfAll (g : Gm) (s0 : Sto) (x1 : Int32) : Rf cvIw (Em g 5) kX7_depthOfAll 0 [some (.ref ((Em g 5).1.1 7 0 0)), some (.int x1), none, none] [] s0 (f_X7_depthOfAll s0 x1) := by
  unfold f_X7_depthOfAll
  refine r_iconst dX7_depthOfAll_0 ci_0 ?_
  refine r_istore_n dX7_depthOfAll_1 rfl (lt_b rfl) (lt_b rfl) ?_
  refine r_iconst dX7_depthOfAll_2 ci_0 ?_
  refine r_istore_n dX7_depthOfAll_3 rfl (lt_b rfl) (lt_b rfl) ?_
  exact r_mask [true, true, true, true] (s_X7_depthOfAll_L4 g 1000 s0 x1 0 0)
theorem ok_X7_depthOfAll (g : Gm) (s0 : Sto) (x1 : Int32) : Ok g yX7_depthOfAll kX7_depthOfAll 5 [.ref ((Em g 5).1.1 7 0 0), .int x1] s0 cvIw (f_X7_depthOfAll s0 x1) := Ok.of (by decide) rfl (Nat.le_of_ble_eq_true rfl) (lv := [some (.ref ((Em g 5).1.1 7 0 0)), some (.int x1), none, none]) rfl (s_X7_depthOfAll g s0 x1)
theorem u_X7_depthOfAll {α : Type} {cv : α → Res} {E : EE} {K : KK} {pc npc idx d : Nat} {lv : List (Option Value)} {st : List Value} {σ : Sto} {oc : Option (Int32 × Sto)} {kf : (Int32 × Sto) → Option α} {x1 : Int32} (hOk : Ok E.1 yX7_depthOfAll kX7_depthOfAll d [.ref (E.1.1 7 0 0), .int x1] σ cvIw oc) (hd : Dc K pc (.invokevirtual idx) 3 npc) (hlk : Cond.methodLink K.2.1 idx yX7_depthOfAll ∈ lw_good) (hw : (st.map fun v => v.category).sum ≤ 8) (hfit : fits_ E d 4) (hrm : room_ok E) (kk : ∀ q : Int32 × Sto, Rf cv E K npc lv (.int q.1 :: st) q.2 (kf q)) : Rf cv E K pc lv (.int x1 :: .ref (E.1.1 7 0 0) :: st) σ (oc.bind kf) := c_V (n := 1) (as := [.int x1]) (c0 := 7) (i := 0) (CC := "ThawGives") (T := TX7) (N := 11) hd hOk hlk wi_X7_depthOfAll wv_X7_depthOfAll wn_X7 wc_X7_depthOfAll rfl (by decide) (by decide) ⟨by decide, by decide, by decide⟩ rfl rfl hw hfit hrm (fun b _ => kk b)
def f_X7_findWhens_B2 (k2 : Sto → Int32 → Option (Sto)) (s0 : Sto) (x1 : Int32) : Option (Sto) :=
  (if (s0.1 6 1 0) ≤ x1 then
    some s0
  else
    (f_X7_whenOf s0 x1).bind fun q2 => (if 0 ≤ x1 ∧ x1 < 6 then nm (sA q2.2 7 4 0 (upd (q2.2.2.1 7 4 0) (Int32.toNatClampNeg x1) q2.1)) fun s5 => nmI (x1 + 1) fun v6 => k2 s5 v6 else none))
def f_X7_findWhens_L2 : Nat → Sto → Int32 → Option (Sto)
  | 0 => fun _ _ => none
  | n + 1 => f_X7_findWhens_B2 (f_X7_findWhens_L2 n)
def f_X7_findWhens (s0 : Sto) : Option (Sto) :=
  f_X7_findWhens_L2 1000 s0 0
set_option maxRecDepth 100000 in
theorem s_X7_findWhens_B2 (g : Gm) (k2 : Sto → Int32 → Option (Sto)) (hk2 : ∀ (s0 : Sto) (x1 : Int32), Rf cvV (Em g 4) kX7_findWhens 2 [some (.ref ((Em g 4).1.1 7 0 0)), some (.int x1)] [] s0 (k2 s0 x1)) (s0 : Sto) (x1 : Int32) : Rf cvV (Em g 4) kX7_findWhens 2 [some (.ref ((Em g 4).1.1 7 0 0)), some (.int x1)] [] s0 (f_X7_findWhens_B2 k2 s0 x1) := by
  unfold f_X7_findWhens_B2
  refine r_iload_n dX7_findWhens_2 rfl ?_
  refine r_aload_n dX7_findWhens_3 rfl ?_
  refine gf_X7_14 rfl dX7_findWhens_4 ?_
  refine gf_X7_78 rfl dX7_findWhens_7 (by decide) ?_
  refine r_icge dX7_findWhens_10 (tgt := 30) (by decide) (fun c1 => ?_) (fun c1 => ?_)
  · exact r_vret dX7_findWhens_30 rfl rfl
  · refine r_aload_n dX7_findWhens_13 rfl ?_
    refine gf_X7_34 rfl dX7_findWhens_14 ?_
    refine r_iload_n dX7_findWhens_17 rfl ?_
    refine r_aload_n dX7_findWhens_18 rfl ?_
    refine r_iload_n dX7_findWhens_19 rfl ?_
    refine u_X7_whenOf (ok_X7_whenOf g s0 x1) dX7_findWhens_20 ml_X7_116 (Nat.le_of_ble_eq_true rfl) (fits_m (by decide) (by decide)) room_m (fun q2 => ?_)
    refine as_7_4 dX7_findWhens_23 (fun hg3 hj4 s5 => ?_)
    refine r_iincN dX7_findWhens_24 rfl ci_1 rfl (lt_b rfl) (fun v6 => ?_)
    refine r_goto dX7_findWhens_27 (tgt := 2) (by decide) ?_
    exact r_mask [true, true] (hk2 s5 v6)
theorem s_X7_findWhens_L2 (g : Gm) : ∀ (n : Nat) (s0 : Sto) (x1 : Int32), Rf cvV (Em g 4) kX7_findWhens 2 [some (.ref ((Em g 4).1.1 7 0 0)), some (.int x1)] [] s0 (f_X7_findWhens_L2 n s0 x1)
  | 0, _, _ => r_none
  | n + 1, s0, x1 => s_X7_findWhens_B2 g (f_X7_findWhens_L2 n) (s_X7_findWhens_L2 g n) s0 x1
set_option maxRecDepth 100000 in
theorem s_X7_findWhens (g : Gm) (s0 : Sto) : Rf cvV (Em g 4) kX7_findWhens 0 [some (.ref ((Em g 4).1.1 7 0 0)), none] [] s0 (f_X7_findWhens s0) := by
  unfold f_X7_findWhens
  refine r_iconst dX7_findWhens_0 ci_0 ?_
  refine r_istore_n dX7_findWhens_1 rfl (lt_b rfl) (lt_b rfl) ?_
  exact r_mask [true, true] (s_X7_findWhens_L2 g 1000 s0 0)
theorem ok_X7_findWhens (g : Gm) (s0 : Sto) : Ok g yX7_findWhens kX7_findWhens 4 [.ref ((Em g 4).1.1 7 0 0)] s0 cvV (f_X7_findWhens s0) := Ok.of (by decide) rfl (Nat.le_of_ble_eq_true rfl) (lv := [some (.ref ((Em g 4).1.1 7 0 0)), none]) rfl (s_X7_findWhens g s0)
theorem u_X7_findWhens {α : Type} {cv : α → Res} {E : EE} {K : KK} {pc npc idx d : Nat} {lv : List (Option Value)} {st : List Value} {σ : Sto} {oc : Option (Sto)} {kf : Sto → Option α} (hOk : Ok E.1 yX7_findWhens kX7_findWhens d [.ref (E.1.1 7 0 0)] σ cvV oc) (hd : Dc K pc (.invokevirtual idx) 3 npc) (hlk : Cond.methodLink K.2.1 idx yX7_findWhens ∈ lw_good) (hw : (st.map fun v => v.category).sum ≤ 8) (hfit : fits_ E d 2) (hrm : room_ok E) (kk : ∀ τ : Sto, Rf cv E K npc lv st τ (kf τ)) : Rf cv E K pc lv (.ref (E.1.1 7 0 0) :: st) σ (oc.bind kf) := c_V (n := 0) (as := []) (c0 := 7) (i := 0) (CC := "ThawGives") (T := TX7) (N := 11) hd hOk hlk wi_X7_findWhens wv_X7_findWhens wn_X7 wc_X7_findWhens rfl (by decide) (by decide) ⟨by decide, by decide, by decide⟩ rfl rfl hw hfit hrm (fun b _ => kk b)
def f_X7_isCrossed (s0 : Sto) (x1 : Int32) (x2 : Int32) : Option (Int32) :=
  (if 0 ≤ x1 ∧ x1 < 6 then (if 0 ≤ x2 ∧ x2 < 6 then (if (s0.1 5 3 (6 * 0 + Int32.toNatClampNeg x1)) ≤ (s0.1 5 3 (6 * 0 + Int32.toNatClampNeg x2)) then
    some 0
  else
    (if 0 ≤ x1 ∧ x1 < 6 then (if 0 ≤ x2 ∧ x2 < 6 then (if (s0.2.1 7 4 0 (Int32.toNatClampNeg x2)) ≤ (s0.2.1 7 4 0 (Int32.toNatClampNeg x1)) then
      some 0
    else
      some 1) else none) else none)) else none) else none)
set_option maxRecDepth 100000 in
theorem s_X7_isCrossed (g : Gm) (s0 : Sto) (x1 : Int32) (x2 : Int32) : Rf (cvI s0) (Em g 0) kX7_isCrossed 0 [some (.ref ((Em g 0).1.1 7 0 0)), some (.int x1), some (.int x2)] [] s0 (f_X7_isCrossed s0 x1 x2) := by
  unfold f_X7_isCrossed
  refine r_aload_n dX7_isCrossed_0 rfl ?_
  refine gf_X7_14 rfl dX7_isCrossed_1 ?_
  refine gf_X7_81 rfl dX7_isCrossed_4 (by decide) ?_
  refine r_iload_n dX7_isCrossed_7 rfl ?_
  refine al_6_0 dX7_isCrossed_8 (by decide) (fun hg1 hj2 => ?_)
  refine gf_X7_99 rfl dX7_isCrossed_9 (by omega) ?_
  refine r_aload_n dX7_isCrossed_12 rfl ?_
  refine gf_X7_14 rfl dX7_isCrossed_13 ?_
  refine gf_X7_81 rfl dX7_isCrossed_16 (by decide) ?_
  refine r_iload_n dX7_isCrossed_19 rfl ?_
  refine al_6_0 dX7_isCrossed_20 (by decide) (fun hg3 hj4 => ?_)
  refine gf_X7_99 rfl dX7_isCrossed_21 (by omega) ?_
  refine r_icle dX7_isCrossed_24 (tgt := 46) (by decide) (fun c5 => ?_) (fun c5 => ?_)
  · refine r_iconst dX7_isCrossed_46 ci_0 ?_
    exact r_zret dX7_isCrossed_47 rfl rfl rfl
  · refine r_aload_n dX7_isCrossed_27 rfl ?_
    refine gf_X7_34 rfl dX7_isCrossed_28 ?_
    refine r_iload_n dX7_isCrossed_31 rfl ?_
    refine al_7_4 dX7_isCrossed_32 (fun hg6 hj7 => ?_)
    refine r_aload_n dX7_isCrossed_33 rfl ?_
    refine gf_X7_34 rfl dX7_isCrossed_34 ?_
    refine r_iload_n dX7_isCrossed_37 rfl ?_
    refine al_7_4 dX7_isCrossed_38 (fun hg8 hj9 => ?_)
    refine r_icge dX7_isCrossed_39 (tgt := 46) (by decide) (fun c10 => ?_) (fun c10 => ?_)
    · refine r_iconst dX7_isCrossed_46 ci_0 ?_
      exact r_zret dX7_isCrossed_47 rfl rfl rfl
    · refine r_iconst dX7_isCrossed_42 ci_1 ?_
      refine r_goto dX7_isCrossed_43 (tgt := 47) (by decide) ?_
      exact r_zret dX7_isCrossed_47 rfl rfl rfl
theorem ok_X7_isCrossed (g : Gm) (s0 : Sto) (x1 : Int32) (x2 : Int32) : Ok g yX7_isCrossed kX7_isCrossed 0 [.ref ((Em g 0).1.1 7 0 0), .int x1, .int x2] s0 (cvI s0) (f_X7_isCrossed s0 x1 x2) := Ok.of (by decide) rfl (Nat.le_of_ble_eq_true rfl) (lv := [some (.ref ((Em g 0).1.1 7 0 0)), some (.int x1), some (.int x2)]) rfl (s_X7_isCrossed g s0 x1 x2)
theorem u_X7_isCrossed {α : Type} {cv : α → Res} {E : EE} {K : KK} {pc npc idx d : Nat} {lv : List (Option Value)} {st : List Value} {σ : Sto} {oc : Option (Int32)} {kf : Int32 → Option α} {x1 : Int32} {x2 : Int32} (hOk : Ok E.1 yX7_isCrossed kX7_isCrossed d [.ref (E.1.1 7 0 0), .int x1, .int x2] σ (cvI σ) oc) (hd : Dc K pc (.invokevirtual idx) 3 npc) (hlk : Cond.methodLink K.2.1 idx yX7_isCrossed ∈ lw_good) (hw : (st.map fun v => v.category).sum ≤ 8) (hfit : fits_ E d 3) (hrm : room_ok E) (kk : ∀ q : Int32, Rf cv E K npc lv (.int q :: st) σ (kf q)) : Rf cv E K pc lv (.int x2 :: .int x1 :: .ref (E.1.1 7 0 0) :: st) σ (oc.bind kf) := c_V (n := 2) (as := [.int x1, .int x2]) (c0 := 7) (i := 0) (CC := "ThawGives") (T := TX7) (N := 11) hd hOk hlk wi_X7_isCrossed wv_X7_isCrossed wn_X7 wc_X7_isCrossed rfl (by decide) (by decide) ⟨by decide, by decide, by decide⟩ rfl rfl hw hfit hrm (fun b _ => kk b)
def f_X7_crossed_L59 (k8 : Sto → Int32 → Int32 → Int32 → Option (Int32 × Sto)) (k24 : Sto → Int32 → Int32 → Int32 → Int32 → Option (Int32 × Sto)) (s0 : Sto) (x1 : Int32) (x2 : Int32) (x3 : Int32) (x4 : Int32) : Option (Int32 × Sto) :=
  (if x1 = 0 then
    nmI (x2 + 1) fun v10 => nmI (x4 + 1) fun v11 => k24 s0 x1 v10 x3 v11
  else
    some (((10 * x3) + x4), s0))
def f_X7_crossed_B24 (k8 : Sto → Int32 → Int32 → Int32 → Option (Int32 × Sto)) (k24 : Sto → Int32 → Int32 → Int32 → Int32 → Option (Int32 × Sto)) (s0 : Sto) (x1 : Int32) (x2 : Int32) (x3 : Int32) (x4 : Int32) : Option (Int32 × Sto) :=
  (if (s0.1 6 1 0) ≤ x4 then
    nmI (x3 + 1) fun v6 => k8 s0 x1 x2 v6
  else
    (f_X7_isCrossed s0 x3 x4).bind fun q7 => (if q7 = 0 then
      (f_X7_isCrossed s0 x4 x3).bind fun q12 => (if q12 = 0 then
        nmI (x4 + 1) fun v14 => k24 s0 x1 x2 x3 v14
      else
        f_X7_crossed_L59 k8 k24 s0 x1 x2 x3 x4)
    else
      f_X7_crossed_L59 k8 k24 s0 x1 x2 x3 x4))
def f_X7_crossed_L24 (k8 : Sto → Int32 → Int32 → Int32 → Option (Int32 × Sto)) : Nat → Sto → Int32 → Int32 → Int32 → Int32 → Option (Int32 × Sto)
  | 0 => fun _ _ _ _ _ => none
  | n + 1 => f_X7_crossed_B24 k8 (f_X7_crossed_L24 k8 n)
def f_X7_crossed_B8 (k8 : Sto → Int32 → Int32 → Int32 → Option (Int32 × Sto)) (s0 : Sto) (x1 : Int32) (x2 : Int32) (x3 : Int32) : Option (Int32 × Sto) :=
  (if (s0.1 6 1 0) ≤ x3 then
    (if x1 = 0 then
      some (x2, s0)
    else
      some ((-5 : Int32), s0))
  else
    nmI ((x3 + 1)) fun v4 => f_X7_crossed_L24 k8 1000 s0 x1 x2 x3 v4)
def f_X7_crossed_L8 : Nat → Sto → Int32 → Int32 → Int32 → Option (Int32 × Sto)
  | 0 => fun _ _ _ _ => none
  | n + 1 => f_X7_crossed_B8 (f_X7_crossed_L8 n)
def f_X7_crossed (s0 : Sto) (x1 : Int32) : Option (Int32 × Sto) :=
  (f_X7_findWhens s0).bind fun q1 => f_X7_crossed_L8 1000 q1 x1 0 0
set_option maxRecDepth 100000 in
theorem s_X7_crossed_L59 (g : Gm) (k8 : Sto → Int32 → Int32 → Int32 → Option (Int32 × Sto)) (k24 : Sto → Int32 → Int32 → Int32 → Int32 → Option (Int32 × Sto)) (hk8 : ∀ (s0 : Sto) (x1 : Int32) (x2 : Int32) (x3 : Int32), Rf cvIw (Em g 5) kX7_crossed 8 [some (.ref ((Em g 5).1.1 7 0 0)), some (.int x1), some (.int x2), some (.int x3), none] [] s0 (k8 s0 x1 x2 x3)) (hk24 : ∀ (s0 : Sto) (x1 : Int32) (x2 : Int32) (x3 : Int32) (x4 : Int32), Rf cvIw (Em g 5) kX7_crossed 24 [some (.ref ((Em g 5).1.1 7 0 0)), some (.int x1), some (.int x2), some (.int x3), some (.int x4)] [] s0 (k24 s0 x1 x2 x3 x4)) (s0 : Sto) (x1 : Int32) (x2 : Int32) (x3 : Int32) (x4 : Int32) : Rf cvIw (Em g 5) kX7_crossed 59 [some (.ref ((Em g 5).1.1 7 0 0)), some (.int x1), some (.int x2), some (.int x3), some (.int x4)] [] s0 (f_X7_crossed_L59 k8 k24 s0 x1 x2 x3 x4) := by
  unfold f_X7_crossed_L59
  refine r_iload_n dX7_crossed_59 rfl ?_
  refine r_ifeq dX7_crossed_60 (tgt := 71) (by decide) (fun c9 => ?_) (fun c9 => ?_)
  · refine r_iincN dX7_crossed_71 rfl ci_1 rfl (lt_b rfl) (fun v10 => ?_)
    refine r_iincN dX7_crossed_74 rfl ci_1 rfl (lt_b rfl) (fun v11 => ?_)
    refine r_goto dX7_crossed_77 (tgt := 24) (by decide) ?_
    exact r_mask [true, true, true, true, true] (hk24 s0 x1 v10 x3 v11)
  · refine r_bipush dX7_crossed_63 cb_10 ?_
    refine r_iload_n dX7_crossed_65 rfl ?_
    refine r_imul dX7_crossed_66 ?_
    refine r_iload dX7_crossed_67 rfl ?_
    refine r_iadd dX7_crossed_69 ?_
    exact r_iret dX7_crossed_70 rfl rfl
set_option maxRecDepth 100000 in
theorem s_X7_crossed_B24 (g : Gm) (k8 : Sto → Int32 → Int32 → Int32 → Option (Int32 × Sto)) (hk8 : ∀ (s0 : Sto) (x1 : Int32) (x2 : Int32) (x3 : Int32), Rf cvIw (Em g 5) kX7_crossed 8 [some (.ref ((Em g 5).1.1 7 0 0)), some (.int x1), some (.int x2), some (.int x3), none] [] s0 (k8 s0 x1 x2 x3)) (k24 : Sto → Int32 → Int32 → Int32 → Int32 → Option (Int32 × Sto)) (hk24 : ∀ (s0 : Sto) (x1 : Int32) (x2 : Int32) (x3 : Int32) (x4 : Int32), Rf cvIw (Em g 5) kX7_crossed 24 [some (.ref ((Em g 5).1.1 7 0 0)), some (.int x1), some (.int x2), some (.int x3), some (.int x4)] [] s0 (k24 s0 x1 x2 x3 x4)) (s0 : Sto) (x1 : Int32) (x2 : Int32) (x3 : Int32) (x4 : Int32) : Rf cvIw (Em g 5) kX7_crossed 24 [some (.ref ((Em g 5).1.1 7 0 0)), some (.int x1), some (.int x2), some (.int x3), some (.int x4)] [] s0 (f_X7_crossed_B24 k8 k24 s0 x1 x2 x3 x4) := by
  unfold f_X7_crossed_B24
  refine r_iload dX7_crossed_24 rfl ?_
  refine r_aload_n dX7_crossed_26 rfl ?_
  refine gf_X7_14 rfl dX7_crossed_27 ?_
  refine gf_X7_78 rfl dX7_crossed_30 (by decide) ?_
  refine r_icge dX7_crossed_33 (tgt := 80) (by decide) (fun c5 => ?_) (fun c5 => ?_)
  · refine r_iincN dX7_crossed_80 rfl ci_1 rfl (lt_b rfl) (fun v6 => ?_)
    refine r_goto dX7_crossed_83 (tgt := 8) (by decide) ?_
    exact r_mask [true, true, true, true, false] (hk8 s0 x1 x2 v6)
  · refine r_aload_n dX7_crossed_36 rfl ?_
    refine r_iload_n dX7_crossed_37 rfl ?_
    refine r_iload dX7_crossed_38 rfl ?_
    refine u_X7_isCrossed (ok_X7_isCrossed g s0 x3 x4) dX7_crossed_40 ml_X7_276 (Nat.le_of_ble_eq_true rfl) (fits_m (by decide) (by decide)) room_m (fun q7 => ?_)
    refine r_ifne dX7_crossed_43 (tgt := 59) (by decide) (fun c8 => ?_) (fun c8 => ?_)
    · refine r_aload_n dX7_crossed_46 rfl ?_
      refine r_iload dX7_crossed_47 rfl ?_
      refine r_iload_n dX7_crossed_49 rfl ?_
      refine u_X7_isCrossed (ok_X7_isCrossed g s0 x4 x3) dX7_crossed_50 ml_X7_276 (Nat.le_of_ble_eq_true rfl) (fits_m (by decide) (by decide)) room_m (fun q12 => ?_)
      refine r_ifne dX7_crossed_53 (tgt := 59) (by decide) (fun c13 => ?_) (fun c13 => ?_)
      · refine r_goto dX7_crossed_56 (tgt := 74) (by decide) ?_
        refine r_iincN dX7_crossed_74 rfl ci_1 rfl (lt_b rfl) (fun v14 => ?_)
        refine r_goto dX7_crossed_77 (tgt := 24) (by decide) ?_
        exact r_mask [true, true, true, true, true] (hk24 s0 x1 x2 x3 v14)
      · exact r_mask [true, true, true, true, true] (s_X7_crossed_L59 g k8 k24 hk8 hk24 s0 x1 x2 x3 x4)
    · exact r_mask [true, true, true, true, true] (s_X7_crossed_L59 g k8 k24 hk8 hk24 s0 x1 x2 x3 x4)
theorem s_X7_crossed_L24 (g : Gm) (k8 : Sto → Int32 → Int32 → Int32 → Option (Int32 × Sto)) (hk8 : ∀ (s0 : Sto) (x1 : Int32) (x2 : Int32) (x3 : Int32), Rf cvIw (Em g 5) kX7_crossed 8 [some (.ref ((Em g 5).1.1 7 0 0)), some (.int x1), some (.int x2), some (.int x3), none] [] s0 (k8 s0 x1 x2 x3)) : ∀ (n : Nat) (s0 : Sto) (x1 : Int32) (x2 : Int32) (x3 : Int32) (x4 : Int32), Rf cvIw (Em g 5) kX7_crossed 24 [some (.ref ((Em g 5).1.1 7 0 0)), some (.int x1), some (.int x2), some (.int x3), some (.int x4)] [] s0 (f_X7_crossed_L24 k8 n s0 x1 x2 x3 x4)
  | 0, _, _, _, _, _ => r_none
  | n + 1, s0, x1, x2, x3, x4 => s_X7_crossed_B24 g k8 hk8 (f_X7_crossed_L24 k8 n) (s_X7_crossed_L24 g k8 hk8 n) s0 x1 x2 x3 x4
set_option maxRecDepth 100000 in
theorem s_X7_crossed_B8 (g : Gm) (k8 : Sto → Int32 → Int32 → Int32 → Option (Int32 × Sto)) (hk8 : ∀ (s0 : Sto) (x1 : Int32) (x2 : Int32) (x3 : Int32), Rf cvIw (Em g 5) kX7_crossed 8 [some (.ref ((Em g 5).1.1 7 0 0)), some (.int x1), some (.int x2), some (.int x3), none] [] s0 (k8 s0 x1 x2 x3)) (s0 : Sto) (x1 : Int32) (x2 : Int32) (x3 : Int32) : Rf cvIw (Em g 5) kX7_crossed 8 [some (.ref ((Em g 5).1.1 7 0 0)), some (.int x1), some (.int x2), some (.int x3), none] [] s0 (f_X7_crossed_B8 k8 s0 x1 x2 x3) := by
  unfold f_X7_crossed_B8
  refine r_iload_n dX7_crossed_8 rfl ?_
  refine r_aload_n dX7_crossed_9 rfl ?_
  refine gf_X7_14 rfl dX7_crossed_10 ?_
  refine gf_X7_78 rfl dX7_crossed_13 (by decide) ?_
  refine r_icge dX7_crossed_16 (tgt := 86) (by decide) (fun c2 => ?_) (fun c2 => ?_)
  · refine r_iload_n dX7_crossed_86 rfl ?_
    refine r_ifeq dX7_crossed_87 (tgt := 95) (by decide) (fun c3 => ?_) (fun c3 => ?_)
    · refine r_iload_n dX7_crossed_95 rfl ?_
      exact r_iret dX7_crossed_96 rfl rfl
    · refine r_bipush dX7_crossed_90 cb_m5 ?_
      refine r_goto dX7_crossed_92 (tgt := 96) (by decide) ?_
      exact r_iret dX7_crossed_96 rfl rfl
  · refine r_iload_n dX7_crossed_19 rfl ?_
    refine r_iconst dX7_crossed_20 ci_1 ?_
    refine r_iadd dX7_crossed_21 ?_
    refine r_istoreN dX7_crossed_22 rfl (lt_b rfl) (lt_b rfl) (fun v4 => ?_)
    exact r_mask [true, true, true, true, true] (s_X7_crossed_L24 g k8 hk8 1000 s0 x1 x2 x3 v4)
theorem s_X7_crossed_L8 (g : Gm) : ∀ (n : Nat) (s0 : Sto) (x1 : Int32) (x2 : Int32) (x3 : Int32), Rf cvIw (Em g 5) kX7_crossed 8 [some (.ref ((Em g 5).1.1 7 0 0)), some (.int x1), some (.int x2), some (.int x3), none] [] s0 (f_X7_crossed_L8 n s0 x1 x2 x3)
  | 0, _, _, _, _ => r_none
  | n + 1, s0, x1, x2, x3 => s_X7_crossed_B8 g (f_X7_crossed_L8 n) (s_X7_crossed_L8 g n) s0 x1 x2 x3
set_option maxRecDepth 100000 in
theorem s_X7_crossed (g : Gm) (s0 : Sto) (x1 : Int32) : Rf cvIw (Em g 5) kX7_crossed 0 [some (.ref ((Em g 5).1.1 7 0 0)), some (.int x1), none, none, none] [] s0 (f_X7_crossed s0 x1) := by
  unfold f_X7_crossed
  refine r_aload_n dX7_crossed_0 rfl ?_
  refine u_X7_findWhens (ok_X7_findWhens g s0) dX7_crossed_1 ml_X7_273 (Nat.le_of_ble_eq_true rfl) (fits_m (by decide) (by decide)) room_m (fun q1 => ?_)
  refine r_iconst dX7_crossed_4 ci_0 ?_
  refine r_istore_n dX7_crossed_5 rfl (lt_b rfl) (lt_b rfl) ?_
  refine r_iconst dX7_crossed_6 ci_0 ?_
  refine r_istore_n dX7_crossed_7 rfl (lt_b rfl) (lt_b rfl) ?_
  exact r_mask [true, true, true, true, false] (s_X7_crossed_L8 g 1000 q1 x1 0 0)
theorem ok_X7_crossed (g : Gm) (s0 : Sto) (x1 : Int32) : Ok g yX7_crossed kX7_crossed 5 [.ref ((Em g 5).1.1 7 0 0), .int x1] s0 cvIw (f_X7_crossed s0 x1) := Ok.of (by decide) rfl (Nat.le_of_ble_eq_true rfl) (lv := [some (.ref ((Em g 5).1.1 7 0 0)), some (.int x1), none, none, none]) rfl (s_X7_crossed g s0 x1)
theorem u_X7_crossed {α : Type} {cv : α → Res} {E : EE} {K : KK} {pc npc idx d : Nat} {lv : List (Option Value)} {st : List Value} {σ : Sto} {oc : Option (Int32 × Sto)} {kf : (Int32 × Sto) → Option α} {x1 : Int32} (hOk : Ok E.1 yX7_crossed kX7_crossed d [.ref (E.1.1 7 0 0), .int x1] σ cvIw oc) (hd : Dc K pc (.invokevirtual idx) 3 npc) (hlk : Cond.methodLink K.2.1 idx yX7_crossed ∈ lw_good) (hw : (st.map fun v => v.category).sum ≤ 8) (hfit : fits_ E d 5) (hrm : room_ok E) (kk : ∀ q : Int32 × Sto, Rf cv E K npc lv (.int q.1 :: st) q.2 (kf q)) : Rf cv E K pc lv (.int x1 :: .ref (E.1.1 7 0 0) :: st) σ (oc.bind kf) := c_V (n := 1) (as := [.int x1]) (c0 := 7) (i := 0) (CC := "ThawGives") (T := TX7) (N := 11) hd hOk hlk wi_X7_crossed wv_X7_crossed wn_X7 wc_X7_crossed rfl (by decide) (by decide) ⟨by decide, by decide, by decide⟩ rfl rfl hw hfit hrm (fun b _ => kk b)
