def f_X8_outs_B4 (s0 : Sto) (k4 : Int32 → Int32 → Option (Int32)) (x1 : Int32) (x2 : Int32) : Option (Int32) :=
  (if (s0.1 8 0 0) ≤ x2 then
    some x1
  else
    (if 0 ≤ x2 ∧ x2 < 6 then (if (s0.2.1 8 4 0 (Int32.toNatClampNeg x2)) = 0 then
      nmI ((x1 ||| (1 <<< (x2 &&& 31)))) fun v6 => nmI (x2 + 1) fun v7 => k4 v6 v7
    else
      nmI (x2 + 1) fun v5 => k4 x1 v5) else none))
def f_X8_outs_L4 (s0 : Sto) : Nat → Int32 → Int32 → Option (Int32)
  | 0 => fun _ _ => none
  | n + 1 => f_X8_outs_B4 s0 (f_X8_outs_L4 s0 n)
def f_X8_outs (s0 : Sto) : Option (Int32) :=
  f_X8_outs_L4 s0 1000 0 0
set_option maxRecDepth 100000 in
theorem s_X8_outs_B4 (g : Gm) (s0 : Sto) (k4 : Int32 → Int32 → Option (Int32)) (hk4 : ∀ (x1 : Int32) (x2 : Int32), Rf (cvI s0) (Em g 0) kX8_outs 4 [some (.ref ((Em g 0).1.1 8 0 0)), some (.int x1), some (.int x2)] [] s0 (k4 x1 x2)) (x1 : Int32) (x2 : Int32) : Rf (cvI s0) (Em g 0) kX8_outs 4 [some (.ref ((Em g 0).1.1 8 0 0)), some (.int x1), some (.int x2)] [] s0 (f_X8_outs_B4 s0 k4 x1 x2) := by
  unfold f_X8_outs_B4
  refine r_iload_n dX8_outs_4 rfl ?_
  refine r_aload_n dX8_outs_5 rfl ?_
  refine gf_X8_102 rfl dX8_outs_6 ?_
  refine r_icge dX8_outs_9 (tgt := 33) (by decide) (fun c1 => ?_) (fun c1 => ?_)
  · refine r_iload_n dX8_outs_33 rfl ?_
    exact r_iret dX8_outs_34 rfl rfl
  · refine r_aload_n dX8_outs_12 rfl ?_
    refine gf_X8_21 rfl dX8_outs_13 ?_
    refine r_iload_n dX8_outs_16 rfl ?_
    refine al_8_4 dX8_outs_17 (fun hg2 hj3 => ?_)
    refine r_ifne dX8_outs_18 (tgt := 27) (by decide) (fun c4 => ?_) (fun c4 => ?_)
    · refine r_iload_n dX8_outs_21 rfl ?_
      refine r_iconst dX8_outs_22 ci_1 ?_
      refine r_iload_n dX8_outs_23 rfl ?_
      refine r_ishl dX8_outs_24 ?_
      refine r_ior dX8_outs_25 ?_
      refine r_istore_nN dX8_outs_26 rfl (lt_b rfl) (lt_b rfl) (fun v6 => ?_)
      refine r_iincN dX8_outs_27 rfl ci_1 rfl (lt_b rfl) (fun v7 => ?_)
      refine r_goto dX8_outs_30 (tgt := 4) (by decide) ?_
      exact r_mask [true, true, true] (hk4 v6 v7)
    · refine r_iincN dX8_outs_27 rfl ci_1 rfl (lt_b rfl) (fun v5 => ?_)
      refine r_goto dX8_outs_30 (tgt := 4) (by decide) ?_
      exact r_mask [true, true, true] (hk4 x1 v5)
theorem s_X8_outs_L4 (g : Gm) (s0 : Sto) : ∀ (n : Nat) (x1 : Int32) (x2 : Int32), Rf (cvI s0) (Em g 0) kX8_outs 4 [some (.ref ((Em g 0).1.1 8 0 0)), some (.int x1), some (.int x2)] [] s0 (f_X8_outs_L4 s0 n x1 x2)
  | 0, _, _ => r_none
  | n + 1, x1, x2 => s_X8_outs_B4 g s0 (f_X8_outs_L4 s0 n) (s_X8_outs_L4 g s0 n) x1 x2
set_option maxRecDepth 100000 in
theorem s_X8_outs (g : Gm) (s0 : Sto) : Rf (cvI s0) (Em g 0) kX8_outs 0 [some (.ref ((Em g 0).1.1 8 0 0)), none, none] [] s0 (f_X8_outs s0) := by
  unfold f_X8_outs
  refine r_iconst dX8_outs_0 ci_0 ?_
  refine r_istore_n dX8_outs_1 rfl (lt_b rfl) (lt_b rfl) ?_
  refine r_iconst dX8_outs_2 ci_0 ?_
  refine r_istore_n dX8_outs_3 rfl (lt_b rfl) (lt_b rfl) ?_
  exact r_mask [true, true, true] (s_X8_outs_L4 g s0 1000 0 0)
theorem ok_X8_outs (g : Gm) (s0 : Sto) : Ok g yX8_outs kX8_outs 0 [.ref ((Em g 0).1.1 8 0 0)] s0 (cvI s0) (f_X8_outs s0) := Ok.of (by decide) rfl (Nat.le_of_ble_eq_true rfl) (lv := [some (.ref ((Em g 0).1.1 8 0 0)), none, none]) rfl (s_X8_outs g s0)
theorem u_X8_outs {α : Type} {cv : α → Res} {E : EE} {K : KK} {pc npc idx d : Nat} {lv : List (Option Value)} {st : List Value} {σ : Sto} {oc : Option (Int32)} {kf : Int32 → Option α} (hOk : Ok E.1 yX8_outs kX8_outs d [.ref (E.1.1 8 0 0)] σ (cvI σ) oc) (hd : Dc K pc (.invokevirtual idx) 3 npc) (hlk : Cond.methodLink K.2.1 idx yX8_outs ∈ lw_good) (hw : (st.map fun v => v.category).sum ≤ 8) (hfit : fits_ E d 3) (hrm : room_ok E) (kk : ∀ q : Int32, Rf cv E K npc lv (.int q :: st) σ (kf q)) : Rf cv E K pc lv (.ref (E.1.1 8 0 0) :: st) σ (oc.bind kf) := c_V (n := 0) (as := []) (c0 := 8) (i := 0) (CC := "ThawGivesModel") (T := TX8) (N := 43) hd hOk hlk wi_X8_outs wv_X8_outs wn_X8 wc_X8_outs rfl (by decide) (by decide) ⟨by decide, by decide, by decide⟩ rfl rfl hw hfit hrm (fun b _ => kk b)
def f_X8_allDepth_B4 (s0 : Sto) (k4 : Int32 → Int32 → Option (Int32)) (x1 : Int32) (x2 : Int32) : Option (Int32) :=
  (if (s0.1 8 0 0) ≤ x2 then
    some x1
  else
    (if 0 ≤ x2 ∧ x2 < 6 then nmI ((x1 + (s0.2.1 8 4 0 (Int32.toNatClampNeg x2)))) fun v4 => nmI (x2 + 1) fun v5 => k4 v4 v5 else none))
def f_X8_allDepth_L4 (s0 : Sto) : Nat → Int32 → Int32 → Option (Int32)
  | 0 => fun _ _ => none
  | n + 1 => f_X8_allDepth_B4 s0 (f_X8_allDepth_L4 s0 n)
def f_X8_allDepth (s0 : Sto) : Option (Int32) :=
  f_X8_allDepth_L4 s0 1000 0 0
set_option maxRecDepth 100000 in
theorem s_X8_allDepth_B4 (g : Gm) (s0 : Sto) (k4 : Int32 → Int32 → Option (Int32)) (hk4 : ∀ (x1 : Int32) (x2 : Int32), Rf (cvI s0) (Em g 0) kX8_allDepth 4 [some (.ref ((Em g 0).1.1 8 0 0)), some (.int x1), some (.int x2)] [] s0 (k4 x1 x2)) (x1 : Int32) (x2 : Int32) : Rf (cvI s0) (Em g 0) kX8_allDepth 4 [some (.ref ((Em g 0).1.1 8 0 0)), some (.int x1), some (.int x2)] [] s0 (f_X8_allDepth_B4 s0 k4 x1 x2) := by
  unfold f_X8_allDepth_B4
  refine r_iload_n dX8_allDepth_4 rfl ?_
  refine r_aload_n dX8_allDepth_5 rfl ?_
  refine gf_X8_102 rfl dX8_allDepth_6 ?_
  refine r_icge dX8_allDepth_9 (tgt := 27) (by decide) (fun c1 => ?_) (fun c1 => ?_)
  · refine r_iload_n dX8_allDepth_27 rfl ?_
    exact r_iret dX8_allDepth_28 rfl rfl
  · refine r_iload_n dX8_allDepth_12 rfl ?_
    refine r_aload_n dX8_allDepth_13 rfl ?_
    refine gf_X8_21 rfl dX8_allDepth_14 ?_
    refine r_iload_n dX8_allDepth_17 rfl ?_
    refine al_8_4 dX8_allDepth_18 (fun hg2 hj3 => ?_)
    refine r_iadd dX8_allDepth_19 ?_
    refine r_istore_nN dX8_allDepth_20 rfl (lt_b rfl) (lt_b rfl) (fun v4 => ?_)
    refine r_iincN dX8_allDepth_21 rfl ci_1 rfl (lt_b rfl) (fun v5 => ?_)
    refine r_goto dX8_allDepth_24 (tgt := 4) (by decide) ?_
    exact r_mask [true, true, true] (hk4 v4 v5)
theorem s_X8_allDepth_L4 (g : Gm) (s0 : Sto) : ∀ (n : Nat) (x1 : Int32) (x2 : Int32), Rf (cvI s0) (Em g 0) kX8_allDepth 4 [some (.ref ((Em g 0).1.1 8 0 0)), some (.int x1), some (.int x2)] [] s0 (f_X8_allDepth_L4 s0 n x1 x2)
  | 0, _, _ => r_none
  | n + 1, x1, x2 => s_X8_allDepth_B4 g s0 (f_X8_allDepth_L4 s0 n) (s_X8_allDepth_L4 g s0 n) x1 x2
set_option maxRecDepth 100000 in
theorem s_X8_allDepth (g : Gm) (s0 : Sto) : Rf (cvI s0) (Em g 0) kX8_allDepth 0 [some (.ref ((Em g 0).1.1 8 0 0)), none, none] [] s0 (f_X8_allDepth s0) := by
  unfold f_X8_allDepth
  refine r_iconst dX8_allDepth_0 ci_0 ?_
  refine r_istore_n dX8_allDepth_1 rfl (lt_b rfl) (lt_b rfl) ?_
  refine r_iconst dX8_allDepth_2 ci_0 ?_
  refine r_istore_n dX8_allDepth_3 rfl (lt_b rfl) (lt_b rfl) ?_
  exact r_mask [true, true, true] (s_X8_allDepth_L4 g s0 1000 0 0)
theorem ok_X8_allDepth (g : Gm) (s0 : Sto) : Ok g yX8_allDepth kX8_allDepth 0 [.ref ((Em g 0).1.1 8 0 0)] s0 (cvI s0) (f_X8_allDepth s0) := Ok.of (by decide) rfl (Nat.le_of_ble_eq_true rfl) (lv := [some (.ref ((Em g 0).1.1 8 0 0)), none, none]) rfl (s_X8_allDepth g s0)
theorem u_X8_allDepth {α : Type} {cv : α → Res} {E : EE} {K : KK} {pc npc idx d : Nat} {lv : List (Option Value)} {st : List Value} {σ : Sto} {oc : Option (Int32)} {kf : Int32 → Option α} (hOk : Ok E.1 yX8_allDepth kX8_allDepth d [.ref (E.1.1 8 0 0)] σ (cvI σ) oc) (hd : Dc K pc (.invokevirtual idx) 3 npc) (hlk : Cond.methodLink K.2.1 idx yX8_allDepth ∈ lw_good) (hw : (st.map fun v => v.category).sum ≤ 8) (hfit : fits_ E d 3) (hrm : room_ok E) (kk : ∀ q : Int32, Rf cv E K npc lv (.int q :: st) σ (kf q)) : Rf cv E K pc lv (.ref (E.1.1 8 0 0) :: st) σ (oc.bind kf) := c_V (n := 0) (as := []) (c0 := 8) (i := 0) (CC := "ThawGivesModel") (T := TX8) (N := 43) hd hOk hlk wi_X8_allDepth wv_X8_allDepth wn_X8 wc_X8_allDepth rfl (by decide) (by decide) ⟨by decide, by decide, by decide⟩ rfl rfl hw hfit hrm (fun b _ => kk b)
def f_X8_looks_B2 (k2 : Sto → Int32 → Option (Sto)) (s0 : Sto) (x1 : Int32) : Option (Sto) :=
  (if (s0.1 8 0 0) ≤ x1 then
    some s0
  else
    (f_X8_when s0 x1).bind fun q2 => nmI (q2.1) fun v3 => (if v3 = (-5 : Int32) then
      (if 0 ≤ x1 ∧ x1 < 6 then nm (sA q2.2 8 38 0 (upd (q2.2.2.1 8 38 0) (Int32.toNatClampNeg x1) 99)) fun s11 => nmI (x1 + 1) fun v12 => k2 s11 v12 else none)
    else
      (if 0 ≤ x1 ∧ x1 < 6 then nm (sA q2.2 8 38 0 (upd (q2.2.2.1 8 38 0) (Int32.toNatClampNeg x1) v3)) fun s7 => nmI (x1 + 1) fun v8 => k2 s7 v8 else none)))
def f_X8_looks_L2 : Nat → Sto → Int32 → Option (Sto)
  | 0 => fun _ _ => none
  | n + 1 => f_X8_looks_B2 (f_X8_looks_L2 n)
def f_X8_looks (s0 : Sto) : Option (Sto) :=
  f_X8_looks_L2 1000 s0 0
set_option maxRecDepth 100000 in
theorem s_X8_looks_B2 (g : Gm) (k2 : Sto → Int32 → Option (Sto)) (hk2 : ∀ (s0 : Sto) (x1 : Int32), Rf cvV (Em g 6) kX8_looks 2 [some (.ref ((Em g 6).1.1 8 0 0)), some (.int x1), none] [] s0 (k2 s0 x1)) (s0 : Sto) (x1 : Int32) : Rf cvV (Em g 6) kX8_looks 2 [some (.ref ((Em g 6).1.1 8 0 0)), some (.int x1), none] [] s0 (f_X8_looks_B2 k2 s0 x1) := by
  unfold f_X8_looks_B2
  refine r_iload_n dX8_looks_2 rfl ?_
  refine r_aload_n dX8_looks_3 rfl ?_
  refine gf_X8_102 rfl dX8_looks_4 ?_
  refine r_icge dX8_looks_7 (tgt := 40) (by decide) (fun c1 => ?_) (fun c1 => ?_)
  · exact r_vret dX8_looks_40 rfl rfl
  · refine r_aload_n dX8_looks_10 rfl ?_
    refine r_iload_n dX8_looks_11 rfl ?_
    refine u_X8_when (ok_X8_when g s0 x1) dX8_looks_12 ml_X8_120 (Nat.le_of_ble_eq_true rfl) (fits_m (by decide) (by decide)) room_m (fun q2 => ?_)
    refine r_istore_nN dX8_looks_15 rfl (lt_b rfl) (lt_b rfl) (fun v3 => ?_)
    refine r_aload_n dX8_looks_16 rfl ?_
    refine gf_X8_82 rfl dX8_looks_17 ?_
    refine r_iload_n dX8_looks_20 rfl ?_
    refine r_iload_n dX8_looks_21 rfl ?_
    refine r_bipush dX8_looks_22 cb_m5 ?_
    refine r_icne dX8_looks_24 (tgt := 32) (by decide) (fun c4 => ?_) (fun c4 => ?_)
    · refine r_bipush dX8_looks_27 cb_99 ?_
      refine r_goto dX8_looks_29 (tgt := 33) (by decide) ?_
      refine as_8_38 dX8_looks_33 (fun hg9 hj10 s11 => ?_)
      refine r_iincN dX8_looks_34 rfl ci_1 rfl (lt_b rfl) (fun v12 => ?_)
      refine r_goto dX8_looks_37 (tgt := 2) (by decide) ?_
      exact r_mask [true, true, false] (hk2 s11 v12)
    · refine r_iload_n dX8_looks_32 rfl ?_
      refine as_8_38 dX8_looks_33 (fun hg5 hj6 s7 => ?_)
      refine r_iincN dX8_looks_34 rfl ci_1 rfl (lt_b rfl) (fun v8 => ?_)
      refine r_goto dX8_looks_37 (tgt := 2) (by decide) ?_
      exact r_mask [true, true, false] (hk2 s7 v8)
theorem s_X8_looks_L2 (g : Gm) : ∀ (n : Nat) (s0 : Sto) (x1 : Int32), Rf cvV (Em g 6) kX8_looks 2 [some (.ref ((Em g 6).1.1 8 0 0)), some (.int x1), none] [] s0 (f_X8_looks_L2 n s0 x1)
  | 0, _, _ => r_none
  | n + 1, s0, x1 => s_X8_looks_B2 g (f_X8_looks_L2 n) (s_X8_looks_L2 g n) s0 x1
set_option maxRecDepth 100000 in
theorem s_X8_looks (g : Gm) (s0 : Sto) : Rf cvV (Em g 6) kX8_looks 0 [some (.ref ((Em g 6).1.1 8 0 0)), none, none] [] s0 (f_X8_looks s0) := by
  unfold f_X8_looks
  refine r_iconst dX8_looks_0 ci_0 ?_
  refine r_istore_n dX8_looks_1 rfl (lt_b rfl) (lt_b rfl) ?_
  exact r_mask [true, true, false] (s_X8_looks_L2 g 1000 s0 0)
theorem ok_X8_looks (g : Gm) (s0 : Sto) : Ok g yX8_looks kX8_looks 6 [.ref ((Em g 6).1.1 8 0 0)] s0 cvV (f_X8_looks s0) := Ok.of (by decide) rfl (Nat.le_of_ble_eq_true rfl) (lv := [some (.ref ((Em g 6).1.1 8 0 0)), none, none]) rfl (s_X8_looks g s0)
theorem u_X8_looks {α : Type} {cv : α → Res} {E : EE} {K : KK} {pc npc idx d : Nat} {lv : List (Option Value)} {st : List Value} {σ : Sto} {oc : Option (Sto)} {kf : Sto → Option α} (hOk : Ok E.1 yX8_looks kX8_looks d [.ref (E.1.1 8 0 0)] σ cvV oc) (hd : Dc K pc (.invokevirtual idx) 3 npc) (hlk : Cond.methodLink K.2.1 idx yX8_looks ∈ lw_good) (hw : (st.map fun v => v.category).sum ≤ 8) (hfit : fits_ E d 3) (hrm : room_ok E) (kk : ∀ τ : Sto, Rf cv E K npc lv st τ (kf τ)) : Rf cv E K pc lv (.ref (E.1.1 8 0 0) :: st) σ (oc.bind kf) := c_V (n := 0) (as := []) (c0 := 8) (i := 0) (CC := "ThawGivesModel") (T := TX8) (N := 43) hd hOk hlk wi_X8_looks wv_X8_looks wn_X8 wc_X8_looks rfl (by decide) (by decide) ⟨by decide, by decide, by decide⟩ rfl rfl hw hfit hrm (fun b _ => kk b)
def f_X8_crossed_L107 (k12 : Sto → Int32 → Int32 → Int32 → Int32 → Option (Int32 × Sto)) (k27 : Sto → Int32 → Int32 → Int32 → Int32 → Int32 → Option (Int32 × Sto)) (s0 : Sto) (x1 : Int32) (x2 : Int32) (x3 : Int32) (x4 : Int32) (x5 : Int32) : Option (Int32 × Sto) :=
  nmI (x2 + 1) fun v23 => (if x3 = (-5 : Int32) then
    nmI (((10 * x4) + x5)) fun v26 => nmI (x5 + 1) fun v27 => k27 s0 x1 v23 v26 x4 v27
  else
    nmI (x5 + 1) fun v25 => k27 s0 x1 v23 x3 x4 v25)
def f_X8_crossed_L70 (k12 : Sto → Int32 → Int32 → Int32 → Int32 → Option (Int32 × Sto)) (k27 : Sto → Int32 → Int32 → Int32 → Int32 → Int32 → Option (Int32 × Sto)) (s0 : Sto) (x1 : Int32) (x2 : Int32) (x3 : Int32) (x4 : Int32) (x5 : Int32) : Option (Int32 × Sto) :=
  (if 0 ≤ x4 ∧ x4 < 6 then (if 0 ≤ x5 ∧ x5 < 6 then (if (s0.2.1 8 3 0 (Int32.toNatClampNeg x5)) ≤ (s0.2.1 8 3 0 (Int32.toNatClampNeg x4)) then
    nmI (x5 + 1) fun v17 => k27 s0 x1 x2 x3 x4 v17
  else
    (if 0 ≤ x4 ∧ x4 < 6 then (if 0 ≤ x5 ∧ x5 < 6 then (if (s0.2.1 8 38 0 (Int32.toNatClampNeg x5)) < (s0.2.1 8 38 0 (Int32.toNatClampNeg x4)) then
      f_X8_crossed_L107 k12 k27 s0 x1 x2 x3 x4 x5
    else
      nmI (x5 + 1) fun v28 => k27 s0 x1 x2 x3 x4 v28) else none) else none)) else none) else none)
def f_X8_crossed_B27 (k12 : Sto → Int32 → Int32 → Int32 → Int32 → Option (Int32 × Sto)) (k27 : Sto → Int32 → Int32 → Int32 → Int32 → Int32 → Option (Int32 × Sto)) (s0 : Sto) (x1 : Int32) (x2 : Int32) (x3 : Int32) (x4 : Int32) (x5 : Int32) : Option (Int32 × Sto) :=
  (if (s0.1 8 0 0) ≤ x5 then
    nmI (x4 + 1) fun v6 => k12 s0 x1 x2 x3 v6
  else
    (if 0 ≤ x4 ∧ x4 < 6 then (if 0 ≤ x5 ∧ x5 < 6 then (if (s0.2.1 8 3 0 (Int32.toNatClampNeg x4)) ≤ (s0.2.1 8 3 0 (Int32.toNatClampNeg x5)) then
      f_X8_crossed_L70 k12 k27 s0 x1 x2 x3 x4 x5
    else
      (if 0 ≤ x4 ∧ x4 < 6 then (if 0 ≤ x5 ∧ x5 < 6 then (if (s0.2.1 8 38 0 (Int32.toNatClampNeg x4)) < (s0.2.1 8 38 0 (Int32.toNatClampNeg x5)) then
        f_X8_crossed_L107 k12 k27 s0 x1 x2 x3 x4 x5
      else
        f_X8_crossed_L70 k12 k27 s0 x1 x2 x3 x4 x5) else none) else none)) else none) else none))
def f_X8_crossed_L27 (k12 : Sto → Int32 → Int32 → Int32 → Int32 → Option (Int32 × Sto)) : Nat → Sto → Int32 → Int32 → Int32 → Int32 → Int32 → Option (Int32 × Sto)
  | 0 => fun _ _ _ _ _ _ => none
  | n + 1 => f_X8_crossed_B27 k12 (f_X8_crossed_L27 k12 n)
def f_X8_crossed_B12 (k12 : Sto → Int32 → Int32 → Int32 → Int32 → Option (Int32 × Sto)) (s0 : Sto) (x1 : Int32) (x2 : Int32) (x3 : Int32) (x4 : Int32) : Option (Int32 × Sto) :=
  (if (s0.1 8 0 0) ≤ x4 then
    (if x1 = 0 then
      some (x2, s0)
    else
      some (x3, s0))
  else
    nmI ((x4 + 1)) fun v4 => f_X8_crossed_L27 k12 1000 s0 x1 x2 x3 x4 v4)
def f_X8_crossed_L12 : Nat → Sto → Int32 → Int32 → Int32 → Int32 → Option (Int32 × Sto)
  | 0 => fun _ _ _ _ _ => none
  | n + 1 => f_X8_crossed_B12 (f_X8_crossed_L12 n)
def f_X8_crossed (s0 : Sto) (x1 : Int32) : Option (Int32 × Sto) :=
  (f_X8_looks s0).bind fun q1 => f_X8_crossed_L12 1000 q1 x1 0 (-5 : Int32) 0
set_option maxRecDepth 100000 in
theorem s_X8_crossed_L107 (g : Gm) (k12 : Sto → Int32 → Int32 → Int32 → Int32 → Option (Int32 × Sto)) (k27 : Sto → Int32 → Int32 → Int32 → Int32 → Int32 → Option (Int32 × Sto)) (hk12 : ∀ (s0 : Sto) (x1 : Int32) (x2 : Int32) (x3 : Int32) (x4 : Int32), Rf cvIw (Em g 7) kX8_crossed 12 [some (.ref ((Em g 7).1.1 8 0 0)), some (.int x1), some (.int x2), some (.int x3), some (.int x4), none] [] s0 (k12 s0 x1 x2 x3 x4)) (hk27 : ∀ (s0 : Sto) (x1 : Int32) (x2 : Int32) (x3 : Int32) (x4 : Int32) (x5 : Int32), Rf cvIw (Em g 7) kX8_crossed 27 [some (.ref ((Em g 7).1.1 8 0 0)), some (.int x1), some (.int x2), some (.int x3), some (.int x4), some (.int x5)] [] s0 (k27 s0 x1 x2 x3 x4 x5)) (s0 : Sto) (x1 : Int32) (x2 : Int32) (x3 : Int32) (x4 : Int32) (x5 : Int32) : Rf cvIw (Em g 7) kX8_crossed 107 [some (.ref ((Em g 7).1.1 8 0 0)), some (.int x1), some (.int x2), some (.int x3), some (.int x4), some (.int x5)] [] s0 (f_X8_crossed_L107 k12 k27 s0 x1 x2 x3 x4 x5) := by
  unfold f_X8_crossed_L107
  refine r_iincN dX8_crossed_107 rfl ci_1 rfl (lt_b rfl) (fun v23 => ?_)
  refine r_iload_n dX8_crossed_110 rfl ?_
  refine r_bipush dX8_crossed_111 cb_m5 ?_
  refine r_icne dX8_crossed_113 (tgt := 125) (by decide) (fun c24 => ?_) (fun c24 => ?_)
  · refine r_bipush dX8_crossed_116 cb_10 ?_
    refine r_iload dX8_crossed_118 rfl ?_
    refine r_imul dX8_crossed_120 ?_
    refine r_iload dX8_crossed_121 rfl ?_
    refine r_iadd dX8_crossed_123 ?_
    refine r_istore_nN dX8_crossed_124 rfl (lt_b rfl) (lt_b rfl) (fun v26 => ?_)
    refine r_iincN dX8_crossed_125 rfl ci_1 rfl (lt_b rfl) (fun v27 => ?_)
    refine r_goto dX8_crossed_128 (tgt := 27) (by decide) ?_
    exact r_mask [true, true, true, true, true, true] (hk27 s0 x1 v23 v26 x4 v27)
  · refine r_iincN dX8_crossed_125 rfl ci_1 rfl (lt_b rfl) (fun v25 => ?_)
    refine r_goto dX8_crossed_128 (tgt := 27) (by decide) ?_
    exact r_mask [true, true, true, true, true, true] (hk27 s0 x1 v23 x3 x4 v25)
set_option maxRecDepth 100000 in
theorem s_X8_crossed_L70 (g : Gm) (k12 : Sto → Int32 → Int32 → Int32 → Int32 → Option (Int32 × Sto)) (k27 : Sto → Int32 → Int32 → Int32 → Int32 → Int32 → Option (Int32 × Sto)) (hk12 : ∀ (s0 : Sto) (x1 : Int32) (x2 : Int32) (x3 : Int32) (x4 : Int32), Rf cvIw (Em g 7) kX8_crossed 12 [some (.ref ((Em g 7).1.1 8 0 0)), some (.int x1), some (.int x2), some (.int x3), some (.int x4), none] [] s0 (k12 s0 x1 x2 x3 x4)) (hk27 : ∀ (s0 : Sto) (x1 : Int32) (x2 : Int32) (x3 : Int32) (x4 : Int32) (x5 : Int32), Rf cvIw (Em g 7) kX8_crossed 27 [some (.ref ((Em g 7).1.1 8 0 0)), some (.int x1), some (.int x2), some (.int x3), some (.int x4), some (.int x5)] [] s0 (k27 s0 x1 x2 x3 x4 x5)) (s0 : Sto) (x1 : Int32) (x2 : Int32) (x3 : Int32) (x4 : Int32) (x5 : Int32) : Rf cvIw (Em g 7) kX8_crossed 70 [some (.ref ((Em g 7).1.1 8 0 0)), some (.int x1), some (.int x2), some (.int x3), some (.int x4), some (.int x5)] [] s0 (f_X8_crossed_L70 k12 k27 s0 x1 x2 x3 x4 x5) := by
  unfold f_X8_crossed_L70
  refine r_aload_n dX8_crossed_70 rfl ?_
  refine gf_X8_18 rfl dX8_crossed_71 ?_
  refine r_iload dX8_crossed_74 rfl ?_
  refine al_8_3 dX8_crossed_76 (fun hg12 hj13 => ?_)
  refine r_aload_n dX8_crossed_77 rfl ?_
  refine gf_X8_18 rfl dX8_crossed_78 ?_
  refine r_iload dX8_crossed_81 rfl ?_
  refine al_8_3 dX8_crossed_83 (fun hg14 hj15 => ?_)
  refine r_icge dX8_crossed_84 (tgt := 125) (by decide) (fun c16 => ?_) (fun c16 => ?_)
  · refine r_iincN dX8_crossed_125 rfl ci_1 rfl (lt_b rfl) (fun v17 => ?_)
    refine r_goto dX8_crossed_128 (tgt := 27) (by decide) ?_
    exact r_mask [true, true, true, true, true, true] (hk27 s0 x1 x2 x3 x4 v17)
  · refine r_aload_n dX8_crossed_87 rfl ?_
    refine gf_X8_82 rfl dX8_crossed_88 ?_
    refine r_iload dX8_crossed_91 rfl ?_
    refine al_8_38 dX8_crossed_93 (fun hg18 hj19 => ?_)
    refine r_aload_n dX8_crossed_94 rfl ?_
    refine gf_X8_82 rfl dX8_crossed_95 ?_
    refine r_iload dX8_crossed_98 rfl ?_
    refine al_8_38 dX8_crossed_100 (fun hg20 hj21 => ?_)
    refine r_icgt dX8_crossed_101 (tgt := 107) (by decide) (fun c22 => ?_) (fun c22 => ?_)
    · exact r_mask [true, true, true, true, true, true] (s_X8_crossed_L107 g k12 k27 hk12 hk27 s0 x1 x2 x3 x4 x5)
    · refine r_goto dX8_crossed_104 (tgt := 125) (by decide) ?_
      refine r_iincN dX8_crossed_125 rfl ci_1 rfl (lt_b rfl) (fun v28 => ?_)
      refine r_goto dX8_crossed_128 (tgt := 27) (by decide) ?_
      exact r_mask [true, true, true, true, true, true] (hk27 s0 x1 x2 x3 x4 v28)
set_option maxRecDepth 100000 in
theorem s_X8_crossed_B27 (g : Gm) (k12 : Sto → Int32 → Int32 → Int32 → Int32 → Option (Int32 × Sto)) (hk12 : ∀ (s0 : Sto) (x1 : Int32) (x2 : Int32) (x3 : Int32) (x4 : Int32), Rf cvIw (Em g 7) kX8_crossed 12 [some (.ref ((Em g 7).1.1 8 0 0)), some (.int x1), some (.int x2), some (.int x3), some (.int x4), none] [] s0 (k12 s0 x1 x2 x3 x4)) (k27 : Sto → Int32 → Int32 → Int32 → Int32 → Int32 → Option (Int32 × Sto)) (hk27 : ∀ (s0 : Sto) (x1 : Int32) (x2 : Int32) (x3 : Int32) (x4 : Int32) (x5 : Int32), Rf cvIw (Em g 7) kX8_crossed 27 [some (.ref ((Em g 7).1.1 8 0 0)), some (.int x1), some (.int x2), some (.int x3), some (.int x4), some (.int x5)] [] s0 (k27 s0 x1 x2 x3 x4 x5)) (s0 : Sto) (x1 : Int32) (x2 : Int32) (x3 : Int32) (x4 : Int32) (x5 : Int32) : Rf cvIw (Em g 7) kX8_crossed 27 [some (.ref ((Em g 7).1.1 8 0 0)), some (.int x1), some (.int x2), some (.int x3), some (.int x4), some (.int x5)] [] s0 (f_X8_crossed_B27 k12 k27 s0 x1 x2 x3 x4 x5) := by
  unfold f_X8_crossed_B27
  refine r_iload dX8_crossed_27 rfl ?_
  refine r_aload_n dX8_crossed_29 rfl ?_
  refine gf_X8_102 rfl dX8_crossed_30 ?_
  refine r_icge dX8_crossed_33 (tgt := 131) (by decide) (fun c5 => ?_) (fun c5 => ?_)
  · refine r_iincN dX8_crossed_131 rfl ci_1 rfl (lt_b rfl) (fun v6 => ?_)
    refine r_goto dX8_crossed_134 (tgt := 12) (by decide) ?_
    exact r_mask [true, true, true, true, true, false] (hk12 s0 x1 x2 x3 v6)
  · refine r_aload_n dX8_crossed_36 rfl ?_
    refine gf_X8_18 rfl dX8_crossed_37 ?_
    refine r_iload dX8_crossed_40 rfl ?_
    refine al_8_3 dX8_crossed_42 (fun hg7 hj8 => ?_)
    refine r_aload_n dX8_crossed_43 rfl ?_
    refine gf_X8_18 rfl dX8_crossed_44 ?_
    refine r_iload dX8_crossed_47 rfl ?_
    refine al_8_3 dX8_crossed_49 (fun hg9 hj10 => ?_)
    refine r_icle dX8_crossed_50 (tgt := 70) (by decide) (fun c11 => ?_) (fun c11 => ?_)
    · exact r_mask [true, true, true, true, true, true] (s_X8_crossed_L70 g k12 k27 hk12 hk27 s0 x1 x2 x3 x4 x5)
    · refine r_aload_n dX8_crossed_53 rfl ?_
      refine gf_X8_82 rfl dX8_crossed_54 ?_
      refine r_iload dX8_crossed_57 rfl ?_
      refine al_8_38 dX8_crossed_59 (fun hg29 hj30 => ?_)
      refine r_aload_n dX8_crossed_60 rfl ?_
      refine gf_X8_82 rfl dX8_crossed_61 ?_
      refine r_iload dX8_crossed_64 rfl ?_
      refine al_8_38 dX8_crossed_66 (fun hg31 hj32 => ?_)
      refine r_iclt dX8_crossed_67 (tgt := 107) (by decide) (fun c33 => ?_) (fun c33 => ?_)
      · exact r_mask [true, true, true, true, true, true] (s_X8_crossed_L107 g k12 k27 hk12 hk27 s0 x1 x2 x3 x4 x5)
      · exact r_mask [true, true, true, true, true, true] (s_X8_crossed_L70 g k12 k27 hk12 hk27 s0 x1 x2 x3 x4 x5)
theorem s_X8_crossed_L27 (g : Gm) (k12 : Sto → Int32 → Int32 → Int32 → Int32 → Option (Int32 × Sto)) (hk12 : ∀ (s0 : Sto) (x1 : Int32) (x2 : Int32) (x3 : Int32) (x4 : Int32), Rf cvIw (Em g 7) kX8_crossed 12 [some (.ref ((Em g 7).1.1 8 0 0)), some (.int x1), some (.int x2), some (.int x3), some (.int x4), none] [] s0 (k12 s0 x1 x2 x3 x4)) : ∀ (n : Nat) (s0 : Sto) (x1 : Int32) (x2 : Int32) (x3 : Int32) (x4 : Int32) (x5 : Int32), Rf cvIw (Em g 7) kX8_crossed 27 [some (.ref ((Em g 7).1.1 8 0 0)), some (.int x1), some (.int x2), some (.int x3), some (.int x4), some (.int x5)] [] s0 (f_X8_crossed_L27 k12 n s0 x1 x2 x3 x4 x5)
  | 0, _, _, _, _, _, _ => r_none
  | n + 1, s0, x1, x2, x3, x4, x5 => s_X8_crossed_B27 g k12 hk12 (f_X8_crossed_L27 k12 n) (s_X8_crossed_L27 g k12 hk12 n) s0 x1 x2 x3 x4 x5
set_option maxRecDepth 100000 in
theorem s_X8_crossed_B12 (g : Gm) (k12 : Sto → Int32 → Int32 → Int32 → Int32 → Option (Int32 × Sto)) (hk12 : ∀ (s0 : Sto) (x1 : Int32) (x2 : Int32) (x3 : Int32) (x4 : Int32), Rf cvIw (Em g 7) kX8_crossed 12 [some (.ref ((Em g 7).1.1 8 0 0)), some (.int x1), some (.int x2), some (.int x3), some (.int x4), none] [] s0 (k12 s0 x1 x2 x3 x4)) (s0 : Sto) (x1 : Int32) (x2 : Int32) (x3 : Int32) (x4 : Int32) : Rf cvIw (Em g 7) kX8_crossed 12 [some (.ref ((Em g 7).1.1 8 0 0)), some (.int x1), some (.int x2), some (.int x3), some (.int x4), none] [] s0 (f_X8_crossed_B12 k12 s0 x1 x2 x3 x4) := by
  unfold f_X8_crossed_B12
  refine r_iload dX8_crossed_12 rfl ?_
  refine r_aload_n dX8_crossed_14 rfl ?_
  refine gf_X8_102 rfl dX8_crossed_15 ?_
  refine r_icge dX8_crossed_18 (tgt := 137) (by decide) (fun c2 => ?_) (fun c2 => ?_)
  · refine r_iload_n dX8_crossed_137 rfl ?_
    refine r_ifne dX8_crossed_138 (tgt := 145) (by decide) (fun c3 => ?_) (fun c3 => ?_)
    · refine r_iload_n dX8_crossed_141 rfl ?_
      refine r_goto dX8_crossed_142 (tgt := 146) (by decide) ?_
      exact r_iret dX8_crossed_146 rfl rfl
    · refine r_iload_n dX8_crossed_145 rfl ?_
      exact r_iret dX8_crossed_146 rfl rfl
  · refine r_iload dX8_crossed_21 rfl ?_
    refine r_iconst dX8_crossed_23 ci_1 ?_
    refine r_iadd dX8_crossed_24 ?_
    refine r_istoreN dX8_crossed_25 rfl (lt_b rfl) (lt_b rfl) (fun v4 => ?_)
    exact r_mask [true, true, true, true, true, true] (s_X8_crossed_L27 g k12 hk12 1000 s0 x1 x2 x3 x4 v4)
theorem s_X8_crossed_L12 (g : Gm) : ∀ (n : Nat) (s0 : Sto) (x1 : Int32) (x2 : Int32) (x3 : Int32) (x4 : Int32), Rf cvIw (Em g 7) kX8_crossed 12 [some (.ref ((Em g 7).1.1 8 0 0)), some (.int x1), some (.int x2), some (.int x3), some (.int x4), none] [] s0 (f_X8_crossed_L12 n s0 x1 x2 x3 x4)
  | 0, _, _, _, _, _ => r_none
  | n + 1, s0, x1, x2, x3, x4 => s_X8_crossed_B12 g (f_X8_crossed_L12 n) (s_X8_crossed_L12 g n) s0 x1 x2 x3 x4
set_option maxRecDepth 100000 in
theorem s_X8_crossed (g : Gm) (s0 : Sto) (x1 : Int32) : Rf cvIw (Em g 7) kX8_crossed 0 [some (.ref ((Em g 7).1.1 8 0 0)), some (.int x1), none, none, none, none] [] s0 (f_X8_crossed s0 x1) := by
  unfold f_X8_crossed
  refine r_aload_n dX8_crossed_0 rfl ?_
  refine u_X8_looks (ok_X8_looks g s0) dX8_crossed_1 ml_X8_236 (Nat.le_of_ble_eq_true rfl) (fits_m (by decide) (by decide)) room_m (fun q1 => ?_)
  refine r_iconst dX8_crossed_4 ci_0 ?_
  refine r_istore_n dX8_crossed_5 rfl (lt_b rfl) (lt_b rfl) ?_
  refine r_bipush dX8_crossed_6 cb_m5 ?_
  refine r_istore_n dX8_crossed_8 rfl (lt_b rfl) (lt_b rfl) ?_
  refine r_iconst dX8_crossed_9 ci_0 ?_
  refine r_istore dX8_crossed_10 rfl (lt_b rfl) (lt_b rfl) ?_
  exact r_mask [true, true, true, true, true, false] (s_X8_crossed_L12 g 1000 q1 x1 0 (-5 : Int32) 0)
theorem ok_X8_crossed (g : Gm) (s0 : Sto) (x1 : Int32) : Ok g yX8_crossed kX8_crossed 7 [.ref ((Em g 7).1.1 8 0 0), .int x1] s0 cvIw (f_X8_crossed s0 x1) := Ok.of (by decide) rfl (Nat.le_of_ble_eq_true rfl) (lv := [some (.ref ((Em g 7).1.1 8 0 0)), some (.int x1), none, none, none, none]) rfl (s_X8_crossed g s0 x1)
theorem u_X8_crossed {α : Type} {cv : α → Res} {E : EE} {K : KK} {pc npc idx d : Nat} {lv : List (Option Value)} {st : List Value} {σ : Sto} {oc : Option (Int32 × Sto)} {kf : (Int32 × Sto) → Option α} {x1 : Int32} (hOk : Ok E.1 yX8_crossed kX8_crossed d [.ref (E.1.1 8 0 0), .int x1] σ cvIw oc) (hd : Dc K pc (.invokevirtual idx) 3 npc) (hlk : Cond.methodLink K.2.1 idx yX8_crossed ∈ lw_good) (hw : (st.map fun v => v.category).sum ≤ 8) (hfit : fits_ E d 6) (hrm : room_ok E) (kk : ∀ q : Int32 × Sto, Rf cv E K npc lv (.int q.1 :: st) q.2 (kf q)) : Rf cv E K pc lv (.int x1 :: .ref (E.1.1 8 0 0) :: st) σ (oc.bind kf) := c_V (n := 1) (as := [.int x1]) (c0 := 8) (i := 0) (CC := "ThawGivesModel") (T := TX8) (N := 43) hd hOk hlk wi_X8_crossed wv_X8_crossed wn_X8 wc_X8_crossed rfl (by decide) (by decide) ⟨by decide, by decide, by decide⟩ rfl rfl hw hfit hrm (fun b _ => kk b)
def f_X8_order_B22 (k8 : Sto → Int32 → Int32 → Int32 → Option (Int32 × Sto)) (k22 : Sto → Int32 → Int32 → Int32 → Int32 → Int32 → Option (Int32 × Sto)) (s0 : Sto) (x1 : Int32) (x2 : Int32) (x3 : Int32) (x4 : Int32) (x5 : Int32) : Option (Int32 × Sto) :=
  (if (s0.1 8 0 0) ≤ x5 then
    (if x4 = x1 then
      nmI (x3 + 1) fun v6 => k8 s0 x1 x3 v6
    else
      nmI (x3 + 1) fun v5 => k8 s0 x1 x2 v5)
  else
    (if 0 ≤ x5 ∧ x5 < 6 then (if 0 ≤ x3 ∧ x3 < 6 then (if (s0.2.1 8 38 0 (Int32.toNatClampNeg x5)) < (s0.2.1 8 38 0 (Int32.toNatClampNeg x3)) then
      nmI (x4 + 1) fun v12 => nmI (x5 + 1) fun v13 => k22 s0 x1 x2 x3 v12 v13
    else
      (if 0 ≤ x5 ∧ x5 < 6 then (if 0 ≤ x3 ∧ x3 < 6 then (if (s0.2.1 8 38 0 (Int32.toNatClampNeg x5)) = (s0.2.1 8 38 0 (Int32.toNatClampNeg x3)) then
        (if x3 ≤ x5 then
          nmI (x5 + 1) fun v21 => k22 s0 x1 x2 x3 x4 v21
        else
          nmI (x4 + 1) fun v22 => nmI (x5 + 1) fun v23 => k22 s0 x1 x2 x3 v22 v23)
      else
        nmI (x5 + 1) fun v19 => k22 s0 x1 x2 x3 x4 v19) else none) else none)) else none) else none))
def f_X8_order_L22 (k8 : Sto → Int32 → Int32 → Int32 → Option (Int32 × Sto)) : Nat → Sto → Int32 → Int32 → Int32 → Int32 → Int32 → Option (Int32 × Sto)
  | 0 => fun _ _ _ _ _ _ => none
  | n + 1 => f_X8_order_B22 k8 (f_X8_order_L22 k8 n)
def f_X8_order_B8 (k8 : Sto → Int32 → Int32 → Int32 → Option (Int32 × Sto)) (s0 : Sto) (x1 : Int32) (x2 : Int32) (x3 : Int32) : Option (Int32 × Sto) :=
  (if (s0.1 8 0 0) ≤ x3 then
    some (x2, s0)
  else
    f_X8_order_L22 k8 1000 s0 x1 x2 x3 0 0)
def f_X8_order_L8 : Nat → Sto → Int32 → Int32 → Int32 → Option (Int32 × Sto)
  | 0 => fun _ _ _ _ => none
  | n + 1 => f_X8_order_B8 (f_X8_order_L8 n)
def f_X8_order (s0 : Sto) (x1 : Int32) : Option (Int32 × Sto) :=
  (f_X8_looks s0).bind fun q1 => f_X8_order_L8 1000 q1 x1 (-1 : Int32) 0
set_option maxRecDepth 100000 in
theorem s_X8_order_B22 (g : Gm) (k8 : Sto → Int32 → Int32 → Int32 → Option (Int32 × Sto)) (hk8 : ∀ (s0 : Sto) (x1 : Int32) (x2 : Int32) (x3 : Int32), Rf cvIw (Em g 7) kX8_order 8 [some (.ref ((Em g 7).1.1 8 0 0)), some (.int x1), some (.int x2), some (.int x3), none, none] [] s0 (k8 s0 x1 x2 x3)) (k22 : Sto → Int32 → Int32 → Int32 → Int32 → Int32 → Option (Int32 × Sto)) (hk22 : ∀ (s0 : Sto) (x1 : Int32) (x2 : Int32) (x3 : Int32) (x4 : Int32) (x5 : Int32), Rf cvIw (Em g 7) kX8_order 22 [some (.ref ((Em g 7).1.1 8 0 0)), some (.int x1), some (.int x2), some (.int x3), some (.int x4), some (.int x5)] [] s0 (k22 s0 x1 x2 x3 x4 x5)) (s0 : Sto) (x1 : Int32) (x2 : Int32) (x3 : Int32) (x4 : Int32) (x5 : Int32) : Rf cvIw (Em g 7) kX8_order 22 [some (.ref ((Em g 7).1.1 8 0 0)), some (.int x1), some (.int x2), some (.int x3), some (.int x4), some (.int x5)] [] s0 (f_X8_order_B22 k8 k22 s0 x1 x2 x3 x4 x5) := by
  unfold f_X8_order_B22
  refine r_iload dX8_order_22 rfl ?_
  refine r_aload_n dX8_order_24 rfl ?_
  refine gf_X8_102 rfl dX8_order_25 ?_
  refine r_icge dX8_order_28 (tgt := 78) (by decide) (fun c3 => ?_) (fun c3 => ?_)
  · refine r_iload dX8_order_78 rfl ?_
    refine r_iload_n dX8_order_80 rfl ?_
    refine r_icne dX8_order_81 (tgt := 86) (by decide) (fun c4 => ?_) (fun c4 => ?_)
    · refine r_iload_n dX8_order_84 rfl ?_
      refine r_istore_n dX8_order_85 rfl (lt_b rfl) (lt_b rfl) ?_
      refine r_iincN dX8_order_86 rfl ci_1 rfl (lt_b rfl) (fun v6 => ?_)
      refine r_goto dX8_order_89 (tgt := 8) (by decide) ?_
      exact r_mask [true, true, true, true, false, false] (hk8 s0 x1 x3 v6)
    · refine r_iincN dX8_order_86 rfl ci_1 rfl (lt_b rfl) (fun v5 => ?_)
      refine r_goto dX8_order_89 (tgt := 8) (by decide) ?_
      exact r_mask [true, true, true, true, false, false] (hk8 s0 x1 x2 v5)
  · refine r_aload_n dX8_order_31 rfl ?_
    refine gf_X8_82 rfl dX8_order_32 ?_
    refine r_iload dX8_order_35 rfl ?_
    refine al_8_38 dX8_order_37 (fun hg7 hj8 => ?_)
    refine r_aload_n dX8_order_38 rfl ?_
    refine gf_X8_82 rfl dX8_order_39 ?_
    refine r_iload_n dX8_order_42 rfl ?_
    refine al_8_38 dX8_order_43 (fun hg9 hj10 => ?_)
    refine r_iclt dX8_order_44 (tgt := 69) (by decide) (fun c11 => ?_) (fun c11 => ?_)
    · refine r_iincN dX8_order_69 rfl ci_1 rfl (lt_b rfl) (fun v12 => ?_)
      refine r_iincN dX8_order_72 rfl ci_1 rfl (lt_b rfl) (fun v13 => ?_)
      refine r_goto dX8_order_75 (tgt := 22) (by decide) ?_
      exact r_mask [true, true, true, true, true, true] (hk22 s0 x1 x2 x3 v12 v13)
    · refine r_aload_n dX8_order_47 rfl ?_
      refine gf_X8_82 rfl dX8_order_48 ?_
      refine r_iload dX8_order_51 rfl ?_
      refine al_8_38 dX8_order_53 (fun hg14 hj15 => ?_)
      refine r_aload_n dX8_order_54 rfl ?_
      refine gf_X8_82 rfl dX8_order_55 ?_
      refine r_iload_n dX8_order_58 rfl ?_
      refine al_8_38 dX8_order_59 (fun hg16 hj17 => ?_)
      refine r_icne dX8_order_60 (tgt := 72) (by decide) (fun c18 => ?_) (fun c18 => ?_)
      · refine r_iload dX8_order_63 rfl ?_
        refine r_iload_n dX8_order_65 rfl ?_
        refine r_icge dX8_order_66 (tgt := 72) (by decide) (fun c20 => ?_) (fun c20 => ?_)
        · refine r_iincN dX8_order_72 rfl ci_1 rfl (lt_b rfl) (fun v21 => ?_)
          refine r_goto dX8_order_75 (tgt := 22) (by decide) ?_
          exact r_mask [true, true, true, true, true, true] (hk22 s0 x1 x2 x3 x4 v21)
        · refine r_iincN dX8_order_69 rfl ci_1 rfl (lt_b rfl) (fun v22 => ?_)
          refine r_iincN dX8_order_72 rfl ci_1 rfl (lt_b rfl) (fun v23 => ?_)
          refine r_goto dX8_order_75 (tgt := 22) (by decide) ?_
          exact r_mask [true, true, true, true, true, true] (hk22 s0 x1 x2 x3 v22 v23)
      · refine r_iincN dX8_order_72 rfl ci_1 rfl (lt_b rfl) (fun v19 => ?_)
        refine r_goto dX8_order_75 (tgt := 22) (by decide) ?_
        exact r_mask [true, true, true, true, true, true] (hk22 s0 x1 x2 x3 x4 v19)
theorem s_X8_order_L22 (g : Gm) (k8 : Sto → Int32 → Int32 → Int32 → Option (Int32 × Sto)) (hk8 : ∀ (s0 : Sto) (x1 : Int32) (x2 : Int32) (x3 : Int32), Rf cvIw (Em g 7) kX8_order 8 [some (.ref ((Em g 7).1.1 8 0 0)), some (.int x1), some (.int x2), some (.int x3), none, none] [] s0 (k8 s0 x1 x2 x3)) : ∀ (n : Nat) (s0 : Sto) (x1 : Int32) (x2 : Int32) (x3 : Int32) (x4 : Int32) (x5 : Int32), Rf cvIw (Em g 7) kX8_order 22 [some (.ref ((Em g 7).1.1 8 0 0)), some (.int x1), some (.int x2), some (.int x3), some (.int x4), some (.int x5)] [] s0 (f_X8_order_L22 k8 n s0 x1 x2 x3 x4 x5)
  | 0, _, _, _, _, _, _ => r_none
  | n + 1, s0, x1, x2, x3, x4, x5 => s_X8_order_B22 g k8 hk8 (f_X8_order_L22 k8 n) (s_X8_order_L22 g k8 hk8 n) s0 x1 x2 x3 x4 x5
set_option maxRecDepth 100000 in
theorem s_X8_order_B8 (g : Gm) (k8 : Sto → Int32 → Int32 → Int32 → Option (Int32 × Sto)) (hk8 : ∀ (s0 : Sto) (x1 : Int32) (x2 : Int32) (x3 : Int32), Rf cvIw (Em g 7) kX8_order 8 [some (.ref ((Em g 7).1.1 8 0 0)), some (.int x1), some (.int x2), some (.int x3), none, none] [] s0 (k8 s0 x1 x2 x3)) (s0 : Sto) (x1 : Int32) (x2 : Int32) (x3 : Int32) : Rf cvIw (Em g 7) kX8_order 8 [some (.ref ((Em g 7).1.1 8 0 0)), some (.int x1), some (.int x2), some (.int x3), none, none] [] s0 (f_X8_order_B8 k8 s0 x1 x2 x3) := by
  unfold f_X8_order_B8
  refine r_iload_n dX8_order_8 rfl ?_
  refine r_aload_n dX8_order_9 rfl ?_
  refine gf_X8_102 rfl dX8_order_10 ?_
  refine r_icge dX8_order_13 (tgt := 92) (by decide) (fun c2 => ?_) (fun c2 => ?_)
  · refine r_iload_n dX8_order_92 rfl ?_
    exact r_iret dX8_order_93 rfl rfl
  · refine r_iconst dX8_order_16 ci_0 ?_
    refine r_istore dX8_order_17 rfl (lt_b rfl) (lt_b rfl) ?_
    refine r_iconst dX8_order_19 ci_0 ?_
    refine r_istore dX8_order_20 rfl (lt_b rfl) (lt_b rfl) ?_
    exact r_mask [true, true, true, true, true, true] (s_X8_order_L22 g k8 hk8 1000 s0 x1 x2 x3 0 0)
theorem s_X8_order_L8 (g : Gm) : ∀ (n : Nat) (s0 : Sto) (x1 : Int32) (x2 : Int32) (x3 : Int32), Rf cvIw (Em g 7) kX8_order 8 [some (.ref ((Em g 7).1.1 8 0 0)), some (.int x1), some (.int x2), some (.int x3), none, none] [] s0 (f_X8_order_L8 n s0 x1 x2 x3)
  | 0, _, _, _, _ => r_none
  | n + 1, s0, x1, x2, x3 => s_X8_order_B8 g (f_X8_order_L8 n) (s_X8_order_L8 g n) s0 x1 x2 x3
set_option maxRecDepth 100000 in
theorem s_X8_order (g : Gm) (s0 : Sto) (x1 : Int32) : Rf cvIw (Em g 7) kX8_order 0 [some (.ref ((Em g 7).1.1 8 0 0)), some (.int x1), none, none, none, none] [] s0 (f_X8_order s0 x1) := by
  unfold f_X8_order
  refine r_aload_n dX8_order_0 rfl ?_
  refine u_X8_looks (ok_X8_looks g s0) dX8_order_1 ml_X8_236 (Nat.le_of_ble_eq_true rfl) (fits_m (by decide) (by decide)) room_m (fun q1 => ?_)
  refine r_iconst dX8_order_4 ci_m1 ?_
  refine r_istore_n dX8_order_5 rfl (lt_b rfl) (lt_b rfl) ?_
  refine r_iconst dX8_order_6 ci_0 ?_
  refine r_istore_n dX8_order_7 rfl (lt_b rfl) (lt_b rfl) ?_
  exact r_mask [true, true, true, true, false, false] (s_X8_order_L8 g 1000 q1 x1 (-1 : Int32) 0)
theorem ok_X8_order (g : Gm) (s0 : Sto) (x1 : Int32) : Ok g yX8_order kX8_order 7 [.ref ((Em g 7).1.1 8 0 0), .int x1] s0 cvIw (f_X8_order s0 x1) := Ok.of (by decide) rfl (Nat.le_of_ble_eq_true rfl) (lv := [some (.ref ((Em g 7).1.1 8 0 0)), some (.int x1), none, none, none, none]) rfl (s_X8_order g s0 x1)
theorem u_X8_order {α : Type} {cv : α → Res} {E : EE} {K : KK} {pc npc idx d : Nat} {lv : List (Option Value)} {st : List Value} {σ : Sto} {oc : Option (Int32 × Sto)} {kf : (Int32 × Sto) → Option α} {x1 : Int32} (hOk : Ok E.1 yX8_order kX8_order d [.ref (E.1.1 8 0 0), .int x1] σ cvIw oc) (hd : Dc K pc (.invokevirtual idx) 3 npc) (hlk : Cond.methodLink K.2.1 idx yX8_order ∈ lw_good) (hw : (st.map fun v => v.category).sum ≤ 8) (hfit : fits_ E d 6) (hrm : room_ok E) (kk : ∀ q : Int32 × Sto, Rf cv E K npc lv (.int q.1 :: st) q.2 (kf q)) : Rf cv E K pc lv (.int x1 :: .ref (E.1.1 8 0 0) :: st) σ (oc.bind kf) := c_V (n := 1) (as := [.int x1]) (c0 := 8) (i := 0) (CC := "ThawGivesModel") (T := TX8) (N := 43) hd hOk hlk wi_X8_order wv_X8_order wn_X8 wc_X8_order rfl (by decide) (by decide) ⟨by decide, by decide, by decide⟩ rfl rfl hw hfit hrm (fun b _ => kk b)
def f_X8_told (s0 : Sto) (x1 : Int32) : Option (Int32 × Sto) :=
  (if x1 = 0 then
    some ((s0.1 8 6 0), s0)
  else (if x1 = 1 then
    (f_X8_snow s0).bind fun q3 => some (q3, s0)
  else (if x1 = 2 then
    (f_X8_outs s0).bind fun q5 => some (q5, s0)
  else (if x1 = 3 then
    (f_X8_allDepth s0).bind fun q7 => some (q7, s0)
  else (if x1 = 4 then
    (f_X8_crossed s0 0).bind fun q9 => some (q9.1, q9.2)
  else (if x1 = 5 then
    (f_X8_crossed s0 1).bind fun q11 => some (q11.1, q11.2)
  else (f_X8_isOne s0 (x1 - 10)).bind fun q12 => (if q12 = 0 then
    some ((-1 : Int32), s0)
  else
    (f_X8_order s0 (x1 - 10)).bind fun q14 => some (q14.1, q14.2))))))))
set_option maxRecDepth 100000 in
theorem s_X8_told (g : Gm) (s0 : Sto) (x1 : Int32) : Rf cvIw (Em g 8) kX8_told 0 [some (.ref ((Em g 8).1.1 8 0 0)), some (.int x1)] [] s0 (f_X8_told s0 x1) := by
  unfold f_X8_told
  refine r_iload_n dX8_told_0 rfl ?_
  refine r_by (fun e1 => ?_) (fun e1 => ?_)
  · refine r_tabIn dX8_told_1 e1 (z := 0) (by decide) (by decide) (by decide) (off := 39) rfl (tgt := 40) (by decide) ?_
    refine r_aload_n dX8_told_40 rfl ?_
    refine gf_X8_113 rfl dX8_told_41 ?_
    exact r_iret dX8_told_44 rfl rfl
  refine r_by (fun e2 => ?_) (fun e2 => ?_)
  · refine r_tabIn dX8_told_1 e2 (z := 1) (by decide) (by decide) (by decide) (off := 44) rfl (tgt := 45) (by decide) ?_
    refine r_aload_n dX8_told_45 rfl ?_
    refine u_X8_snow (ok_X8_snow g s0) dX8_told_46 ml_X8_220 (Nat.le_of_ble_eq_true rfl) (fits_m (by decide) (by decide)) room_m (fun q3 => ?_)
    exact r_iret dX8_told_49 rfl rfl
  refine r_by (fun e4 => ?_) (fun e4 => ?_)
  · refine r_tabIn dX8_told_1 e4 (z := 2) (by decide) (by decide) (by decide) (off := 49) rfl (tgt := 50) (by decide) ?_
    refine r_aload_n dX8_told_50 rfl ?_
    refine u_X8_outs (ok_X8_outs g s0) dX8_told_51 ml_X8_239 (Nat.le_of_ble_eq_true rfl) (fits_m (by decide) (by decide)) room_m (fun q5 => ?_)
    exact r_iret dX8_told_54 rfl rfl
  refine r_by (fun e6 => ?_) (fun e6 => ?_)
  · refine r_tabIn dX8_told_1 e6 (z := 3) (by decide) (by decide) (by decide) (off := 54) rfl (tgt := 55) (by decide) ?_
    refine r_aload_n dX8_told_55 rfl ?_
    refine u_X8_allDepth (ok_X8_allDepth g s0) dX8_told_56 ml_X8_242 (Nat.le_of_ble_eq_true rfl) (fits_m (by decide) (by decide)) room_m (fun q7 => ?_)
    exact r_iret dX8_told_59 rfl rfl
  refine r_by (fun e8 => ?_) (fun e8 => ?_)
  · refine r_tabIn dX8_told_1 e8 (z := 4) (by decide) (by decide) (by decide) (off := 59) rfl (tgt := 60) (by decide) ?_
    refine r_aload_n dX8_told_60 rfl ?_
    refine r_iconst dX8_told_61 ci_0 ?_
    refine u_X8_crossed (ok_X8_crossed g s0 0) dX8_told_62 ml_X8_245 (Nat.le_of_ble_eq_true rfl) (fits_m (by decide) (by decide)) room_m (fun q9 => ?_)
    exact r_iret dX8_told_65 rfl rfl
  refine r_by (fun e10 => ?_) (fun e10 => ?_)
  · refine r_tabIn dX8_told_1 e10 (z := 5) (by decide) (by decide) (by decide) (off := 65) rfl (tgt := 66) (by decide) ?_
    refine r_aload_n dX8_told_66 rfl ?_
    refine r_iconst dX8_told_67 ci_1 ?_
    refine u_X8_crossed (ok_X8_crossed g s0 1) dX8_told_68 ml_X8_245 (Nat.le_of_ble_eq_true rfl) (fits_m (by decide) (by decide)) room_m (fun q11 => ?_)
    exact r_iret dX8_told_71 rfl rfl
  refine r_tabOut dX8_told_1 (by have a0 := sw_ne e1 (z := 0) (by decide); have a1 := sw_ne e2 (z := 1) (by decide); have a2 := sw_ne e4 (z := 2) (by decide); have a3 := sw_ne e6 (z := 3) (by decide); have a4 := sw_ne e8 (z := 4) (by decide); have a5 := sw_ne e10 (z := 5) (by decide); omega) (tgt := 72) (by decide) ?_
  refine r_aload_n dX8_told_72 rfl ?_
  refine r_iload_n dX8_told_73 rfl ?_
  refine r_bipush dX8_told_74 cb_10 ?_
  refine r_isub dX8_told_76 ?_
  refine u_X8_isOne (ok_X8_isOne g s0 (x1 - 10)) dX8_told_77 ml_X8_109 (Nat.le_of_ble_eq_true rfl) (fits_m (by decide) (by decide)) room_m (fun q12 => ?_)
  refine r_ifeq dX8_told_80 (tgt := 94) (by decide) (fun c13 => ?_) (fun c13 => ?_)
  · refine r_iconst dX8_told_94 ci_m1 ?_
    exact r_iret dX8_told_95 rfl rfl
  · refine r_aload_n dX8_told_83 rfl ?_
    refine r_iload_n dX8_told_84 rfl ?_
    refine r_bipush dX8_told_85 cb_10 ?_
    refine r_isub dX8_told_87 ?_
    refine u_X8_order (ok_X8_order g s0 (x1 - 10)) dX8_told_88 ml_X8_248 (Nat.le_of_ble_eq_true rfl) (fits_m (by decide) (by decide)) room_m (fun q14 => ?_)
    refine r_goto dX8_told_91 (tgt := 95) (by decide) ?_
    exact r_iret dX8_told_95 rfl rfl
theorem ok_X8_told (g : Gm) (s0 : Sto) (x1 : Int32) : Ok g yX8_told kX8_told 8 [.ref ((Em g 8).1.1 8 0 0), .int x1] s0 cvIw (f_X8_told s0 x1) := Ok.of (by decide) rfl (Nat.le_of_ble_eq_true rfl) (lv := [some (.ref ((Em g 8).1.1 8 0 0)), some (.int x1)]) rfl (s_X8_told g s0 x1)
theorem u_X8_told {α : Type} {cv : α → Res} {E : EE} {K : KK} {pc npc idx d : Nat} {lv : List (Option Value)} {st : List Value} {σ : Sto} {oc : Option (Int32 × Sto)} {kf : (Int32 × Sto) → Option α} {x1 : Int32} (hOk : Ok E.1 yX8_told kX8_told d [.ref (E.1.1 8 0 0), .int x1] σ cvIw oc) (hd : Dc K pc (.invokevirtual idx) 3 npc) (hlk : Cond.methodLink K.2.1 idx yX8_told ∈ lw_good) (hw : (st.map fun v => v.category).sum ≤ 8) (hfit : fits_ E d 2) (hrm : room_ok E) (kk : ∀ q : Int32 × Sto, Rf cv E K npc lv (.int q.1 :: st) q.2 (kf q)) : Rf cv E K pc lv (.int x1 :: .ref (E.1.1 8 0 0) :: st) σ (oc.bind kf) := c_V (n := 1) (as := [.int x1]) (c0 := 8) (i := 0) (CC := "ThawGivesModel") (T := TX8) (N := 43) hd hOk hlk wi_X8_told wv_X8_told wn_X8 wc_X8_told rfl (by decide) (by decide) ⟨by decide, by decide, by decide⟩ rfl rfl hw hfit hrm (fun b _ => kk b)
def f_X8_on_L75 (s0 : Sto) (y0 : Int32) : Option (Int32 × Sto) :=
  (f_X8_again_38 s0).bind fun q9 => some (y0, q9)
def f_X8_on_B40 (k40 : Sto → Int32 → Int32 → Int32 → Option (Int32 × Sto)) (s0 : Sto) (x1 : Int32) (x2 : Int32) (x3 : Int32) : Option (Int32 × Sto) :=
  (if x1 ≤ x3 then
    (if x2 = 0 then
      (f_X8_outs s0).bind fun q10 => f_X8_on_L75 s0 q10
    else
      (if 0 ≤ (x2 - 10) ∧ (x2 - 10) < 6 then f_X8_on_L75 s0 (s0.2.1 8 4 0 (Int32.toNatClampNeg (x2 - 10))) else none))
  else
    (f_X8_goesWeek s0).bind fun q11 => nmI (x3 + 1) fun v12 => k40 q11 x1 x2 v12)
def f_X8_on_L40 : Nat → Sto → Int32 → Int32 → Int32 → Option (Int32 × Sto)
  | 0 => fun _ _ _ _ => none
  | n + 1 => f_X8_on_B40 (f_X8_on_L40 n)
def f_X8_on_L17 (s0 : Sto) (x1 : Int32) (x2 : Int32) : Option (Int32 × Sto) :=
  (f_X8_within x1 0 60).bind fun q2 => (if q2 = 0 then
    some ((-2 : Int32), s0)
  else
    (f_X8_keep_38 s0).bind fun q4 => f_X8_on_L40 1000 q4 x1 x2 0)
def f_X8_on (s0 : Sto) (x1 : Int32) (x2 : Int32) : Option (Int32 × Sto) :=
  (if x2 = 0 then
    f_X8_on_L17 s0 x1 x2
  else
    (f_X8_isOne s0 (x2 - 10)).bind fun q13 => (if q13 = 0 then
      some ((-1 : Int32), s0)
    else
      f_X8_on_L17 s0 x1 x2))
set_option maxRecDepth 100000 in
theorem s_X8_on_L75 (g : Gm) (s0 : Sto) (y0 : Int32) : Rf cvIw (Em g 5) kX8_on 75 [some (.ref ((Em g 5).1.1 8 0 0)), none, none, none] [.int y0] s0 (f_X8_on_L75 s0 y0) := by
  unfold f_X8_on_L75
  refine r_istore_n dX8_on_75 rfl (lt_b rfl) (lt_b rfl) ?_
  refine r_aload_n dX8_on_76 rfl ?_
  refine r_aload_n dX8_on_77 rfl ?_
  refine gf_X8_79 rfl dX8_on_78 ?_
  refine u_X8_again_38 (ok_X8_again_38 g s0) dX8_on_81 ml_X8_233 (Nat.le_of_ble_eq_true rfl) (fits_m (by decide) (by decide)) room_m (fun q9 => ?_)
  refine r_iload_n dX8_on_84 rfl ?_
  exact r_iret dX8_on_85 rfl rfl
set_option maxRecDepth 100000 in
theorem s_X8_on_B40 (g : Gm) (k40 : Sto → Int32 → Int32 → Int32 → Option (Int32 × Sto)) (hk40 : ∀ (s0 : Sto) (x1 : Int32) (x2 : Int32) (x3 : Int32), Rf cvIw (Em g 5) kX8_on 40 [some (.ref ((Em g 5).1.1 8 0 0)), some (.int x1), some (.int x2), some (.int x3)] [] s0 (k40 s0 x1 x2 x3)) (s0 : Sto) (x1 : Int32) (x2 : Int32) (x3 : Int32) : Rf cvIw (Em g 5) kX8_on 40 [some (.ref ((Em g 5).1.1 8 0 0)), some (.int x1), some (.int x2), some (.int x3)] [] s0 (f_X8_on_B40 k40 s0 x1 x2 x3) := by
  unfold f_X8_on_B40
  refine r_iload_n dX8_on_40 rfl ?_
  refine r_iload_n dX8_on_41 rfl ?_
  refine r_icge dX8_on_42 (tgt := 55) (by decide) (fun c5 => ?_) (fun c5 => ?_)
  · refine r_iload_n dX8_on_55 rfl ?_
    refine r_ifne dX8_on_56 (tgt := 66) (by decide) (fun c6 => ?_) (fun c6 => ?_)
    · refine r_aload_n dX8_on_59 rfl ?_
      refine u_X8_outs (ok_X8_outs g s0) dX8_on_60 ml_X8_239 (Nat.le_of_ble_eq_true rfl) (fits_m (by decide) (by decide)) room_m (fun q10 => ?_)
      refine r_goto dX8_on_63 (tgt := 75) (by decide) ?_
      exact r_mask [true, false, false, false] (s_X8_on_L75 g s0 q10)
    · refine r_aload_n dX8_on_66 rfl ?_
      refine gf_X8_21 rfl dX8_on_67 ?_
      refine r_iload_n dX8_on_70 rfl ?_
      refine r_bipush dX8_on_71 cb_10 ?_
      refine r_isub dX8_on_73 ?_
      refine al_8_4 dX8_on_74 (fun hg7 hj8 => ?_)
      exact r_mask [true, false, false, false] (s_X8_on_L75 g s0 (s0.2.1 8 4 0 (Int32.toNatClampNeg (x2 - 10))))
  · refine r_aload_n dX8_on_45 rfl ?_
    refine u_X8_goesWeek (ok_X8_goesWeek g s0) dX8_on_46 ml_X8_226 (Nat.le_of_ble_eq_true rfl) (fits_m (by decide) (by decide)) room_m (fun q11 => ?_)
    refine r_iincN dX8_on_49 rfl ci_1 rfl (lt_b rfl) (fun v12 => ?_)
    refine r_goto dX8_on_52 (tgt := 40) (by decide) ?_
    exact r_mask [true, true, true, true] (hk40 q11 x1 x2 v12)
theorem s_X8_on_L40 (g : Gm) : ∀ (n : Nat) (s0 : Sto) (x1 : Int32) (x2 : Int32) (x3 : Int32), Rf cvIw (Em g 5) kX8_on 40 [some (.ref ((Em g 5).1.1 8 0 0)), some (.int x1), some (.int x2), some (.int x3)] [] s0 (f_X8_on_L40 n s0 x1 x2 x3)
  | 0, _, _, _, _ => r_none
  | n + 1, s0, x1, x2, x3 => s_X8_on_B40 g (f_X8_on_L40 n) (s_X8_on_L40 g n) s0 x1 x2 x3
set_option maxRecDepth 100000 in
theorem s_X8_on_L17 (g : Gm) (s0 : Sto) (x1 : Int32) (x2 : Int32) : Rf cvIw (Em g 5) kX8_on 17 [some (.ref ((Em g 5).1.1 8 0 0)), some (.int x1), some (.int x2), none] [] s0 (f_X8_on_L17 s0 x1 x2) := by
  unfold f_X8_on_L17
  refine r_iload_n dX8_on_17 rfl ?_
  refine r_iconst dX8_on_18 ci_0 ?_
  refine r_bipush dX8_on_19 cb_60 ?_
  refine u_X8_within (ok_X8_within g s0 x1 0 60) dX8_on_21 ml_X8_105 (Nat.le_of_ble_eq_true rfl) (fits_m (by decide) (by decide)) room_m (fun q2 => ?_)
  refine r_ifne dX8_on_24 (tgt := 30) (by decide) (fun c3 => ?_) (fun c3 => ?_)
  · refine r_bipush dX8_on_27 cb_m2 ?_
    exact r_iret dX8_on_29 rfl rfl
  · refine r_aload_n dX8_on_30 rfl ?_
    refine r_aload_n dX8_on_31 rfl ?_
    refine gf_X8_79 rfl dX8_on_32 ?_
    refine u_X8_keep_38 (ok_X8_keep_38 g s0) dX8_on_35 ml_X8_229 (Nat.le_of_ble_eq_true rfl) (fits_m (by decide) (by decide)) room_m (fun q4 => ?_)
    refine r_iconst dX8_on_38 ci_0 ?_
    refine r_istore_n dX8_on_39 rfl (lt_b rfl) (lt_b rfl) ?_
    exact r_mask [true, true, true, true] (s_X8_on_L40 g 1000 q4 x1 x2 0)
set_option maxRecDepth 100000 in
theorem s_X8_on (g : Gm) (s0 : Sto) (x1 : Int32) (x2 : Int32) : Rf cvIw (Em g 5) kX8_on 0 [some (.ref ((Em g 5).1.1 8 0 0)), some (.int x1), some (.int x2), none] [] s0 (f_X8_on s0 x1 x2) := by
  unfold f_X8_on
  refine r_iload_n dX8_on_0 rfl ?_
  refine r_ifeq dX8_on_1 (tgt := 17) (by decide) (fun c1 => ?_) (fun c1 => ?_)
  · exact r_mask [true, true, true, false] (s_X8_on_L17 g s0 x1 x2)
  · refine r_aload_n dX8_on_4 rfl ?_
    refine r_iload_n dX8_on_5 rfl ?_
    refine r_bipush dX8_on_6 cb_10 ?_
    refine r_isub dX8_on_8 ?_
    refine u_X8_isOne (ok_X8_isOne g s0 (x2 - 10)) dX8_on_9 ml_X8_109 (Nat.le_of_ble_eq_true rfl) (fits_m (by decide) (by decide)) room_m (fun q13 => ?_)
    refine r_ifne dX8_on_12 (tgt := 17) (by decide) (fun c14 => ?_) (fun c14 => ?_)
    · refine r_iconst dX8_on_15 ci_m1 ?_
      exact r_iret dX8_on_16 rfl rfl
    · exact r_mask [true, true, true, false] (s_X8_on_L17 g s0 x1 x2)
theorem ok_X8_on (g : Gm) (s0 : Sto) (x1 : Int32) (x2 : Int32) : Ok g yX8_on kX8_on 5 [.ref ((Em g 5).1.1 8 0 0), .int x1, .int x2] s0 cvIw (f_X8_on s0 x1 x2) := Ok.of (by decide) rfl (Nat.le_of_ble_eq_true rfl) (lv := [some (.ref ((Em g 5).1.1 8 0 0)), some (.int x1), some (.int x2), none]) rfl (s_X8_on g s0 x1 x2)
theorem u_X8_on {α : Type} {cv : α → Res} {E : EE} {K : KK} {pc npc idx d : Nat} {lv : List (Option Value)} {st : List Value} {σ : Sto} {oc : Option (Int32 × Sto)} {kf : (Int32 × Sto) → Option α} {x1 : Int32} {x2 : Int32} (hOk : Ok E.1 yX8_on kX8_on d [.ref (E.1.1 8 0 0), .int x1, .int x2] σ cvIw oc) (hd : Dc K pc (.invokevirtual idx) 3 npc) (hlk : Cond.methodLink K.2.1 idx yX8_on ∈ lw_good) (hw : (st.map fun v => v.category).sum ≤ 8) (hfit : fits_ E d 4) (hrm : room_ok E) (kk : ∀ q : Int32 × Sto, Rf cv E K npc lv (.int q.1 :: st) q.2 (kf q)) : Rf cv E K pc lv (.int x2 :: .int x1 :: .ref (E.1.1 8 0 0) :: st) σ (oc.bind kf) := c_V (n := 2) (as := [.int x1, .int x2]) (c0 := 8) (i := 0) (CC := "ThawGivesModel") (T := TX8) (N := 43) hd hOk hlk wi_X8_on wv_X8_on wn_X8 wc_X8_on rfl (by decide) (by decide) ⟨by decide, by decide, by decide⟩ rfl rfl hw hfit hrm (fun b _ => kk b)
def f_X8_isOutBehind_B2 (k2 : Sto → Int32 → Int32 → Int32 → Option (Int32 × Sto)) (s0 : Sto) (x1 : Int32) (x2 : Int32) (x3 : Int32) : Option (Int32 × Sto) :=
  (if x2 ≤ x3 then
    (if 0 ≤ x1 ∧ x1 < 6 then (if (s0.2.1 8 4 0 (Int32.toNatClampNeg x1)) = 0 then
      some (1, s0)
    else
      some (0, s0)) else none)
  else
    (f_X8_goesWeek s0).bind fun q5 => nmI (x3 + 1) fun v6 => k2 q5 x1 x2 v6)
def f_X8_isOutBehind_L2 : Nat → Sto → Int32 → Int32 → Int32 → Option (Int32 × Sto)
  | 0 => fun _ _ _ _ => none
  | n + 1 => f_X8_isOutBehind_B2 (f_X8_isOutBehind_L2 n)
def f_X8_isOutBehind (s0 : Sto) (x1 : Int32) (x2 : Int32) : Option (Int32 × Sto) :=
  f_X8_isOutBehind_L2 1000 s0 x1 x2 0
set_option maxRecDepth 100000 in
theorem s_X8_isOutBehind_B2 (g : Gm) (k2 : Sto → Int32 → Int32 → Int32 → Option (Int32 × Sto)) (hk2 : ∀ (s0 : Sto) (x1 : Int32) (x2 : Int32) (x3 : Int32), Rf cvIw (Em g 5) kX8_isOutBehind 2 [some (.ref ((Em g 5).1.1 8 0 0)), some (.int x1), some (.int x2), some (.int x3)] [] s0 (k2 s0 x1 x2 x3)) (s0 : Sto) (x1 : Int32) (x2 : Int32) (x3 : Int32) : Rf cvIw (Em g 5) kX8_isOutBehind 2 [some (.ref ((Em g 5).1.1 8 0 0)), some (.int x1), some (.int x2), some (.int x3)] [] s0 (f_X8_isOutBehind_B2 k2 s0 x1 x2 x3) := by
  unfold f_X8_isOutBehind_B2
  refine r_iload_n dX8_isOutBehind_2 rfl ?_
  refine r_iload_n dX8_isOutBehind_3 rfl ?_
  refine r_icge dX8_isOutBehind_4 (tgt := 17) (by decide) (fun c1 => ?_) (fun c1 => ?_)
  · refine r_aload_n dX8_isOutBehind_17 rfl ?_
    refine gf_X8_21 rfl dX8_isOutBehind_18 ?_
    refine r_iload_n dX8_isOutBehind_21 rfl ?_
    refine al_8_4 dX8_isOutBehind_22 (fun hg2 hj3 => ?_)
    refine r_ifne dX8_isOutBehind_23 (tgt := 30) (by decide) (fun c4 => ?_) (fun c4 => ?_)
    · refine r_iconst dX8_isOutBehind_26 ci_1 ?_
      refine r_goto dX8_isOutBehind_27 (tgt := 31) (by decide) ?_
      exact r_zret dX8_isOutBehind_31 rfl rfl rfl
    · refine r_iconst dX8_isOutBehind_30 ci_0 ?_
      exact r_zret dX8_isOutBehind_31 rfl rfl rfl
  · refine r_aload_n dX8_isOutBehind_7 rfl ?_
    refine u_X8_goesWeek (ok_X8_goesWeek g s0) dX8_isOutBehind_8 ml_X8_226 (Nat.le_of_ble_eq_true rfl) (fits_m (by decide) (by decide)) room_m (fun q5 => ?_)
    refine r_iincN dX8_isOutBehind_11 rfl ci_1 rfl (lt_b rfl) (fun v6 => ?_)
    refine r_goto dX8_isOutBehind_14 (tgt := 2) (by decide) ?_
    exact r_mask [true, true, true, true] (hk2 q5 x1 x2 v6)
theorem s_X8_isOutBehind_L2 (g : Gm) : ∀ (n : Nat) (s0 : Sto) (x1 : Int32) (x2 : Int32) (x3 : Int32), Rf cvIw (Em g 5) kX8_isOutBehind 2 [some (.ref ((Em g 5).1.1 8 0 0)), some (.int x1), some (.int x2), some (.int x3)] [] s0 (f_X8_isOutBehind_L2 n s0 x1 x2 x3)
  | 0, _, _, _, _ => r_none
  | n + 1, s0, x1, x2, x3 => s_X8_isOutBehind_B2 g (f_X8_isOutBehind_L2 n) (s_X8_isOutBehind_L2 g n) s0 x1 x2 x3
set_option maxRecDepth 100000 in
theorem s_X8_isOutBehind (g : Gm) (s0 : Sto) (x1 : Int32) (x2 : Int32) : Rf cvIw (Em g 5) kX8_isOutBehind 0 [some (.ref ((Em g 5).1.1 8 0 0)), some (.int x1), some (.int x2), none] [] s0 (f_X8_isOutBehind s0 x1 x2) := by
  unfold f_X8_isOutBehind
  refine r_iconst dX8_isOutBehind_0 ci_0 ?_
  refine r_istore_n dX8_isOutBehind_1 rfl (lt_b rfl) (lt_b rfl) ?_
  exact r_mask [true, true, true, true] (s_X8_isOutBehind_L2 g 1000 s0 x1 x2 0)
theorem ok_X8_isOutBehind (g : Gm) (s0 : Sto) (x1 : Int32) (x2 : Int32) : Ok g yX8_isOutBehind kX8_isOutBehind 5 [.ref ((Em g 5).1.1 8 0 0), .int x1, .int x2] s0 cvIw (f_X8_isOutBehind s0 x1 x2) := Ok.of (by decide) rfl (Nat.le_of_ble_eq_true rfl) (lv := [some (.ref ((Em g 5).1.1 8 0 0)), some (.int x1), some (.int x2), none]) rfl (s_X8_isOutBehind g s0 x1 x2)
theorem u_X8_isOutBehind {α : Type} {cv : α → Res} {E : EE} {K : KK} {pc npc idx d : Nat} {lv : List (Option Value)} {st : List Value} {σ : Sto} {oc : Option (Int32 × Sto)} {kf : (Int32 × Sto) → Option α} {x1 : Int32} {x2 : Int32} (hOk : Ok E.1 yX8_isOutBehind kX8_isOutBehind d [.ref (E.1.1 8 0 0), .int x1, .int x2] σ cvIw oc) (hd : Dc K pc (.invokevirtual idx) 3 npc) (hlk : Cond.methodLink K.2.1 idx yX8_isOutBehind ∈ lw_good) (hw : (st.map fun v => v.category).sum ≤ 8) (hfit : fits_ E d 4) (hrm : room_ok E) (kk : ∀ q : Int32 × Sto, Rf cv E K npc lv (.int q.1 :: st) q.2 (kf q)) : Rf cv E K pc lv (.int x2 :: .int x1 :: .ref (E.1.1 8 0 0) :: st) σ (oc.bind kf) := c_V (n := 2) (as := [.int x1, .int x2]) (c0 := 8) (i := 0) (CC := "ThawGivesModel") (T := TX8) (N := 43) hd hOk hlk wi_X8_isOutBehind wv_X8_isOutBehind wn_X8 wc_X8_isOutBehind rfl (by decide) (by decide) ⟨by decide, by decide, by decide⟩ rfl rfl hw hfit hrm (fun b _ => kk b)
def f_X8_by_L81 (k50 : Sto → Int32 → Int32 → Int32 → Int32 → Int32 → Int32 → Option (Int32 × Sto)) (s0 : Sto) (x1 : Int32) (x2 : Int32) (x3 : Int32) (x4 : Int32) (x5 : Int32) (x6 : Int32) : Option (Int32 × Sto) :=
  (f_X8_again_38 s0).bind fun q15 => nmI (x6 + 1) fun v16 => k50 q15 x1 x2 x3 x4 x5 v16
def f_X8_by_B50 (k50 : Sto → Int32 → Int32 → Int32 → Int32 → Int32 → Int32 → Option (Int32 × Sto)) (s0 : Sto) (x1 : Int32) (x2 : Int32) (x3 : Int32) (x4 : Int32) (x5 : Int32) (x6 : Int32) : Option (Int32 × Sto) :=
  (if (100 : Int32) ≤ x6 then
    (if x3 = 0 then
      some (x4, s0)
    else
      some (x5, s0))
  else
    (if 0 ≤ x1 ∧ x1 < 6 then nm (sA s0 8 3 0 (upd (s0.2.1 8 3 0) (Int32.toNatClampNeg x1) x6)) fun s12 => (f_X8_isOutBehind s12 x1 x2).bind fun q13 => (if q13.1 = 0 then
      f_X8_by_L81 k50 q13.2 x1 x2 x3 x4 x5 x6
    else
      nmI (x4 + 1) fun v17 => f_X8_by_L81 k50 q13.2 x1 x2 x3 v17 x6 x6) else none))
def f_X8_by_L50 : Nat → Sto → Int32 → Int32 → Int32 → Int32 → Int32 → Int32 → Option (Int32 × Sto)
  | 0 => fun _ _ _ _ _ _ _ => none
  | n + 1 => f_X8_by_B50 (f_X8_by_L50 n)
def f_X8_by (s0 : Sto) (x1 : Int32) (x2 : Int32) (x3 : Int32) : Option (Int32 × Sto) :=
  (f_X8_isOne s0 x1).bind fun q1 => (if q1 = 0 then
    some ((-1 : Int32), s0)
  else
    (f_X8_within x3 0 1).bind fun q3 => (if q3 = 0 then
      some ((-1 : Int32), s0)
    else
      (f_X8_within x2 0 30).bind fun q5 => (if q5 = 0 then
        some ((-2 : Int32), s0)
      else
        (f_X8_keep_38 s0).bind fun q7 => f_X8_by_L50 1000 q7 x1 x2 x3 0 (-5 : Int32) 0)))
set_option maxRecDepth 100000 in
theorem s_X8_by_L81 (g : Gm) (k50 : Sto → Int32 → Int32 → Int32 → Int32 → Int32 → Int32 → Option (Int32 × Sto)) (hk50 : ∀ (s0 : Sto) (x1 : Int32) (x2 : Int32) (x3 : Int32) (x4 : Int32) (x5 : Int32) (x6 : Int32), Rf cvIw (Em g 6) kX8_by 50 [some (.ref ((Em g 6).1.1 8 0 0)), some (.int x1), some (.int x2), some (.int x3), some (.int x4), some (.int x5), some (.int x6)] [] s0 (k50 s0 x1 x2 x3 x4 x5 x6)) (s0 : Sto) (x1 : Int32) (x2 : Int32) (x3 : Int32) (x4 : Int32) (x5 : Int32) (x6 : Int32) : Rf cvIw (Em g 6) kX8_by 81 [some (.ref ((Em g 6).1.1 8 0 0)), some (.int x1), some (.int x2), some (.int x3), some (.int x4), some (.int x5), some (.int x6)] [] s0 (f_X8_by_L81 k50 s0 x1 x2 x3 x4 x5 x6) := by
  unfold f_X8_by_L81
  refine r_aload_n dX8_by_81 rfl ?_
  refine r_aload_n dX8_by_82 rfl ?_
  refine gf_X8_79 rfl dX8_by_83 ?_
  refine u_X8_again_38 (ok_X8_again_38 g s0) dX8_by_86 ml_X8_233 (Nat.le_of_ble_eq_true rfl) (fits_m (by decide) (by decide)) room_m (fun q15 => ?_)
  refine r_iincN dX8_by_89 rfl ci_1 rfl (lt_b rfl) (fun v16 => ?_)
  refine r_goto dX8_by_92 (tgt := 50) (by decide) ?_
  exact r_mask [true, true, true, true, true, true, true] (hk50 q15 x1 x2 x3 x4 x5 v16)
set_option maxRecDepth 100000 in
theorem s_X8_by_B50 (g : Gm) (k50 : Sto → Int32 → Int32 → Int32 → Int32 → Int32 → Int32 → Option (Int32 × Sto)) (hk50 : ∀ (s0 : Sto) (x1 : Int32) (x2 : Int32) (x3 : Int32) (x4 : Int32) (x5 : Int32) (x6 : Int32), Rf cvIw (Em g 6) kX8_by 50 [some (.ref ((Em g 6).1.1 8 0 0)), some (.int x1), some (.int x2), some (.int x3), some (.int x4), some (.int x5), some (.int x6)] [] s0 (k50 s0 x1 x2 x3 x4 x5 x6)) (s0 : Sto) (x1 : Int32) (x2 : Int32) (x3 : Int32) (x4 : Int32) (x5 : Int32) (x6 : Int32) : Rf cvIw (Em g 6) kX8_by 50 [some (.ref ((Em g 6).1.1 8 0 0)), some (.int x1), some (.int x2), some (.int x3), some (.int x4), some (.int x5), some (.int x6)] [] s0 (f_X8_by_B50 k50 s0 x1 x2 x3 x4 x5 x6) := by
  unfold f_X8_by_B50
  refine r_iload dX8_by_50 rfl ?_
  refine r_bipush dX8_by_52 cb_100 ?_
  refine r_icge dX8_by_54 (tgt := 95) (by decide) (fun c8 => ?_) (fun c8 => ?_)
  · refine r_iload_n dX8_by_95 rfl ?_
    refine r_ifne dX8_by_96 (tgt := 104) (by decide) (fun c9 => ?_) (fun c9 => ?_)
    · refine r_iload dX8_by_99 rfl ?_
      refine r_goto dX8_by_101 (tgt := 106) (by decide) ?_
      exact r_iret dX8_by_106 rfl rfl
    · refine r_iload dX8_by_104 rfl ?_
      exact r_iret dX8_by_106 rfl rfl
  · refine r_aload_n dX8_by_57 rfl ?_
    refine gf_X8_18 rfl dX8_by_58 ?_
    refine r_iload_n dX8_by_61 rfl ?_
    refine r_iload dX8_by_62 rfl ?_
    refine as_8_3 dX8_by_64 (fun hg10 hj11 s12 => ?_)
    refine r_aload_n dX8_by_65 rfl ?_
    refine r_iload_n dX8_by_66 rfl ?_
    refine r_iload_n dX8_by_67 rfl ?_
    refine u_X8_isOutBehind (ok_X8_isOutBehind g s12 x1 x2) dX8_by_68 ml_X8_251 (Nat.le_of_ble_eq_true rfl) (fits_m (by decide) (by decide)) room_m (fun q13 => ?_)
    refine r_ifeq dX8_by_71 (tgt := 81) (by decide) (fun c14 => ?_) (fun c14 => ?_)
    · exact r_mask [true, true, true, true, true, true, true] (s_X8_by_L81 g k50 hk50 q13.2 x1 x2 x3 x4 x5 x6)
    · refine r_iincN dX8_by_74 rfl ci_1 rfl (lt_b rfl) (fun v17 => ?_)
      refine r_iload dX8_by_77 rfl ?_
      refine r_istore dX8_by_79 rfl (lt_b rfl) (lt_b rfl) ?_
      exact r_mask [true, true, true, true, true, true, true] (s_X8_by_L81 g k50 hk50 q13.2 x1 x2 x3 v17 x6 x6)
theorem s_X8_by_L50 (g : Gm) : ∀ (n : Nat) (s0 : Sto) (x1 : Int32) (x2 : Int32) (x3 : Int32) (x4 : Int32) (x5 : Int32) (x6 : Int32), Rf cvIw (Em g 6) kX8_by 50 [some (.ref ((Em g 6).1.1 8 0 0)), some (.int x1), some (.int x2), some (.int x3), some (.int x4), some (.int x5), some (.int x6)] [] s0 (f_X8_by_L50 n s0 x1 x2 x3 x4 x5 x6)
  | 0, _, _, _, _, _, _, _ => r_none
  | n + 1, s0, x1, x2, x3, x4, x5, x6 => s_X8_by_B50 g (f_X8_by_L50 n) (s_X8_by_L50 g n) s0 x1 x2 x3 x4 x5 x6
set_option maxRecDepth 100000 in
theorem s_X8_by (g : Gm) (s0 : Sto) (x1 : Int32) (x2 : Int32) (x3 : Int32) : Rf cvIw (Em g 6) kX8_by 0 [some (.ref ((Em g 6).1.1 8 0 0)), some (.int x1), some (.int x2), some (.int x3), none, none, none] [] s0 (f_X8_by s0 x1 x2 x3) := by
  unfold f_X8_by
  refine r_aload_n dX8_by_0 rfl ?_
  refine r_iload_n dX8_by_1 rfl ?_
  refine u_X8_isOne (ok_X8_isOne g s0 x1) dX8_by_2 ml_X8_109 (Nat.le_of_ble_eq_true rfl) (fits_m (by decide) (by decide)) room_m (fun q1 => ?_)
  refine r_ifeq dX8_by_5 (tgt := 17) (by decide) (fun c2 => ?_) (fun c2 => ?_)
  · refine r_iconst dX8_by_17 ci_m1 ?_
    exact r_iret dX8_by_18 rfl rfl
  · refine r_iload_n dX8_by_8 rfl ?_
    refine r_iconst dX8_by_9 ci_0 ?_
    refine r_iconst dX8_by_10 ci_1 ?_
    refine u_X8_within (ok_X8_within g s0 x3 0 1) dX8_by_11 ml_X8_105 (Nat.le_of_ble_eq_true rfl) (fits_m (by decide) (by decide)) room_m (fun q3 => ?_)
    refine r_ifne dX8_by_14 (tgt := 19) (by decide) (fun c4 => ?_) (fun c4 => ?_)
    · refine r_iconst dX8_by_17 ci_m1 ?_
      exact r_iret dX8_by_18 rfl rfl
    · refine r_iload_n dX8_by_19 rfl ?_
      refine r_iconst dX8_by_20 ci_0 ?_
      refine r_bipush dX8_by_21 cb_30 ?_
      refine u_X8_within (ok_X8_within g s0 x2 0 30) dX8_by_23 ml_X8_105 (Nat.le_of_ble_eq_true rfl) (fits_m (by decide) (by decide)) room_m (fun q5 => ?_)
      refine r_ifne dX8_by_26 (tgt := 32) (by decide) (fun c6 => ?_) (fun c6 => ?_)
      · refine r_bipush dX8_by_29 cb_m2 ?_
        exact r_iret dX8_by_31 rfl rfl
      · refine r_aload_n dX8_by_32 rfl ?_
        refine r_aload_n dX8_by_33 rfl ?_
        refine gf_X8_79 rfl dX8_by_34 ?_
        refine u_X8_keep_38 (ok_X8_keep_38 g s0) dX8_by_37 ml_X8_229 (Nat.le_of_ble_eq_true rfl) (fits_m (by decide) (by decide)) room_m (fun q7 => ?_)
        refine r_iconst dX8_by_40 ci_0 ?_
        refine r_istore dX8_by_41 rfl (lt_b rfl) (lt_b rfl) ?_
        refine r_bipush dX8_by_43 cb_m5 ?_
        refine r_istore dX8_by_45 rfl (lt_b rfl) (lt_b rfl) ?_
        refine r_iconst dX8_by_47 ci_0 ?_
        refine r_istore dX8_by_48 rfl (lt_b rfl) (lt_b rfl) ?_
        exact r_mask [true, true, true, true, true, true, true] (s_X8_by_L50 g 1000 q7 x1 x2 x3 0 (-5 : Int32) 0)
theorem ok_X8_by (g : Gm) (s0 : Sto) (x1 : Int32) (x2 : Int32) (x3 : Int32) : Ok g yX8_by kX8_by 6 [.ref ((Em g 6).1.1 8 0 0), .int x1, .int x2, .int x3] s0 cvIw (f_X8_by s0 x1 x2 x3) := Ok.of (by decide) rfl (Nat.le_of_ble_eq_true rfl) (lv := [some (.ref ((Em g 6).1.1 8 0 0)), some (.int x1), some (.int x2), some (.int x3), none, none, none]) rfl (s_X8_by g s0 x1 x2 x3)
theorem u_X8_by {α : Type} {cv : α → Res} {E : EE} {K : KK} {pc npc idx d : Nat} {lv : List (Option Value)} {st : List Value} {σ : Sto} {oc : Option (Int32 × Sto)} {kf : (Int32 × Sto) → Option α} {x1 : Int32} {x2 : Int32} {x3 : Int32} (hOk : Ok E.1 yX8_by kX8_by d [.ref (E.1.1 8 0 0), .int x1, .int x2, .int x3] σ cvIw oc) (hd : Dc K pc (.invokevirtual idx) 3 npc) (hlk : Cond.methodLink K.2.1 idx yX8_by ∈ lw_good) (hw : (st.map fun v => v.category).sum ≤ 8) (hfit : fits_ E d 7) (hrm : room_ok E) (kk : ∀ q : Int32 × Sto, Rf cv E K npc lv (.int q.1 :: st) q.2 (kf q)) : Rf cv E K pc lv (.int x3 :: .int x2 :: .int x1 :: .ref (E.1.1 8 0 0) :: st) σ (oc.bind kf) := c_V (n := 3) (as := [.int x1, .int x2, .int x3]) (c0 := 8) (i := 0) (CC := "ThawGivesModel") (T := TX8) (N := 43) hd hOk hlk wi_X8_by wv_X8_by wn_X8 wc_X8_by rfl (by decide) (by decide) ⟨by decide, by decide, by decide⟩ rfl rfl hw hfit hrm (fun b _ => kk b)
def f_X8_need_L121 (k48 : Sto → Int32 → Int32 → Int32 → Int32 → Int32 → Option (Int32 × Sto)) (s0 : Sto) (x1 : Int32) (x2 : Int32) (x3 : Int32) (x4 : Int32) (x5 : Int32) : Option (Int32 × Sto) :=
  (f_X8_again_38 s0).bind fun q19 => nmI (x5 + (-1 : Int32)) fun v20 => k48 q19 x1 x2 x3 x4 v20
def f_X8_need_L114 (k48 : Sto → Int32 → Int32 → Int32 → Int32 → Int32 → Option (Int32 × Sto)) (s0 : Sto) (x1 : Int32) (x2 : Int32) (x3 : Int32) (x4 : Int32) (x5 : Int32) (y0 : Int32) (y1 : Int32) : Option (Int32 × Sto) :=
  (if y0 = y1 then
    f_X8_need_L121 k48 s0 x1 x2 x3 x5 x5
  else
    f_X8_need_L121 k48 s0 x1 x2 x3 x4 x5)
def f_X8_need_L99 (k48 : Sto → Int32 → Int32 → Int32 → Int32 → Int32 → Option (Int32 × Sto)) (s0 : Sto) (x1 : Int32) (x2 : Int32) (x3 : Int32) (x4 : Int32) (x5 : Int32) : Option (Int32 × Sto) :=
  (f_X8_isOutBehind s0 x1 x2).bind fun q16 => (if x3 = 0 then
    f_X8_need_L114 k48 q16.2 x1 x2 x3 x4 x5 q16.1 1
  else
    f_X8_need_L114 k48 q16.2 x1 x2 x3 x4 x5 q16.1 0)
def f_X8_need_B48 (k48 : Sto → Int32 → Int32 → Int32 → Int32 → Int32 → Option (Int32 × Sto)) (s0 : Sto) (x1 : Int32) (x2 : Int32) (x3 : Int32) (x4 : Int32) (x5 : Int32) : Option (Int32 × Sto) :=
  (if x5 < 0 then
    some (x4, s0)
  else
    (if x3 = 0 then
      (if 0 ≤ x1 ∧ x1 < 6 then (f_J9_max_7cf53 0 ((s0.2.1 8 3 0 (Int32.toNatClampNeg x1)) - x5)).bind fun q23 => (if 0 ≤ x1 ∧ x1 < 6 then nm (sA s0 8 3 0 (upd (s0.2.1 8 3 0) (Int32.toNatClampNeg x1) q23)) fun s26 => f_X8_need_L99 k48 s26 x1 x2 x3 x4 x5 else none) else none)
    else
      (if 0 ≤ x1 ∧ x1 < 6 then (f_J9_min_7cf53 99 ((s0.2.1 8 4 0 (Int32.toNatClampNeg x1)) + x5)).bind fun q12 => (if 0 ≤ x1 ∧ x1 < 6 then nm (sA s0 8 4 0 (upd (s0.2.1 8 4 0) (Int32.toNatClampNeg x1) q12)) fun s15 => f_X8_need_L99 k48 s15 x1 x2 x3 x4 x5 else none) else none)))
def f_X8_need_L48 : Nat → Sto → Int32 → Int32 → Int32 → Int32 → Int32 → Option (Int32 × Sto)
  | 0 => fun _ _ _ _ _ _ => none
  | n + 1 => f_X8_need_B48 (f_X8_need_L48 n)
def f_X8_need (s0 : Sto) (x1 : Int32) (x2 : Int32) (x3 : Int32) : Option (Int32 × Sto) :=
  (f_X8_isOne s0 x1).bind fun q1 => (if q1 = 0 then
    some ((-1 : Int32), s0)
  else
    (f_X8_within x3 0 1).bind fun q3 => (if q3 = 0 then
      some ((-1 : Int32), s0)
    else
      (f_X8_within x2 0 30).bind fun q5 => (if q5 = 0 then
        some ((-2 : Int32), s0)
      else
        (f_X8_keep_38 s0).bind fun q7 => f_X8_need_L48 1000 q7 x1 x2 x3 (-5 : Int32) 99)))
set_option maxRecDepth 100000 in
theorem s_X8_need_L121 (g : Gm) (k48 : Sto → Int32 → Int32 → Int32 → Int32 → Int32 → Option (Int32 × Sto)) (hk48 : ∀ (s0 : Sto) (x1 : Int32) (x2 : Int32) (x3 : Int32) (x4 : Int32) (x5 : Int32), Rf cvIw (Em g 6) kX8_need 48 [some (.ref ((Em g 6).1.1 8 0 0)), some (.int x1), some (.int x2), some (.int x3), some (.int x4), some (.int x5)] [] s0 (k48 s0 x1 x2 x3 x4 x5)) (s0 : Sto) (x1 : Int32) (x2 : Int32) (x3 : Int32) (x4 : Int32) (x5 : Int32) : Rf cvIw (Em g 6) kX8_need 121 [some (.ref ((Em g 6).1.1 8 0 0)), some (.int x1), some (.int x2), some (.int x3), some (.int x4), some (.int x5)] [] s0 (f_X8_need_L121 k48 s0 x1 x2 x3 x4 x5) := by
  unfold f_X8_need_L121
  refine r_aload_n dX8_need_121 rfl ?_
  refine r_aload_n dX8_need_122 rfl ?_
  refine gf_X8_79 rfl dX8_need_123 ?_
  refine u_X8_again_38 (ok_X8_again_38 g s0) dX8_need_126 ml_X8_233 (Nat.le_of_ble_eq_true rfl) (fits_m (by decide) (by decide)) room_m (fun q19 => ?_)
  refine r_iincN dX8_need_129 rfl ci_m1 rfl (lt_b rfl) (fun v20 => ?_)
  refine r_goto dX8_need_132 (tgt := 48) (by decide) ?_
  exact r_mask [true, true, true, true, true, true] (hk48 q19 x1 x2 x3 x4 v20)
set_option maxRecDepth 100000 in
theorem s_X8_need_L114 (g : Gm) (k48 : Sto → Int32 → Int32 → Int32 → Int32 → Int32 → Option (Int32 × Sto)) (hk48 : ∀ (s0 : Sto) (x1 : Int32) (x2 : Int32) (x3 : Int32) (x4 : Int32) (x5 : Int32), Rf cvIw (Em g 6) kX8_need 48 [some (.ref ((Em g 6).1.1 8 0 0)), some (.int x1), some (.int x2), some (.int x3), some (.int x4), some (.int x5)] [] s0 (k48 s0 x1 x2 x3 x4 x5)) (s0 : Sto) (x1 : Int32) (x2 : Int32) (x3 : Int32) (x4 : Int32) (x5 : Int32) (y0 : Int32) (y1 : Int32) : Rf cvIw (Em g 6) kX8_need 114 [some (.ref ((Em g 6).1.1 8 0 0)), some (.int x1), some (.int x2), some (.int x3), some (.int x4), some (.int x5)] [.int y1, .int y0] s0 (f_X8_need_L114 k48 s0 x1 x2 x3 x4 x5 y0 y1) := by
  unfold f_X8_need_L114
  refine r_icne dX8_need_114 (tgt := 121) (by decide) (fun c18 => ?_) (fun c18 => ?_)
  · refine r_iload dX8_need_117 rfl ?_
    refine r_istore dX8_need_119 rfl (lt_b rfl) (lt_b rfl) ?_
    exact r_mask [true, true, true, true, true, true] (s_X8_need_L121 g k48 hk48 s0 x1 x2 x3 x5 x5)
  · exact r_mask [true, true, true, true, true, true] (s_X8_need_L121 g k48 hk48 s0 x1 x2 x3 x4 x5)
set_option maxRecDepth 100000 in
theorem s_X8_need_L99 (g : Gm) (k48 : Sto → Int32 → Int32 → Int32 → Int32 → Int32 → Option (Int32 × Sto)) (hk48 : ∀ (s0 : Sto) (x1 : Int32) (x2 : Int32) (x3 : Int32) (x4 : Int32) (x5 : Int32), Rf cvIw (Em g 6) kX8_need 48 [some (.ref ((Em g 6).1.1 8 0 0)), some (.int x1), some (.int x2), some (.int x3), some (.int x4), some (.int x5)] [] s0 (k48 s0 x1 x2 x3 x4 x5)) (s0 : Sto) (x1 : Int32) (x2 : Int32) (x3 : Int32) (x4 : Int32) (x5 : Int32) : Rf cvIw (Em g 6) kX8_need 99 [some (.ref ((Em g 6).1.1 8 0 0)), some (.int x1), some (.int x2), some (.int x3), some (.int x4), some (.int x5)] [] s0 (f_X8_need_L99 k48 s0 x1 x2 x3 x4 x5) := by
  unfold f_X8_need_L99
  refine r_aload_n dX8_need_99 rfl ?_
  refine r_iload_n dX8_need_100 rfl ?_
  refine r_iload_n dX8_need_101 rfl ?_
  refine u_X8_isOutBehind (ok_X8_isOutBehind g s0 x1 x2) dX8_need_102 ml_X8_251 (Nat.le_of_ble_eq_true rfl) (fits_m (by decide) (by decide)) room_m (fun q16 => ?_)
  refine r_iload_n dX8_need_105 rfl ?_
  refine r_ifne dX8_need_106 (tgt := 113) (by decide) (fun c17 => ?_) (fun c17 => ?_)
  · refine r_iconst dX8_need_109 ci_1 ?_
    refine r_goto dX8_need_110 (tgt := 114) (by decide) ?_
    exact r_mask [true, true, true, true, true, true] (s_X8_need_L114 g k48 hk48 q16.2 x1 x2 x3 x4 x5 q16.1 1)
  · refine r_iconst dX8_need_113 ci_0 ?_
    exact r_mask [true, true, true, true, true, true] (s_X8_need_L114 g k48 hk48 q16.2 x1 x2 x3 x4 x5 q16.1 0)
set_option maxRecDepth 100000 in
theorem s_X8_need_B48 (g : Gm) (k48 : Sto → Int32 → Int32 → Int32 → Int32 → Int32 → Option (Int32 × Sto)) (hk48 : ∀ (s0 : Sto) (x1 : Int32) (x2 : Int32) (x3 : Int32) (x4 : Int32) (x5 : Int32), Rf cvIw (Em g 6) kX8_need 48 [some (.ref ((Em g 6).1.1 8 0 0)), some (.int x1), some (.int x2), some (.int x3), some (.int x4), some (.int x5)] [] s0 (k48 s0 x1 x2 x3 x4 x5)) (s0 : Sto) (x1 : Int32) (x2 : Int32) (x3 : Int32) (x4 : Int32) (x5 : Int32) : Rf cvIw (Em g 6) kX8_need 48 [some (.ref ((Em g 6).1.1 8 0 0)), some (.int x1), some (.int x2), some (.int x3), some (.int x4), some (.int x5)] [] s0 (f_X8_need_B48 k48 s0 x1 x2 x3 x4 x5) := by
  unfold f_X8_need_B48
  refine r_iload dX8_need_48 rfl ?_
  refine r_iflt dX8_need_50 (tgt := 135) (by decide) (fun c8 => ?_) (fun c8 => ?_)
  · refine r_iload dX8_need_135 rfl ?_
    exact r_iret dX8_need_137 rfl rfl
  · refine r_iload_n dX8_need_53 rfl ?_
    refine r_ifne dX8_need_54 (tgt := 79) (by decide) (fun c9 => ?_) (fun c9 => ?_)
    · refine r_aload_n dX8_need_57 rfl ?_
      refine gf_X8_18 rfl dX8_need_58 ?_
      refine r_iload_n dX8_need_61 rfl ?_
      refine r_iconst dX8_need_62 ci_0 ?_
      refine r_aload_n dX8_need_63 rfl ?_
      refine gf_X8_18 rfl dX8_need_64 ?_
      refine r_iload_n dX8_need_67 rfl ?_
      refine al_8_3 dX8_need_68 (fun hg21 hj22 => ?_)
      refine r_iload dX8_need_69 rfl ?_
      refine r_isub dX8_need_71 ?_
      refine u_J9_max_7cf53 (ok_J9_max_7cf53 g s0 0 ((s0.2.1 8 3 0 (Int32.toNatClampNeg x1)) - x5)) dX8_need_72 ml_X8_217 (Nat.le_of_ble_eq_true rfl) (fits_m (by decide) (by decide)) room_m (fun q23 => ?_)
      refine as_8_3 dX8_need_75 (fun hg24 hj25 s26 => ?_)
      refine r_goto dX8_need_76 (tgt := 99) (by decide) ?_
      exact r_mask [true, true, true, true, true, true] (s_X8_need_L99 g k48 hk48 s26 x1 x2 x3 x4 x5)
    · refine r_aload_n dX8_need_79 rfl ?_
      refine gf_X8_21 rfl dX8_need_80 ?_
      refine r_iload_n dX8_need_83 rfl ?_
      refine r_bipush dX8_need_84 cb_99 ?_
      refine r_aload_n dX8_need_86 rfl ?_
      refine gf_X8_21 rfl dX8_need_87 ?_
      refine r_iload_n dX8_need_90 rfl ?_
      refine al_8_4 dX8_need_91 (fun hg10 hj11 => ?_)
      refine r_iload dX8_need_92 rfl ?_
      refine r_iadd dX8_need_94 ?_
      refine u_J9_min_7cf53 (ok_J9_min_7cf53 g s0 99 ((s0.2.1 8 4 0 (Int32.toNatClampNeg x1)) + x5)) dX8_need_95 ml_X8_212 (Nat.le_of_ble_eq_true rfl) (fits_m (by decide) (by decide)) room_m (fun q12 => ?_)
      refine as_8_4 dX8_need_98 (fun hg13 hj14 s15 => ?_)
      exact r_mask [true, true, true, true, true, true] (s_X8_need_L99 g k48 hk48 s15 x1 x2 x3 x4 x5)
theorem s_X8_need_L48 (g : Gm) : ∀ (n : Nat) (s0 : Sto) (x1 : Int32) (x2 : Int32) (x3 : Int32) (x4 : Int32) (x5 : Int32), Rf cvIw (Em g 6) kX8_need 48 [some (.ref ((Em g 6).1.1 8 0 0)), some (.int x1), some (.int x2), some (.int x3), some (.int x4), some (.int x5)] [] s0 (f_X8_need_L48 n s0 x1 x2 x3 x4 x5)
  | 0, _, _, _, _, _, _ => r_none
  | n + 1, s0, x1, x2, x3, x4, x5 => s_X8_need_B48 g (f_X8_need_L48 n) (s_X8_need_L48 g n) s0 x1 x2 x3 x4 x5
set_option maxRecDepth 100000 in
theorem s_X8_need (g : Gm) (s0 : Sto) (x1 : Int32) (x2 : Int32) (x3 : Int32) : Rf cvIw (Em g 6) kX8_need 0 [some (.ref ((Em g 6).1.1 8 0 0)), some (.int x1), some (.int x2), some (.int x3), none, none] [] s0 (f_X8_need s0 x1 x2 x3) := by
  unfold f_X8_need
  refine r_aload_n dX8_need_0 rfl ?_
  refine r_iload_n dX8_need_1 rfl ?_
  refine u_X8_isOne (ok_X8_isOne g s0 x1) dX8_need_2 ml_X8_109 (Nat.le_of_ble_eq_true rfl) (fits_m (by decide) (by decide)) room_m (fun q1 => ?_)
  refine r_ifeq dX8_need_5 (tgt := 17) (by decide) (fun c2 => ?_) (fun c2 => ?_)
  · refine r_iconst dX8_need_17 ci_m1 ?_
    exact r_iret dX8_need_18 rfl rfl
  · refine r_iload_n dX8_need_8 rfl ?_
    refine r_iconst dX8_need_9 ci_0 ?_
    refine r_iconst dX8_need_10 ci_1 ?_
    refine u_X8_within (ok_X8_within g s0 x3 0 1) dX8_need_11 ml_X8_105 (Nat.le_of_ble_eq_true rfl) (fits_m (by decide) (by decide)) room_m (fun q3 => ?_)
    refine r_ifne dX8_need_14 (tgt := 19) (by decide) (fun c4 => ?_) (fun c4 => ?_)
    · refine r_iconst dX8_need_17 ci_m1 ?_
      exact r_iret dX8_need_18 rfl rfl
    · refine r_iload_n dX8_need_19 rfl ?_
      refine r_iconst dX8_need_20 ci_0 ?_
      refine r_bipush dX8_need_21 cb_30 ?_
      refine u_X8_within (ok_X8_within g s0 x2 0 30) dX8_need_23 ml_X8_105 (Nat.le_of_ble_eq_true rfl) (fits_m (by decide) (by decide)) room_m (fun q5 => ?_)
      refine r_ifne dX8_need_26 (tgt := 32) (by decide) (fun c6 => ?_) (fun c6 => ?_)
      · refine r_bipush dX8_need_29 cb_m2 ?_
        exact r_iret dX8_need_31 rfl rfl
      · refine r_aload_n dX8_need_32 rfl ?_
        refine r_aload_n dX8_need_33 rfl ?_
        refine gf_X8_79 rfl dX8_need_34 ?_
        refine u_X8_keep_38 (ok_X8_keep_38 g s0) dX8_need_37 ml_X8_229 (Nat.le_of_ble_eq_true rfl) (fits_m (by decide) (by decide)) room_m (fun q7 => ?_)
        refine r_bipush dX8_need_40 cb_m5 ?_
        refine r_istore dX8_need_42 rfl (lt_b rfl) (lt_b rfl) ?_
        refine r_bipush dX8_need_44 cb_99 ?_
        refine r_istore dX8_need_46 rfl (lt_b rfl) (lt_b rfl) ?_
        exact r_mask [true, true, true, true, true, true] (s_X8_need_L48 g 1000 q7 x1 x2 x3 (-5 : Int32) 99)
theorem ok_X8_need (g : Gm) (s0 : Sto) (x1 : Int32) (x2 : Int32) (x3 : Int32) : Ok g yX8_need kX8_need 6 [.ref ((Em g 6).1.1 8 0 0), .int x1, .int x2, .int x3] s0 cvIw (f_X8_need s0 x1 x2 x3) := Ok.of (by decide) rfl (Nat.le_of_ble_eq_true rfl) (lv := [some (.ref ((Em g 6).1.1 8 0 0)), some (.int x1), some (.int x2), some (.int x3), none, none]) rfl (s_X8_need g s0 x1 x2 x3)
theorem u_X8_need {α : Type} {cv : α → Res} {E : EE} {K : KK} {pc npc idx d : Nat} {lv : List (Option Value)} {st : List Value} {σ : Sto} {oc : Option (Int32 × Sto)} {kf : (Int32 × Sto) → Option α} {x1 : Int32} {x2 : Int32} {x3 : Int32} (hOk : Ok E.1 yX8_need kX8_need d [.ref (E.1.1 8 0 0), .int x1, .int x2, .int x3] σ cvIw oc) (hd : Dc K pc (.invokevirtual idx) 3 npc) (hlk : Cond.methodLink K.2.1 idx yX8_need ∈ lw_good) (hw : (st.map fun v => v.category).sum ≤ 8) (hfit : fits_ E d 6) (hrm : room_ok E) (kk : ∀ q : Int32 × Sto, Rf cv E K npc lv (.int q.1 :: st) q.2 (kf q)) : Rf cv E K pc lv (.int x3 :: .int x2 :: .int x1 :: .ref (E.1.1 8 0 0) :: st) σ (oc.bind kf) := c_V (n := 3) (as := [.int x1, .int x2, .int x3]) (c0 := 8) (i := 0) (CC := "ThawGivesModel") (T := TX8) (N := 43) hd hOk hlk wi_X8_need wv_X8_need wn_X8 wc_X8_need rfl (by decide) (by decide) ⟨by decide, by decide, by decide⟩ rfl rfl hw hfit hrm (fun b _ => kk b)
def f_X8_see (s0 : Sto) (x1 : Int32) (x2 : Int32) (x3 : Int32) : Option (Int32 × Sto) :=
  (if x1 = (-1 : Int32) then
    nm (sF s0 8 23 0 0) fun s21 => some (0, s21)
  else
    (f_X8_isOne s0 x1).bind fun q2 => (if q2 = 0 then
      some ((-1 : Int32), s0)
    else
      (f_X8_within x2 0 20).bind fun q4 => (if q4 = 0 then
        some ((-2 : Int32), s0)
      else
        (if (s0.1 8 23 0) = 5 then
          some ((-4 : Int32), s0)
        else
          (if 0 ≤ (s0.1 8 23 0) ∧ (s0.1 8 23 0) < 5 then nm (sA s0 8 24 0 (upd (s0.2.1 8 24 0) (Int32.toNatClampNeg (s0.1 8 23 0)) x1)) fun s9 => (if 0 ≤ (s9.1 8 23 0) ∧ (s9.1 8 23 0) < 5 then nm (sA s9 8 25 0 (upd (s9.2.1 8 25 0) (Int32.toNatClampNeg (s9.1 8 23 0)) x2)) fun s12 => nm (sF s12 8 23 0 ((s12.1 8 23 0) + 1)) fun s13 => (if x3 = 0 then
            (if 0 ≤ (s12.1 8 23 0) ∧ (s12.1 8 23 0) < 5 then nm (sA s13 8 26 0 (upd (s13.2.1 8 26 0) (Int32.toNatClampNeg (s12.1 8 23 0)) 0)) fun s17 => some ((s17.1 8 23 0), s17) else none)
          else
            (if 0 ≤ (s12.1 8 23 0) ∧ (s12.1 8 23 0) < 5 then nm (sA s13 8 26 0 (upd (s13.2.1 8 26 0) (Int32.toNatClampNeg (s12.1 8 23 0)) 1)) fun s20 => some ((s20.1 8 23 0), s20) else none)) else none) else none)))))
set_option maxRecDepth 100000 in
theorem s_X8_see (g : Gm) (s0 : Sto) (x1 : Int32) (x2 : Int32) (x3 : Int32) : Rf cvIw (Em g 2) kX8_see 0 [some (.ref ((Em g 2).1.1 8 0 0)), some (.int x1), some (.int x2), some (.int x3)] [] s0 (f_X8_see s0 x1 x2 x3) := by
  unfold f_X8_see
  refine r_iload_n dX8_see_0 rfl ?_
  refine r_iconst dX8_see_1 ci_m1 ?_
  refine r_icne dX8_see_2 (tgt := 12) (by decide) (fun c1 => ?_) (fun c1 => ?_)
  · refine r_aload_n dX8_see_5 rfl ?_
    refine r_iconst dX8_see_6 ci_0 ?_
    refine pf_X8_255 rfl dX8_see_7 (fun s21 => ?_)
    refine r_iconst dX8_see_10 ci_0 ?_
    exact r_iret dX8_see_11 rfl rfl
  · refine r_aload_n dX8_see_12 rfl ?_
    refine r_iload_n dX8_see_13 rfl ?_
    refine u_X8_isOne (ok_X8_isOne g s0 x1) dX8_see_14 ml_X8_109 (Nat.le_of_ble_eq_true rfl) (fits_m (by decide) (by decide)) room_m (fun q2 => ?_)
    refine r_ifne dX8_see_17 (tgt := 22) (by decide) (fun c3 => ?_) (fun c3 => ?_)
    · refine r_iconst dX8_see_20 ci_m1 ?_
      exact r_iret dX8_see_21 rfl rfl
    · refine r_iload_n dX8_see_22 rfl ?_
      refine r_iconst dX8_see_23 ci_0 ?_
      refine r_bipush dX8_see_24 cb_20 ?_
      refine u_X8_within (ok_X8_within g s0 x2 0 20) dX8_see_26 ml_X8_105 (Nat.le_of_ble_eq_true rfl) (fits_m (by decide) (by decide)) room_m (fun q4 => ?_)
      refine r_ifne dX8_see_29 (tgt := 35) (by decide) (fun c5 => ?_) (fun c5 => ?_)
      · refine r_bipush dX8_see_32 cb_m2 ?_
        exact r_iret dX8_see_34 rfl rfl
      · refine r_aload_n dX8_see_35 rfl ?_
        refine gf_X8_255 rfl dX8_see_36 ?_
        refine r_iconst dX8_see_39 ci_5 ?_
        refine r_icne dX8_see_40 (tgt := 46) (by decide) (fun c6 => ?_) (fun c6 => ?_)
        · refine r_bipush dX8_see_43 cb_m4 ?_
          exact r_iret dX8_see_45 rfl rfl
        · refine r_aload_n dX8_see_46 rfl ?_
          refine gf_X8_52 rfl dX8_see_47 ?_
          refine r_aload_n dX8_see_50 rfl ?_
          refine gf_X8_255 rfl dX8_see_51 ?_
          refine r_iload_n dX8_see_54 rfl ?_
          refine as_8_24 dX8_see_55 (fun hg7 hj8 s9 => ?_)
          refine r_aload_n dX8_see_56 rfl ?_
          refine gf_X8_55 rfl dX8_see_57 ?_
          refine r_aload_n dX8_see_60 rfl ?_
          refine gf_X8_255 rfl dX8_see_61 ?_
          refine r_iload_n dX8_see_64 rfl ?_
          refine as_8_25 dX8_see_65 (fun hg10 hj11 s12 => ?_)
          refine r_aload_n dX8_see_66 rfl ?_
          refine gf_X8_58 rfl dX8_see_67 ?_
          refine r_aload_n dX8_see_70 rfl ?_
          refine r_dup dX8_see_71 rfl ?_
          refine gf_X8_255 rfl dX8_see_72 ?_
          refine r_dup_x1 dX8_see_75 rfl rfl ?_
          refine r_iconst dX8_see_76 ci_1 ?_
          refine r_iadd dX8_see_77 ?_
          refine pf_X8_255 rfl dX8_see_78 (fun s13 => ?_)
          refine r_iload_n dX8_see_81 rfl ?_
          refine r_ifeq dX8_see_82 (tgt := 89) (by decide) (fun c14 => ?_) (fun c14 => ?_)
          · refine r_iconst dX8_see_89 ci_0 ?_
            refine as_8_26 dX8_see_90 (fun hg15 hj16 s17 => ?_)
            refine r_aload_n dX8_see_91 rfl ?_
            refine gf_X8_255 rfl dX8_see_92 ?_
            exact r_iret dX8_see_95 rfl rfl
          · refine r_iconst dX8_see_85 ci_1 ?_
            refine r_goto dX8_see_86 (tgt := 90) (by decide) ?_
            refine as_8_26 dX8_see_90 (fun hg18 hj19 s20 => ?_)
            refine r_aload_n dX8_see_91 rfl ?_
            refine gf_X8_255 rfl dX8_see_92 ?_
            exact r_iret dX8_see_95 rfl rfl
theorem ok_X8_see (g : Gm) (s0 : Sto) (x1 : Int32) (x2 : Int32) (x3 : Int32) : Ok g yX8_see kX8_see 2 [.ref ((Em g 2).1.1 8 0 0), .int x1, .int x2, .int x3] s0 cvIw (f_X8_see s0 x1 x2 x3) := Ok.of (by decide) rfl (Nat.le_of_ble_eq_true rfl) (lv := [some (.ref ((Em g 2).1.1 8 0 0)), some (.int x1), some (.int x2), some (.int x3)]) rfl (s_X8_see g s0 x1 x2 x3)
theorem u_X8_see {α : Type} {cv : α → Res} {E : EE} {K : KK} {pc npc idx d : Nat} {lv : List (Option Value)} {st : List Value} {σ : Sto} {oc : Option (Int32 × Sto)} {kf : (Int32 × Sto) → Option α} {x1 : Int32} {x2 : Int32} {x3 : Int32} (hOk : Ok E.1 yX8_see kX8_see d [.ref (E.1.1 8 0 0), .int x1, .int x2, .int x3] σ cvIw oc) (hd : Dc K pc (.invokevirtual idx) 3 npc) (hlk : Cond.methodLink K.2.1 idx yX8_see ∈ lw_good) (hw : (st.map fun v => v.category).sum ≤ 8) (hfit : fits_ E d 4) (hrm : room_ok E) (kk : ∀ q : Int32 × Sto, Rf cv E K npc lv (.int q.1 :: st) q.2 (kf q)) : Rf cv E K pc lv (.int x3 :: .int x2 :: .int x1 :: .ref (E.1.1 8 0 0) :: st) σ (oc.bind kf) := c_V (n := 3) (as := [.int x1, .int x2, .int x3]) (c0 := 8) (i := 0) (CC := "ThawGivesModel") (T := TX8) (N := 43) hd hOk hlk wi_X8_see wv_X8_see wn_X8 wc_X8_see rfl (by decide) (by decide) ⟨by decide, by decide, by decide⟩ rfl rfl hw hfit hrm (fun b _ => kk b)
def f_X8_isSeen_L82 (k4 : Sto → Int32 → Int32 → Int32 → Option (Int32 × Sto)) (k21 : Sto → Int32 → Int32 → Int32 → Int32 → Option (Int32 × Sto)) (s0 : Sto) (x1 : Int32) (x2 : Int32) (x3 : Int32) (x4 : Int32) (y0 : Int32) (y1 : Int32) : Option (Int32 × Sto) :=
  (if y0 = y1 then
    nmI (x4 + 1) fun v20 => k21 s0 x1 x2 x3 v20
  else
    nmI (x4 + 1) fun v21 => k21 s0 x1 0 x3 v21)
def f_X8_isSeen_L66 (k4 : Sto → Int32 → Int32 → Int32 → Option (Int32 × Sto)) (k21 : Sto → Int32 → Int32 → Int32 → Int32 → Option (Int32 × Sto)) (s0 : Sto) (x1 : Int32) (x2 : Int32) (x3 : Int32) (x4 : Int32) (y0 : Int32) : Option (Int32 × Sto) :=
  (if 0 ≤ x4 ∧ x4 < 5 then (if (s0.2.1 8 26 0 (Int32.toNatClampNeg x4)) = 1 then
    f_X8_isSeen_L82 k4 k21 s0 x1 x2 x3 x4 y0 1
  else
    f_X8_isSeen_L82 k4 k21 s0 x1 x2 x3 x4 y0 0) else none)
def f_X8_isSeen_B21 (k4 : Sto → Int32 → Int32 → Int32 → Option (Int32 × Sto)) (k21 : Sto → Int32 → Int32 → Int32 → Int32 → Option (Int32 × Sto)) (s0 : Sto) (x1 : Int32) (x2 : Int32) (x3 : Int32) (x4 : Int32) : Option (Int32 × Sto) :=
  (if (s0.1 8 23 0) ≤ x4 then
    nmI (x3 + 1) fun v4 => k4 s0 x1 x2 v4
  else
    (if 0 ≤ x4 ∧ x4 < 5 then (if (s0.2.1 8 24 0 (Int32.toNatClampNeg x4)) = x1 then
      (if 0 ≤ x4 ∧ x4 < 5 then (if (s0.2.1 8 25 0 (Int32.toNatClampNeg x4)) = x3 then
        (if 0 ≤ x1 ∧ x1 < 6 then (if (s0.2.1 8 4 0 (Int32.toNatClampNeg x1)) = 0 then
          f_X8_isSeen_L66 k4 k21 s0 x1 x2 x3 x4 1
        else
          f_X8_isSeen_L66 k4 k21 s0 x1 x2 x3 x4 0) else none)
      else
        nmI (x4 + 1) fun v12 => k21 s0 x1 x2 x3 v12) else none)
    else
      nmI (x4 + 1) fun v8 => k21 s0 x1 x2 x3 v8) else none))
def f_X8_isSeen_L21 (k4 : Sto → Int32 → Int32 → Int32 → Option (Int32 × Sto)) : Nat → Sto → Int32 → Int32 → Int32 → Int32 → Option (Int32 × Sto)
  | 0 => fun _ _ _ _ _ => none
  | n + 1 => f_X8_isSeen_B21 k4 (f_X8_isSeen_L21 k4 n)
def f_X8_isSeen_B4 (k4 : Sto → Int32 → Int32 → Int32 → Option (Int32 × Sto)) (s0 : Sto) (x1 : Int32) (x2 : Int32) (x3 : Int32) : Option (Int32 × Sto) :=
  (if (21 : Int32) ≤ x3 then
    (if x2 = 0 ∨ x2 = 1 then some (x2, s0) else none)
  else
    (if x3 ≤ 0 then
      f_X8_isSeen_L21 k4 1000 s0 x1 x2 x3 0
    else
      (f_X8_goesWeek s0).bind fun q22 => f_X8_isSeen_L21 k4 1000 q22 x1 x2 x3 0))
def f_X8_isSeen_L4 : Nat → Sto → Int32 → Int32 → Int32 → Option (Int32 × Sto)
  | 0 => fun _ _ _ _ => none
  | n + 1 => f_X8_isSeen_B4 (f_X8_isSeen_L4 n)
def f_X8_isSeen (s0 : Sto) (x1 : Int32) : Option (Int32 × Sto) :=
  f_X8_isSeen_L4 1000 s0 x1 1 0
set_option maxRecDepth 100000 in
theorem s_X8_isSeen_L82 (g : Gm) (k4 : Sto → Int32 → Int32 → Int32 → Option (Int32 × Sto)) (k21 : Sto → Int32 → Int32 → Int32 → Int32 → Option (Int32 × Sto)) (hk4 : ∀ (s0 : Sto) (x1 : Int32) (x2 : Int32) (x3 : Int32), Rf cvIw (Em g 5) kX8_isSeen 4 [some (.ref ((Em g 5).1.1 8 0 0)), some (.int x1), some (.int x2), some (.int x3), none] [] s0 (k4 s0 x1 x2 x3)) (hk21 : ∀ (s0 : Sto) (x1 : Int32) (x2 : Int32) (x3 : Int32) (x4 : Int32), Rf cvIw (Em g 5) kX8_isSeen 21 [some (.ref ((Em g 5).1.1 8 0 0)), some (.int x1), some (.int x2), some (.int x3), some (.int x4)] [] s0 (k21 s0 x1 x2 x3 x4)) (s0 : Sto) (x1 : Int32) (x2 : Int32) (x3 : Int32) (x4 : Int32) (y0 : Int32) (y1 : Int32) : Rf cvIw (Em g 5) kX8_isSeen 82 [some (.ref ((Em g 5).1.1 8 0 0)), some (.int x1), some (.int x2), some (.int x3), some (.int x4)] [.int y1, .int y0] s0 (f_X8_isSeen_L82 k4 k21 s0 x1 x2 x3 x4 y0 y1) := by
  unfold f_X8_isSeen_L82
  refine r_iceq dX8_isSeen_82 (tgt := 87) (by decide) (fun c19 => ?_) (fun c19 => ?_)
  · refine r_iincN dX8_isSeen_87 rfl ci_1 rfl (lt_b rfl) (fun v20 => ?_)
    refine r_goto dX8_isSeen_90 (tgt := 21) (by decide) ?_
    exact r_mask [true, true, true, true, true] (hk21 s0 x1 x2 x3 v20)
  · refine r_iconst dX8_isSeen_85 ci_0 ?_
    refine r_istore_n dX8_isSeen_86 rfl (lt_b rfl) (lt_b rfl) ?_
    refine r_iincN dX8_isSeen_87 rfl ci_1 rfl (lt_b rfl) (fun v21 => ?_)
    refine r_goto dX8_isSeen_90 (tgt := 21) (by decide) ?_
    exact r_mask [true, true, true, true, true] (hk21 s0 x1 0 x3 v21)
set_option maxRecDepth 100000 in
theorem s_X8_isSeen_L66 (g : Gm) (k4 : Sto → Int32 → Int32 → Int32 → Option (Int32 × Sto)) (k21 : Sto → Int32 → Int32 → Int32 → Int32 → Option (Int32 × Sto)) (hk4 : ∀ (s0 : Sto) (x1 : Int32) (x2 : Int32) (x3 : Int32), Rf cvIw (Em g 5) kX8_isSeen 4 [some (.ref ((Em g 5).1.1 8 0 0)), some (.int x1), some (.int x2), some (.int x3), none] [] s0 (k4 s0 x1 x2 x3)) (hk21 : ∀ (s0 : Sto) (x1 : Int32) (x2 : Int32) (x3 : Int32) (x4 : Int32), Rf cvIw (Em g 5) kX8_isSeen 21 [some (.ref ((Em g 5).1.1 8 0 0)), some (.int x1), some (.int x2), some (.int x3), some (.int x4)] [] s0 (k21 s0 x1 x2 x3 x4)) (s0 : Sto) (x1 : Int32) (x2 : Int32) (x3 : Int32) (x4 : Int32) (y0 : Int32) : Rf cvIw (Em g 5) kX8_isSeen 66 [some (.ref ((Em g 5).1.1 8 0 0)), some (.int x1), some (.int x2), some (.int x3), some (.int x4)] [.int y0] s0 (f_X8_isSeen_L66 k4 k21 s0 x1 x2 x3 x4 y0) := by
  unfold f_X8_isSeen_L66
  refine r_aload_n dX8_isSeen_66 rfl ?_
  refine gf_X8_58 rfl dX8_isSeen_67 ?_
  refine r_iload dX8_isSeen_70 rfl ?_
  refine al_8_26 dX8_isSeen_72 (fun hg16 hj17 => ?_)
  refine r_iconst dX8_isSeen_73 ci_1 ?_
  refine r_icne dX8_isSeen_74 (tgt := 81) (by decide) (fun c18 => ?_) (fun c18 => ?_)
  · refine r_iconst dX8_isSeen_77 ci_1 ?_
    refine r_goto dX8_isSeen_78 (tgt := 82) (by decide) ?_
    exact r_mask [true, true, true, true, true] (s_X8_isSeen_L82 g k4 k21 hk4 hk21 s0 x1 x2 x3 x4 y0 1)
  · refine r_iconst dX8_isSeen_81 ci_0 ?_
    exact r_mask [true, true, true, true, true] (s_X8_isSeen_L82 g k4 k21 hk4 hk21 s0 x1 x2 x3 x4 y0 0)
set_option maxRecDepth 100000 in
theorem s_X8_isSeen_B21 (g : Gm) (k4 : Sto → Int32 → Int32 → Int32 → Option (Int32 × Sto)) (hk4 : ∀ (s0 : Sto) (x1 : Int32) (x2 : Int32) (x3 : Int32), Rf cvIw (Em g 5) kX8_isSeen 4 [some (.ref ((Em g 5).1.1 8 0 0)), some (.int x1), some (.int x2), some (.int x3), none] [] s0 (k4 s0 x1 x2 x3)) (k21 : Sto → Int32 → Int32 → Int32 → Int32 → Option (Int32 × Sto)) (hk21 : ∀ (s0 : Sto) (x1 : Int32) (x2 : Int32) (x3 : Int32) (x4 : Int32), Rf cvIw (Em g 5) kX8_isSeen 21 [some (.ref ((Em g 5).1.1 8 0 0)), some (.int x1), some (.int x2), some (.int x3), some (.int x4)] [] s0 (k21 s0 x1 x2 x3 x4)) (s0 : Sto) (x1 : Int32) (x2 : Int32) (x3 : Int32) (x4 : Int32) : Rf cvIw (Em g 5) kX8_isSeen 21 [some (.ref ((Em g 5).1.1 8 0 0)), some (.int x1), some (.int x2), some (.int x3), some (.int x4)] [] s0 (f_X8_isSeen_B21 k4 k21 s0 x1 x2 x3 x4) := by
  unfold f_X8_isSeen_B21
  refine r_iload dX8_isSeen_21 rfl ?_
  refine r_aload_n dX8_isSeen_23 rfl ?_
  refine gf_X8_255 rfl dX8_isSeen_24 ?_
  refine r_icge dX8_isSeen_27 (tgt := 93) (by decide) (fun c3 => ?_) (fun c3 => ?_)
  · refine r_iincN dX8_isSeen_93 rfl ci_1 rfl (lt_b rfl) (fun v4 => ?_)
    refine r_goto dX8_isSeen_96 (tgt := 4) (by decide) ?_
    exact r_mask [true, true, true, true, false] (hk4 s0 x1 x2 v4)
  · refine r_aload_n dX8_isSeen_30 rfl ?_
    refine gf_X8_52 rfl dX8_isSeen_31 ?_
    refine r_iload dX8_isSeen_34 rfl ?_
    refine al_8_24 dX8_isSeen_36 (fun hg5 hj6 => ?_)
    refine r_iload_n dX8_isSeen_37 rfl ?_
    refine r_icne dX8_isSeen_38 (tgt := 87) (by decide) (fun c7 => ?_) (fun c7 => ?_)
    · refine r_aload_n dX8_isSeen_41 rfl ?_
      refine gf_X8_55 rfl dX8_isSeen_42 ?_
      refine r_iload dX8_isSeen_45 rfl ?_
      refine al_8_25 dX8_isSeen_47 (fun hg9 hj10 => ?_)
      refine r_iload_n dX8_isSeen_48 rfl ?_
      refine r_icne dX8_isSeen_49 (tgt := 87) (by decide) (fun c11 => ?_) (fun c11 => ?_)
      · refine r_aload_n dX8_isSeen_52 rfl ?_
        refine gf_X8_21 rfl dX8_isSeen_53 ?_
        refine r_iload_n dX8_isSeen_56 rfl ?_
        refine al_8_4 dX8_isSeen_57 (fun hg13 hj14 => ?_)
        refine r_ifne dX8_isSeen_58 (tgt := 65) (by decide) (fun c15 => ?_) (fun c15 => ?_)
        · refine r_iconst dX8_isSeen_61 ci_1 ?_
          refine r_goto dX8_isSeen_62 (tgt := 66) (by decide) ?_
          exact r_mask [true, true, true, true, true] (s_X8_isSeen_L66 g k4 k21 hk4 hk21 s0 x1 x2 x3 x4 1)
        · refine r_iconst dX8_isSeen_65 ci_0 ?_
          exact r_mask [true, true, true, true, true] (s_X8_isSeen_L66 g k4 k21 hk4 hk21 s0 x1 x2 x3 x4 0)
      · refine r_iincN dX8_isSeen_87 rfl ci_1 rfl (lt_b rfl) (fun v12 => ?_)
        refine r_goto dX8_isSeen_90 (tgt := 21) (by decide) ?_
        exact r_mask [true, true, true, true, true] (hk21 s0 x1 x2 x3 v12)
    · refine r_iincN dX8_isSeen_87 rfl ci_1 rfl (lt_b rfl) (fun v8 => ?_)
      refine r_goto dX8_isSeen_90 (tgt := 21) (by decide) ?_
      exact r_mask [true, true, true, true, true] (hk21 s0 x1 x2 x3 v8)
theorem s_X8_isSeen_L21 (g : Gm) (k4 : Sto → Int32 → Int32 → Int32 → Option (Int32 × Sto)) (hk4 : ∀ (s0 : Sto) (x1 : Int32) (x2 : Int32) (x3 : Int32), Rf cvIw (Em g 5) kX8_isSeen 4 [some (.ref ((Em g 5).1.1 8 0 0)), some (.int x1), some (.int x2), some (.int x3), none] [] s0 (k4 s0 x1 x2 x3)) : ∀ (n : Nat) (s0 : Sto) (x1 : Int32) (x2 : Int32) (x3 : Int32) (x4 : Int32), Rf cvIw (Em g 5) kX8_isSeen 21 [some (.ref ((Em g 5).1.1 8 0 0)), some (.int x1), some (.int x2), some (.int x3), some (.int x4)] [] s0 (f_X8_isSeen_L21 k4 n s0 x1 x2 x3 x4)
  | 0, _, _, _, _, _ => r_none
  | n + 1, s0, x1, x2, x3, x4 => s_X8_isSeen_B21 g k4 hk4 (f_X8_isSeen_L21 k4 n) (s_X8_isSeen_L21 g k4 hk4 n) s0 x1 x2 x3 x4
set_option maxRecDepth 100000 in
theorem s_X8_isSeen_B4 (g : Gm) (k4 : Sto → Int32 → Int32 → Int32 → Option (Int32 × Sto)) (hk4 : ∀ (s0 : Sto) (x1 : Int32) (x2 : Int32) (x3 : Int32), Rf cvIw (Em g 5) kX8_isSeen 4 [some (.ref ((Em g 5).1.1 8 0 0)), some (.int x1), some (.int x2), some (.int x3), none] [] s0 (k4 s0 x1 x2 x3)) (s0 : Sto) (x1 : Int32) (x2 : Int32) (x3 : Int32) : Rf cvIw (Em g 5) kX8_isSeen 4 [some (.ref ((Em g 5).1.1 8 0 0)), some (.int x1), some (.int x2), some (.int x3), none] [] s0 (f_X8_isSeen_B4 k4 s0 x1 x2 x3) := by
  unfold f_X8_isSeen_B4
  refine r_iload_n dX8_isSeen_4 rfl ?_
  refine r_bipush dX8_isSeen_5 cb_21 ?_
  refine r_icge dX8_isSeen_7 (tgt := 99) (by decide) (fun c1 => ?_) (fun c1 => ?_)
  · refine r_iload_n dX8_isSeen_99 rfl ?_
    exact r_gd (fun hz => r_zret dX8_isSeen_100 rfl (nz01 hz) rfl)
  · refine r_iload_n dX8_isSeen_10 rfl ?_
    refine r_ifle dX8_isSeen_11 (tgt := 18) (by decide) (fun c2 => ?_) (fun c2 => ?_)
    · refine r_iconst dX8_isSeen_18 ci_0 ?_
      refine r_istore dX8_isSeen_19 rfl (lt_b rfl) (lt_b rfl) ?_
      exact r_mask [true, true, true, true, true] (s_X8_isSeen_L21 g k4 hk4 1000 s0 x1 x2 x3 0)
    · refine r_aload_n dX8_isSeen_14 rfl ?_
      refine u_X8_goesWeek (ok_X8_goesWeek g s0) dX8_isSeen_15 ml_X8_226 (Nat.le_of_ble_eq_true rfl) (fits_m (by decide) (by decide)) room_m (fun q22 => ?_)
      refine r_iconst dX8_isSeen_18 ci_0 ?_
      refine r_istore dX8_isSeen_19 rfl (lt_b rfl) (lt_b rfl) ?_
      exact r_mask [true, true, true, true, true] (s_X8_isSeen_L21 g k4 hk4 1000 q22 x1 x2 x3 0)
theorem s_X8_isSeen_L4 (g : Gm) : ∀ (n : Nat) (s0 : Sto) (x1 : Int32) (x2 : Int32) (x3 : Int32), Rf cvIw (Em g 5) kX8_isSeen 4 [some (.ref ((Em g 5).1.1 8 0 0)), some (.int x1), some (.int x2), some (.int x3), none] [] s0 (f_X8_isSeen_L4 n s0 x1 x2 x3)
  | 0, _, _, _, _ => r_none
  | n + 1, s0, x1, x2, x3 => s_X8_isSeen_B4 g (f_X8_isSeen_L4 n) (s_X8_isSeen_L4 g n) s0 x1 x2 x3
set_option maxRecDepth 100000 in
theorem s_X8_isSeen (g : Gm) (s0 : Sto) (x1 : Int32) : Rf cvIw (Em g 5) kX8_isSeen 0 [some (.ref ((Em g 5).1.1 8 0 0)), some (.int x1), none, none, none] [] s0 (f_X8_isSeen s0 x1) := by
  unfold f_X8_isSeen
  refine r_iconst dX8_isSeen_0 ci_1 ?_
  refine r_istore_n dX8_isSeen_1 rfl (lt_b rfl) (lt_b rfl) ?_
  refine r_iconst dX8_isSeen_2 ci_0 ?_
  refine r_istore_n dX8_isSeen_3 rfl (lt_b rfl) (lt_b rfl) ?_
  exact r_mask [true, true, true, true, false] (s_X8_isSeen_L4 g 1000 s0 x1 1 0)
theorem ok_X8_isSeen (g : Gm) (s0 : Sto) (x1 : Int32) : Ok g yX8_isSeen kX8_isSeen 5 [.ref ((Em g 5).1.1 8 0 0), .int x1] s0 cvIw (f_X8_isSeen s0 x1) := Ok.of (by decide) rfl (Nat.le_of_ble_eq_true rfl) (lv := [some (.ref ((Em g 5).1.1 8 0 0)), some (.int x1), none, none, none]) rfl (s_X8_isSeen g s0 x1)
theorem u_X8_isSeen {α : Type} {cv : α → Res} {E : EE} {K : KK} {pc npc idx d : Nat} {lv : List (Option Value)} {st : List Value} {σ : Sto} {oc : Option (Int32 × Sto)} {kf : (Int32 × Sto) → Option α} {x1 : Int32} (hOk : Ok E.1 yX8_isSeen kX8_isSeen d [.ref (E.1.1 8 0 0), .int x1] σ cvIw oc) (hd : Dc K pc (.invokevirtual idx) 3 npc) (hlk : Cond.methodLink K.2.1 idx yX8_isSeen ∈ lw_good) (hw : (st.map fun v => v.category).sum ≤ 8) (hfit : fits_ E d 5) (hrm : room_ok E) (kk : ∀ q : Int32 × Sto, Rf cv E K npc lv (.int q.1 :: st) q.2 (kf q)) : Rf cv E K pc lv (.int x1 :: .ref (E.1.1 8 0 0) :: st) σ (oc.bind kf) := c_V (n := 1) (as := [.int x1]) (c0 := 8) (i := 0) (CC := "ThawGivesModel") (T := TX8) (N := 43) hd hOk hlk wi_X8_isSeen wv_X8_isSeen wn_X8 wc_X8_isSeen rfl (by decide) (by decide) ⟨by decide, by decide, by decide⟩ rfl rfl hw hfit hrm (fun b _ => kk b)
def f_X8_can_L124 (k65 : Sto → Int32 → Int32 → Int32 → Int32 → Int32 → Int32 → Int32 → Option (Int32 × Sto)) (s0 : Sto) (x1 : Int32) (x2 : Int32) (x3 : Int32) (x4 : Int32) (x5 : Int32) (x6 : Int32) (x7 : Int32) : Option (Int32 × Sto) :=
  (f_X8_again_38 s0).bind fun q24 => nmI (x7 + (-1 : Int32)) fun v25 => k65 q24 x1 x2 x3 x4 x5 x6 v25
def f_X8_can_L109 (k65 : Sto → Int32 → Int32 → Int32 → Int32 → Int32 → Int32 → Int32 → Option (Int32 × Sto)) (s0 : Sto) (x1 : Int32) (x2 : Int32) (x3 : Int32) (x4 : Int32) (x5 : Int32) (x6 : Int32) (x7 : Int32) : Option (Int32 × Sto) :=
  (f_X8_isSeen s0 x1).bind fun q22 => (if q22.1 = 0 then
    f_X8_can_L124 k65 q22.2 x1 x2 x3 x4 x5 x6 x7
  else
    nmI (x5 + 1) fun v26 => f_X8_can_L124 k65 q22.2 x1 x2 x3 x4 v26 x7 x7)
def f_X8_can_B65 (k65 : Sto → Int32 → Int32 → Int32 → Int32 → Int32 → Int32 → Int32 → Option (Int32 × Sto)) (s0 : Sto) (x1 : Int32) (x2 : Int32) (x3 : Int32) (x4 : Int32) (x5 : Int32) (x6 : Int32) (x7 : Int32) : Option (Int32 × Sto) :=
  (if x7 < 0 then
    (if 0 ≤ x1 ∧ x1 < 6 then nm (sA s0 8 2 0 (upd (s0.2.1 8 2 0) (Int32.toNatClampNeg x1) x4)) fun s15 => (if x3 = 0 then
      some (x5, s15)
    else
      some (x6, s15)) else none)
  else
    (if x2 = 0 then
      (if 0 ≤ x1 ∧ x1 < 6 then nm (sA s0 8 3 0 (upd (s0.2.1 8 3 0) (Int32.toNatClampNeg x1) x7)) fun s32 => f_X8_can_L109 k65 s32 x1 x2 x3 x4 x5 x6 x7 else none)
    else
      (if x2 = 1 then
        (if 0 ≤ x1 ∧ x1 < 6 then nm (sA s0 8 4 0 (upd (s0.2.1 8 4 0) (Int32.toNatClampNeg x1) x7)) fun s29 => f_X8_can_L109 k65 s29 x1 x2 x3 x4 x5 x6 x7 else none)
      else
        (if 0 ≤ x1 ∧ x1 < 6 then nm (sA s0 8 2 0 (upd (s0.2.1 8 2 0) (Int32.toNatClampNeg x1) x7)) fun s21 => f_X8_can_L109 k65 s21 x1 x2 x3 x4 x5 x6 x7 else none))))
def f_X8_can_L65 : Nat → Sto → Int32 → Int32 → Int32 → Int32 → Int32 → Int32 → Int32 → Option (Int32 × Sto)
  | 0 => fun _ _ _ _ _ _ _ _ => none
  | n + 1 => f_X8_can_B65 (f_X8_can_L65 n)
def f_X8_can (s0 : Sto) (x1 : Int32) (x2 : Int32) (x3 : Int32) : Option (Int32 × Sto) :=
  (f_X8_isOne s0 x1).bind fun q1 => (if q1 = 0 then
    some ((-1 : Int32), s0)
  else
    (f_X8_within x2 0 2).bind fun q3 => (if q3 = 0 then
      some ((-1 : Int32), s0)
    else
      (f_X8_within x3 0 1).bind fun q5 => (if q5 = 0 then
        some ((-1 : Int32), s0)
      else
        (f_X8_keep_38 s0).bind fun q7 => (if 0 ≤ x1 ∧ x1 < 6 then nmI ((q7.2.1 8 2 0 (Int32.toNatClampNeg x1))) fun v10 => (if x2 = 2 then
          f_X8_can_L65 1000 q7 x1 x2 x3 v10 0 (-5 : Int32) 9
        else
          f_X8_can_L65 1000 q7 x1 x2 x3 v10 0 (-5 : Int32) 99) else none))))
set_option maxRecDepth 100000 in
theorem s_X8_can_L124 (g : Gm) (k65 : Sto → Int32 → Int32 → Int32 → Int32 → Int32 → Int32 → Int32 → Option (Int32 × Sto)) (hk65 : ∀ (s0 : Sto) (x1 : Int32) (x2 : Int32) (x3 : Int32) (x4 : Int32) (x5 : Int32) (x6 : Int32) (x7 : Int32), Rf cvIw (Em g 6) kX8_can 65 [some (.ref ((Em g 6).1.1 8 0 0)), some (.int x1), some (.int x2), some (.int x3), some (.int x4), some (.int x5), some (.int x6), some (.int x7)] [] s0 (k65 s0 x1 x2 x3 x4 x5 x6 x7)) (s0 : Sto) (x1 : Int32) (x2 : Int32) (x3 : Int32) (x4 : Int32) (x5 : Int32) (x6 : Int32) (x7 : Int32) : Rf cvIw (Em g 6) kX8_can 124 [some (.ref ((Em g 6).1.1 8 0 0)), some (.int x1), some (.int x2), some (.int x3), some (.int x4), some (.int x5), some (.int x6), some (.int x7)] [] s0 (f_X8_can_L124 k65 s0 x1 x2 x3 x4 x5 x6 x7) := by
  unfold f_X8_can_L124
  refine r_aload_n dX8_can_124 rfl ?_
  refine r_aload_n dX8_can_125 rfl ?_
  refine gf_X8_79 rfl dX8_can_126 ?_
  refine u_X8_again_38 (ok_X8_again_38 g s0) dX8_can_129 ml_X8_233 (Nat.le_of_ble_eq_true rfl) (fits_m (by decide) (by decide)) room_m (fun q24 => ?_)
  refine r_iincN dX8_can_132 rfl ci_m1 rfl (lt_b rfl) (fun v25 => ?_)
  refine r_goto dX8_can_135 (tgt := 65) (by decide) ?_
  exact r_mask [true, true, true, true, true, true, true, true] (hk65 q24 x1 x2 x3 x4 x5 x6 v25)
set_option maxRecDepth 100000 in
theorem s_X8_can_L109 (g : Gm) (k65 : Sto → Int32 → Int32 → Int32 → Int32 → Int32 → Int32 → Int32 → Option (Int32 × Sto)) (hk65 : ∀ (s0 : Sto) (x1 : Int32) (x2 : Int32) (x3 : Int32) (x4 : Int32) (x5 : Int32) (x6 : Int32) (x7 : Int32), Rf cvIw (Em g 6) kX8_can 65 [some (.ref ((Em g 6).1.1 8 0 0)), some (.int x1), some (.int x2), some (.int x3), some (.int x4), some (.int x5), some (.int x6), some (.int x7)] [] s0 (k65 s0 x1 x2 x3 x4 x5 x6 x7)) (s0 : Sto) (x1 : Int32) (x2 : Int32) (x3 : Int32) (x4 : Int32) (x5 : Int32) (x6 : Int32) (x7 : Int32) : Rf cvIw (Em g 6) kX8_can 109 [some (.ref ((Em g 6).1.1 8 0 0)), some (.int x1), some (.int x2), some (.int x3), some (.int x4), some (.int x5), some (.int x6), some (.int x7)] [] s0 (f_X8_can_L109 k65 s0 x1 x2 x3 x4 x5 x6 x7) := by
  unfold f_X8_can_L109
  refine r_aload_n dX8_can_109 rfl ?_
  refine r_iload_n dX8_can_110 rfl ?_
  refine u_X8_isSeen (ok_X8_isSeen g s0 x1) dX8_can_111 ml_X8_258 (Nat.le_of_ble_eq_true rfl) (fits_m (by decide) (by decide)) room_m (fun q22 => ?_)
  refine r_ifeq dX8_can_114 (tgt := 124) (by decide) (fun c23 => ?_) (fun c23 => ?_)
  · exact r_mask [true, true, true, true, true, true, true, true] (s_X8_can_L124 g k65 hk65 q22.2 x1 x2 x3 x4 x5 x6 x7)
  · refine r_iincN dX8_can_117 rfl ci_1 rfl (lt_b rfl) (fun v26 => ?_)
    refine r_iload dX8_can_120 rfl ?_
    refine r_istore dX8_can_122 rfl (lt_b rfl) (lt_b rfl) ?_
    exact r_mask [true, true, true, true, true, true, true, true] (s_X8_can_L124 g k65 hk65 q22.2 x1 x2 x3 x4 v26 x7 x7)
set_option maxRecDepth 100000 in
theorem s_X8_can_B65 (g : Gm) (k65 : Sto → Int32 → Int32 → Int32 → Int32 → Int32 → Int32 → Int32 → Option (Int32 × Sto)) (hk65 : ∀ (s0 : Sto) (x1 : Int32) (x2 : Int32) (x3 : Int32) (x4 : Int32) (x5 : Int32) (x6 : Int32) (x7 : Int32), Rf cvIw (Em g 6) kX8_can 65 [some (.ref ((Em g 6).1.1 8 0 0)), some (.int x1), some (.int x2), some (.int x3), some (.int x4), some (.int x5), some (.int x6), some (.int x7)] [] s0 (k65 s0 x1 x2 x3 x4 x5 x6 x7)) (s0 : Sto) (x1 : Int32) (x2 : Int32) (x3 : Int32) (x4 : Int32) (x5 : Int32) (x6 : Int32) (x7 : Int32) : Rf cvIw (Em g 6) kX8_can 65 [some (.ref ((Em g 6).1.1 8 0 0)), some (.int x1), some (.int x2), some (.int x3), some (.int x4), some (.int x5), some (.int x6), some (.int x7)] [] s0 (f_X8_can_B65 k65 s0 x1 x2 x3 x4 x5 x6 x7) := by
  unfold f_X8_can_B65
  refine r_iload dX8_can_65 rfl ?_
  refine r_iflt dX8_can_67 (tgt := 138) (by decide) (fun c12 => ?_) (fun c12 => ?_)
  · refine r_aload_n dX8_can_138 rfl ?_
    refine gf_X8_15 rfl dX8_can_139 ?_
    refine r_iload_n dX8_can_142 rfl ?_
    refine r_iload dX8_can_143 rfl ?_
    refine as_8_2 dX8_can_145 (fun hg13 hj14 s15 => ?_)
    refine r_iload_n dX8_can_146 rfl ?_
    refine r_ifne dX8_can_147 (tgt := 155) (by decide) (fun c16 => ?_) (fun c16 => ?_)
    · refine r_iload dX8_can_150 rfl ?_
      refine r_goto dX8_can_152 (tgt := 157) (by decide) ?_
      exact r_iret dX8_can_157 rfl rfl
    · refine r_iload dX8_can_155 rfl ?_
      exact r_iret dX8_can_157 rfl rfl
  · refine r_iload_n dX8_can_70 rfl ?_
    refine r_ifne dX8_can_71 (tgt := 85) (by decide) (fun c17 => ?_) (fun c17 => ?_)
    · refine r_aload_n dX8_can_74 rfl ?_
      refine gf_X8_18 rfl dX8_can_75 ?_
      refine r_iload_n dX8_can_78 rfl ?_
      refine r_iload dX8_can_79 rfl ?_
      refine as_8_3 dX8_can_81 (fun hg30 hj31 s32 => ?_)
      refine r_goto dX8_can_82 (tgt := 109) (by decide) ?_
      exact r_mask [true, true, true, true, true, true, true, true] (s_X8_can_L109 g k65 hk65 s32 x1 x2 x3 x4 x5 x6 x7)
    · refine r_iload_n dX8_can_85 rfl ?_
      refine r_iconst dX8_can_86 ci_1 ?_
      refine r_icne dX8_can_87 (tgt := 101) (by decide) (fun c18 => ?_) (fun c18 => ?_)
      · refine r_aload_n dX8_can_90 rfl ?_
        refine gf_X8_21 rfl dX8_can_91 ?_
        refine r_iload_n dX8_can_94 rfl ?_
        refine r_iload dX8_can_95 rfl ?_
        refine as_8_4 dX8_can_97 (fun hg27 hj28 s29 => ?_)
        refine r_goto dX8_can_98 (tgt := 109) (by decide) ?_
        exact r_mask [true, true, true, true, true, true, true, true] (s_X8_can_L109 g k65 hk65 s29 x1 x2 x3 x4 x5 x6 x7)
      · refine r_aload_n dX8_can_101 rfl ?_
        refine gf_X8_15 rfl dX8_can_102 ?_
        refine r_iload_n dX8_can_105 rfl ?_
        refine r_iload dX8_can_106 rfl ?_
        refine as_8_2 dX8_can_108 (fun hg19 hj20 s21 => ?_)
        exact r_mask [true, true, true, true, true, true, true, true] (s_X8_can_L109 g k65 hk65 s21 x1 x2 x3 x4 x5 x6 x7)
theorem s_X8_can_L65 (g : Gm) : ∀ (n : Nat) (s0 : Sto) (x1 : Int32) (x2 : Int32) (x3 : Int32) (x4 : Int32) (x5 : Int32) (x6 : Int32) (x7 : Int32), Rf cvIw (Em g 6) kX8_can 65 [some (.ref ((Em g 6).1.1 8 0 0)), some (.int x1), some (.int x2), some (.int x3), some (.int x4), some (.int x5), some (.int x6), some (.int x7)] [] s0 (f_X8_can_L65 n s0 x1 x2 x3 x4 x5 x6 x7)
  | 0, _, _, _, _, _, _, _, _ => r_none
  | n + 1, s0, x1, x2, x3, x4, x5, x6, x7 => s_X8_can_B65 g (f_X8_can_L65 n) (s_X8_can_L65 g n) s0 x1 x2 x3 x4 x5 x6 x7
set_option maxRecDepth 100000 in
theorem s_X8_can (g : Gm) (s0 : Sto) (x1 : Int32) (x2 : Int32) (x3 : Int32) : Rf cvIw (Em g 6) kX8_can 0 [some (.ref ((Em g 6).1.1 8 0 0)), some (.int x1), some (.int x2), some (.int x3), none, none, none, none] [] s0 (f_X8_can s0 x1 x2 x3) := by
  unfold f_X8_can
  refine r_aload_n dX8_can_0 rfl ?_
  refine r_iload_n dX8_can_1 rfl ?_
  refine u_X8_isOne (ok_X8_isOne g s0 x1) dX8_can_2 ml_X8_109 (Nat.le_of_ble_eq_true rfl) (fits_m (by decide) (by decide)) room_m (fun q1 => ?_)
  refine r_ifeq dX8_can_5 (tgt := 26) (by decide) (fun c2 => ?_) (fun c2 => ?_)
  · refine r_iconst dX8_can_26 ci_m1 ?_
    exact r_iret dX8_can_27 rfl rfl
  · refine r_iload_n dX8_can_8 rfl ?_
    refine r_iconst dX8_can_9 ci_0 ?_
    refine r_iconst dX8_can_10 ci_2 ?_
    refine u_X8_within (ok_X8_within g s0 x2 0 2) dX8_can_11 ml_X8_105 (Nat.le_of_ble_eq_true rfl) (fits_m (by decide) (by decide)) room_m (fun q3 => ?_)
    refine r_ifeq dX8_can_14 (tgt := 26) (by decide) (fun c4 => ?_) (fun c4 => ?_)
    · refine r_iconst dX8_can_26 ci_m1 ?_
      exact r_iret dX8_can_27 rfl rfl
    · refine r_iload_n dX8_can_17 rfl ?_
      refine r_iconst dX8_can_18 ci_0 ?_
      refine r_iconst dX8_can_19 ci_1 ?_
      refine u_X8_within (ok_X8_within g s0 x3 0 1) dX8_can_20 ml_X8_105 (Nat.le_of_ble_eq_true rfl) (fits_m (by decide) (by decide)) room_m (fun q5 => ?_)
      refine r_ifne dX8_can_23 (tgt := 28) (by decide) (fun c6 => ?_) (fun c6 => ?_)
      · refine r_iconst dX8_can_26 ci_m1 ?_
        exact r_iret dX8_can_27 rfl rfl
      · refine r_aload_n dX8_can_28 rfl ?_
        refine r_aload_n dX8_can_29 rfl ?_
        refine gf_X8_79 rfl dX8_can_30 ?_
        refine u_X8_keep_38 (ok_X8_keep_38 g s0) dX8_can_33 ml_X8_229 (Nat.le_of_ble_eq_true rfl) (fits_m (by decide) (by decide)) room_m (fun q7 => ?_)
        refine r_aload_n dX8_can_36 rfl ?_
        refine gf_X8_15 rfl dX8_can_37 ?_
        refine r_iload_n dX8_can_40 rfl ?_
        refine al_8_2 dX8_can_41 (fun hg8 hj9 => ?_)
        refine r_istoreN dX8_can_42 rfl (lt_b rfl) (lt_b rfl) (fun v10 => ?_)
        refine r_iconst dX8_can_44 ci_0 ?_
        refine r_istore dX8_can_45 rfl (lt_b rfl) (lt_b rfl) ?_
        refine r_bipush dX8_can_47 cb_m5 ?_
        refine r_istore dX8_can_49 rfl (lt_b rfl) (lt_b rfl) ?_
        refine r_iload_n dX8_can_51 rfl ?_
        refine r_iconst dX8_can_52 ci_2 ?_
        refine r_icne dX8_can_53 (tgt := 61) (by decide) (fun c11 => ?_) (fun c11 => ?_)
        · refine r_bipush dX8_can_56 cb_9 ?_
          refine r_goto dX8_can_58 (tgt := 63) (by decide) ?_
          refine r_istore dX8_can_63 rfl (lt_b rfl) (lt_b rfl) ?_
          exact r_mask [true, true, true, true, true, true, true, true] (s_X8_can_L65 g 1000 q7 x1 x2 x3 v10 0 (-5 : Int32) 9)
        · refine r_bipush dX8_can_61 cb_99 ?_
          refine r_istore dX8_can_63 rfl (lt_b rfl) (lt_b rfl) ?_
          exact r_mask [true, true, true, true, true, true, true, true] (s_X8_can_L65 g 1000 q7 x1 x2 x3 v10 0 (-5 : Int32) 99)
theorem ok_X8_can (g : Gm) (s0 : Sto) (x1 : Int32) (x2 : Int32) (x3 : Int32) : Ok g yX8_can kX8_can 6 [.ref ((Em g 6).1.1 8 0 0), .int x1, .int x2, .int x3] s0 cvIw (f_X8_can s0 x1 x2 x3) := Ok.of (by decide) rfl (Nat.le_of_ble_eq_true rfl) (lv := [some (.ref ((Em g 6).1.1 8 0 0)), some (.int x1), some (.int x2), some (.int x3), none, none, none, none]) rfl (s_X8_can g s0 x1 x2 x3)
theorem u_X8_can {α : Type} {cv : α → Res} {E : EE} {K : KK} {pc npc idx d : Nat} {lv : List (Option Value)} {st : List Value} {σ : Sto} {oc : Option (Int32 × Sto)} {kf : (Int32 × Sto) → Option α} {x1 : Int32} {x2 : Int32} {x3 : Int32} (hOk : Ok E.1 yX8_can kX8_can d [.ref (E.1.1 8 0 0), .int x1, .int x2, .int x3] σ cvIw oc) (hd : Dc K pc (.invokevirtual idx) 3 npc) (hlk : Cond.methodLink K.2.1 idx yX8_can ∈ lw_good) (hw : (st.map fun v => v.category).sum ≤ 8) (hfit : fits_ E d 8) (hrm : room_ok E) (kk : ∀ q : Int32 × Sto, Rf cv E K npc lv (.int q.1 :: st) q.2 (kf q)) : Rf cv E K pc lv (.int x3 :: .int x2 :: .int x1 :: .ref (E.1.1 8 0 0) :: st) σ (oc.bind kf) := c_V (n := 3) (as := [.int x1, .int x2, .int x3]) (c0 := 8) (i := 0) (CC := "ThawGivesModel") (T := TX8) (N := 43) hd hOk hlk wi_X8_can wv_X8_can wn_X8 wc_X8_can rfl (by decide) (by decide) ⟨by decide, by decide, by decide⟩ rfl rfl hw hfit hrm (fun b _ => kk b)
def f_X8_part_B5 (k5 : Int32 → Int32 → Int32 → Int32 → Int32 → Option (Int64)) (x0 : Int32) (x1 : Int32) (x2 : Int32) (x3 : Int32) (x4 : Int32) : Option (Int64) :=
  (if x4 = 0 then
    (if x2 = 0 then
      (if ¬ x3 = 0 then some (Int32.toInt64 (x0 / x3)) else none)
    else
      (if ¬ x3 = 0 then some (Int32.toInt64 (x1 / x3)) else none))
  else
    (if ¬ x4 = 0 then nmI ((x3 - x3 / x4 * x4)) fun v6 => k5 x0 x1 x2 x4 v6 else none))
def f_X8_part_L5 : Nat → Int32 → Int32 → Int32 → Int32 → Int32 → Option (Int64)
  | 0 => fun _ _ _ _ _ => none
  | n + 1 => f_X8_part_B5 (f_X8_part_L5 n)
def f_X8_part (x0 : Int32) (x1 : Int32) (x2 : Int32) : Option (Int64) :=
  f_X8_part_L5 1000 x0 x1 x2 x0 x1
set_option maxRecDepth 100000 in
theorem s_X8_part_B5 (g : Gm) (sz : Sto) (k5 : Int32 → Int32 → Int32 → Int32 → Int32 → Option (Int64)) (hk5 : ∀ (x0 : Int32) (x1 : Int32) (x2 : Int32) (x3 : Int32) (x4 : Int32), Rf (cvL sz) (Em g 0) kX8_part 5 [some (.int x0), some (.int x1), some (.int x2), some (.int x3), some (.int x4), none] [] sz (k5 x0 x1 x2 x3 x4)) (x0 : Int32) (x1 : Int32) (x2 : Int32) (x3 : Int32) (x4 : Int32) : Rf (cvL sz) (Em g 0) kX8_part 5 [some (.int x0), some (.int x1), some (.int x2), some (.int x3), some (.int x4), none] [] sz (f_X8_part_B5 k5 x0 x1 x2 x3 x4) := by
  unfold f_X8_part_B5
  refine r_iload dX8_part_5 rfl ?_
  refine r_ifeq dX8_part_7 (tgt := 26) (by decide) (fun c1 => ?_) (fun c1 => ?_)
  · refine r_iload_n dX8_part_26 rfl ?_
    refine r_ifne dX8_part_27 (tgt := 37) (by decide) (fun c2 => ?_) (fun c2 => ?_)
    · refine r_iload_n dX8_part_30 rfl ?_
      refine r_iload_n dX8_part_31 rfl ?_
      refine r_gd (fun hz4 => ?_)
      refine r_idiv dX8_part_32 hz4 ?_
      refine r_i2l dX8_part_33 ?_
      refine r_goto dX8_part_34 (tgt := 41) (by decide) ?_
      exact r_lret dX8_part_41 rfl rfl
    · refine r_iload_n dX8_part_37 rfl ?_
      refine r_iload_n dX8_part_38 rfl ?_
      refine r_gd (fun hz3 => ?_)
      refine r_idiv dX8_part_39 hz3 ?_
      refine r_i2l dX8_part_40 ?_
      exact r_lret dX8_part_41 rfl rfl
  · refine r_iload_n dX8_part_10 rfl ?_
    refine r_iload dX8_part_11 rfl ?_
    refine r_gd (fun hz5 => ?_)
    refine r_irem dX8_part_13 hz5 ?_
    refine r_istoreN dX8_part_14 rfl (lt_b rfl) (lt_b rfl) (fun v6 => ?_)
    refine r_iload dX8_part_16 rfl ?_
    refine r_istore_n dX8_part_18 rfl (lt_b rfl) (lt_b rfl) ?_
    refine r_iload dX8_part_19 rfl ?_
    refine r_istore dX8_part_21 rfl (lt_b rfl) (lt_b rfl) ?_
    refine r_goto dX8_part_23 (tgt := 5) (by decide) ?_
    exact r_mask [true, true, true, true, true, false] (hk5 x0 x1 x2 x4 v6)
theorem s_X8_part_L5 (g : Gm) (sz : Sto) : ∀ (n : Nat) (x0 : Int32) (x1 : Int32) (x2 : Int32) (x3 : Int32) (x4 : Int32), Rf (cvL sz) (Em g 0) kX8_part 5 [some (.int x0), some (.int x1), some (.int x2), some (.int x3), some (.int x4), none] [] sz (f_X8_part_L5 n x0 x1 x2 x3 x4)
  | 0, _, _, _, _, _ => r_none
  | n + 1, x0, x1, x2, x3, x4 => s_X8_part_B5 g sz (f_X8_part_L5 n) (s_X8_part_L5 g sz n) x0 x1 x2 x3 x4
set_option maxRecDepth 100000 in
theorem s_X8_part (g : Gm) (sz : Sto) (x0 : Int32) (x1 : Int32) (x2 : Int32) : Rf (cvL sz) (Em g 0) kX8_part 0 [some (.int x0), some (.int x1), some (.int x2), none, none, none] [] sz (f_X8_part x0 x1 x2) := by
  unfold f_X8_part
  refine r_iload_n dX8_part_0 rfl ?_
  refine r_istore_n dX8_part_1 rfl (lt_b rfl) (lt_b rfl) ?_
  refine r_iload_n dX8_part_2 rfl ?_
  refine r_istore dX8_part_3 rfl (lt_b rfl) (lt_b rfl) ?_
  exact r_mask [true, true, true, true, true, false] (s_X8_part_L5 g sz 1000 x0 x1 x2 x0 x1)
theorem ok_X8_part (g : Gm) (sz : Sto) (x0 : Int32) (x1 : Int32) (x2 : Int32) : Ok g yX8_part kX8_part 0 [.int x0, .int x1, .int x2] sz (cvL sz) (f_X8_part x0 x1 x2) := Ok.of (by decide) rfl (Nat.le_of_ble_eq_true rfl) (lv := [some (.int x0), some (.int x1), some (.int x2), none, none, none]) rfl (s_X8_part g sz x0 x1 x2)
theorem u_X8_part {α : Type} {cv : α → Res} {E : EE} {K : KK} {pc npc idx d : Nat} {lv : List (Option Value)} {st : List Value} {σ : Sto} {oc : Option (Int64)} {kf : Int64 → Option α} {x0 : Int32} {x1 : Int32} {x2 : Int32} (hOk : Ok E.1 yX8_part kX8_part d [.int x0, .int x1, .int x2] σ (cvL σ) oc) (hd : Dc K pc (.invokestatic idx) 3 npc) (hlk : Cond.methodLink K.2.1 idx yX8_part ∈ lw_good) (hw : (st.map fun v => v.category).sum ≤ 8) (hfit : fits_ E d 6) (hrm : room_ok E) (kk : ∀ q : Int64, Rf cv E K npc lv (.long q :: st) σ (kf q)) : Rf cv E K pc lv (.int x2 :: .int x1 :: .int x0 :: st) σ (oc.bind kf) := c_S (n := 3) (as := [.int x0, .int x1, .int x2]) hd hOk hlk wt_X8_part wn_X8 wc_X8_part ⟨by decide, by decide, by decide⟩ rfl rfl hw hfit hrm (fun b _ => kk b)
def f_X8_odds (s0 : Sto) (x1 : Int32) (x2 : Int32) (x3 : Int32) : Option (Int64 × Sto) :=
  (f_X8_isOne s0 x1).bind fun q1 => (if q1 = 0 then
    some ((-9223372036854775808 : Int64), s0)
  else
    (f_X8_within x2 0 30).bind fun q3 => (if q3 = 0 then
      some ((-9223372036854775808 : Int64), s0)
    else
      (f_X8_within x3 0 1).bind fun q5 => (if q5 = 0 then
        some ((-9223372036854775808 : Int64), s0)
      else
        (f_X8_by s0 x1 x2 0).bind fun q7 => (f_X8_part q7.1 100 x3).bind fun q8 => some (q8, q7.2))))
set_option maxRecDepth 100000 in
theorem s_X8_odds (g : Gm) (s0 : Sto) (x1 : Int32) (x2 : Int32) (x3 : Int32) : Rf cvLw (Em g 7) kX8_odds 0 [some (.ref ((Em g 7).1.1 8 0 0)), some (.int x1), some (.int x2), some (.int x3)] [] s0 (f_X8_odds s0 x1 x2 x3) := by
  unfold f_X8_odds
  refine r_aload_n dX8_odds_0 rfl ?_
  refine r_iload_n dX8_odds_1 rfl ?_
  refine u_X8_isOne (ok_X8_isOne g s0 x1) dX8_odds_2 ml_X8_109 (Nat.le_of_ble_eq_true rfl) (fits_m (by decide) (by decide)) room_m (fun q1 => ?_)
  refine r_ifeq dX8_odds_5 (tgt := 27) (by decide) (fun c2 => ?_) (fun c2 => ?_)
  · refine r_ldc2 dX8_odds_27 co_X8_261 ?_
    exact r_lret dX8_odds_30 rfl rfl
  · refine r_iload_n dX8_odds_8 rfl ?_
    refine r_iconst dX8_odds_9 ci_0 ?_
    refine r_bipush dX8_odds_10 cb_30 ?_
    refine u_X8_within (ok_X8_within g s0 x2 0 30) dX8_odds_12 ml_X8_105 (Nat.le_of_ble_eq_true rfl) (fits_m (by decide) (by decide)) room_m (fun q3 => ?_)
    refine r_ifeq dX8_odds_15 (tgt := 27) (by decide) (fun c4 => ?_) (fun c4 => ?_)
    · refine r_ldc2 dX8_odds_27 co_X8_261 ?_
      exact r_lret dX8_odds_30 rfl rfl
    · refine r_iload_n dX8_odds_18 rfl ?_
      refine r_iconst dX8_odds_19 ci_0 ?_
      refine r_iconst dX8_odds_20 ci_1 ?_
      refine u_X8_within (ok_X8_within g s0 x3 0 1) dX8_odds_21 ml_X8_105 (Nat.le_of_ble_eq_true rfl) (fits_m (by decide) (by decide)) room_m (fun q5 => ?_)
      refine r_ifne dX8_odds_24 (tgt := 31) (by decide) (fun c6 => ?_) (fun c6 => ?_)
      · refine r_ldc2 dX8_odds_27 co_X8_261 ?_
        exact r_lret dX8_odds_30 rfl rfl
      · refine r_aload_n dX8_odds_31 rfl ?_
        refine r_iload_n dX8_odds_32 rfl ?_
        refine r_iload_n dX8_odds_33 rfl ?_
        refine r_iconst dX8_odds_34 ci_0 ?_
        refine u_X8_by (ok_X8_by g s0 x1 x2 0) dX8_odds_35 ml_X8_263 (Nat.le_of_ble_eq_true rfl) (fits_m (by decide) (by decide)) room_m (fun q7 => ?_)
        refine r_bipush dX8_odds_38 cb_100 ?_
        refine r_iload_n dX8_odds_40 rfl ?_
        refine u_X8_part (ok_X8_part g q7.2 q7.1 100 x3) dX8_odds_41 ml_X8_266 (Nat.le_of_ble_eq_true rfl) (fits_m (by decide) (by decide)) room_m (fun q8 => ?_)
        exact r_lret dX8_odds_44 rfl rfl
theorem ok_X8_odds (g : Gm) (s0 : Sto) (x1 : Int32) (x2 : Int32) (x3 : Int32) : Ok g yX8_odds kX8_odds 7 [.ref ((Em g 7).1.1 8 0 0), .int x1, .int x2, .int x3] s0 cvLw (f_X8_odds s0 x1 x2 x3) := Ok.of (by decide) rfl (Nat.le_of_ble_eq_true rfl) (lv := [some (.ref ((Em g 7).1.1 8 0 0)), some (.int x1), some (.int x2), some (.int x3)]) rfl (s_X8_odds g s0 x1 x2 x3)
theorem u_X8_odds {α : Type} {cv : α → Res} {E : EE} {K : KK} {pc npc idx d : Nat} {lv : List (Option Value)} {st : List Value} {σ : Sto} {oc : Option (Int64 × Sto)} {kf : (Int64 × Sto) → Option α} {x1 : Int32} {x2 : Int32} {x3 : Int32} (hOk : Ok E.1 yX8_odds kX8_odds d [.ref (E.1.1 8 0 0), .int x1, .int x2, .int x3] σ cvLw oc) (hd : Dc K pc (.invokevirtual idx) 3 npc) (hlk : Cond.methodLink K.2.1 idx yX8_odds ∈ lw_good) (hw : (st.map fun v => v.category).sum ≤ 8) (hfit : fits_ E d 4) (hrm : room_ok E) (kk : ∀ q : Int64 × Sto, Rf cv E K npc lv (.long q.1 :: st) q.2 (kf q)) : Rf cv E K pc lv (.int x3 :: .int x2 :: .int x1 :: .ref (E.1.1 8 0 0) :: st) σ (oc.bind kf) := c_V (n := 3) (as := [.int x1, .int x2, .int x3]) (c0 := 8) (i := 0) (CC := "ThawGivesModel") (T := TX8) (N := 43) hd hOk hlk wi_X8_odds wv_X8_odds wn_X8 wc_X8_odds rfl (by decide) (by decide) ⟨by decide, by decide, by decide⟩ rfl rfl hw hfit hrm (fun b _ => kk b)
def f_X8_mean_B40 (k40 : Sto → Int32 → Int32 → Int32 → Option (Int64 × Sto)) (s0 : Sto) (x1 : Int32) (x2 : Int32) (x3 : Int32) : Option (Int64 × Sto) :=
  (if x1 ≤ x3 then
    (f_X8_allDepth s0).bind fun q8 => (f_X8_again_38 s0).bind fun q9 => (f_X8_part q8 (q9.1 8 0 0) x2).bind fun q10 => some (q10, q9)
  else
    (f_X8_goesWeek s0).bind fun q11 => nmI (x3 + 1) fun v12 => k40 q11 x1 x2 v12)
def f_X8_mean_L40 : Nat → Sto → Int32 → Int32 → Int32 → Option (Int64 × Sto)
  | 0 => fun _ _ _ _ => none
  | n + 1 => f_X8_mean_B40 (f_X8_mean_L40 n)
def f_X8_mean (s0 : Sto) (x1 : Int32) (x2 : Int32) : Option (Int64 × Sto) :=
  (f_X8_within x1 0 60).bind fun q1 => (if q1 = 0 then
    some ((-9223372036854775808 : Int64), s0)
  else
    (f_X8_within x2 0 1).bind fun q3 => (if q3 = 0 then
      some ((-9223372036854775808 : Int64), s0)
    else
      (if (s0.1 8 0 0) = 0 then
        some ((-9223372036854775808 : Int64), s0)
      else
        (f_X8_keep_38 s0).bind fun q6 => f_X8_mean_L40 1000 q6 x1 x2 0)))
set_option maxRecDepth 100000 in
theorem s_X8_mean_B40 (g : Gm) (k40 : Sto → Int32 → Int32 → Int32 → Option (Int64 × Sto)) (hk40 : ∀ (s0 : Sto) (x1 : Int32) (x2 : Int32) (x3 : Int32), Rf cvLw (Em g 5) kX8_mean 40 [some (.ref ((Em g 5).1.1 8 0 0)), some (.int x1), some (.int x2), some (.int x3)] [] s0 (k40 s0 x1 x2 x3)) (s0 : Sto) (x1 : Int32) (x2 : Int32) (x3 : Int32) : Rf cvLw (Em g 5) kX8_mean 40 [some (.ref ((Em g 5).1.1 8 0 0)), some (.int x1), some (.int x2), some (.int x3)] [] s0 (f_X8_mean_B40 k40 s0 x1 x2 x3) := by
  unfold f_X8_mean_B40
  refine r_iload_n dX8_mean_40 rfl ?_
  refine r_iload_n dX8_mean_41 rfl ?_
  refine r_icge dX8_mean_42 (tgt := 55) (by decide) (fun c7 => ?_) (fun c7 => ?_)
  · refine r_aload_n dX8_mean_55 rfl ?_
    refine u_X8_allDepth (ok_X8_allDepth g s0) dX8_mean_56 ml_X8_242 (Nat.le_of_ble_eq_true rfl) (fits_m (by decide) (by decide)) room_m (fun q8 => ?_)
    refine r_istore_n dX8_mean_59 rfl (lt_b rfl) (lt_b rfl) ?_
    refine r_aload_n dX8_mean_60 rfl ?_
    refine r_aload_n dX8_mean_61 rfl ?_
    refine gf_X8_79 rfl dX8_mean_62 ?_
    refine u_X8_again_38 (ok_X8_again_38 g s0) dX8_mean_65 ml_X8_233 (Nat.le_of_ble_eq_true rfl) (fits_m (by decide) (by decide)) room_m (fun q9 => ?_)
    refine r_iload_n dX8_mean_68 rfl ?_
    refine r_aload_n dX8_mean_69 rfl ?_
    refine gf_X8_102 rfl dX8_mean_70 ?_
    refine r_iload_n dX8_mean_73 rfl ?_
    refine u_X8_part (ok_X8_part g q9 q8 (q9.1 8 0 0) x2) dX8_mean_74 ml_X8_266 (Nat.le_of_ble_eq_true rfl) (fits_m (by decide) (by decide)) room_m (fun q10 => ?_)
    exact r_lret dX8_mean_77 rfl rfl
  · refine r_aload_n dX8_mean_45 rfl ?_
    refine u_X8_goesWeek (ok_X8_goesWeek g s0) dX8_mean_46 ml_X8_226 (Nat.le_of_ble_eq_true rfl) (fits_m (by decide) (by decide)) room_m (fun q11 => ?_)
    refine r_iincN dX8_mean_49 rfl ci_1 rfl (lt_b rfl) (fun v12 => ?_)
    refine r_goto dX8_mean_52 (tgt := 40) (by decide) ?_
    exact r_mask [true, true, true, true] (hk40 q11 x1 x2 v12)
theorem s_X8_mean_L40 (g : Gm) : ∀ (n : Nat) (s0 : Sto) (x1 : Int32) (x2 : Int32) (x3 : Int32), Rf cvLw (Em g 5) kX8_mean 40 [some (.ref ((Em g 5).1.1 8 0 0)), some (.int x1), some (.int x2), some (.int x3)] [] s0 (f_X8_mean_L40 n s0 x1 x2 x3)
  | 0, _, _, _, _ => r_none
  | n + 1, s0, x1, x2, x3 => s_X8_mean_B40 g (f_X8_mean_L40 n) (s_X8_mean_L40 g n) s0 x1 x2 x3
set_option maxRecDepth 100000 in
theorem s_X8_mean (g : Gm) (s0 : Sto) (x1 : Int32) (x2 : Int32) : Rf cvLw (Em g 5) kX8_mean 0 [some (.ref ((Em g 5).1.1 8 0 0)), some (.int x1), some (.int x2), none] [] s0 (f_X8_mean s0 x1 x2) := by
  unfold f_X8_mean
  refine r_iload_n dX8_mean_0 rfl ?_
  refine r_iconst dX8_mean_1 ci_0 ?_
  refine r_bipush dX8_mean_2 cb_60 ?_
  refine u_X8_within (ok_X8_within g s0 x1 0 60) dX8_mean_4 ml_X8_105 (Nat.le_of_ble_eq_true rfl) (fits_m (by decide) (by decide)) room_m (fun q1 => ?_)
  refine r_ifeq dX8_mean_7 (tgt := 26) (by decide) (fun c2 => ?_) (fun c2 => ?_)
  · refine r_ldc2 dX8_mean_26 co_X8_261 ?_
    exact r_lret dX8_mean_29 rfl rfl
  · refine r_iload_n dX8_mean_10 rfl ?_
    refine r_iconst dX8_mean_11 ci_0 ?_
    refine r_iconst dX8_mean_12 ci_1 ?_
    refine u_X8_within (ok_X8_within g s0 x2 0 1) dX8_mean_13 ml_X8_105 (Nat.le_of_ble_eq_true rfl) (fits_m (by decide) (by decide)) room_m (fun q3 => ?_)
    refine r_ifeq dX8_mean_16 (tgt := 26) (by decide) (fun c4 => ?_) (fun c4 => ?_)
    · refine r_ldc2 dX8_mean_26 co_X8_261 ?_
      exact r_lret dX8_mean_29 rfl rfl
    · refine r_aload_n dX8_mean_19 rfl ?_
      refine gf_X8_102 rfl dX8_mean_20 ?_
      refine r_ifne dX8_mean_23 (tgt := 30) (by decide) (fun c5 => ?_) (fun c5 => ?_)
      · refine r_ldc2 dX8_mean_26 co_X8_261 ?_
        exact r_lret dX8_mean_29 rfl rfl
      · refine r_aload_n dX8_mean_30 rfl ?_
        refine r_aload_n dX8_mean_31 rfl ?_
        refine gf_X8_79 rfl dX8_mean_32 ?_
        refine u_X8_keep_38 (ok_X8_keep_38 g s0) dX8_mean_35 ml_X8_229 (Nat.le_of_ble_eq_true rfl) (fits_m (by decide) (by decide)) room_m (fun q6 => ?_)
        refine r_iconst dX8_mean_38 ci_0 ?_
        refine r_istore_n dX8_mean_39 rfl (lt_b rfl) (lt_b rfl) ?_
        exact r_mask [true, true, true, true] (s_X8_mean_L40 g 1000 q6 x1 x2 0)
theorem ok_X8_mean (g : Gm) (s0 : Sto) (x1 : Int32) (x2 : Int32) : Ok g yX8_mean kX8_mean 5 [.ref ((Em g 5).1.1 8 0 0), .int x1, .int x2] s0 cvLw (f_X8_mean s0 x1 x2) := Ok.of (by decide) rfl (Nat.le_of_ble_eq_true rfl) (lv := [some (.ref ((Em g 5).1.1 8 0 0)), some (.int x1), some (.int x2), none]) rfl (s_X8_mean g s0 x1 x2)
theorem u_X8_mean {α : Type} {cv : α → Res} {E : EE} {K : KK} {pc npc idx d : Nat} {lv : List (Option Value)} {st : List Value} {σ : Sto} {oc : Option (Int64 × Sto)} {kf : (Int64 × Sto) → Option α} {x1 : Int32} {x2 : Int32} (hOk : Ok E.1 yX8_mean kX8_mean d [.ref (E.1.1 8 0 0), .int x1, .int x2] σ cvLw oc) (hd : Dc K pc (.invokevirtual idx) 3 npc) (hlk : Cond.methodLink K.2.1 idx yX8_mean ∈ lw_good) (hw : (st.map fun v => v.category).sum ≤ 8) (hfit : fits_ E d 4) (hrm : room_ok E) (kk : ∀ q : Int64 × Sto, Rf cv E K npc lv (.long q.1 :: st) q.2 (kf q)) : Rf cv E K pc lv (.int x2 :: .int x1 :: .ref (E.1.1 8 0 0) :: st) σ (oc.bind kf) := c_V (n := 2) (as := [.int x1, .int x2]) (c0 := 8) (i := 0) (CC := "ThawGivesModel") (T := TX8) (N := 43) hd hOk hlk wi_X8_mean wv_X8_mean wn_X8 wc_X8_mean rfl (by decide) (by decide) ⟨by decide, by decide, by decide⟩ rfl rfl hw hfit hrm (fun b _ => kk b)
