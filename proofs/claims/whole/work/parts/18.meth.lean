def f_X8_shift_B170 (k170 : Sto → Int32 → Int32 → Int32 → Int32 → Int32 → Int32 → Option (Int32 × Sto)) (s0 : Sto) (x1 : Int32) (x2 : Int32) (x3 : Int32) (x4 : Int32) (x5 : Int32) (x6 : Int32) : Option (Int32 × Sto) :=
  (if x5 ≤ x6 then
    some (x5, s0)
  else
    (if 0 ≤ (((60 * x1) + x2) + x6) ∧ (((60 * x1) + x2) + x6) < 360 then (if 0 ≤ (((60 * x3) + x4) + x6) ∧ (((60 * x3) + x4) + x6) < 360 then nm (sL s0 8 42 0 (vp_updL (s0.2.2.1 8 42 0) (Int32.toNatClampNeg (((60 * x3) + x4) + x6)) (s0.2.2.1 8 42 0 (Int32.toNatClampNeg (((60 * x1) + x2) + x6))))) fun s31 => nmI (x6 + 1) fun v32 => k170 s31 x1 x2 x3 x4 x5 v32 else none) else none))
def f_X8_shift_L170 : Nat → Sto → Int32 → Int32 → Int32 → Int32 → Int32 → Int32 → Option (Int32 × Sto)
  | 0 => fun _ _ _ _ _ _ _ => none
  | n + 1 => f_X8_shift_B170 (f_X8_shift_L170 n)
def f_X8_shift_B124 (k124 : Sto → Int32 → Int32 → Int32 → Int32 → Int32 → Int32 → Option (Int32 × Sto)) (s0 : Sto) (x1 : Int32) (x2 : Int32) (x3 : Int32) (x4 : Int32) (x5 : Int32) (x6 : Int32) : Option (Int32 × Sto) :=
  (if x6 < 0 then
    some (x5, s0)
  else
    (if 0 ≤ (((60 * x1) + x2) + x6) ∧ (((60 * x1) + x2) + x6) < 360 then (if 0 ≤ (((60 * x3) + x4) + x6) ∧ (((60 * x3) + x4) + x6) < 360 then nm (sL s0 8 42 0 (vp_updL (s0.2.2.1 8 42 0) (Int32.toNatClampNeg (((60 * x3) + x4) + x6)) (s0.2.2.1 8 42 0 (Int32.toNatClampNeg (((60 * x1) + x2) + x6))))) fun s40 => nmI (x6 + (-1 : Int32)) fun v41 => k124 s40 x1 x2 x3 x4 x5 v41 else none) else none))
def f_X8_shift_L124 : Nat → Sto → Int32 → Int32 → Int32 → Int32 → Int32 → Int32 → Option (Int32 × Sto)
  | 0 => fun _ _ _ _ _ _ _ => none
  | n + 1 => f_X8_shift_B124 (f_X8_shift_L124 n)
def f_X8_shift (s0 : Sto) (x1 : Int32) (x2 : Int32) (x3 : Int32) (x4 : Int32) (x5 : Int32) : Option (Int32 × Sto) :=
  (f_X8_isTape x1).bind fun q1 => (if q1 = 0 then
    some ((-1 : Int32), s0)
  else
    (f_X8_isTape x3).bind fun q3 => (if q3 = 0 then
      some ((-1 : Int32), s0)
    else
      (if 0 ≤ x1 ∧ x1 < 6 then (if (s0.2.1 8 40 0 (Int32.toNatClampNeg x1)) < 0 then
        some ((-11 : Int32), s0)
      else
        (if 0 ≤ x3 ∧ x3 < 6 then (if 0 ≤ (s0.2.1 8 40 0 (Int32.toNatClampNeg x3)) then
          (if 0 ≤ x1 ∧ x1 < 6 then (if 0 ≤ x3 ∧ x3 < 6 then (if (s0.2.1 8 40 0 (Int32.toNatClampNeg x1)) = (s0.2.1 8 40 0 (Int32.toNatClampNeg x3)) then
            (if x5 < 0 then
              some ((-13 : Int32), s0)
            else
              (if x2 < 0 then
                some ((-13 : Int32), s0)
              else
                (if x4 < 0 then
                  some ((-13 : Int32), s0)
                else
                  (if 0 ≤ x1 ∧ x1 < 6 then (if 0 < (lg_cmp ((Int32.toInt64 x2) + (Int32.toInt64 x5)) (Int32.toInt64 (s0.2.1 8 41 0 (Int32.toNatClampNeg x1)))) then
                    some ((-13 : Int32), s0)
                  else
                    (if 0 ≤ x3 ∧ x3 < 6 then (if (lg_cmp ((Int32.toInt64 x4) + (Int32.toInt64 x5)) (Int32.toInt64 (s0.2.1 8 41 0 (Int32.toNatClampNeg x3)))) ≤ 0 then
                      (if x1 = x3 then
                        (if x4 ≤ x2 then
                          f_X8_shift_L170 1000 s0 x1 x2 x3 x4 x5 0
                        else
                          nmI ((x5 - 1)) fun v34 => f_X8_shift_L124 1000 s0 x1 x2 x3 x4 x5 v34)
                      else
                        f_X8_shift_L170 1000 s0 x1 x2 x3 x4 x5 0)
                    else
                      some ((-13 : Int32), s0)) else none)) else none))))
          else
            some ((-12 : Int32), s0)) else none) else none)
        else
          some ((-11 : Int32), s0)) else none)) else none)))
set_option maxRecDepth 100000 in
theorem s_X8_shift_B170 (g : Gm) (k170 : Sto → Int32 → Int32 → Int32 → Int32 → Int32 → Int32 → Option (Int32 × Sto)) (hk170 : ∀ (s0 : Sto) (x1 : Int32) (x2 : Int32) (x3 : Int32) (x4 : Int32) (x5 : Int32) (x6 : Int32), Rf cvIw (Em g 2) kX8_shift 170 [some (.ref ((Em g 2).1.1 8 0 0)), some (.int x1), some (.int x2), some (.int x3), some (.int x4), some (.int x5), some (.int x6)] [] s0 (k170 s0 x1 x2 x3 x4 x5 x6)) (s0 : Sto) (x1 : Int32) (x2 : Int32) (x3 : Int32) (x4 : Int32) (x5 : Int32) (x6 : Int32) : Rf cvIw (Em g 2) kX8_shift 170 [some (.ref ((Em g 2).1.1 8 0 0)), some (.int x1), some (.int x2), some (.int x3), some (.int x4), some (.int x5), some (.int x6)] [] s0 (f_X8_shift_B170 k170 s0 x1 x2 x3 x4 x5 x6) := by
  unfold f_X8_shift_B170
  refine r_iload dX8_shift_170 rfl ?_
  refine r_iload dX8_shift_172 rfl ?_
  refine r_icge dX8_shift_174 (tgt := 212) (by decide) (fun c26 => ?_) (fun c26 => ?_)
  · refine r_iload dX8_shift_212 rfl ?_
    exact r_iret dX8_shift_214 rfl rfl
  · refine r_aload_n dX8_shift_177 rfl ?_
    refine gf_X8_94 rfl dX8_shift_178 ?_
    refine r_bipush dX8_shift_181 cb_60 ?_
    refine r_iload_n dX8_shift_183 rfl ?_
    refine r_imul dX8_shift_184 ?_
    refine r_iload dX8_shift_185 rfl ?_
    refine r_iadd dX8_shift_187 ?_
    refine r_iload dX8_shift_188 rfl ?_
    refine r_iadd dX8_shift_190 ?_
    refine r_aload_n dX8_shift_191 rfl ?_
    refine gf_X8_94 rfl dX8_shift_192 ?_
    refine r_bipush dX8_shift_195 cb_60 ?_
    refine r_iload_n dX8_shift_197 rfl ?_
    refine r_imul dX8_shift_198 ?_
    refine r_iload_n dX8_shift_199 rfl ?_
    refine r_iadd dX8_shift_200 ?_
    refine r_iload dX8_shift_201 rfl ?_
    refine r_iadd dX8_shift_203 ?_
    refine al_8_42 dX8_shift_204 (fun hg27 hj28 => ?_)
    refine as_8_42 dX8_shift_205 (fun hg29 hj30 s31 => ?_)
    refine r_iincN dX8_shift_206 rfl ci_1 rfl (lt_b rfl) (fun v32 => ?_)
    refine r_goto dX8_shift_209 (tgt := 170) (by decide) ?_
    exact r_mask [true, true, true, true, true, true, true] (hk170 s31 x1 x2 x3 x4 x5 v32)
theorem s_X8_shift_L170 (g : Gm) : ∀ (n : Nat) (s0 : Sto) (x1 : Int32) (x2 : Int32) (x3 : Int32) (x4 : Int32) (x5 : Int32) (x6 : Int32), Rf cvIw (Em g 2) kX8_shift 170 [some (.ref ((Em g 2).1.1 8 0 0)), some (.int x1), some (.int x2), some (.int x3), some (.int x4), some (.int x5), some (.int x6)] [] s0 (f_X8_shift_L170 n s0 x1 x2 x3 x4 x5 x6)
  | 0, _, _, _, _, _, _, _ => r_none
  | n + 1, s0, x1, x2, x3, x4, x5, x6 => s_X8_shift_B170 g (f_X8_shift_L170 n) (s_X8_shift_L170 g n) s0 x1 x2 x3 x4 x5 x6
set_option maxRecDepth 100000 in
theorem s_X8_shift_B124 (g : Gm) (k124 : Sto → Int32 → Int32 → Int32 → Int32 → Int32 → Int32 → Option (Int32 × Sto)) (hk124 : ∀ (s0 : Sto) (x1 : Int32) (x2 : Int32) (x3 : Int32) (x4 : Int32) (x5 : Int32) (x6 : Int32), Rf cvIw (Em g 2) kX8_shift 124 [some (.ref ((Em g 2).1.1 8 0 0)), some (.int x1), some (.int x2), some (.int x3), some (.int x4), some (.int x5), some (.int x6)] [] s0 (k124 s0 x1 x2 x3 x4 x5 x6)) (s0 : Sto) (x1 : Int32) (x2 : Int32) (x3 : Int32) (x4 : Int32) (x5 : Int32) (x6 : Int32) : Rf cvIw (Em g 2) kX8_shift 124 [some (.ref ((Em g 2).1.1 8 0 0)), some (.int x1), some (.int x2), some (.int x3), some (.int x4), some (.int x5), some (.int x6)] [] s0 (f_X8_shift_B124 k124 s0 x1 x2 x3 x4 x5 x6) := by
  unfold f_X8_shift_B124
  refine r_iload dX8_shift_124 rfl ?_
  refine r_iflt dX8_shift_126 (tgt := 164) (by decide) (fun c35 => ?_) (fun c35 => ?_)
  · refine r_goto dX8_shift_164 (tgt := 212) (by decide) ?_
    refine r_iload dX8_shift_212 rfl ?_
    exact r_iret dX8_shift_214 rfl rfl
  · refine r_aload_n dX8_shift_129 rfl ?_
    refine gf_X8_94 rfl dX8_shift_130 ?_
    refine r_bipush dX8_shift_133 cb_60 ?_
    refine r_iload_n dX8_shift_135 rfl ?_
    refine r_imul dX8_shift_136 ?_
    refine r_iload dX8_shift_137 rfl ?_
    refine r_iadd dX8_shift_139 ?_
    refine r_iload dX8_shift_140 rfl ?_
    refine r_iadd dX8_shift_142 ?_
    refine r_aload_n dX8_shift_143 rfl ?_
    refine gf_X8_94 rfl dX8_shift_144 ?_
    refine r_bipush dX8_shift_147 cb_60 ?_
    refine r_iload_n dX8_shift_149 rfl ?_
    refine r_imul dX8_shift_150 ?_
    refine r_iload_n dX8_shift_151 rfl ?_
    refine r_iadd dX8_shift_152 ?_
    refine r_iload dX8_shift_153 rfl ?_
    refine r_iadd dX8_shift_155 ?_
    refine al_8_42 dX8_shift_156 (fun hg36 hj37 => ?_)
    refine as_8_42 dX8_shift_157 (fun hg38 hj39 s40 => ?_)
    refine r_iincN dX8_shift_158 rfl ci_m1 rfl (lt_b rfl) (fun v41 => ?_)
    refine r_goto dX8_shift_161 (tgt := 124) (by decide) ?_
    exact r_mask [true, true, true, true, true, true, true] (hk124 s40 x1 x2 x3 x4 x5 v41)
theorem s_X8_shift_L124 (g : Gm) : ∀ (n : Nat) (s0 : Sto) (x1 : Int32) (x2 : Int32) (x3 : Int32) (x4 : Int32) (x5 : Int32) (x6 : Int32), Rf cvIw (Em g 2) kX8_shift 124 [some (.ref ((Em g 2).1.1 8 0 0)), some (.int x1), some (.int x2), some (.int x3), some (.int x4), some (.int x5), some (.int x6)] [] s0 (f_X8_shift_L124 n s0 x1 x2 x3 x4 x5 x6)
  | 0, _, _, _, _, _, _, _ => r_none
  | n + 1, s0, x1, x2, x3, x4, x5, x6 => s_X8_shift_B124 g (f_X8_shift_L124 n) (s_X8_shift_L124 g n) s0 x1 x2 x3 x4 x5 x6
set_option maxRecDepth 100000 in
theorem s_X8_shift (g : Gm) (s0 : Sto) (x1 : Int32) (x2 : Int32) (x3 : Int32) (x4 : Int32) (x5 : Int32) : Rf cvIw (Em g 2) kX8_shift 0 [some (.ref ((Em g 2).1.1 8 0 0)), some (.int x1), some (.int x2), some (.int x3), some (.int x4), some (.int x5), none] [] s0 (f_X8_shift s0 x1 x2 x3 x4 x5) := by
  unfold f_X8_shift
  refine r_iload_n dX8_shift_0 rfl ?_
  refine u_X8_isTape (ok_X8_isTape g s0 x1) dX8_shift_1 ml_X8_299 (Nat.le_of_ble_eq_true rfl) (fits_m (by decide) (by decide)) room_m (fun q1 => ?_)
  refine r_ifeq dX8_shift_4 (tgt := 14) (by decide) (fun c2 => ?_) (fun c2 => ?_)
  · refine r_iconst dX8_shift_14 ci_m1 ?_
    exact r_iret dX8_shift_15 rfl rfl
  · refine r_iload_n dX8_shift_7 rfl ?_
    refine u_X8_isTape (ok_X8_isTape g s0 x3) dX8_shift_8 ml_X8_299 (Nat.le_of_ble_eq_true rfl) (fits_m (by decide) (by decide)) room_m (fun q3 => ?_)
    refine r_ifne dX8_shift_11 (tgt := 16) (by decide) (fun c4 => ?_) (fun c4 => ?_)
    · refine r_iconst dX8_shift_14 ci_m1 ?_
      exact r_iret dX8_shift_15 rfl rfl
    · refine r_aload_n dX8_shift_16 rfl ?_
      refine gf_X8_88 rfl dX8_shift_17 ?_
      refine r_iload_n dX8_shift_20 rfl ?_
      refine al_8_40 dX8_shift_21 (fun hg5 hj6 => ?_)
      refine r_iflt dX8_shift_22 (tgt := 34) (by decide) (fun c7 => ?_) (fun c7 => ?_)
      · refine r_bipush dX8_shift_34 cb_m11 ?_
        exact r_iret dX8_shift_36 rfl rfl
      · refine r_aload_n dX8_shift_25 rfl ?_
        refine gf_X8_88 rfl dX8_shift_26 ?_
        refine r_iload_n dX8_shift_29 rfl ?_
        refine al_8_40 dX8_shift_30 (fun hg8 hj9 => ?_)
        refine r_ifge dX8_shift_31 (tgt := 37) (by decide) (fun c10 => ?_) (fun c10 => ?_)
        · refine r_aload_n dX8_shift_37 rfl ?_
          refine gf_X8_88 rfl dX8_shift_38 ?_
          refine r_iload_n dX8_shift_41 rfl ?_
          refine al_8_40 dX8_shift_42 (fun hg11 hj12 => ?_)
          refine r_aload_n dX8_shift_43 rfl ?_
          refine gf_X8_88 rfl dX8_shift_44 ?_
          refine r_iload_n dX8_shift_47 rfl ?_
          refine al_8_40 dX8_shift_48 (fun hg13 hj14 => ?_)
          refine r_iceq dX8_shift_49 (tgt := 55) (by decide) (fun c15 => ?_) (fun c15 => ?_)
          · refine r_iload dX8_shift_55 rfl ?_
            refine r_iflt dX8_shift_57 (tgt := 104) (by decide) (fun c16 => ?_) (fun c16 => ?_)
            · refine r_bipush dX8_shift_104 cb_m13 ?_
              exact r_iret dX8_shift_106 rfl rfl
            · refine r_iload_n dX8_shift_60 rfl ?_
              refine r_iflt dX8_shift_61 (tgt := 104) (by decide) (fun c17 => ?_) (fun c17 => ?_)
              · refine r_bipush dX8_shift_104 cb_m13 ?_
                exact r_iret dX8_shift_106 rfl rfl
              · refine r_iload dX8_shift_64 rfl ?_
                refine r_iflt dX8_shift_66 (tgt := 104) (by decide) (fun c18 => ?_) (fun c18 => ?_)
                · refine r_bipush dX8_shift_104 cb_m13 ?_
                  exact r_iret dX8_shift_106 rfl rfl
                · refine r_iload_n dX8_shift_69 rfl ?_
                  refine r_i2l dX8_shift_70 ?_
                  refine r_iload dX8_shift_71 rfl ?_
                  refine r_i2l dX8_shift_73 ?_
                  refine r_ladd dX8_shift_74 ?_
                  refine r_aload_n dX8_shift_75 rfl ?_
                  refine gf_X8_91 rfl dX8_shift_76 ?_
                  refine r_iload_n dX8_shift_79 rfl ?_
                  refine al_8_41 dX8_shift_80 (fun hg19 hj20 => ?_)
                  refine r_i2l dX8_shift_81 ?_
                  refine r_lcmp dX8_shift_82 ?_
                  refine r_ifgt dX8_shift_83 (tgt := 104) (by decide) (fun c21 => ?_) (fun c21 => ?_)
                  · refine r_bipush dX8_shift_104 cb_m13 ?_
                    exact r_iret dX8_shift_106 rfl rfl
                  · refine r_iload dX8_shift_86 rfl ?_
                    refine r_i2l dX8_shift_88 ?_
                    refine r_iload dX8_shift_89 rfl ?_
                    refine r_i2l dX8_shift_91 ?_
                    refine r_ladd dX8_shift_92 ?_
                    refine r_aload_n dX8_shift_93 rfl ?_
                    refine gf_X8_91 rfl dX8_shift_94 ?_
                    refine r_iload_n dX8_shift_97 rfl ?_
                    refine al_8_41 dX8_shift_98 (fun hg22 hj23 => ?_)
                    refine r_i2l dX8_shift_99 ?_
                    refine r_lcmp dX8_shift_100 ?_
                    refine r_ifle dX8_shift_101 (tgt := 107) (by decide) (fun c24 => ?_) (fun c24 => ?_)
                    · refine r_iload_n dX8_shift_107 rfl ?_
                      refine r_iload_n dX8_shift_108 rfl ?_
                      refine r_icne dX8_shift_109 (tgt := 167) (by decide) (fun c25 => ?_) (fun c25 => ?_)
                      · refine r_iload_n dX8_shift_112 rfl ?_
                        refine r_iload dX8_shift_113 rfl ?_
                        refine r_icge dX8_shift_115 (tgt := 167) (by decide) (fun c33 => ?_) (fun c33 => ?_)
                        · refine r_iconst dX8_shift_167 ci_0 ?_
                          refine r_istore dX8_shift_168 rfl (lt_b rfl) (lt_b rfl) ?_
                          exact r_mask [true, true, true, true, true, true, true] (s_X8_shift_L170 g 1000 s0 x1 x2 x3 x4 x5 0)
                        · refine r_iload dX8_shift_118 rfl ?_
                          refine r_iconst dX8_shift_120 ci_1 ?_
                          refine r_isub dX8_shift_121 ?_
                          refine r_istoreN dX8_shift_122 rfl (lt_b rfl) (lt_b rfl) (fun v34 => ?_)
                          exact r_mask [true, true, true, true, true, true, true] (s_X8_shift_L124 g 1000 s0 x1 x2 x3 x4 x5 v34)
                      · refine r_iconst dX8_shift_167 ci_0 ?_
                        refine r_istore dX8_shift_168 rfl (lt_b rfl) (lt_b rfl) ?_
                        exact r_mask [true, true, true, true, true, true, true] (s_X8_shift_L170 g 1000 s0 x1 x2 x3 x4 x5 0)
                    · refine r_bipush dX8_shift_104 cb_m13 ?_
                      exact r_iret dX8_shift_106 rfl rfl
          · refine r_bipush dX8_shift_52 cb_m12 ?_
            exact r_iret dX8_shift_54 rfl rfl
        · refine r_bipush dX8_shift_34 cb_m11 ?_
          exact r_iret dX8_shift_36 rfl rfl
theorem ok_X8_shift (g : Gm) (s0 : Sto) (x1 : Int32) (x2 : Int32) (x3 : Int32) (x4 : Int32) (x5 : Int32) : Ok g yX8_shift kX8_shift 2 [.ref ((Em g 2).1.1 8 0 0), .int x1, .int x2, .int x3, .int x4, .int x5] s0 cvIw (f_X8_shift s0 x1 x2 x3 x4 x5) := Ok.of (by decide) rfl (Nat.le_of_ble_eq_true rfl) (lv := [some (.ref ((Em g 2).1.1 8 0 0)), some (.int x1), some (.int x2), some (.int x3), some (.int x4), some (.int x5), none]) rfl (s_X8_shift g s0 x1 x2 x3 x4 x5)
theorem u_X8_shift {α : Type} {cv : α → Res} {E : EE} {K : KK} {pc npc idx d : Nat} {lv : List (Option Value)} {st : List Value} {σ : Sto} {oc : Option (Int32 × Sto)} {kf : (Int32 × Sto) → Option α} {x1 : Int32} {x2 : Int32} {x3 : Int32} {x4 : Int32} {x5 : Int32} (hOk : Ok E.1 yX8_shift kX8_shift d [.ref (E.1.1 8 0 0), .int x1, .int x2, .int x3, .int x4, .int x5] σ cvIw oc) (hd : Dc K pc (.invokevirtual idx) 3 npc) (hlk : Cond.methodLink K.2.1 idx yX8_shift ∈ lw_good) (hw : (st.map fun v => v.category).sum ≤ 8) (hfit : fits_ E d 7) (hrm : room_ok E) (kk : ∀ q : Int32 × Sto, Rf cv E K npc lv (.int q.1 :: st) q.2 (kf q)) : Rf cv E K pc lv (.int x5 :: .int x4 :: .int x3 :: .int x2 :: .int x1 :: .ref (E.1.1 8 0 0) :: st) σ (oc.bind kf) := c_V (n := 5) (as := [.int x1, .int x2, .int x3, .int x4, .int x5]) (c0 := 8) (i := 0) (CC := "ThawGivesModel") (T := TX8) (N := 43) hd hOk hlk wi_X8_shift wv_X8_shift wn_X8 wc_X8_shift rfl (by decide) (by decide) ⟨by decide, by decide, by decide⟩ rfl rfl hw hfit hrm (fun b _ => kk b)
