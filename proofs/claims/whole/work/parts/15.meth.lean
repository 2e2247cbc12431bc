def f_X8_again_38_B174 (k174 : Sto → Int32 → Option (Sto)) (s0 : Sto) (x2 : Int32) : Option (Sto) :=
  (if (8 : Int32) ≤ x2 then
    (if 0 ≤ (99 : Int32) ∧ (99 : Int32) < 105 then nm (sF s0 8 0 0 (s0.2.1 8 37 0 (Int32.toNatClampNeg 99))) fun s8 => (if 0 ≤ (100 : Int32) ∧ (100 : Int32) < 105 then nm (sF s8 8 6 0 (s8.2.1 8 37 0 (Int32.toNatClampNeg 100))) fun s11 => (if 0 ≤ (101 : Int32) ∧ (101 : Int32) < 105 then nm (sF s11 8 23 0 (s11.2.1 8 37 0 (Int32.toNatClampNeg 101))) fun s14 => (if 0 ≤ (102 : Int32) ∧ (102 : Int32) < 105 then nm (sF s14 8 27 0 (s14.2.1 8 37 0 (Int32.toNatClampNeg 102))) fun s17 => (if 0 ≤ (103 : Int32) ∧ (103 : Int32) < 105 then nm (sF s17 8 30 0 (s17.2.1 8 37 0 (Int32.toNatClampNeg 103))) fun s20 => (if 0 ≤ (104 : Int32) ∧ (104 : Int32) < 105 then nm (sF s20 8 14 0 (s20.2.1 8 37 0 (Int32.toNatClampNeg 104))) fun s23 => some s23 else none) else none) else none) else none) else none) else none)
  else
    (if 0 ≤ (83 + x2) ∧ (83 + x2) < 105 then (if 0 ≤ x2 ∧ x2 < 8 then nm (sA s0 8 31 0 (upd (s0.2.1 8 31 0) (Int32.toNatClampNeg x2) (s0.2.1 8 37 0 (Int32.toNatClampNeg (83 + x2))))) fun s28 => (if 0 ≤ (91 + x2) ∧ (91 + x2) < 105 then (if 0 ≤ x2 ∧ x2 < 8 then nm (sA s28 8 32 0 (upd (s28.2.1 8 32 0) (Int32.toNatClampNeg x2) (s28.2.1 8 37 0 (Int32.toNatClampNeg (91 + x2))))) fun s33 => nmI (x2 + 1) fun v34 => k174 s33 v34 else none) else none) else none) else none))
def f_X8_again_38_L174 : Nat → Sto → Int32 → Option (Sto)
  | 0 => fun _ _ => none
  | n + 1 => f_X8_again_38_B174 (f_X8_again_38_L174 n)
def f_X8_again_38_B136 (k136 : Sto → Int32 → Option (Sto)) (s0 : Sto) (x2 : Int32) : Option (Sto) :=
  (if (10 : Int32) ≤ x2 then
    f_X8_again_38_L174 1000 s0 0
  else
    (if 0 ≤ (63 + x2) ∧ (63 + x2) < 105 then (if 0 ≤ x2 ∧ x2 < 10 then nm (sA s0 8 28 0 (upd (s0.2.1 8 28 0) (Int32.toNatClampNeg x2) (s0.2.1 8 37 0 (Int32.toNatClampNeg (63 + x2))))) fun s39 => (if 0 ≤ (73 + x2) ∧ (73 + x2) < 105 then (if 0 ≤ x2 ∧ x2 < 10 then nm (sA s39 8 29 0 (upd (s39.2.1 8 29 0) (Int32.toNatClampNeg x2) (s39.2.1 8 37 0 (Int32.toNatClampNeg (73 + x2))))) fun s44 => nmI (x2 + 1) fun v45 => k136 s44 v45 else none) else none) else none) else none))
def f_X8_again_38_L136 : Nat → Sto → Int32 → Option (Sto)
  | 0 => fun _ _ => none
  | n + 1 => f_X8_again_38_B136 (f_X8_again_38_L136 n)
def f_X8_again_38_B87 (k87 : Sto → Int32 → Option (Sto)) (s0 : Sto) (x2 : Int32) : Option (Sto) :=
  (if (5 : Int32) ≤ x2 then
    f_X8_again_38_L136 1000 s0 0
  else
    (if 0 ≤ (48 + x2) ∧ (48 + x2) < 105 then (if 0 ≤ x2 ∧ x2 < 5 then nm (sA s0 8 24 0 (upd (s0.2.1 8 24 0) (Int32.toNatClampNeg x2) (s0.2.1 8 37 0 (Int32.toNatClampNeg (48 + x2))))) fun s50 => (if 0 ≤ (53 + x2) ∧ (53 + x2) < 105 then (if 0 ≤ x2 ∧ x2 < 5 then nm (sA s50 8 25 0 (upd (s50.2.1 8 25 0) (Int32.toNatClampNeg x2) (s50.2.1 8 37 0 (Int32.toNatClampNeg (53 + x2))))) fun s55 => (if 0 ≤ (58 + x2) ∧ (58 + x2) < 105 then (if 0 ≤ x2 ∧ x2 < 5 then nm (sA s55 8 26 0 (upd (s55.2.1 8 26 0) (Int32.toNatClampNeg x2) (s55.2.1 8 37 0 (Int32.toNatClampNeg (58 + x2))))) fun s60 => nmI (x2 + 1) fun v61 => k87 s60 v61 else none) else none) else none) else none) else none) else none))
def f_X8_again_38_L87 : Nat → Sto → Int32 → Option (Sto)
  | 0 => fun _ _ => none
  | n + 1 => f_X8_again_38_B87 (f_X8_again_38_L87 n)
def f_X8_again_38_B61 (k61 : Sto → Int32 → Option (Sto)) (s0 : Sto) (x2 : Int32) : Option (Sto) :=
  (if (24 : Int32) ≤ x2 then
    f_X8_again_38_L87 1000 s0 0
  else
    (if 0 ≤ (24 + x2) ∧ (24 + x2) < 105 then (if 0 ≤ x2 ∧ x2 < 24 then nm (sA s0 8 5 0 (upd (s0.2.1 8 5 0) (Int32.toNatClampNeg x2) (s0.2.1 8 37 0 (Int32.toNatClampNeg (24 + x2))))) fun s66 => nmI (x2 + 1) fun v67 => k61 s66 v67 else none) else none))
def f_X8_again_38_L61 : Nat → Sto → Int32 → Option (Sto)
  | 0 => fun _ _ => none
  | n + 1 => f_X8_again_38_B61 (f_X8_again_38_L61 n)
def f_X8_again_38_B2 (k2 : Sto → Int32 → Option (Sto)) (s0 : Sto) (x2 : Int32) : Option (Sto) :=
  (if (6 : Int32) ≤ x2 then
    f_X8_again_38_L61 1000 s0 0
  else
    (if 0 ≤ x2 ∧ x2 < 105 then (if 0 ≤ x2 ∧ x2 < 6 then nm (sA s0 8 1 0 (upd (s0.2.1 8 1 0) (Int32.toNatClampNeg x2) (s0.2.1 8 37 0 (Int32.toNatClampNeg x2)))) fun s72 => (if 0 ≤ (6 + x2) ∧ (6 + x2) < 105 then (if 0 ≤ x2 ∧ x2 < 6 then nm (sA s72 8 2 0 (upd (s72.2.1 8 2 0) (Int32.toNatClampNeg x2) (s72.2.1 8 37 0 (Int32.toNatClampNeg (6 + x2))))) fun s77 => (if 0 ≤ (12 + x2) ∧ (12 + x2) < 105 then (if 0 ≤ x2 ∧ x2 < 6 then nm (sA s77 8 3 0 (upd (s77.2.1 8 3 0) (Int32.toNatClampNeg x2) (s77.2.1 8 37 0 (Int32.toNatClampNeg (12 + x2))))) fun s82 => (if 0 ≤ (18 + x2) ∧ (18 + x2) < 105 then (if 0 ≤ x2 ∧ x2 < 6 then nm (sA s82 8 4 0 (upd (s82.2.1 8 4 0) (Int32.toNatClampNeg x2) (s82.2.1 8 37 0 (Int32.toNatClampNeg (18 + x2))))) fun s87 => nmI (x2 + 1) fun v88 => k2 s87 v88 else none) else none) else none) else none) else none) else none) else none) else none))
def f_X8_again_38_L2 : Nat → Sto → Int32 → Option (Sto)
  | 0 => fun _ _ => none
  | n + 1 => f_X8_again_38_B2 (f_X8_again_38_L2 n)
def f_X8_again_38 (s0 : Sto) : Option (Sto) :=
  f_X8_again_38_L2 1000 s0 0
set_option maxRecDepth 100000 in
theorem s_X8_again_38_B174 (g : Gm) (k174 : Sto → Int32 → Option (Sto)) (hk174 : ∀ (s0 : Sto) (x2 : Int32), Rf cvV (Em g 0) kX8_again 174 [some (.ref ((Em g 0).1.1 8 0 0)), some (.ref ((Em g 0).1.1 8 38 0)), some (.int x2)] [] s0 (k174 s0 x2)) (s0 : Sto) (x2 : Int32) : Rf cvV (Em g 0) kX8_again 174 [some (.ref ((Em g 0).1.1 8 0 0)), some (.ref ((Em g 0).1.1 8 38 0)), some (.int x2)] [] s0 (f_X8_again_38_B174 k174 s0 x2) := by
  unfold f_X8_again_38_B174
  refine r_iload_n dX8_again_174 rfl ?_
  refine r_bipush dX8_again_175 cb_8 ?_
  refine r_icge dX8_again_177 (tgt := 210) (by decide) (fun c5 => ?_) (fun c5 => ?_)
  · refine r_aload_n dX8_again_210 rfl ?_
    refine r_aload_n dX8_again_211 rfl ?_
    refine r_bipush dX8_again_212 cb_99 ?_
    refine al_8_37 dX8_again_214 (fun hg6 hj7 => ?_)
    refine pf_X8_102 rfl dX8_again_215 (fun s8 => ?_)
    refine r_aload_n dX8_again_218 rfl ?_
    refine r_aload_n dX8_again_219 rfl ?_
    refine r_bipush dX8_again_220 cb_100 ?_
    refine al_8_37 dX8_again_222 (fun hg9 hj10 => ?_)
    refine pf_X8_113 rfl dX8_again_223 (fun s11 => ?_)
    refine r_aload_n dX8_again_226 rfl ?_
    refine r_aload_n dX8_again_227 rfl ?_
    refine r_bipush dX8_again_228 cb_101 ?_
    refine al_8_37 dX8_again_230 (fun hg12 hj13 => ?_)
    refine pf_X8_255 rfl dX8_again_231 (fun s14 => ?_)
    refine r_aload_n dX8_again_234 rfl ?_
    refine r_aload_n dX8_again_235 rfl ?_
    refine r_bipush dX8_again_236 cb_102 ?_
    refine al_8_37 dX8_again_238 (fun hg15 hj16 => ?_)
    refine pf_X8_270 rfl dX8_again_239 (fun s17 => ?_)
    refine r_aload_n dX8_again_242 rfl ?_
    refine r_aload_n dX8_again_243 rfl ?_
    refine r_bipush dX8_again_244 cb_103 ?_
    refine al_8_37 dX8_again_246 (fun hg18 hj19 => ?_)
    refine pf_X8_273 rfl dX8_again_247 (fun s20 => ?_)
    refine r_aload_n dX8_again_250 rfl ?_
    refine r_aload_n dX8_again_251 rfl ?_
    refine r_bipush dX8_again_252 cb_104 ?_
    refine al_8_37 dX8_again_254 (fun hg21 hj22 => ?_)
    refine pf_X8_98 rfl dX8_again_255 (fun s23 => ?_)
    exact r_vret dX8_again_258 rfl rfl
  · refine r_aload_n dX8_again_180 rfl ?_
    refine gf_X8_67 rfl dX8_again_181 ?_
    refine r_iload_n dX8_again_184 rfl ?_
    refine r_aload_n dX8_again_185 rfl ?_
    refine r_bipush dX8_again_186 cb_83 ?_
    refine r_iload_n dX8_again_188 rfl ?_
    refine r_iadd dX8_again_189 ?_
    refine al_8_37 dX8_again_190 (fun hg24 hj25 => ?_)
    refine as_8_31 dX8_again_191 (fun hg26 hj27 s28 => ?_)
    refine r_aload_n dX8_again_192 rfl ?_
    refine gf_X8_70 rfl dX8_again_193 ?_
    refine r_iload_n dX8_again_196 rfl ?_
    refine r_aload_n dX8_again_197 rfl ?_
    refine r_bipush dX8_again_198 cb_91 ?_
    refine r_iload_n dX8_again_200 rfl ?_
    refine r_iadd dX8_again_201 ?_
    refine al_8_37 dX8_again_202 (fun hg29 hj30 => ?_)
    refine as_8_32 dX8_again_203 (fun hg31 hj32 s33 => ?_)
    refine r_iincN dX8_again_204 rfl ci_1 rfl (lt_b rfl) (fun v34 => ?_)
    refine r_goto dX8_again_207 (tgt := 174) (by decide) ?_
    exact r_mask [true, true, true] (hk174 s33 v34)
theorem s_X8_again_38_L174 (g : Gm) : ∀ (n : Nat) (s0 : Sto) (x2 : Int32), Rf cvV (Em g 0) kX8_again 174 [some (.ref ((Em g 0).1.1 8 0 0)), some (.ref ((Em g 0).1.1 8 38 0)), some (.int x2)] [] s0 (f_X8_again_38_L174 n s0 x2)
  | 0, _, _ => r_none
  | n + 1, s0, x2 => s_X8_again_38_B174 g (f_X8_again_38_L174 n) (s_X8_again_38_L174 g n) s0 x2
set_option maxRecDepth 100000 in
theorem s_X8_again_38_B136 (g : Gm) (k136 : Sto → Int32 → Option (Sto)) (hk136 : ∀ (s0 : Sto) (x2 : Int32), Rf cvV (Em g 0) kX8_again 136 [some (.ref ((Em g 0).1.1 8 0 0)), some (.ref ((Em g 0).1.1 8 38 0)), some (.int x2)] [] s0 (k136 s0 x2)) (s0 : Sto) (x2 : Int32) : Rf cvV (Em g 0) kX8_again 136 [some (.ref ((Em g 0).1.1 8 0 0)), some (.ref ((Em g 0).1.1 8 38 0)), some (.int x2)] [] s0 (f_X8_again_38_B136 k136 s0 x2) := by
  unfold f_X8_again_38_B136
  refine r_iload_n dX8_again_136 rfl ?_
  refine r_bipush dX8_again_137 cb_10 ?_
  refine r_icge dX8_again_139 (tgt := 172) (by decide) (fun c4 => ?_) (fun c4 => ?_)
  · refine r_iconst dX8_again_172 ci_0 ?_
    refine r_istore_n dX8_again_173 rfl (lt_b rfl) (lt_b rfl) ?_
    exact r_mask [true, true, true] (s_X8_again_38_L174 g 1000 s0 0)
  · refine r_aload_n dX8_again_142 rfl ?_
    refine gf_X8_61 rfl dX8_again_143 ?_
    refine r_iload_n dX8_again_146 rfl ?_
    refine r_aload_n dX8_again_147 rfl ?_
    refine r_bipush dX8_again_148 cb_63 ?_
    refine r_iload_n dX8_again_150 rfl ?_
    refine r_iadd dX8_again_151 ?_
    refine al_8_37 dX8_again_152 (fun hg35 hj36 => ?_)
    refine as_8_28 dX8_again_153 (fun hg37 hj38 s39 => ?_)
    refine r_aload_n dX8_again_154 rfl ?_
    refine gf_X8_64 rfl dX8_again_155 ?_
    refine r_iload_n dX8_again_158 rfl ?_
    refine r_aload_n dX8_again_159 rfl ?_
    refine r_bipush dX8_again_160 cb_73 ?_
    refine r_iload_n dX8_again_162 rfl ?_
    refine r_iadd dX8_again_163 ?_
    refine al_8_37 dX8_again_164 (fun hg40 hj41 => ?_)
    refine as_8_29 dX8_again_165 (fun hg42 hj43 s44 => ?_)
    refine r_iincN dX8_again_166 rfl ci_1 rfl (lt_b rfl) (fun v45 => ?_)
    refine r_goto dX8_again_169 (tgt := 136) (by decide) ?_
    exact r_mask [true, true, true] (hk136 s44 v45)
theorem s_X8_again_38_L136 (g : Gm) : ∀ (n : Nat) (s0 : Sto) (x2 : Int32), Rf cvV (Em g 0) kX8_again 136 [some (.ref ((Em g 0).1.1 8 0 0)), some (.ref ((Em g 0).1.1 8 38 0)), some (.int x2)] [] s0 (f_X8_again_38_L136 n s0 x2)
  | 0, _, _ => r_none
  | n + 1, s0, x2 => s_X8_again_38_B136 g (f_X8_again_38_L136 n) (s_X8_again_38_L136 g n) s0 x2
set_option maxRecDepth 100000 in
theorem s_X8_again_38_B87 (g : Gm) (k87 : Sto → Int32 → Option (Sto)) (hk87 : ∀ (s0 : Sto) (x2 : Int32), Rf cvV (Em g 0) kX8_again 87 [some (.ref ((Em g 0).1.1 8 0 0)), some (.ref ((Em g 0).1.1 8 38 0)), some (.int x2)] [] s0 (k87 s0 x2)) (s0 : Sto) (x2 : Int32) : Rf cvV (Em g 0) kX8_again 87 [some (.ref ((Em g 0).1.1 8 0 0)), some (.ref ((Em g 0).1.1 8 38 0)), some (.int x2)] [] s0 (f_X8_again_38_B87 k87 s0 x2) := by
  unfold f_X8_again_38_B87
  refine r_iload_n dX8_again_87 rfl ?_
  refine r_iconst dX8_again_88 ci_5 ?_
  refine r_icge dX8_again_89 (tgt := 134) (by decide) (fun c3 => ?_) (fun c3 => ?_)
  · refine r_iconst dX8_again_134 ci_0 ?_
    refine r_istore_n dX8_again_135 rfl (lt_b rfl) (lt_b rfl) ?_
    exact r_mask [true, true, true] (s_X8_again_38_L136 g 1000 s0 0)
  · refine r_aload_n dX8_again_92 rfl ?_
    refine gf_X8_52 rfl dX8_again_93 ?_
    refine r_iload_n dX8_again_96 rfl ?_
    refine r_aload_n dX8_again_97 rfl ?_
    refine r_bipush dX8_again_98 cb_48 ?_
    refine r_iload_n dX8_again_100 rfl ?_
    refine r_iadd dX8_again_101 ?_
    refine al_8_37 dX8_again_102 (fun hg46 hj47 => ?_)
    refine as_8_24 dX8_again_103 (fun hg48 hj49 s50 => ?_)
    refine r_aload_n dX8_again_104 rfl ?_
    refine gf_X8_55 rfl dX8_again_105 ?_
    refine r_iload_n dX8_again_108 rfl ?_
    refine r_aload_n dX8_again_109 rfl ?_
    refine r_bipush dX8_again_110 cb_53 ?_
    refine r_iload_n dX8_again_112 rfl ?_
    refine r_iadd dX8_again_113 ?_
    refine al_8_37 dX8_again_114 (fun hg51 hj52 => ?_)
    refine as_8_25 dX8_again_115 (fun hg53 hj54 s55 => ?_)
    refine r_aload_n dX8_again_116 rfl ?_
    refine gf_X8_58 rfl dX8_again_117 ?_
    refine r_iload_n dX8_again_120 rfl ?_
    refine r_aload_n dX8_again_121 rfl ?_
    refine r_bipush dX8_again_122 cb_58 ?_
    refine r_iload_n dX8_again_124 rfl ?_
    refine r_iadd dX8_again_125 ?_
    refine al_8_37 dX8_again_126 (fun hg56 hj57 => ?_)
    refine as_8_26 dX8_again_127 (fun hg58 hj59 s60 => ?_)
    refine r_iincN dX8_again_128 rfl ci_1 rfl (lt_b rfl) (fun v61 => ?_)
    refine r_goto dX8_again_131 (tgt := 87) (by decide) ?_
    exact r_mask [true, true, true] (hk87 s60 v61)
theorem s_X8_again_38_L87 (g : Gm) : ∀ (n : Nat) (s0 : Sto) (x2 : Int32), Rf cvV (Em g 0) kX8_again 87 [some (.ref ((Em g 0).1.1 8 0 0)), some (.ref ((Em g 0).1.1 8 38 0)), some (.int x2)] [] s0 (f_X8_again_38_L87 n s0 x2)
  | 0, _, _ => r_none
  | n + 1, s0, x2 => s_X8_again_38_B87 g (f_X8_again_38_L87 n) (s_X8_again_38_L87 g n) s0 x2
set_option maxRecDepth 100000 in
theorem s_X8_again_38_B61 (g : Gm) (k61 : Sto → Int32 → Option (Sto)) (hk61 : ∀ (s0 : Sto) (x2 : Int32), Rf cvV (Em g 0) kX8_again 61 [some (.ref ((Em g 0).1.1 8 0 0)), some (.ref ((Em g 0).1.1 8 38 0)), some (.int x2)] [] s0 (k61 s0 x2)) (s0 : Sto) (x2 : Int32) : Rf cvV (Em g 0) kX8_again 61 [some (.ref ((Em g 0).1.1 8 0 0)), some (.ref ((Em g 0).1.1 8 38 0)), some (.int x2)] [] s0 (f_X8_again_38_B61 k61 s0 x2) := by
  unfold f_X8_again_38_B61
  refine r_iload_n dX8_again_61 rfl ?_
  refine r_bipush dX8_again_62 cb_24 ?_
  refine r_icge dX8_again_64 (tgt := 85) (by decide) (fun c2 => ?_) (fun c2 => ?_)
  · refine r_iconst dX8_again_85 ci_0 ?_
    refine r_istore_n dX8_again_86 rfl (lt_b rfl) (lt_b rfl) ?_
    exact r_mask [true, true, true] (s_X8_again_38_L87 g 1000 s0 0)
  · refine r_aload_n dX8_again_67 rfl ?_
    refine gf_X8_24 rfl dX8_again_68 ?_
    refine r_iload_n dX8_again_71 rfl ?_
    refine r_aload_n dX8_again_72 rfl ?_
    refine r_bipush dX8_again_73 cb_24 ?_
    refine r_iload_n dX8_again_75 rfl ?_
    refine r_iadd dX8_again_76 ?_
    refine al_8_37 dX8_again_77 (fun hg62 hj63 => ?_)
    refine as_8_5 dX8_again_78 (fun hg64 hj65 s66 => ?_)
    refine r_iincN dX8_again_79 rfl ci_1 rfl (lt_b rfl) (fun v67 => ?_)
    refine r_goto dX8_again_82 (tgt := 61) (by decide) ?_
    exact r_mask [true, true, true] (hk61 s66 v67)
theorem s_X8_again_38_L61 (g : Gm) : ∀ (n : Nat) (s0 : Sto) (x2 : Int32), Rf cvV (Em g 0) kX8_again 61 [some (.ref ((Em g 0).1.1 8 0 0)), some (.ref ((Em g 0).1.1 8 38 0)), some (.int x2)] [] s0 (f_X8_again_38_L61 n s0 x2)
  | 0, _, _ => r_none
  | n + 1, s0, x2 => s_X8_again_38_B61 g (f_X8_again_38_L61 n) (s_X8_again_38_L61 g n) s0 x2
set_option maxRecDepth 100000 in
theorem s_X8_again_38_B2 (g : Gm) (k2 : Sto → Int32 → Option (Sto)) (hk2 : ∀ (s0 : Sto) (x2 : Int32), Rf cvV (Em g 0) kX8_again 2 [some (.ref ((Em g 0).1.1 8 0 0)), some (.ref ((Em g 0).1.1 8 38 0)), some (.int x2)] [] s0 (k2 s0 x2)) (s0 : Sto) (x2 : Int32) : Rf cvV (Em g 0) kX8_again 2 [some (.ref ((Em g 0).1.1 8 0 0)), some (.ref ((Em g 0).1.1 8 38 0)), some (.int x2)] [] s0 (f_X8_again_38_B2 k2 s0 x2) := by
  unfold f_X8_again_38_B2
  refine r_iload_n dX8_again_2 rfl ?_
  refine r_bipush dX8_again_3 cb_6 ?_
  refine r_icge dX8_again_5 (tgt := 59) (by decide) (fun c1 => ?_) (fun c1 => ?_)
  · refine r_iconst dX8_again_59 ci_0 ?_
    refine r_istore_n dX8_again_60 rfl (lt_b rfl) (lt_b rfl) ?_
    exact r_mask [true, true, true] (s_X8_again_38_L61 g 1000 s0 0)
  · refine r_aload_n dX8_again_8 rfl ?_
    refine gf_X8_9 rfl dX8_again_9 ?_
    refine r_iload_n dX8_again_12 rfl ?_
    refine r_aload_n dX8_again_13 rfl ?_
    refine r_iload_n dX8_again_14 rfl ?_
    refine al_8_37 dX8_again_15 (fun hg68 hj69 => ?_)
    refine as_8_1 dX8_again_16 (fun hg70 hj71 s72 => ?_)
    refine r_aload_n dX8_again_17 rfl ?_
    refine gf_X8_15 rfl dX8_again_18 ?_
    refine r_iload_n dX8_again_21 rfl ?_
    refine r_aload_n dX8_again_22 rfl ?_
    refine r_bipush dX8_again_23 cb_6 ?_
    refine r_iload_n dX8_again_25 rfl ?_
    refine r_iadd dX8_again_26 ?_
    refine al_8_37 dX8_again_27 (fun hg73 hj74 => ?_)
    refine as_8_2 dX8_again_28 (fun hg75 hj76 s77 => ?_)
    refine r_aload_n dX8_again_29 rfl ?_
    refine gf_X8_18 rfl dX8_again_30 ?_
    refine r_iload_n dX8_again_33 rfl ?_
    refine r_aload_n dX8_again_34 rfl ?_
    refine r_bipush dX8_again_35 cb_12 ?_
    refine r_iload_n dX8_again_37 rfl ?_
    refine r_iadd dX8_again_38 ?_
    refine al_8_37 dX8_again_39 (fun hg78 hj79 => ?_)
    refine as_8_3 dX8_again_40 (fun hg80 hj81 s82 => ?_)
    refine r_aload_n dX8_again_41 rfl ?_
    refine gf_X8_21 rfl dX8_again_42 ?_
    refine r_iload_n dX8_again_45 rfl ?_
    refine r_aload_n dX8_again_46 rfl ?_
    refine r_bipush dX8_again_47 cb_18 ?_
    refine r_iload_n dX8_again_49 rfl ?_
    refine r_iadd dX8_again_50 ?_
    refine al_8_37 dX8_again_51 (fun hg83 hj84 => ?_)
    refine as_8_4 dX8_again_52 (fun hg85 hj86 s87 => ?_)
    refine r_iincN dX8_again_53 rfl ci_1 rfl (lt_b rfl) (fun v88 => ?_)
    refine r_goto dX8_again_56 (tgt := 2) (by decide) ?_
    exact r_mask [true, true, true] (hk2 s87 v88)
theorem s_X8_again_38_L2 (g : Gm) : ∀ (n : Nat) (s0 : Sto) (x2 : Int32), Rf cvV (Em g 0) kX8_again 2 [some (.ref ((Em g 0).1.1 8 0 0)), some (.ref ((Em g 0).1.1 8 38 0)), some (.int x2)] [] s0 (f_X8_again_38_L2 n s0 x2)
  | 0, _, _ => r_none
  | n + 1, s0, x2 => s_X8_again_38_B2 g (f_X8_again_38_L2 n) (s_X8_again_38_L2 g n) s0 x2
set_option maxRecDepth 100000 in
theorem s_X8_again_38 (g : Gm) (s0 : Sto) : Rf cvV (Em g 0) kX8_again 0 [some (.ref ((Em g 0).1.1 8 0 0)), some (.ref ((Em g 0).1.1 8 38 0)), none] [] s0 (f_X8_again_38 s0) := by
  unfold f_X8_again_38
  refine r_iconst dX8_again_0 ci_0 ?_
  refine r_istore_n dX8_again_1 rfl (lt_b rfl) (lt_b rfl) ?_
  exact r_mask [true, true, true] (s_X8_again_38_L2 g 1000 s0 0)
theorem ok_X8_again_38 (g : Gm) (s0 : Sto) : Ok g yX8_again kX8_again 0 [.ref ((Em g 0).1.1 8 0 0), .ref ((Em g 0).1.1 8 38 0)] s0 cvV (f_X8_again_38 s0) := Ok.of (by decide) rfl (Nat.le_of_ble_eq_true rfl) (lv := [some (.ref ((Em g 0).1.1 8 0 0)), some (.ref ((Em g 0).1.1 8 38 0)), none]) rfl (s_X8_again_38 g s0)
theorem u_X8_again_38 {α : Type} {cv : α → Res} {E : EE} {K : KK} {pc npc idx d : Nat} {lv : List (Option Value)} {st : List Value} {σ : Sto} {oc : Option (Sto)} {kf : Sto → Option α} (hOk : Ok E.1 yX8_again kX8_again d [.ref (E.1.1 8 0 0), .ref (E.1.1 8 38 0)] σ cvV oc) (hd : Dc K pc (.invokevirtual idx) 3 npc) (hlk : Cond.methodLink K.2.1 idx yX8_again ∈ lw_good) (hw : (st.map fun v => v.category).sum ≤ 8) (hfit : fits_ E d 3) (hrm : room_ok E) (kk : ∀ τ : Sto, Rf cv E K npc lv st τ (kf τ)) : Rf cv E K pc lv (.ref (E.1.1 8 38 0) :: .ref (E.1.1 8 0 0) :: st) σ (oc.bind kf) := c_V (n := 1) (as := [.ref (E.1.1 8 38 0)]) (c0 := 8) (i := 0) (CC := "ThawGivesModel") (T := TX8) (N := 43) hd hOk hlk wi_X8_again wv_X8_again wn_X8 wc_X8_again rfl (by decide) (by decide) ⟨by decide, by decide, by decide⟩ rfl rfl hw hfit hrm (fun b _ => kk b)
def f_X8_when_L50 (s0 : Sto) (x2 : Int32) : Option (Int32 × Sto) :=
  (f_X8_again_38 s0).bind fun q3 => some (x2, q3)
def f_X8_when_L33 (k13 : Sto → Int32 → Int32 → Int32 → Option (Int32 × Sto)) (s0 : Sto) (x1 : Int32) (x2 : Int32) (x3 : Int32) : Option (Int32 × Sto) :=
  (if 0 ≤ x1 ∧ x1 < 6 then (if (s0.2.1 8 4 0 (Int32.toNatClampNeg x1)) = 0 then
    nmI (x3 + 1) fun v10 => k13 s0 x1 x3 v10
  else
    nmI (x3 + 1) fun v9 => k13 s0 x1 x2 v9) else none)
def f_X8_when_B13 (k13 : Sto → Int32 → Int32 → Int32 → Option (Int32 × Sto)) (s0 : Sto) (x1 : Int32) (x2 : Int32) (x3 : Int32) : Option (Int32 × Sto) :=
  (if (61 : Int32) ≤ x3 then
    f_X8_when_L50 s0 x2
  else
    (if x2 = (-5 : Int32) then
      (if x3 ≤ 0 then
        f_X8_when_L33 k13 s0 x1 x2 x3
      else
        (f_X8_goesWeek s0).bind fun q11 => f_X8_when_L33 k13 q11 x1 x2 x3)
    else
      f_X8_when_L50 s0 x2))
def f_X8_when_L13 : Nat → Sto → Int32 → Int32 → Int32 → Option (Int32 × Sto)
  | 0 => fun _ _ _ _ => none
  | n + 1 => f_X8_when_B13 (f_X8_when_L13 n)
def f_X8_when (s0 : Sto) (x1 : Int32) : Option (Int32 × Sto) :=
  (f_X8_keep_38 s0).bind fun q1 => f_X8_when_L13 1000 q1 x1 (-5 : Int32) 0
set_option maxRecDepth 100000 in
theorem s_X8_when_L50 (g : Gm) (s0 : Sto) (x2 : Int32) : Rf cvIw (Em g 5) kX8_when 50 [some (.ref ((Em g 5).1.1 8 0 0)), none, some (.int x2), none] [] s0 (f_X8_when_L50 s0 x2) := by
  unfold f_X8_when_L50
  refine r_aload_n dX8_when_50 rfl ?_
  refine r_aload_n dX8_when_51 rfl ?_
  refine gf_X8_79 rfl dX8_when_52 ?_
  refine u_X8_again_38 (ok_X8_again_38 g s0) dX8_when_55 ml_X8_233 (Nat.le_of_ble_eq_true rfl) (fits_m (by decide) (by decide)) room_m (fun q3 => ?_)
  refine r_iload_n dX8_when_58 rfl ?_
  exact r_iret dX8_when_59 rfl rfl
set_option maxRecDepth 100000 in
theorem s_X8_when_L33 (g : Gm) (k13 : Sto → Int32 → Int32 → Int32 → Option (Int32 × Sto)) (hk13 : ∀ (s0 : Sto) (x1 : Int32) (x2 : Int32) (x3 : Int32), Rf cvIw (Em g 5) kX8_when 13 [some (.ref ((Em g 5).1.1 8 0 0)), some (.int x1), some (.int x2), some (.int x3)] [] s0 (k13 s0 x1 x2 x3)) (s0 : Sto) (x1 : Int32) (x2 : Int32) (x3 : Int32) : Rf cvIw (Em g 5) kX8_when 33 [some (.ref ((Em g 5).1.1 8 0 0)), some (.int x1), some (.int x2), some (.int x3)] [] s0 (f_X8_when_L33 k13 s0 x1 x2 x3) := by
  unfold f_X8_when_L33
  refine r_aload_n dX8_when_33 rfl ?_
  refine gf_X8_21 rfl dX8_when_34 ?_
  refine r_iload_n dX8_when_37 rfl ?_
  refine al_8_4 dX8_when_38 (fun hg6 hj7 => ?_)
  refine r_ifne dX8_when_39 (tgt := 44) (by decide) (fun c8 => ?_) (fun c8 => ?_)
  · refine r_iload_n dX8_when_42 rfl ?_
    refine r_istore_n dX8_when_43 rfl (lt_b rfl) (lt_b rfl) ?_
    refine r_iincN dX8_when_44 rfl ci_1 rfl (lt_b rfl) (fun v10 => ?_)
    refine r_goto dX8_when_47 (tgt := 13) (by decide) ?_
    exact r_mask [true, true, true, true] (hk13 s0 x1 x3 v10)
  · refine r_iincN dX8_when_44 rfl ci_1 rfl (lt_b rfl) (fun v9 => ?_)
    refine r_goto dX8_when_47 (tgt := 13) (by decide) ?_
    exact r_mask [true, true, true, true] (hk13 s0 x1 x2 v9)
set_option maxRecDepth 100000 in
theorem s_X8_when_B13 (g : Gm) (k13 : Sto → Int32 → Int32 → Int32 → Option (Int32 × Sto)) (hk13 : ∀ (s0 : Sto) (x1 : Int32) (x2 : Int32) (x3 : Int32), Rf cvIw (Em g 5) kX8_when 13 [some (.ref ((Em g 5).1.1 8 0 0)), some (.int x1), some (.int x2), some (.int x3)] [] s0 (k13 s0 x1 x2 x3)) (s0 : Sto) (x1 : Int32) (x2 : Int32) (x3 : Int32) : Rf cvIw (Em g 5) kX8_when 13 [some (.ref ((Em g 5).1.1 8 0 0)), some (.int x1), some (.int x2), some (.int x3)] [] s0 (f_X8_when_B13 k13 s0 x1 x2 x3) := by
  unfold f_X8_when_B13
  refine r_iload_n dX8_when_13 rfl ?_
  refine r_bipush dX8_when_14 cb_61 ?_
  refine r_icge dX8_when_16 (tgt := 50) (by decide) (fun c2 => ?_) (fun c2 => ?_)
  · exact r_mask [true, false, true, false] (s_X8_when_L50 g s0 x2)
  · refine r_iload_n dX8_when_19 rfl ?_
    refine r_bipush dX8_when_20 cb_m5 ?_
    refine r_icne dX8_when_22 (tgt := 50) (by decide) (fun c4 => ?_) (fun c4 => ?_)
    · refine r_iload_n dX8_when_25 rfl ?_
      refine r_ifle dX8_when_26 (tgt := 33) (by decide) (fun c5 => ?_) (fun c5 => ?_)
      · exact r_mask [true, true, true, true] (s_X8_when_L33 g k13 hk13 s0 x1 x2 x3)
      · refine r_aload_n dX8_when_29 rfl ?_
        refine u_X8_goesWeek (ok_X8_goesWeek g s0) dX8_when_30 ml_X8_226 (Nat.le_of_ble_eq_true rfl) (fits_m (by decide) (by decide)) room_m (fun q11 => ?_)
        exact r_mask [true, true, true, true] (s_X8_when_L33 g k13 hk13 q11 x1 x2 x3)
    · exact r_mask [true, false, true, false] (s_X8_when_L50 g s0 x2)
theorem s_X8_when_L13 (g : Gm) : ∀ (n : Nat) (s0 : Sto) (x1 : Int32) (x2 : Int32) (x3 : Int32), Rf cvIw (Em g 5) kX8_when 13 [some (.ref ((Em g 5).1.1 8 0 0)), some (.int x1), some (.int x2), some (.int x3)] [] s0 (f_X8_when_L13 n s0 x1 x2 x3)
  | 0, _, _, _, _ => r_none
  | n + 1, s0, x1, x2, x3 => s_X8_when_B13 g (f_X8_when_L13 n) (s_X8_when_L13 g n) s0 x1 x2 x3
set_option maxRecDepth 100000 in
theorem s_X8_when (g : Gm) (s0 : Sto) (x1 : Int32) : Rf cvIw (Em g 5) kX8_when 0 [some (.ref ((Em g 5).1.1 8 0 0)), some (.int x1), none, none] [] s0 (f_X8_when s0 x1) := by
  unfold f_X8_when
  refine r_aload_n dX8_when_0 rfl ?_
  refine r_aload_n dX8_when_1 rfl ?_
  refine gf_X8_79 rfl dX8_when_2 ?_
  refine u_X8_keep_38 (ok_X8_keep_38 g s0) dX8_when_5 ml_X8_229 (Nat.le_of_ble_eq_true rfl) (fits_m (by decide) (by decide)) room_m (fun q1 => ?_)
  refine r_bipush dX8_when_8 cb_m5 ?_
  refine r_istore_n dX8_when_10 rfl (lt_b rfl) (lt_b rfl) ?_
  refine r_iconst dX8_when_11 ci_0 ?_
  refine r_istore_n dX8_when_12 rfl (lt_b rfl) (lt_b rfl) ?_
  exact r_mask [true, true, true, true] (s_X8_when_L13 g 1000 q1 x1 (-5 : Int32) 0)
theorem ok_X8_when (g : Gm) (s0 : Sto) (x1 : Int32) : Ok g yX8_when kX8_when 5 [.ref ((Em g 5).1.1 8 0 0), .int x1] s0 cvIw (f_X8_when s0 x1) := Ok.of (by decide) rfl (Nat.le_of_ble_eq_true rfl) (lv := [some (.ref ((Em g 5).1.1 8 0 0)), some (.int x1), none, none]) rfl (s_X8_when g s0 x1)
theorem u_X8_when {α : Type} {cv : α → Res} {E : EE} {K : KK} {pc npc idx d : Nat} {lv : List (Option Value)} {st : List Value} {σ : Sto} {oc : Option (Int32 × Sto)} {kf : (Int32 × Sto) → Option α} {x1 : Int32} (hOk : Ok E.1 yX8_when kX8_when d [.ref (E.1.1 8 0 0), .int x1] σ cvIw oc) (hd : Dc K pc (.invokevirtual idx) 3 npc) (hlk : Cond.methodLink K.2.1 idx yX8_when ∈ lw_good) (hw : (st.map fun v => v.category).sum ≤ 8) (hfit : fits_ E d 4) (hrm : room_ok E) (kk : ∀ q : Int32 × Sto, Rf cv E K npc lv (.int q.1 :: st) q.2 (kf q)) : Rf cv E K pc lv (.int x1 :: .ref (E.1.1 8 0 0) :: st) σ (oc.bind kf) := c_V (n := 1) (as := [.int x1]) (c0 := 8) (i := 0) (CC := "ThawGivesModel") (T := TX8) (N := 43) hd hOk hlk wi_X8_when wv_X8_when wn_X8 wc_X8_when rfl (by decide) (by decide) ⟨by decide, by decide, by decide⟩ rfl rfl hw hfit hrm (fun b _ => kk b)
def f_X8_of (s0 : Sto) (x1 : Int32) (x2 : Int32) : Option (Int32 × Sto) :=
  (f_X8_isOne s0 x1).bind fun q1 => (if q1 = 0 then
    some ((-10001 : Int32), s0)
  else
    (if x2 = 0 then
      (if 0 ≤ x1 ∧ x1 < 6 then some ((s0.2.1 8 1 0 (Int32.toNatClampNeg x1)), s0) else none)
    else (if x2 = 1 then
      (if 0 ≤ x1 ∧ x1 < 6 then some ((s0.2.1 8 2 0 (Int32.toNatClampNeg x1)), s0) else none)
    else (if x2 = 2 then
      (if 0 ≤ x1 ∧ x1 < 6 then some ((s0.2.1 8 3 0 (Int32.toNatClampNeg x1)), s0) else none)
    else (if x2 = 3 then
      (if 0 ≤ x1 ∧ x1 < 6 then some ((s0.2.1 8 4 0 (Int32.toNatClampNeg x1)), s0) else none)
    else (if x2 = 4 then
      (f_X8_meltsIn s0 x1 (s0.1 8 6 0)).bind fun q16 => some (q16.1, q16.2)
    else (if x2 = 5 then
      (f_X8_when s0 x1).bind fun q18 => some (q18.1, q18.2)
    else some ((-10001 : Int32), s0))))))))
set_option maxRecDepth 100000 in
theorem s_X8_of (g : Gm) (s0 : Sto) (x1 : Int32) (x2 : Int32) : Rf cvIw (Em g 6) kX8_of 0 [some (.ref ((Em g 6).1.1 8 0 0)), some (.int x1), some (.int x2)] [] s0 (f_X8_of s0 x1 x2) := by
  unfold f_X8_of
  refine r_aload_n dX8_of_0 rfl ?_
  refine r_iload_n dX8_of_1 rfl ?_
  refine u_X8_isOne (ok_X8_isOne g s0 x1) dX8_of_2 ml_X8_109 (Nat.le_of_ble_eq_true rfl) (fits_m (by decide) (by decide)) room_m (fun q1 => ?_)
  refine r_ifne dX8_of_5 (tgt := 12) (by decide) (fun c2 => ?_) (fun c2 => ?_)
  · refine r_sipush dX8_of_8 cs_m10001 ?_
    exact r_iret dX8_of_11 rfl rfl
  · refine r_iload_n dX8_of_12 rfl ?_
    refine r_by (fun e3 => ?_) (fun e3 => ?_)
    · refine r_tabIn dX8_of_13 e3 (z := 0) (by decide) (by decide) (by decide) (off := 39) rfl (tgt := 52) (by decide) ?_
      refine r_aload_n dX8_of_52 rfl ?_
      refine gf_X8_9 rfl dX8_of_53 ?_
      refine r_iload_n dX8_of_56 rfl ?_
      refine al_8_1 dX8_of_57 (fun hg4 hj5 => ?_)
      exact r_iret dX8_of_58 rfl rfl
    refine r_by (fun e6 => ?_) (fun e6 => ?_)
    · refine r_tabIn dX8_of_13 e6 (z := 1) (by decide) (by decide) (by decide) (off := 46) rfl (tgt := 59) (by decide) ?_
      refine r_aload_n dX8_of_59 rfl ?_
      refine gf_X8_15 rfl dX8_of_60 ?_
      refine r_iload_n dX8_of_63 rfl ?_
      refine al_8_2 dX8_of_64 (fun hg7 hj8 => ?_)
      exact r_iret dX8_of_65 rfl rfl
    refine r_by (fun e9 => ?_) (fun e9 => ?_)
    · refine r_tabIn dX8_of_13 e9 (z := 2) (by decide) (by decide) (by decide) (off := 53) rfl (tgt := 66) (by decide) ?_
      refine r_aload_n dX8_of_66 rfl ?_
      refine gf_X8_18 rfl dX8_of_67 ?_
      refine r_iload_n dX8_of_70 rfl ?_
      refine al_8_3 dX8_of_71 (fun hg10 hj11 => ?_)
      exact r_iret dX8_of_72 rfl rfl
    refine r_by (fun e12 => ?_) (fun e12 => ?_)
    · refine r_tabIn dX8_of_13 e12 (z := 3) (by decide) (by decide) (by decide) (off := 60) rfl (tgt := 73) (by decide) ?_
      refine r_aload_n dX8_of_73 rfl ?_
      refine gf_X8_21 rfl dX8_of_74 ?_
      refine r_iload_n dX8_of_77 rfl ?_
      refine al_8_4 dX8_of_78 (fun hg13 hj14 => ?_)
      exact r_iret dX8_of_79 rfl rfl
    refine r_by (fun e15 => ?_) (fun e15 => ?_)
    · refine r_tabIn dX8_of_13 e15 (z := 4) (by decide) (by decide) (by decide) (off := 67) rfl (tgt := 80) (by decide) ?_
      refine r_aload_n dX8_of_80 rfl ?_
      refine r_iload_n dX8_of_81 rfl ?_
      refine r_aload_n dX8_of_82 rfl ?_
      refine gf_X8_113 rfl dX8_of_83 ?_
      refine u_X8_meltsIn (ok_X8_meltsIn g s0 x1 (s0.1 8 6 0)) dX8_of_86 ml_X8_116 (Nat.le_of_ble_eq_true rfl) (fits_m (by decide) (by decide)) room_m (fun q16 => ?_)
      exact r_iret dX8_of_89 rfl rfl
    refine r_by (fun e17 => ?_) (fun e17 => ?_)
    · refine r_tabIn dX8_of_13 e17 (z := 5) (by decide) (by decide) (by decide) (off := 77) rfl (tgt := 90) (by decide) ?_
      refine r_aload_n dX8_of_90 rfl ?_
      refine r_iload_n dX8_of_91 rfl ?_
      refine u_X8_when (ok_X8_when g s0 x1) dX8_of_92 ml_X8_120 (Nat.le_of_ble_eq_true rfl) (fits_m (by decide) (by decide)) room_m (fun q18 => ?_)
      exact r_iret dX8_of_95 rfl rfl
    refine r_tabOut dX8_of_13 (by have a0 := sw_ne e3 (z := 0) (by decide); have a1 := sw_ne e6 (z := 1) (by decide); have a2 := sw_ne e9 (z := 2) (by decide); have a3 := sw_ne e12 (z := 3) (by decide); have a4 := sw_ne e15 (z := 4) (by decide); have a5 := sw_ne e17 (z := 5) (by decide); omega) (tgt := 96) (by decide) ?_
    refine r_sipush dX8_of_96 cs_m10001 ?_
    exact r_iret dX8_of_99 rfl rfl
theorem ok_X8_of (g : Gm) (s0 : Sto) (x1 : Int32) (x2 : Int32) : Ok g yX8_of kX8_of 6 [.ref ((Em g 6).1.1 8 0 0), .int x1, .int x2] s0 cvIw (f_X8_of s0 x1 x2) := Ok.of (by decide) rfl (Nat.le_of_ble_eq_true rfl) (lv := [some (.ref ((Em g 6).1.1 8 0 0)), some (.int x1), some (.int x2)]) rfl (s_X8_of g s0 x1 x2)
theorem u_X8_of {α : Type} {cv : α → Res} {E : EE} {K : KK} {pc npc idx d : Nat} {lv : List (Option Value)} {st : List Value} {σ : Sto} {oc : Option (Int32 × Sto)} {kf : (Int32 × Sto) → Option α} {x1 : Int32} {x2 : Int32} (hOk : Ok E.1 yX8_of kX8_of d [.ref (E.1.1 8 0 0), .int x1, .int x2] σ cvIw oc) (hd : Dc K pc (.invokevirtual idx) 3 npc) (hlk : Cond.methodLink K.2.1 idx yX8_of ∈ lw_good) (hw : (st.map fun v => v.category).sum ≤ 8) (hfit : fits_ E d 3) (hrm : room_ok E) (kk : ∀ q : Int32 × Sto, Rf cv E K npc lv (.int q.1 :: st) q.2 (kf q)) : Rf cv E K pc lv (.int x2 :: .int x1 :: .ref (E.1.1 8 0 0) :: st) σ (oc.bind kf) := c_V (n := 2) (as := [.int x1, .int x2]) (c0 := 8) (i := 0) (CC := "ThawGivesModel") (T := TX8) (N := 43) hd hOk hlk wi_X8_of wv_X8_of wn_X8 wc_X8_of rfl (by decide) (by decide) ⟨by decide, by decide, by decide⟩ rfl rfl hw hfit hrm (fun b _ => kk b)
def f_X8_set_L51 (s0 : Sto) (x1 : Int32) (x2 : Int32) (x3 : Int32) (y0 : Int32) : Option (Int32 × Sto) :=
  (if x2 = 0 then
    (if 0 ≤ x1 ∧ x1 < 6 then nm (sA s0 8 3 0 (upd (s0.2.1 8 3 0) (Int32.toNatClampNeg x1) x3)) fun s16 => some (y0, s16) else none)
  else
    (if 0 ≤ x1 ∧ x1 < 6 then nm (sA s0 8 4 0 (upd (s0.2.1 8 4 0) (Int32.toNatClampNeg x1) x3)) fun s13 => some (y0, s13) else none))
def f_X8_set (s0 : Sto) (x1 : Int32) (x2 : Int32) (x3 : Int32) : Option (Int32 × Sto) :=
  (f_X8_isOne s0 x1).bind fun q1 => (if q1 = 0 then
    some ((-1 : Int32), s0)
  else
    (f_X8_within x2 0 1).bind fun q3 => (if q3 = 0 then
      some ((-1 : Int32), s0)
    else
      (f_X8_within x3 0 99).bind fun q5 => (if q5 = 0 then
        some ((-2 : Int32), s0)
      else
        (if x2 = 0 then
          (if 0 ≤ x1 ∧ x1 < 6 then f_X8_set_L51 s0 x1 x2 x3 (s0.2.1 8 3 0 (Int32.toNatClampNeg x1)) else none)
        else
          (if 0 ≤ x1 ∧ x1 < 6 then f_X8_set_L51 s0 x1 x2 x3 (s0.2.1 8 4 0 (Int32.toNatClampNeg x1)) else none)))))
set_option maxRecDepth 100000 in
theorem s_X8_set_L51 (g : Gm) (s0 : Sto) (x1 : Int32) (x2 : Int32) (x3 : Int32) (y0 : Int32) : Rf cvIw (Em g 2) kX8_set 51 [some (.ref ((Em g 2).1.1 8 0 0)), some (.int x1), some (.int x2), some (.int x3), none] [.int y0] s0 (f_X8_set_L51 s0 x1 x2 x3 y0) := by
  unfold f_X8_set_L51
  refine r_istore dX8_set_51 rfl (lt_b rfl) (lt_b rfl) ?_
  refine r_iload_n dX8_set_53 rfl ?_
  refine r_ifne dX8_set_54 (tgt := 67) (by decide) (fun c10 => ?_) (fun c10 => ?_)
  · refine r_aload_n dX8_set_57 rfl ?_
    refine gf_X8_18 rfl dX8_set_58 ?_
    refine r_iload_n dX8_set_61 rfl ?_
    refine r_iload_n dX8_set_62 rfl ?_
    refine as_8_3 dX8_set_63 (fun hg14 hj15 s16 => ?_)
    refine r_goto dX8_set_64 (tgt := 74) (by decide) ?_
    refine r_iload dX8_set_74 rfl ?_
    exact r_iret dX8_set_76 rfl rfl
  · refine r_aload_n dX8_set_67 rfl ?_
    refine gf_X8_21 rfl dX8_set_68 ?_
    refine r_iload_n dX8_set_71 rfl ?_
    refine r_iload_n dX8_set_72 rfl ?_
    refine as_8_4 dX8_set_73 (fun hg11 hj12 s13 => ?_)
    refine r_iload dX8_set_74 rfl ?_
    exact r_iret dX8_set_76 rfl rfl
set_option maxRecDepth 100000 in
theorem s_X8_set (g : Gm) (s0 : Sto) (x1 : Int32) (x2 : Int32) (x3 : Int32) : Rf cvIw (Em g 2) kX8_set 0 [some (.ref ((Em g 2).1.1 8 0 0)), some (.int x1), some (.int x2), some (.int x3), none] [] s0 (f_X8_set s0 x1 x2 x3) := by
  unfold f_X8_set
  refine r_aload_n dX8_set_0 rfl ?_
  refine r_iload_n dX8_set_1 rfl ?_
  refine u_X8_isOne (ok_X8_isOne g s0 x1) dX8_set_2 ml_X8_109 (Nat.le_of_ble_eq_true rfl) (fits_m (by decide) (by decide)) room_m (fun q1 => ?_)
  refine r_ifeq dX8_set_5 (tgt := 17) (by decide) (fun c2 => ?_) (fun c2 => ?_)
  · refine r_iconst dX8_set_17 ci_m1 ?_
    exact r_iret dX8_set_18 rfl rfl
  · refine r_iload_n dX8_set_8 rfl ?_
    refine r_iconst dX8_set_9 ci_0 ?_
    refine r_iconst dX8_set_10 ci_1 ?_
    refine u_X8_within (ok_X8_within g s0 x2 0 1) dX8_set_11 ml_X8_105 (Nat.le_of_ble_eq_true rfl) (fits_m (by decide) (by decide)) room_m (fun q3 => ?_)
    refine r_ifne dX8_set_14 (tgt := 19) (by decide) (fun c4 => ?_) (fun c4 => ?_)
    · refine r_iconst dX8_set_17 ci_m1 ?_
      exact r_iret dX8_set_18 rfl rfl
    · refine r_iload_n dX8_set_19 rfl ?_
      refine r_iconst dX8_set_20 ci_0 ?_
      refine r_bipush dX8_set_21 cb_99 ?_
      refine u_X8_within (ok_X8_within g s0 x3 0 99) dX8_set_23 ml_X8_105 (Nat.le_of_ble_eq_true rfl) (fits_m (by decide) (by decide)) room_m (fun q5 => ?_)
      refine r_ifne dX8_set_26 (tgt := 32) (by decide) (fun c6 => ?_) (fun c6 => ?_)
      · refine r_bipush dX8_set_29 cb_m2 ?_
        exact r_iret dX8_set_31 rfl rfl
      · refine r_iload_n dX8_set_32 rfl ?_
        refine r_ifne dX8_set_33 (tgt := 45) (by decide) (fun c7 => ?_) (fun c7 => ?_)
        · refine r_aload_n dX8_set_36 rfl ?_
          refine gf_X8_18 rfl dX8_set_37 ?_
          refine r_iload_n dX8_set_40 rfl ?_
          refine al_8_3 dX8_set_41 (fun hg17 hj18 => ?_)
          refine r_goto dX8_set_42 (tgt := 51) (by decide) ?_
          exact r_mask [true, true, true, true, false] (s_X8_set_L51 g s0 x1 x2 x3 (s0.2.1 8 3 0 (Int32.toNatClampNeg x1)))
        · refine r_aload_n dX8_set_45 rfl ?_
          refine gf_X8_21 rfl dX8_set_46 ?_
          refine r_iload_n dX8_set_49 rfl ?_
          refine al_8_4 dX8_set_50 (fun hg8 hj9 => ?_)
          exact r_mask [true, true, true, true, false] (s_X8_set_L51 g s0 x1 x2 x3 (s0.2.1 8 4 0 (Int32.toNatClampNeg x1)))
theorem ok_X8_set (g : Gm) (s0 : Sto) (x1 : Int32) (x2 : Int32) (x3 : Int32) : Ok g yX8_set kX8_set 2 [.ref ((Em g 2).1.1 8 0 0), .int x1, .int x2, .int x3] s0 cvIw (f_X8_set s0 x1 x2 x3) := Ok.of (by decide) rfl (Nat.le_of_ble_eq_true rfl) (lv := [some (.ref ((Em g 2).1.1 8 0 0)), some (.int x1), some (.int x2), some (.int x3), none]) rfl (s_X8_set g s0 x1 x2 x3)
theorem u_X8_set {α : Type} {cv : α → Res} {E : EE} {K : KK} {pc npc idx d : Nat} {lv : List (Option Value)} {st : List Value} {σ : Sto} {oc : Option (Int32 × Sto)} {kf : (Int32 × Sto) → Option α} {x1 : Int32} {x2 : Int32} {x3 : Int32} (hOk : Ok E.1 yX8_set kX8_set d [.ref (E.1.1 8 0 0), .int x1, .int x2, .int x3] σ cvIw oc) (hd : Dc K pc (.invokevirtual idx) 3 npc) (hlk : Cond.methodLink K.2.1 idx yX8_set ∈ lw_good) (hw : (st.map fun v => v.category).sum ≤ 8) (hfit : fits_ E d 5) (hrm : room_ok E) (kk : ∀ q : Int32 × Sto, Rf cv E K npc lv (.int q.1 :: st) q.2 (kf q)) : Rf cv E K pc lv (.int x3 :: .int x2 :: .int x1 :: .ref (E.1.1 8 0 0) :: st) σ (oc.bind kf) := c_V (n := 3) (as := [.int x1, .int x2, .int x3]) (c0 := 8) (i := 0) (CC := "ThawGivesModel") (T := TX8) (N := 43) hd hOk hlk wi_X8_set wv_X8_set wn_X8 wc_X8_set rfl (by decide) (by decide) ⟨by decide, by decide, by decide⟩ rfl rfl hw hfit hrm (fun b _ => kk b)
def f_X8_melts (s0 : Sto) (x1 : Int32) (x2 : Int32) : Option (Int32 × Sto) :=
  (f_X8_isOne s0 x1).bind fun q1 => (if q1 = 0 then
    some ((-10001 : Int32), s0)
  else
    (f_X8_within x2 0 60).bind fun q3 => (if q3 = 0 then
      some ((-10002 : Int32), s0)
    else
      (f_X8_meltsIn s0 x1 ((s0.1 8 6 0) + x2)).bind fun q5 => some (q5.1, q5.2)))
set_option maxRecDepth 100000 in
theorem s_X8_melts (g : Gm) (s0 : Sto) (x1 : Int32) (x2 : Int32) : Rf cvIw (Em g 4) kX8_melts 0 [some (.ref ((Em g 4).1.1 8 0 0)), some (.int x1), some (.int x2)] [] s0 (f_X8_melts s0 x1 x2) := by
  unfold f_X8_melts
  refine r_aload_n dX8_melts_0 rfl ?_
  refine r_iload_n dX8_melts_1 rfl ?_
  refine u_X8_isOne (ok_X8_isOne g s0 x1) dX8_melts_2 ml_X8_109 (Nat.le_of_ble_eq_true rfl) (fits_m (by decide) (by decide)) room_m (fun q1 => ?_)
  refine r_ifne dX8_melts_5 (tgt := 12) (by decide) (fun c2 => ?_) (fun c2 => ?_)
  · refine r_sipush dX8_melts_8 cs_m10001 ?_
    exact r_iret dX8_melts_11 rfl rfl
  · refine r_iload_n dX8_melts_12 rfl ?_
    refine r_iconst dX8_melts_13 ci_0 ?_
    refine r_bipush dX8_melts_14 cb_60 ?_
    refine u_X8_within (ok_X8_within g s0 x2 0 60) dX8_melts_16 ml_X8_105 (Nat.le_of_ble_eq_true rfl) (fits_m (by decide) (by decide)) room_m (fun q3 => ?_)
    refine r_ifeq dX8_melts_19 (tgt := 36) (by decide) (fun c4 => ?_) (fun c4 => ?_)
    · refine r_sipush dX8_melts_36 cs_m10002 ?_
      exact r_iret dX8_melts_39 rfl rfl
    · refine r_aload_n dX8_melts_22 rfl ?_
      refine r_iload_n dX8_melts_23 rfl ?_
      refine r_aload_n dX8_melts_24 rfl ?_
      refine gf_X8_113 rfl dX8_melts_25 ?_
      refine r_iload_n dX8_melts_28 rfl ?_
      refine r_iadd dX8_melts_29 ?_
      refine u_X8_meltsIn (ok_X8_meltsIn g s0 x1 ((s0.1 8 6 0) + x2)) dX8_melts_30 ml_X8_116 (Nat.le_of_ble_eq_true rfl) (fits_m (by decide) (by decide)) room_m (fun q5 => ?_)
      refine r_goto dX8_melts_33 (tgt := 39) (by decide) ?_
      exact r_iret dX8_melts_39 rfl rfl
theorem ok_X8_melts (g : Gm) (s0 : Sto) (x1 : Int32) (x2 : Int32) : Ok g yX8_melts kX8_melts 4 [.ref ((Em g 4).1.1 8 0 0), .int x1, .int x2] s0 cvIw (f_X8_melts s0 x1 x2) := Ok.of (by decide) rfl (Nat.le_of_ble_eq_true rfl) (lv := [some (.ref ((Em g 4).1.1 8 0 0)), some (.int x1), some (.int x2)]) rfl (s_X8_melts g s0 x1 x2)
theorem u_X8_melts {α : Type} {cv : α → Res} {E : EE} {K : KK} {pc npc idx d : Nat} {lv : List (Option Value)} {st : List Value} {σ : Sto} {oc : Option (Int32 × Sto)} {kf : (Int32 × Sto) → Option α} {x1 : Int32} {x2 : Int32} (hOk : Ok E.1 yX8_melts kX8_melts d [.ref (E.1.1 8 0 0), .int x1, .int x2] σ cvIw oc) (hd : Dc K pc (.invokevirtual idx) 3 npc) (hlk : Cond.methodLink K.2.1 idx yX8_melts ∈ lw_good) (hw : (st.map fun v => v.category).sum ≤ 8) (hfit : fits_ E d 3) (hrm : room_ok E) (kk : ∀ q : Int32 × Sto, Rf cv E K npc lv (.int q.1 :: st) q.2 (kf q)) : Rf cv E K pc lv (.int x2 :: .int x1 :: .ref (E.1.1 8 0 0) :: st) σ (oc.bind kf) := c_V (n := 2) (as := [.int x1, .int x2]) (c0 := 8) (i := 0) (CC := "ThawGivesModel") (T := TX8) (N := 43) hd hOk hlk wi_X8_melts wv_X8_melts wn_X8 wc_X8_melts rfl (by decide) (by decide) ⟨by decide, by decide, by decide⟩ rfl rfl hw hfit hrm (fun b _ => kk b)
def f_X8_row (s0 : Sto) (x1 : Int32) (x2 : Int32) (x3 : Int32) : Option (Int32 × Sto) :=
  (f_X8_isOne s0 x1).bind fun q1 => (if q1 = 0 then
    some ((-1 : Int32), s0)
  else
    (f_X8_within x2 0 3).bind fun q3 => (if q3 = 0 then
      some ((-1 : Int32), s0)
    else
      (f_X8_within x3 0 9).bind fun q5 => (if q5 = 0 then
        some ((-2 : Int32), s0)
      else
        (if 0 ≤ x1 ∧ x1 < 6 then (if (s0.2.1 8 1 0 (Int32.toNatClampNeg x1)) = 6 then
          (if 0 ≤ ((4 * x1) + x2) ∧ ((4 * x1) + x2) < 24 then nmI ((s0.2.1 8 5 0 (Int32.toNatClampNeg ((4 * x1) + x2)))) fun v12 => (if 0 ≤ ((4 * x1) + x2) ∧ ((4 * x1) + x2) < 24 then nm (sA s0 8 5 0 (upd (s0.2.1 8 5 0) (Int32.toNatClampNeg ((4 * x1) + x2)) x3)) fun s15 => some (v12, s15) else none) else none)
        else
          some ((-3 : Int32), s0)) else none))))
set_option maxRecDepth 100000 in
theorem s_X8_row (g : Gm) (s0 : Sto) (x1 : Int32) (x2 : Int32) (x3 : Int32) : Rf cvIw (Em g 2) kX8_row 0 [some (.ref ((Em g 2).1.1 8 0 0)), some (.int x1), some (.int x2), some (.int x3), none] [] s0 (f_X8_row s0 x1 x2 x3) := by
  unfold f_X8_row
  refine r_aload_n dX8_row_0 rfl ?_
  refine r_iload_n dX8_row_1 rfl ?_
  refine u_X8_isOne (ok_X8_isOne g s0 x1) dX8_row_2 ml_X8_109 (Nat.le_of_ble_eq_true rfl) (fits_m (by decide) (by decide)) room_m (fun q1 => ?_)
  refine r_ifeq dX8_row_5 (tgt := 17) (by decide) (fun c2 => ?_) (fun c2 => ?_)
  · refine r_iconst dX8_row_17 ci_m1 ?_
    exact r_iret dX8_row_18 rfl rfl
  · refine r_iload_n dX8_row_8 rfl ?_
    refine r_iconst dX8_row_9 ci_0 ?_
    refine r_iconst dX8_row_10 ci_3 ?_
    refine u_X8_within (ok_X8_within g s0 x2 0 3) dX8_row_11 ml_X8_105 (Nat.le_of_ble_eq_true rfl) (fits_m (by decide) (by decide)) room_m (fun q3 => ?_)
    refine r_ifne dX8_row_14 (tgt := 19) (by decide) (fun c4 => ?_) (fun c4 => ?_)
    · refine r_iconst dX8_row_17 ci_m1 ?_
      exact r_iret dX8_row_18 rfl rfl
    · refine r_iload_n dX8_row_19 rfl ?_
      refine r_iconst dX8_row_20 ci_0 ?_
      refine r_bipush dX8_row_21 cb_9 ?_
      refine u_X8_within (ok_X8_within g s0 x3 0 9) dX8_row_23 ml_X8_105 (Nat.le_of_ble_eq_true rfl) (fits_m (by decide) (by decide)) room_m (fun q5 => ?_)
      refine r_ifne dX8_row_26 (tgt := 32) (by decide) (fun c6 => ?_) (fun c6 => ?_)
      · refine r_bipush dX8_row_29 cb_m2 ?_
        exact r_iret dX8_row_31 rfl rfl
      · refine r_aload_n dX8_row_32 rfl ?_
        refine gf_X8_9 rfl dX8_row_33 ?_
        refine r_iload_n dX8_row_36 rfl ?_
        refine al_8_1 dX8_row_37 (fun hg7 hj8 => ?_)
        refine r_bipush dX8_row_38 cb_6 ?_
        refine r_iceq dX8_row_40 (tgt := 46) (by decide) (fun c9 => ?_) (fun c9 => ?_)
        · refine r_aload_n dX8_row_46 rfl ?_
          refine gf_X8_24 rfl dX8_row_47 ?_
          refine r_iconst dX8_row_50 ci_4 ?_
          refine r_iload_n dX8_row_51 rfl ?_
          refine r_imul dX8_row_52 ?_
          refine r_iload_n dX8_row_53 rfl ?_
          refine r_iadd dX8_row_54 ?_
          refine al_8_5 dX8_row_55 (fun hg10 hj11 => ?_)
          refine r_istoreN dX8_row_56 rfl (lt_b rfl) (lt_b rfl) (fun v12 => ?_)
          refine r_aload_n dX8_row_58 rfl ?_
          refine gf_X8_24 rfl dX8_row_59 ?_
          refine r_iconst dX8_row_62 ci_4 ?_
          refine r_iload_n dX8_row_63 rfl ?_
          refine r_imul dX8_row_64 ?_
          refine r_iload_n dX8_row_65 rfl ?_
          refine r_iadd dX8_row_66 ?_
          refine r_iload_n dX8_row_67 rfl ?_
          refine as_8_5 dX8_row_68 (fun hg13 hj14 s15 => ?_)
          refine r_iload dX8_row_69 rfl ?_
          exact r_iret dX8_row_71 rfl rfl
        · refine r_bipush dX8_row_43 cb_m3 ?_
          exact r_iret dX8_row_45 rfl rfl
theorem ok_X8_row (g : Gm) (s0 : Sto) (x1 : Int32) (x2 : Int32) (x3 : Int32) : Ok g yX8_row kX8_row 2 [.ref ((Em g 2).1.1 8 0 0), .int x1, .int x2, .int x3] s0 cvIw (f_X8_row s0 x1 x2 x3) := Ok.of (by decide) rfl (Nat.le_of_ble_eq_true rfl) (lv := [some (.ref ((Em g 2).1.1 8 0 0)), some (.int x1), some (.int x2), some (.int x3), none]) rfl (s_X8_row g s0 x1 x2 x3)
theorem u_X8_row {α : Type} {cv : α → Res} {E : EE} {K : KK} {pc npc idx d : Nat} {lv : List (Option Value)} {st : List Value} {σ : Sto} {oc : Option (Int32 × Sto)} {kf : (Int32 × Sto) → Option α} {x1 : Int32} {x2 : Int32} {x3 : Int32} (hOk : Ok E.1 yX8_row kX8_row d [.ref (E.1.1 8 0 0), .int x1, .int x2, .int x3] σ cvIw oc) (hd : Dc K pc (.invokevirtual idx) 3 npc) (hlk : Cond.methodLink K.2.1 idx yX8_row ∈ lw_good) (hw : (st.map fun v => v.category).sum ≤ 8) (hfit : fits_ E d 5) (hrm : room_ok E) (kk : ∀ q : Int32 × Sto, Rf cv E K npc lv (.int q.1 :: st) q.2 (kf q)) : Rf cv E K pc lv (.int x3 :: .int x2 :: .int x1 :: .ref (E.1.1 8 0 0) :: st) σ (oc.bind kf) := c_V (n := 3) (as := [.int x1, .int x2, .int x3]) (c0 := 8) (i := 0) (CC := "ThawGivesModel") (T := TX8) (N := 43) hd hOk hlk wi_X8_row wv_X8_row wn_X8 wc_X8_row rfl (by decide) (by decide) ⟨by decide, by decide, by decide⟩ rfl rfl hw hfit hrm (fun b _ => kk b)
def f_X8_feed (s0 : Sto) (x1 : Int32) : Option (Int32 × Sto) :=
  (f_X8_within x1 0 127).bind fun q1 => (if q1 = 0 then
    some ((-2 : Int32), s0)
  else
    (if (s0.1 8 7 0) = 100 then
      some ((-4 : Int32), s0)
    else
      nm (sF s0 8 7 0 ((s0.1 8 7 0) + 1)) fun s4 => (if 0 ≤ (s0.1 8 7 0) ∧ (s0.1 8 7 0) < 100 then nm (sA s4 8 8 0 (upd (s4.2.1 8 8 0) (Int32.toNatClampNeg (s0.1 8 7 0)) x1)) fun s7 => some ((s7.1 8 7 0), s7) else none)))
set_option maxRecDepth 100000 in
theorem s_X8_feed (g : Gm) (s0 : Sto) (x1 : Int32) : Rf cvIw (Em g 1) kX8_feed 0 [some (.ref ((Em g 1).1.1 8 0 0)), some (.int x1)] [] s0 (f_X8_feed s0 x1) := by
  unfold f_X8_feed
  refine r_iload_n dX8_feed_0 rfl ?_
  refine r_iconst dX8_feed_1 ci_0 ?_
  refine r_bipush dX8_feed_2 cb_127 ?_
  refine u_X8_within (ok_X8_within g s0 x1 0 127) dX8_feed_4 ml_X8_105 (Nat.le_of_ble_eq_true rfl) (fits_m (by decide) (by decide)) room_m (fun q1 => ?_)
  refine r_ifne dX8_feed_7 (tgt := 13) (by decide) (fun c2 => ?_) (fun c2 => ?_)
  · refine r_bipush dX8_feed_10 cb_m2 ?_
    exact r_iret dX8_feed_12 rfl rfl
  · refine r_aload_n dX8_feed_13 rfl ?_
    refine gf_X8_124 rfl dX8_feed_14 ?_
    refine r_bipush dX8_feed_17 cb_100 ?_
    refine r_icne dX8_feed_19 (tgt := 25) (by decide) (fun c3 => ?_) (fun c3 => ?_)
    · refine r_bipush dX8_feed_22 cb_m4 ?_
      exact r_iret dX8_feed_24 rfl rfl
    · refine r_aload_n dX8_feed_25 rfl ?_
      refine gf_X8_27 rfl dX8_feed_26 ?_
      refine r_aload_n dX8_feed_29 rfl ?_
      refine r_dup dX8_feed_30 rfl ?_
      refine gf_X8_124 rfl dX8_feed_31 ?_
      refine r_dup_x1 dX8_feed_34 rfl rfl ?_
      refine r_iconst dX8_feed_35 ci_1 ?_
      refine r_iadd dX8_feed_36 ?_
      refine pf_X8_124 rfl dX8_feed_37 (fun s4 => ?_)
      refine r_iload_n dX8_feed_40 rfl ?_
      refine as_8_8 dX8_feed_41 (fun hg5 hj6 s7 => ?_)
      refine r_aload_n dX8_feed_42 rfl ?_
      refine gf_X8_124 rfl dX8_feed_43 ?_
      exact r_iret dX8_feed_46 rfl rfl
theorem ok_X8_feed (g : Gm) (s0 : Sto) (x1 : Int32) : Ok g yX8_feed kX8_feed 1 [.ref ((Em g 1).1.1 8 0 0), .int x1] s0 cvIw (f_X8_feed s0 x1) := Ok.of (by decide) rfl (Nat.le_of_ble_eq_true rfl) (lv := [some (.ref ((Em g 1).1.1 8 0 0)), some (.int x1)]) rfl (s_X8_feed g s0 x1)
theorem u_X8_feed {α : Type} {cv : α → Res} {E : EE} {K : KK} {pc npc idx d : Nat} {lv : List (Option Value)} {st : List Value} {σ : Sto} {oc : Option (Int32 × Sto)} {kf : (Int32 × Sto) → Option α} {x1 : Int32} (hOk : Ok E.1 yX8_feed kX8_feed d [.ref (E.1.1 8 0 0), .int x1] σ cvIw oc) (hd : Dc K pc (.invokevirtual idx) 3 npc) (hlk : Cond.methodLink K.2.1 idx yX8_feed ∈ lw_good) (hw : (st.map fun v => v.category).sum ≤ 8) (hfit : fits_ E d 2) (hrm : room_ok E) (kk : ∀ q : Int32 × Sto, Rf cv E K npc lv (.int q.1 :: st) q.2 (kf q)) : Rf cv E K pc lv (.int x1 :: .ref (E.1.1 8 0 0) :: st) σ (oc.bind kf) := c_V (n := 1) (as := [.int x1]) (c0 := 8) (i := 0) (CC := "ThawGivesModel") (T := TX8) (N := 43) hd hOk hlk wi_X8_feed wv_X8_feed wn_X8 wc_X8_feed rfl (by decide) (by decide) ⟨by decide, by decide, by decide⟩ rfl rfl hw hfit hrm (fun b _ => kk b)
def f_X8_is (s0 : Sto) (x1 : Int32) : Option (Int32 × Sto) :=
  (if (s0.1 8 9 0) = (s0.1 8 7 0) then
    some (0, s0)
  else
    (if 0 ≤ (s0.1 8 9 0) ∧ (s0.1 8 9 0) < 100 then (if (s0.2.1 8 8 0 (Int32.toNatClampNeg (s0.1 8 9 0))) = x1 then
      nm (sF s0 8 9 0 ((s0.1 8 9 0) + 1)) fun s5 => some (1, s5)
    else
      some (0, s0)) else none))
set_option maxRecDepth 100000 in
theorem s_X8_is (g : Gm) (s0 : Sto) (x1 : Int32) : Rf cvIw (Em g 0) kX8_is 0 [some (.ref ((Em g 0).1.1 8 0 0)), some (.int x1)] [] s0 (f_X8_is s0 x1) := by
  unfold f_X8_is
  refine r_aload_n dX8_is_0 rfl ?_
  refine gf_X8_127 rfl dX8_is_1 ?_
  refine r_aload_n dX8_is_4 rfl ?_
  refine gf_X8_124 rfl dX8_is_5 ?_
  refine r_iceq dX8_is_8 (tgt := 24) (by decide) (fun c1 => ?_) (fun c1 => ?_)
  · refine r_iconst dX8_is_24 ci_0 ?_
    exact r_zret dX8_is_25 rfl rfl rfl
  · refine r_aload_n dX8_is_11 rfl ?_
    refine gf_X8_27 rfl dX8_is_12 ?_
    refine r_aload_n dX8_is_15 rfl ?_
    refine gf_X8_127 rfl dX8_is_16 ?_
    refine al_8_8 dX8_is_19 (fun hg2 hj3 => ?_)
    refine r_iload_n dX8_is_20 rfl ?_
    refine r_iceq dX8_is_21 (tgt := 26) (by decide) (fun c4 => ?_) (fun c4 => ?_)
    · refine r_aload_n dX8_is_26 rfl ?_
      refine r_dup dX8_is_27 rfl ?_
      refine gf_X8_127 rfl dX8_is_28 ?_
      refine r_iconst dX8_is_31 ci_1 ?_
      refine r_iadd dX8_is_32 ?_
      refine pf_X8_127 rfl dX8_is_33 (fun s5 => ?_)
      refine r_iconst dX8_is_36 ci_1 ?_
      exact r_zret dX8_is_37 rfl rfl rfl
    · refine r_iconst dX8_is_24 ci_0 ?_
      exact r_zret dX8_is_25 rfl rfl rfl
theorem ok_X8_is (g : Gm) (s0 : Sto) (x1 : Int32) : Ok g yX8_is kX8_is 0 [.ref ((Em g 0).1.1 8 0 0), .int x1] s0 cvIw (f_X8_is s0 x1) := Ok.of (by decide) rfl (Nat.le_of_ble_eq_true rfl) (lv := [some (.ref ((Em g 0).1.1 8 0 0)), some (.int x1)]) rfl (s_X8_is g s0 x1)
theorem u_X8_is {α : Type} {cv : α → Res} {E : EE} {K : KK} {pc npc idx d : Nat} {lv : List (Option Value)} {st : List Value} {σ : Sto} {oc : Option (Int32 × Sto)} {kf : (Int32 × Sto) → Option α} {x1 : Int32} (hOk : Ok E.1 yX8_is kX8_is d [.ref (E.1.1 8 0 0), .int x1] σ cvIw oc) (hd : Dc K pc (.invokevirtual idx) 3 npc) (hlk : Cond.methodLink K.2.1 idx yX8_is ∈ lw_good) (hw : (st.map fun v => v.category).sum ≤ 8) (hfit : fits_ E d 2) (hrm : room_ok E) (kk : ∀ q : Int32 × Sto, Rf cv E K npc lv (.int q.1 :: st) q.2 (kf q)) : Rf cv E K pc lv (.int x1 :: .ref (E.1.1 8 0 0) :: st) σ (oc.bind kf) := c_V (n := 1) (as := [.int x1]) (c0 := 8) (i := 0) (CC := "ThawGivesModel") (T := TX8) (N := 43) hd hOk hlk wi_X8_is wv_X8_is wn_X8 wc_X8_is rfl (by decide) (by decide) ⟨by decide, by decide, by decide⟩ rfl rfl hw hfit hrm (fun b _ => kk b)
def f_X8_isAll_B2 (k2 : Sto → Nat → Int32 → Option (Int32 × Sto)) (s0 : Sto) (n1 : Nat) (x2 : Int32) : Option (Int32 × Sto) :=
  (f_J0_length_8abf5 n1).bind fun q1 => (if q1 ≤ x2 then
    some (1, s0)
  else
    (f_J0_charAt_5068e n1 x2).bind fun q3 => (f_X8_is s0 q3).bind fun q4 => (if q4.1 = 0 then
      some (0, q4.2)
    else
      nmI (x2 + 1) fun v6 => k2 q4.2 n1 v6))
def f_X8_isAll_L2 : Nat → Sto → Nat → Int32 → Option (Int32 × Sto)
  | 0 => fun _ _ _ => none
  | n + 1 => f_X8_isAll_B2 (f_X8_isAll_L2 n)
def f_X8_isAll (s0 : Sto) (n1 : Nat) : Option (Int32 × Sto) :=
  f_X8_isAll_L2 1000 s0 n1 0
set_option maxRecDepth 100000 in
theorem s_X8_isAll_B2 (g : Gm) (k2 : Sto → Nat → Int32 → Option (Int32 × Sto)) (hk2 : ∀ (s0 : Sto) (n1 : Nat) (x2 : Int32) (hn1 : n1 < 5), Rf cvIw (Em g 4) kX8_isAll 2 [some (.ref ((Em g 4).1.1 8 0 0)), some (.ref ((Em g 4).1.2.2.2.2.1 n1)), some (.int x2)] [] s0 (k2 s0 n1 x2)) (s0 : Sto) (n1 : Nat) (x2 : Int32) (hn1 : n1 < 5) : Rf cvIw (Em g 4) kX8_isAll 2 [some (.ref ((Em g 4).1.1 8 0 0)), some (.ref ((Em g 4).1.2.2.2.2.1 n1)), some (.int x2)] [] s0 (f_X8_isAll_B2 k2 s0 n1 x2) := by
  unfold f_X8_isAll_B2
  refine r_iload_n dX8_isAll_2 rfl ?_
  refine r_aload_n dX8_isAll_3 rfl ?_
  refine u_J0_length_8abf5 (ok_J0_length_8abf5 g s0 n1 hn1) dX8_isAll_4 ml_X8_140 hn1 (Nat.le_of_ble_eq_true rfl) (fits_m (by decide) (by decide)) room_m (fun q1 => ?_)
  refine r_icge dX8_isAll_7 (tgt := 30) (by decide) (fun c2 => ?_) (fun c2 => ?_)
  · refine r_iconst dX8_isAll_30 ci_1 ?_
    exact r_zret dX8_isAll_31 rfl rfl rfl
  · refine r_aload_n dX8_isAll_10 rfl ?_
    refine r_aload_n dX8_isAll_11 rfl ?_
    refine r_iload_n dX8_isAll_12 rfl ?_
    refine u_J0_charAt_5068e (ok_J0_charAt_5068e g s0 n1 x2 hn1) dX8_isAll_13 ml_X8_145 hn1 (Nat.le_of_ble_eq_true rfl) (fits_m (by decide) (by decide)) room_m (fun q3 => ?_)
    refine u_X8_is (ok_X8_is g s0 q3) dX8_isAll_16 ml_X8_149 (Nat.le_of_ble_eq_true rfl) (fits_m (by decide) (by decide)) room_m (fun q4 => ?_)
    refine r_ifne dX8_isAll_19 (tgt := 24) (by decide) (fun c5 => ?_) (fun c5 => ?_)
    · refine r_iconst dX8_isAll_22 ci_0 ?_
      exact r_zret dX8_isAll_23 rfl rfl rfl
    · refine r_iincN dX8_isAll_24 rfl ci_1 rfl (lt_b rfl) (fun v6 => ?_)
      refine r_goto dX8_isAll_27 (tgt := 2) (by decide) ?_
      exact r_mask [true, true, true] (hk2 q4.2 n1 v6 hn1)
theorem s_X8_isAll_L2 (g : Gm) : ∀ (n : Nat) (s0 : Sto) (n1 : Nat) (x2 : Int32) (hn1 : n1 < 5), Rf cvIw (Em g 4) kX8_isAll 2 [some (.ref ((Em g 4).1.1 8 0 0)), some (.ref ((Em g 4).1.2.2.2.2.1 n1)), some (.int x2)] [] s0 (f_X8_isAll_L2 n s0 n1 x2)
  | 0, _, _, _, _ => r_none
  | n + 1, s0, n1, x2, hn1 => s_X8_isAll_B2 g (f_X8_isAll_L2 n) (s_X8_isAll_L2 g n) s0 n1 x2 hn1
set_option maxRecDepth 100000 in
theorem s_X8_isAll (g : Gm) (s0 : Sto) (n1 : Nat) (hn1 : n1 < 5) : Rf cvIw (Em g 4) kX8_isAll 0 [some (.ref ((Em g 4).1.1 8 0 0)), some (.ref ((Em g 4).1.2.2.2.2.1 n1)), none] [] s0 (f_X8_isAll s0 n1) := by
  unfold f_X8_isAll
  refine r_iconst dX8_isAll_0 ci_0 ?_
  refine r_istore_n dX8_isAll_1 rfl (lt_b rfl) (lt_b rfl) ?_
  exact r_mask [true, true, true] (s_X8_isAll_L2 g 1000 s0 n1 0 hn1)
theorem ok_X8_isAll (g : Gm) (s0 : Sto) (n1 : Nat) (hn1 : n1 < 5) : Ok g yX8_isAll kX8_isAll 4 [.ref ((Em g 4).1.1 8 0 0), .ref ((Em g 4).1.2.2.2.2.1 n1)] s0 cvIw (f_X8_isAll s0 n1) := Ok.of (by decide) rfl (Nat.le_of_ble_eq_true rfl) (lv := [some (.ref ((Em g 4).1.1 8 0 0)), some (.ref ((Em g 4).1.2.2.2.2.1 n1)), none]) rfl (s_X8_isAll g s0 n1 hn1)
theorem u_X8_isAll {α : Type} {cv : α → Res} {E : EE} {K : KK} {pc npc idx d : Nat} {lv : List (Option Value)} {st : List Value} {σ : Sto} {oc : Option (Int32 × Sto)} {kf : (Int32 × Sto) → Option α} {n1 : Nat} (hOk : Ok E.1 yX8_isAll kX8_isAll d [.ref (E.1.1 8 0 0), .ref (E.1.2.2.2.2.1 n1)] σ cvIw oc) (hd : Dc K pc (.invokevirtual idx) 3 npc) (hlk : Cond.methodLink K.2.1 idx yX8_isAll ∈ lw_good) (hw : (st.map fun v => v.category).sum ≤ 8) (hfit : fits_ E d 3) (hrm : room_ok E) (kk : ∀ q : Int32 × Sto, Rf cv E K npc lv (.int q.1 :: st) q.2 (kf q)) : Rf cv E K pc lv (.ref (E.1.2.2.2.2.1 n1) :: .ref (E.1.1 8 0 0) :: st) σ (oc.bind kf) := c_V (n := 1) (as := [.ref (E.1.2.2.2.2.1 n1)]) (c0 := 8) (i := 0) (CC := "ThawGivesModel") (T := TX8) (N := 43) hd hOk hlk wi_X8_isAll wv_X8_isAll wn_X8 wc_X8_isAll rfl (by decide) (by decide) ⟨by decide, by decide, by decide⟩ rfl rfl hw hfit hrm (fun b _ => kk b)
def f_X8_isDigit (s0 : Sto) : Option (Int32) :=
  (if (s0.1 8 7 0) ≤ (s0.1 8 9 0) then
    some 0
  else
    (if 0 ≤ (s0.1 8 9 0) ∧ (s0.1 8 9 0) < 100 then (if (s0.2.1 8 8 0 (Int32.toNatClampNeg (s0.1 8 9 0))) < 48 then
      some 0
    else
      (if 0 ≤ (s0.1 8 9 0) ∧ (s0.1 8 9 0) < 100 then (if (57 : Int32) < (s0.2.1 8 8 0 (Int32.toNatClampNeg (s0.1 8 9 0))) then
        some 0
      else
        some 1) else none)) else none))
set_option maxRecDepth 100000 in
theorem s_X8_isDigit (g : Gm) (s0 : Sto) : Rf (cvI s0) (Em g 0) kX8_isDigit 0 [some (.ref ((Em g 0).1.1 8 0 0))] [] s0 (f_X8_isDigit s0) := by
  unfold f_X8_isDigit
  refine r_aload_n dX8_isDigit_0 rfl ?_
  refine gf_X8_127 rfl dX8_isDigit_1 ?_
  refine r_aload_n dX8_isDigit_4 rfl ?_
  refine gf_X8_124 rfl dX8_isDigit_5 ?_
  refine r_icge dX8_isDigit_8 (tgt := 43) (by decide) (fun c1 => ?_) (fun c1 => ?_)
  · refine r_iconst dX8_isDigit_43 ci_0 ?_
    exact r_zret dX8_isDigit_44 rfl rfl rfl
  · refine r_aload_n dX8_isDigit_11 rfl ?_
    refine gf_X8_27 rfl dX8_isDigit_12 ?_
    refine r_aload_n dX8_isDigit_15 rfl ?_
    refine gf_X8_127 rfl dX8_isDigit_16 ?_
    refine al_8_8 dX8_isDigit_19 (fun hg2 hj3 => ?_)
    refine r_bipush dX8_isDigit_20 cb_48 ?_
    refine r_iclt dX8_isDigit_22 (tgt := 43) (by decide) (fun c4 => ?_) (fun c4 => ?_)
    · refine r_iconst dX8_isDigit_43 ci_0 ?_
      exact r_zret dX8_isDigit_44 rfl rfl rfl
    · refine r_aload_n dX8_isDigit_25 rfl ?_
      refine gf_X8_27 rfl dX8_isDigit_26 ?_
      refine r_aload_n dX8_isDigit_29 rfl ?_
      refine gf_X8_127 rfl dX8_isDigit_30 ?_
      refine al_8_8 dX8_isDigit_33 (fun hg5 hj6 => ?_)
      refine r_bipush dX8_isDigit_34 cb_57 ?_
      refine r_icgt dX8_isDigit_36 (tgt := 43) (by decide) (fun c7 => ?_) (fun c7 => ?_)
      · refine r_iconst dX8_isDigit_43 ci_0 ?_
        exact r_zret dX8_isDigit_44 rfl rfl rfl
      · refine r_iconst dX8_isDigit_39 ci_1 ?_
        refine r_goto dX8_isDigit_40 (tgt := 44) (by decide) ?_
        exact r_zret dX8_isDigit_44 rfl rfl rfl
theorem ok_X8_isDigit (g : Gm) (s0 : Sto) : Ok g yX8_isDigit kX8_isDigit 0 [.ref ((Em g 0).1.1 8 0 0)] s0 (cvI s0) (f_X8_isDigit s0) := Ok.of (by decide) rfl (Nat.le_of_ble_eq_true rfl) (lv := [some (.ref ((Em g 0).1.1 8 0 0))]) rfl (s_X8_isDigit g s0)
theorem u_X8_isDigit {α : Type} {cv : α → Res} {E : EE} {K : KK} {pc npc idx d : Nat} {lv : List (Option Value)} {st : List Value} {σ : Sto} {oc : Option (Int32)} {kf : Int32 → Option α} (hOk : Ok E.1 yX8_isDigit kX8_isDigit d [.ref (E.1.1 8 0 0)] σ (cvI σ) oc) (hd : Dc K pc (.invokevirtual idx) 3 npc) (hlk : Cond.methodLink K.2.1 idx yX8_isDigit ∈ lw_good) (hw : (st.map fun v => v.category).sum ≤ 8) (hfit : fits_ E d 1) (hrm : room_ok E) (kk : ∀ q : Int32, Rf cv E K npc lv (.int q :: st) σ (kf q)) : Rf cv E K pc lv (.ref (E.1.1 8 0 0) :: st) σ (oc.bind kf) := c_V (n := 0) (as := []) (c0 := 8) (i := 0) (CC := "ThawGivesModel") (T := TX8) (N := 43) hd hOk hlk wi_X8_isDigit wv_X8_isDigit wn_X8 wc_X8_isDigit rfl (by decide) (by decide) ⟨by decide, by decide, by decide⟩ rfl rfl hw hfit hrm (fun b _ => kk b)
def f_X8_isNumber_L72 (s0 : Sto) : Option (Int32 × Sto) :=
  (if (s0.1 8 11 0) ≤ 0 then
    some (0, s0)
  else
    some (1, s0))
def f_X8_isNumber_B10 (k10 : Sto → Option (Int32 × Sto)) (s0 : Sto) : Option (Int32 × Sto) :=
  (if (2 : Int32) ≤ (s0.1 8 11 0) then
    f_X8_isNumber_L72 s0
  else
    (f_X8_isDigit s0).bind fun q5 => (if q5 = 0 then
      f_X8_isNumber_L72 s0
    else
      (if 0 ≤ (s0.1 8 9 0) ∧ (s0.1 8 9 0) < 100 then nm (sF s0 8 10 0 (((10 * (s0.1 8 10 0)) + (s0.2.1 8 8 0 (Int32.toNatClampNeg (s0.1 8 9 0)))) - 48)) fun s9 => nm (sF s9 8 9 0 ((s9.1 8 9 0) + 1)) fun s10 => nm (sF s10 8 11 0 ((s10.1 8 11 0) + 1)) fun s11 => k10 s11 else none)))
def f_X8_isNumber_L10 : Nat → Sto → Option (Int32 × Sto)
  | 0 => fun _ => none
  | n + 1 => f_X8_isNumber_B10 (f_X8_isNumber_L10 n)
def f_X8_isNumber (s0 : Sto) : Option (Int32 × Sto) :=
  nm (sF s0 8 10 0 0) fun s1 => nm (sF s1 8 11 0 0) fun s2 => f_X8_isNumber_L10 1000 s2
set_option maxRecDepth 100000 in
theorem s_X8_isNumber_L72 (g : Gm) (s0 : Sto) : Rf cvIw (Em g 1) kX8_isNumber 72 [some (.ref ((Em g 1).1.1 8 0 0))] [] s0 (f_X8_isNumber_L72 s0) := by
  unfold f_X8_isNumber_L72
  refine r_aload_n dX8_isNumber_72 rfl ?_
  refine gf_X8_133 rfl dX8_isNumber_73 ?_
  refine r_ifle dX8_isNumber_76 (tgt := 83) (by decide) (fun c4 => ?_) (fun c4 => ?_)
  · refine r_iconst dX8_isNumber_83 ci_0 ?_
    exact r_zret dX8_isNumber_84 rfl rfl rfl
  · refine r_iconst dX8_isNumber_79 ci_1 ?_
    refine r_goto dX8_isNumber_80 (tgt := 84) (by decide) ?_
    exact r_zret dX8_isNumber_84 rfl rfl rfl
set_option maxRecDepth 100000 in
theorem s_X8_isNumber_B10 (g : Gm) (k10 : Sto → Option (Int32 × Sto)) (hk10 : ∀ (s0 : Sto), Rf cvIw (Em g 1) kX8_isNumber 10 [some (.ref ((Em g 1).1.1 8 0 0))] [] s0 (k10 s0)) (s0 : Sto) : Rf cvIw (Em g 1) kX8_isNumber 10 [some (.ref ((Em g 1).1.1 8 0 0))] [] s0 (f_X8_isNumber_B10 k10 s0) := by
  unfold f_X8_isNumber_B10
  refine r_aload_n dX8_isNumber_10 rfl ?_
  refine gf_X8_133 rfl dX8_isNumber_11 ?_
  refine r_iconst dX8_isNumber_14 ci_2 ?_
  refine r_icge dX8_isNumber_15 (tgt := 72) (by decide) (fun c3 => ?_) (fun c3 => ?_)
  · exact r_mask [true] (s_X8_isNumber_L72 g s0)
  · refine r_aload_n dX8_isNumber_18 rfl ?_
    refine u_X8_isDigit (ok_X8_isDigit g s0) dX8_isNumber_19 ml_X8_136 (Nat.le_of_ble_eq_true rfl) (fits_m (by decide) (by decide)) room_m (fun q5 => ?_)
    refine r_ifeq dX8_isNumber_22 (tgt := 72) (by decide) (fun c6 => ?_) (fun c6 => ?_)
    · exact r_mask [true] (s_X8_isNumber_L72 g s0)
    · refine r_aload_n dX8_isNumber_25 rfl ?_
      refine r_bipush dX8_isNumber_26 cb_10 ?_
      refine r_aload_n dX8_isNumber_28 rfl ?_
      refine gf_X8_130 rfl dX8_isNumber_29 ?_
      refine r_imul dX8_isNumber_32 ?_
      refine r_aload_n dX8_isNumber_33 rfl ?_
      refine gf_X8_27 rfl dX8_isNumber_34 ?_
      refine r_aload_n dX8_isNumber_37 rfl ?_
      refine gf_X8_127 rfl dX8_isNumber_38 ?_
      refine al_8_8 dX8_isNumber_41 (fun hg7 hj8 => ?_)
      refine r_iadd dX8_isNumber_42 ?_
      refine r_bipush dX8_isNumber_43 cb_48 ?_
      refine r_isub dX8_isNumber_45 ?_
      refine pf_X8_130 rfl dX8_isNumber_46 (fun s9 => ?_)
      refine r_aload_n dX8_isNumber_49 rfl ?_
      refine r_dup dX8_isNumber_50 rfl ?_
      refine gf_X8_127 rfl dX8_isNumber_51 ?_
      refine r_iconst dX8_isNumber_54 ci_1 ?_
      refine r_iadd dX8_isNumber_55 ?_
      refine pf_X8_127 rfl dX8_isNumber_56 (fun s10 => ?_)
      refine r_aload_n dX8_isNumber_59 rfl ?_
      refine r_dup dX8_isNumber_60 rfl ?_
      refine gf_X8_133 rfl dX8_isNumber_61 ?_
      refine r_iconst dX8_isNumber_64 ci_1 ?_
      refine r_iadd dX8_isNumber_65 ?_
      refine pf_X8_133 rfl dX8_isNumber_66 (fun s11 => ?_)
      refine r_goto dX8_isNumber_69 (tgt := 10) (by decide) ?_
      exact r_mask [true] (hk10 s11)
theorem s_X8_isNumber_L10 (g : Gm) : ∀ (n : Nat) (s0 : Sto), Rf cvIw (Em g 1) kX8_isNumber 10 [some (.ref ((Em g 1).1.1 8 0 0))] [] s0 (f_X8_isNumber_L10 n s0)
  | 0, _ => r_none
  | n + 1, s0 => s_X8_isNumber_B10 g (f_X8_isNumber_L10 n) (s_X8_isNumber_L10 g n) s0
set_option maxRecDepth 100000 in
theorem s_X8_isNumber (g : Gm) (s0 : Sto) : Rf cvIw (Em g 1) kX8_isNumber 0 [some (.ref ((Em g 1).1.1 8 0 0))] [] s0 (f_X8_isNumber s0) := by
  unfold f_X8_isNumber
  refine r_aload_n dX8_isNumber_0 rfl ?_
  refine r_iconst dX8_isNumber_1 ci_0 ?_
  refine pf_X8_130 rfl dX8_isNumber_2 (fun s1 => ?_)
  refine r_aload_n dX8_isNumber_5 rfl ?_
  refine r_iconst dX8_isNumber_6 ci_0 ?_
  refine pf_X8_133 rfl dX8_isNumber_7 (fun s2 => ?_)
  exact r_mask [true] (s_X8_isNumber_L10 g 1000 s2)
theorem ok_X8_isNumber (g : Gm) (s0 : Sto) : Ok g yX8_isNumber kX8_isNumber 1 [.ref ((Em g 1).1.1 8 0 0)] s0 cvIw (f_X8_isNumber s0) := Ok.of (by decide) rfl (Nat.le_of_ble_eq_true rfl) (lv := [some (.ref ((Em g 1).1.1 8 0 0))]) rfl (s_X8_isNumber g s0)
theorem u_X8_isNumber {α : Type} {cv : α → Res} {E : EE} {K : KK} {pc npc idx d : Nat} {lv : List (Option Value)} {st : List Value} {σ : Sto} {oc : Option (Int32 × Sto)} {kf : (Int32 × Sto) → Option α} (hOk : Ok E.1 yX8_isNumber kX8_isNumber d [.ref (E.1.1 8 0 0)] σ cvIw oc) (hd : Dc K pc (.invokevirtual idx) 3 npc) (hlk : Cond.methodLink K.2.1 idx yX8_isNumber ∈ lw_good) (hw : (st.map fun v => v.category).sum ≤ 8) (hfit : fits_ E d 1) (hrm : room_ok E) (kk : ∀ q : Int32 × Sto, Rf cv E K npc lv (.int q.1 :: st) q.2 (kf q)) : Rf cv E K pc lv (.ref (E.1.1 8 0 0) :: st) σ (oc.bind kf) := c_V (n := 0) (as := []) (c0 := 8) (i := 0) (CC := "ThawGivesModel") (T := TX8) (N := 43) hd hOk hlk wi_X8_isNumber wv_X8_isNumber wn_X8 wc_X8_isNumber rfl (by decide) (by decide) ⟨by decide, by decide, by decide⟩ rfl rfl hw hfit hrm (fun b _ => kk b)
def f_X8_codes (s0 : Sto) (x1 : Int32) : Option (Int32 × Sto) :=
  nm (sF s0 8 21 0 ((s0.1 8 21 0) + 1)) fun s1 => (if 0 ≤ (s0.1 8 21 0) ∧ (s0.1 8 21 0) < 800 then nm (sA s1 8 20 0 (upd (s1.2.1 8 20 0) (Int32.toNatClampNeg (s0.1 8 21 0)) x1)) fun s4 => some (1, s4) else none)
set_option maxRecDepth 100000 in
theorem s_X8_codes (g : Gm) (s0 : Sto) (x1 : Int32) : Rf cvIw (Em g 0) kX8_codes 0 [some (.ref ((Em g 0).1.1 8 0 0)), some (.int x1)] [] s0 (f_X8_codes s0 x1) := by
  unfold f_X8_codes
  refine r_aload_n dX8_codes_0 rfl ?_
  refine gf_X8_45 rfl dX8_codes_1 ?_
  refine r_aload_n dX8_codes_4 rfl ?_
  refine r_dup dX8_codes_5 rfl ?_
  refine gf_X8_152 rfl dX8_codes_6 ?_
  refine r_dup_x1 dX8_codes_9 rfl rfl ?_
  refine r_iconst dX8_codes_10 ci_1 ?_
  refine r_iadd dX8_codes_11 ?_
  refine pf_X8_152 rfl dX8_codes_12 (fun s1 => ?_)
  refine r_iload_n dX8_codes_15 rfl ?_
  refine as_8_20 dX8_codes_16 (fun hg2 hj3 s4 => ?_)
  refine r_iconst dX8_codes_17 ci_1 ?_
  exact r_zret dX8_codes_18 rfl rfl rfl
theorem ok_X8_codes (g : Gm) (s0 : Sto) (x1 : Int32) : Ok g yX8_codes kX8_codes 0 [.ref ((Em g 0).1.1 8 0 0), .int x1] s0 cvIw (f_X8_codes s0 x1) := Ok.of (by decide) rfl (Nat.le_of_ble_eq_true rfl) (lv := [some (.ref ((Em g 0).1.1 8 0 0)), some (.int x1)]) rfl (s_X8_codes g s0 x1)
theorem u_X8_codes {α : Type} {cv : α → Res} {E : EE} {K : KK} {pc npc idx d : Nat} {lv : List (Option Value)} {st : List Value} {σ : Sto} {oc : Option (Int32 × Sto)} {kf : (Int32 × Sto) → Option α} {x1 : Int32} (hOk : Ok E.1 yX8_codes kX8_codes d [.ref (E.1.1 8 0 0), .int x1] σ cvIw oc) (hd : Dc K pc (.invokevirtual idx) 3 npc) (hlk : Cond.methodLink K.2.1 idx yX8_codes ∈ lw_good) (hw : (st.map fun v => v.category).sum ≤ 8) (hfit : fits_ E d 2) (hrm : room_ok E) (kk : ∀ q : Int32 × Sto, Rf cv E K npc lv (.int q.1 :: st) q.2 (kf q)) : Rf cv E K pc lv (.int x1 :: .ref (E.1.1 8 0 0) :: st) σ (oc.bind kf) := c_V (n := 1) (as := [.int x1]) (c0 := 8) (i := 0) (CC := "ThawGivesModel") (T := TX8) (N := 43) hd hOk hlk wi_X8_codes wv_X8_codes wn_X8 wc_X8_codes rfl (by decide) (by decide) ⟨by decide, by decide, by decide⟩ rfl rfl hw hfit hrm (fun b _ => kk b)
def f_X8_isOpened (s0 : Sto) (x1 : Int32) : Option (Int32 × Sto) :=
  (if (s0.1 8 12 0) = 4 then
    some (0, s0)
  else
    (f_X8_is s0 x1).bind fun q2 => (if q2.1 = 0 then
      some (0, q2.2)
    else
      nm (sF q2.2 8 12 0 ((q2.2.1 8 12 0) + 1)) fun s4 => some (1, s4)))
set_option maxRecDepth 100000 in
theorem s_X8_isOpened (g : Gm) (s0 : Sto) (x1 : Int32) : Rf cvIw (Em g 1) kX8_isOpened 0 [some (.ref ((Em g 1).1.1 8 0 0)), some (.int x1)] [] s0 (f_X8_isOpened s0 x1) := by
  unfold f_X8_isOpened
  refine r_aload_n dX8_isOpened_0 rfl ?_
  refine gf_X8_168 rfl dX8_isOpened_1 ?_
  refine r_iconst dX8_isOpened_4 ci_4 ?_
  refine r_iceq dX8_isOpened_5 (tgt := 16) (by decide) (fun c1 => ?_) (fun c1 => ?_)
  · refine r_iconst dX8_isOpened_16 ci_0 ?_
    exact r_zret dX8_isOpened_17 rfl rfl rfl
  · refine r_aload_n dX8_isOpened_8 rfl ?_
    refine r_iload_n dX8_isOpened_9 rfl ?_
    refine u_X8_is (ok_X8_is g s0 x1) dX8_isOpened_10 ml_X8_149 (Nat.le_of_ble_eq_true rfl) (fits_m (by decide) (by decide)) room_m (fun q2 => ?_)
    refine r_ifne dX8_isOpened_13 (tgt := 18) (by decide) (fun c3 => ?_) (fun c3 => ?_)
    · refine r_iconst dX8_isOpened_16 ci_0 ?_
      exact r_zret dX8_isOpened_17 rfl rfl rfl
    · refine r_aload_n dX8_isOpened_18 rfl ?_
      refine r_dup dX8_isOpened_19 rfl ?_
      refine gf_X8_168 rfl dX8_isOpened_20 ?_
      refine r_iconst dX8_isOpened_23 ci_1 ?_
      refine r_iadd dX8_isOpened_24 ?_
      refine pf_X8_168 rfl dX8_isOpened_25 (fun s4 => ?_)
      refine r_iconst dX8_isOpened_28 ci_1 ?_
      exact r_zret dX8_isOpened_29 rfl rfl rfl
theorem ok_X8_isOpened (g : Gm) (s0 : Sto) (x1 : Int32) : Ok g yX8_isOpened kX8_isOpened 1 [.ref ((Em g 1).1.1 8 0 0), .int x1] s0 cvIw (f_X8_isOpened s0 x1) := Ok.of (by decide) rfl (Nat.le_of_ble_eq_true rfl) (lv := [some (.ref ((Em g 1).1.1 8 0 0)), some (.int x1)]) rfl (s_X8_isOpened g s0 x1)
theorem u_X8_isOpened {α : Type} {cv : α → Res} {E : EE} {K : KK} {pc npc idx d : Nat} {lv : List (Option Value)} {st : List Value} {σ : Sto} {oc : Option (Int32 × Sto)} {kf : (Int32 × Sto) → Option α} {x1 : Int32} (hOk : Ok E.1 yX8_isOpened kX8_isOpened d [.ref (E.1.1 8 0 0), .int x1] σ cvIw oc) (hd : Dc K pc (.invokevirtual idx) 3 npc) (hlk : Cond.methodLink K.2.1 idx yX8_isOpened ∈ lw_good) (hw : (st.map fun v => v.category).sum ≤ 8) (hfit : fits_ E d 2) (hrm : room_ok E) (kk : ∀ q : Int32 × Sto, Rf cv E K npc lv (.int q.1 :: st) q.2 (kf q)) : Rf cv E K pc lv (.int x1 :: .ref (E.1.1 8 0 0) :: st) σ (oc.bind kf) := c_V (n := 1) (as := [.int x1]) (c0 := 8) (i := 0) (CC := "ThawGivesModel") (T := TX8) (N := 43) hd hOk hlk wi_X8_isOpened wv_X8_isOpened wn_X8 wc_X8_isOpened rfl (by decide) (by decide) ⟨by decide, by decide, by decide⟩ rfl rfl hw hfit hrm (fun b _ => kk b)
def f_X8_isTest_L99 (s0 : Sto) (x1 : Int32) (y0 : Int32) : Option (Int32 × Sto) :=
  (if 0 ≤ y0 then
    nm (sF s0 8 9 0 ((s0.1 8 9 0) + 1)) fun s6 => (f_X8_isNumber s6).bind fun q7 => (if q7.1 = 0 then
      some (0, q7.2)
    else
      (f_X8_codes q7.2 (((3 + (300 * x1)) + (100 * y0)) + (q7.2.1 8 10 0))).bind fun q9 => (if q9.1 = 0 then
        some (0, q9.2)
      else
        some (1, q9.2)))
  else
    some (0, s0))
def f_X8_isTest_L98 (s0 : Sto) (x1 : Int32) : Option (Int32 × Sto) :=
  f_X8_isTest_L99 s0 x1 (-1 : Int32)
def f_X8_isTest_L41 (s0 : Sto) (y0 : Int32) : Option (Int32 × Sto) :=
  (if 0 ≤ y0 then
    nm (sF s0 8 9 0 ((s0.1 8 9 0) + 1)) fun s3 => (if (s3.1 8 7 0) ≤ (s3.1 8 9 0) then
      f_X8_isTest_L98 s3 y0
    else
      (if 0 ≤ (s3.1 8 9 0) ∧ (s3.1 8 9 0) < 100 then (if (s3.2.1 8 8 0 (Int32.toNatClampNeg (s3.1 8 9 0))) ≤ 0 then
        f_X8_isTest_L98 s3 y0
      else
        (if 0 ≤ (s3.1 8 9 0) ∧ (s3.1 8 9 0) < 100 then (f_J0_indexOf_0f7a4 4 (s3.2.1 8 8 0 (Int32.toNatClampNeg (s3.1 8 9 0)))).bind fun q16 => f_X8_isTest_L99 s3 y0 q16 else none)) else none))
  else
    some (0, s0))
def f_X8_isTest_L40 (s0 : Sto) : Option (Int32 × Sto) :=
  f_X8_isTest_L41 s0 (-1 : Int32)
def f_X8_isTest (s0 : Sto) : Option (Int32 × Sto) :=
  (if (s0.1 8 7 0) ≤ (s0.1 8 9 0) then
    f_X8_isTest_L40 s0
  else
    (if 0 ≤ (s0.1 8 9 0) ∧ (s0.1 8 9 0) < 100 then (if (s0.2.1 8 8 0 (Int32.toNatClampNeg (s0.1 8 9 0))) ≤ 0 then
      f_X8_isTest_L40 s0
    else
      (if 0 ≤ (s0.1 8 9 0) ∧ (s0.1 8 9 0) < 100 then (f_J0_indexOf_0f7a4 3 (s0.2.1 8 8 0 (Int32.toNatClampNeg (s0.1 8 9 0)))).bind fun q22 => f_X8_isTest_L41 s0 q22 else none)) else none))
set_option maxRecDepth 100000 in
theorem s_X8_isTest_L99 (g : Gm) (s0 : Sto) (x1 : Int32) (y0 : Int32) : Rf cvIw (Em g 4) kX8_isTest 99 [some (.ref ((Em g 4).1.1 8 0 0)), some (.int x1), none] [.int y0] s0 (f_X8_isTest_L99 s0 x1 y0) := by
  unfold f_X8_isTest_L99
  refine r_istore_n dX8_isTest_99 rfl (lt_b rfl) (lt_b rfl) ?_
  refine r_iload_n dX8_isTest_100 rfl ?_
  refine r_ifge dX8_isTest_101 (tgt := 106) (by decide) (fun c5 => ?_) (fun c5 => ?_)
  · refine r_aload_n dX8_isTest_106 rfl ?_
    refine r_dup dX8_isTest_107 rfl ?_
    refine gf_X8_127 rfl dX8_isTest_108 ?_
    refine r_iconst dX8_isTest_111 ci_1 ?_
    refine r_iadd dX8_isTest_112 ?_
    refine pf_X8_127 rfl dX8_isTest_113 (fun s6 => ?_)
    refine r_aload_n dX8_isTest_116 rfl ?_
    refine u_X8_isNumber (ok_X8_isNumber g s6) dX8_isTest_117 ml_X8_162 (Nat.le_of_ble_eq_true rfl) (fits_m (by decide) (by decide)) room_m (fun q7 => ?_)
    refine r_ifeq dX8_isTest_120 (tgt := 151) (by decide) (fun c8 => ?_) (fun c8 => ?_)
    · refine r_iconst dX8_isTest_151 ci_0 ?_
      exact r_zret dX8_isTest_152 rfl rfl rfl
    · refine r_aload_n dX8_isTest_123 rfl ?_
      refine r_iconst dX8_isTest_124 ci_3 ?_
      refine r_sipush dX8_isTest_125 cs_300 ?_
      refine r_iload_n dX8_isTest_128 rfl ?_
      refine r_imul dX8_isTest_129 ?_
      refine r_iadd dX8_isTest_130 ?_
      refine r_bipush dX8_isTest_131 cb_100 ?_
      refine r_iload_n dX8_isTest_133 rfl ?_
      refine r_imul dX8_isTest_134 ?_
      refine r_iadd dX8_isTest_135 ?_
      refine r_aload_n dX8_isTest_136 rfl ?_
      refine gf_X8_130 rfl dX8_isTest_137 ?_
      refine r_iadd dX8_isTest_140 ?_
      refine u_X8_codes (ok_X8_codes g q7.2 (((3 + (300 * x1)) + (100 * y0)) + (q7.2.1 8 10 0))) dX8_isTest_141 ml_X8_165 (Nat.le_of_ble_eq_true rfl) (fits_m (by decide) (by decide)) room_m (fun q9 => ?_)
      refine r_ifeq dX8_isTest_144 (tgt := 151) (by decide) (fun c10 => ?_) (fun c10 => ?_)
      · refine r_iconst dX8_isTest_151 ci_0 ?_
        exact r_zret dX8_isTest_152 rfl rfl rfl
      · refine r_iconst dX8_isTest_147 ci_1 ?_
        refine r_goto dX8_isTest_148 (tgt := 152) (by decide) ?_
        exact r_zret dX8_isTest_152 rfl rfl rfl
  · refine r_iconst dX8_isTest_104 ci_0 ?_
    exact r_zret dX8_isTest_105 rfl rfl rfl
set_option maxRecDepth 100000 in
theorem s_X8_isTest_L98 (g : Gm) (s0 : Sto) (x1 : Int32) : Rf cvIw (Em g 4) kX8_isTest 98 [some (.ref ((Em g 4).1.1 8 0 0)), some (.int x1), none] [] s0 (f_X8_isTest_L98 s0 x1) := by
  unfold f_X8_isTest_L98
  refine r_iconst dX8_isTest_98 ci_m1 ?_
  exact r_mask [true, true, false] (s_X8_isTest_L99 g s0 x1 (-1 : Int32))
set_option maxRecDepth 100000 in
theorem s_X8_isTest_L41 (g : Gm) (s0 : Sto) (y0 : Int32) : Rf cvIw (Em g 4) kX8_isTest 41 [some (.ref ((Em g 4).1.1 8 0 0)), none, none] [.int y0] s0 (f_X8_isTest_L41 s0 y0) := by
  unfold f_X8_isTest_L41
  refine r_istore_n dX8_isTest_41 rfl (lt_b rfl) (lt_b rfl) ?_
  refine r_iload_n dX8_isTest_42 rfl ?_
  refine r_ifge dX8_isTest_43 (tgt := 48) (by decide) (fun c2 => ?_) (fun c2 => ?_)
  · refine r_aload_n dX8_isTest_48 rfl ?_
    refine r_dup dX8_isTest_49 rfl ?_
    refine gf_X8_127 rfl dX8_isTest_50 ?_
    refine r_iconst dX8_isTest_53 ci_1 ?_
    refine r_iadd dX8_isTest_54 ?_
    refine pf_X8_127 rfl dX8_isTest_55 (fun s3 => ?_)
    refine r_aload_n dX8_isTest_58 rfl ?_
    refine gf_X8_127 rfl dX8_isTest_59 ?_
    refine r_aload_n dX8_isTest_62 rfl ?_
    refine gf_X8_124 rfl dX8_isTest_63 ?_
    refine r_icge dX8_isTest_66 (tgt := 98) (by decide) (fun c4 => ?_) (fun c4 => ?_)
    · exact r_mask [true, true, false] (s_X8_isTest_L98 g s3 y0)
    · refine r_aload_n dX8_isTest_69 rfl ?_
      refine gf_X8_27 rfl dX8_isTest_70 ?_
      refine r_aload_n dX8_isTest_73 rfl ?_
      refine gf_X8_127 rfl dX8_isTest_74 ?_
      refine al_8_8 dX8_isTest_77 (fun hg11 hj12 => ?_)
      refine r_ifle dX8_isTest_78 (tgt := 98) (by decide) (fun c13 => ?_) (fun c13 => ?_)
      · exact r_mask [true, true, false] (s_X8_isTest_L98 g s3 y0)
      · refine r_ldcS dX8_isTest_81 st_X8_160 ?_
        refine r_aload_n dX8_isTest_83 rfl ?_
        refine gf_X8_27 rfl dX8_isTest_84 ?_
        refine r_aload_n dX8_isTest_87 rfl ?_
        refine gf_X8_127 rfl dX8_isTest_88 ?_
        refine al_8_8 dX8_isTest_91 (fun hg14 hj15 => ?_)
        refine u_J0_indexOf_0f7a4 (ok_J0_indexOf_0f7a4 g s3 4 (s3.2.1 8 8 0 (Int32.toNatClampNeg (s3.1 8 9 0))) (by decide)) dX8_isTest_92 ml_X8_157 (by decide) (Nat.le_of_ble_eq_true rfl) (fits_m (by decide) (by decide)) room_m (fun q16 => ?_)
        refine r_goto dX8_isTest_95 (tgt := 99) (by decide) ?_
        exact r_mask [true, true, false] (s_X8_isTest_L99 g s3 y0 q16)
  · refine r_iconst dX8_isTest_46 ci_0 ?_
    exact r_zret dX8_isTest_47 rfl rfl rfl
set_option maxRecDepth 100000 in
theorem s_X8_isTest_L40 (g : Gm) (s0 : Sto) : Rf cvIw (Em g 4) kX8_isTest 40 [some (.ref ((Em g 4).1.1 8 0 0)), none, none] [] s0 (f_X8_isTest_L40 s0) := by
  unfold f_X8_isTest_L40
  refine r_iconst dX8_isTest_40 ci_m1 ?_
  exact r_mask [true, false, false] (s_X8_isTest_L41 g s0 (-1 : Int32))
set_option maxRecDepth 100000 in
theorem s_X8_isTest (g : Gm) (s0 : Sto) : Rf cvIw (Em g 4) kX8_isTest 0 [some (.ref ((Em g 4).1.1 8 0 0)), none, none] [] s0 (f_X8_isTest s0) := by
  unfold f_X8_isTest
  refine r_aload_n dX8_isTest_0 rfl ?_
  refine gf_X8_127 rfl dX8_isTest_1 ?_
  refine r_aload_n dX8_isTest_4 rfl ?_
  refine gf_X8_124 rfl dX8_isTest_5 ?_
  refine r_icge dX8_isTest_8 (tgt := 40) (by decide) (fun c1 => ?_) (fun c1 => ?_)
  · exact r_mask [true, false, false] (s_X8_isTest_L40 g s0)
  · refine r_aload_n dX8_isTest_11 rfl ?_
    refine gf_X8_27 rfl dX8_isTest_12 ?_
    refine r_aload_n dX8_isTest_15 rfl ?_
    refine gf_X8_127 rfl dX8_isTest_16 ?_
    refine al_8_8 dX8_isTest_19 (fun hg17 hj18 => ?_)
    refine r_ifle dX8_isTest_20 (tgt := 40) (by decide) (fun c19 => ?_) (fun c19 => ?_)
    · exact r_mask [true, false, false] (s_X8_isTest_L40 g s0)
    · refine r_ldcS dX8_isTest_23 st_X8_155 ?_
      refine r_aload_n dX8_isTest_25 rfl ?_
      refine gf_X8_27 rfl dX8_isTest_26 ?_
      refine r_aload_n dX8_isTest_29 rfl ?_
      refine gf_X8_127 rfl dX8_isTest_30 ?_
      refine al_8_8 dX8_isTest_33 (fun hg20 hj21 => ?_)
      refine u_J0_indexOf_0f7a4 (ok_J0_indexOf_0f7a4 g s0 3 (s0.2.1 8 8 0 (Int32.toNatClampNeg (s0.1 8 9 0))) (by decide)) dX8_isTest_34 ml_X8_157 (by decide) (Nat.le_of_ble_eq_true rfl) (fits_m (by decide) (by decide)) room_m (fun q22 => ?_)
      refine r_goto dX8_isTest_37 (tgt := 41) (by decide) ?_
      exact r_mask [true, false, false] (s_X8_isTest_L41 g s0 q22)
theorem ok_X8_isTest (g : Gm) (s0 : Sto) : Ok g yX8_isTest kX8_isTest 4 [.ref ((Em g 4).1.1 8 0 0)] s0 cvIw (f_X8_isTest s0) := Ok.of (by decide) rfl (Nat.le_of_ble_eq_true rfl) (lv := [some (.ref ((Em g 4).1.1 8 0 0)), none, none]) rfl (s_X8_isTest g s0)
theorem u_X8_isTest {α : Type} {cv : α → Res} {E : EE} {K : KK} {pc npc idx d : Nat} {lv : List (Option Value)} {st : List Value} {σ : Sto} {oc : Option (Int32 × Sto)} {kf : (Int32 × Sto) → Option α} (hOk : Ok E.1 yX8_isTest kX8_isTest d [.ref (E.1.1 8 0 0)] σ cvIw oc) (hd : Dc K pc (.invokevirtual idx) 3 npc) (hlk : Cond.methodLink K.2.1 idx yX8_isTest ∈ lw_good) (hw : (st.map fun v => v.category).sum ≤ 8) (hfit : fits_ E d 3) (hrm : room_ok E) (kk : ∀ q : Int32 × Sto, Rf cv E K npc lv (.int q.1 :: st) q.2 (kf q)) : Rf cv E K pc lv (.ref (E.1.1 8 0 0) :: st) σ (oc.bind kf) := c_V (n := 0) (as := []) (c0 := 8) (i := 0) (CC := "ThawGivesModel") (T := TX8) (N := 43) hd hOk hlk wi_X8_isTest wv_X8_isTest wn_X8 wc_X8_isTest rfl (by decide) (by decide) ⟨by decide, by decide, by decide⟩ rfl rfl hw hfit hrm (fun b _ => kk b)
theorem u_X8_isF {α : Type} {cv : α → Res} {E : EE} {K : KK} {pc npc idx d : Nat} {lv : List (Option Value)} {st : List Value} {σ : Sto} {oc : Option (Int32 × Sto)} {kf : (Int32 × Sto) → Option α} (hOk : Ok E.1 yX8_isF kX8_isF d [.ref (E.1.1 8 0 0)] σ cvIw oc) (hd : Dc K pc (.invokevirtual idx) 3 npc) (hlk : Cond.methodLink K.2.1 idx yX8_isF ∈ lw_good) (hw : (st.map fun v => v.category).sum ≤ 8) (hfit : fits_ E d 2) (hrm : room_ok E) (kk : ∀ q : Int32 × Sto, Rf cv E K npc lv (.int q.1 :: st) q.2 (kf q)) : Rf cv E K pc lv (.ref (E.1.1 8 0 0) :: st) σ (oc.bind kf) := c_V (n := 0) (as := []) (c0 := 8) (i := 0) (CC := "ThawGivesModel") (T := TX8) (N := 43) hd hOk hlk wi_X8_isF wv_X8_isF wn_X8 wc_X8_isF rfl (by decide) (by decide) ⟨by decide, by decide, by decide⟩ rfl rfl hw hfit hrm (fun b _ => kk b)
def f_X8_isT_B9 (q : Sto → Option (Int32 × Sto)) (k9 : Sto → Option (Int32 × Sto)) (s0 : Sto) : Option (Int32 × Sto) :=
  (f_X8_is s0 38).bind fun q3 => (if q3.1 = 0 then
    some (1, q3.2)
  else
    (q q3.2).bind fun q5 => (if q5.1 = 0 then
      some (0, q5.2)
    else
      (f_X8_codes q5.2 1).bind fun q7 => (if q7.1 = 0 then
        some (0, q7.2)
      else
        k9 q7.2)))
def f_X8_isT_L9 (q : Sto → Option (Int32 × Sto)) : Nat → Sto → Option (Int32 × Sto)
  | 0 => fun _ => none
  | n + 1 => f_X8_isT_B9 q (f_X8_isT_L9 q n)
def f_X8_isT (q : Sto → Option (Int32 × Sto)) (s0 : Sto) : Option (Int32 × Sto) :=
  (q s0).bind fun q1 => (if q1.1 = 0 then
    some (0, q1.2)
  else
    f_X8_isT_L9 q 1000 q1.2)
set_option maxRecDepth 100000 in
theorem s_X8_isT_B9 (g : Gm) (D0 : Nat) (hD0 : 5 ≤ D0) (q : Sto → Option (Int32 × Sto)) (hq : ∀ (s0 : Sto), Ok g yX8_isF kX8_isF D0 [.ref (g.1 8 0 0)] s0 cvIw (q s0)) (k9 : Sto → Option (Int32 × Sto)) (hk9 : ∀ (s0 : Sto), Rf cvIw (Em g (D0 + 1)) kX8_isT 9 [some (.ref ((Em g (D0 + 1)).1.1 8 0 0))] [] s0 (k9 s0)) (s0 : Sto) : Rf cvIw (Em g (D0 + 1)) kX8_isT 9 [some (.ref ((Em g (D0 + 1)).1.1 8 0 0))] [] s0 (f_X8_isT_B9 q k9 s0) := by
  unfold f_X8_isT_B9
  refine r_aload_n dX8_isT_9 rfl ?_
  refine r_bipush dX8_isT_10 cb_38 ?_
  refine u_X8_is (ok_X8_is g s0 38) dX8_isT_12 ml_X8_149 (Nat.le_of_ble_eq_true rfl) (fits_m (by omega) (by decide)) room_m (fun q3 => ?_)
  refine r_ifeq dX8_isT_15 (tgt := 35) (by decide) (fun c4 => ?_) (fun c4 => ?_)
  · refine r_iconst dX8_isT_35 ci_1 ?_
    exact r_zret dX8_isT_36 rfl rfl rfl
  · refine r_aload_n dX8_isT_18 rfl ?_
    refine u_X8_isF (hq q3.2) dX8_isT_19 ml_X8_174 (Nat.le_of_ble_eq_true rfl) (fits_m (by omega) (by decide)) room_m (fun q5 => ?_)
    refine r_ifeq dX8_isT_22 (tgt := 33) (by decide) (fun c6 => ?_) (fun c6 => ?_)
    · refine r_iconst dX8_isT_33 ci_0 ?_
      exact r_zret dX8_isT_34 rfl rfl rfl
    · refine r_aload_n dX8_isT_25 rfl ?_
      refine r_iconst dX8_isT_26 ci_1 ?_
      refine u_X8_codes (ok_X8_codes g q5.2 1) dX8_isT_27 ml_X8_165 (Nat.le_of_ble_eq_true rfl) (fits_m (by omega) (by decide)) room_m (fun q7 => ?_)
      refine r_ifne dX8_isT_30 (tgt := 9) (by decide) (fun c8 => ?_) (fun c8 => ?_)
      · refine r_iconst dX8_isT_33 ci_0 ?_
        exact r_zret dX8_isT_34 rfl rfl rfl
      · exact r_mask [true] (hk9 q7.2)
theorem s_X8_isT_L9 (g : Gm) (D0 : Nat) (hD0 : 5 ≤ D0) (q : Sto → Option (Int32 × Sto)) (hq : ∀ (s0 : Sto), Ok g yX8_isF kX8_isF D0 [.ref (g.1 8 0 0)] s0 cvIw (q s0)) : ∀ (n : Nat) (s0 : Sto), Rf cvIw (Em g (D0 + 1)) kX8_isT 9 [some (.ref ((Em g (D0 + 1)).1.1 8 0 0))] [] s0 (f_X8_isT_L9 q n s0)
  | 0, _ => r_none
  | n + 1, s0 => s_X8_isT_B9 g D0 hD0 q hq (f_X8_isT_L9 q n) (s_X8_isT_L9 g D0 hD0 q hq n) s0
set_option maxRecDepth 100000 in
theorem s_X8_isT (g : Gm) (D0 : Nat) (hD0 : 5 ≤ D0) (q : Sto → Option (Int32 × Sto)) (hq : ∀ (s0 : Sto), Ok g yX8_isF kX8_isF D0 [.ref (g.1 8 0 0)] s0 cvIw (q s0)) (s0 : Sto) : Rf cvIw (Em g (D0 + 1)) kX8_isT 0 [some (.ref ((Em g (D0 + 1)).1.1 8 0 0))] [] s0 (f_X8_isT q s0) := by
  unfold f_X8_isT
  refine r_aload_n dX8_isT_0 rfl ?_
  refine u_X8_isF (hq s0) dX8_isT_1 ml_X8_174 (Nat.le_of_ble_eq_true rfl) (fits_m (by omega) (by decide)) room_m (fun q1 => ?_)
  refine r_ifne dX8_isT_4 (tgt := 9) (by decide) (fun c2 => ?_) (fun c2 => ?_)
  · refine r_iconst dX8_isT_7 ci_0 ?_
    exact r_zret dX8_isT_8 rfl rfl rfl
  · exact r_mask [true] (s_X8_isT_L9 g D0 hD0 q hq 1000 q1.2)
theorem ok_X8_isT (g : Gm) (D0 : Nat) (hD0 : 5 ≤ D0) (q : Sto → Option (Int32 × Sto)) (hq : ∀ (s0 : Sto), Ok g yX8_isF kX8_isF D0 [.ref (g.1 8 0 0)] s0 cvIw (q s0)) (s0 : Sto) : Ok g yX8_isT kX8_isT (D0 + 1) [.ref ((Em g (D0 + 1)).1.1 8 0 0)] s0 cvIw (f_X8_isT q s0) := Ok.of (by decide) rfl (Nat.le_of_ble_eq_true rfl) (lv := [some (.ref ((Em g (D0 + 1)).1.1 8 0 0))]) rfl (s_X8_isT g D0 hD0 q hq s0)
theorem u_X8_isT {α : Type} {cv : α → Res} {E : EE} {K : KK} {pc npc idx d : Nat} {lv : List (Option Value)} {st : List Value} {σ : Sto} {oc : Option (Int32 × Sto)} {kf : (Int32 × Sto) → Option α} (hOk : Ok E.1 yX8_isT kX8_isT d [.ref (E.1.1 8 0 0)] σ cvIw oc) (hd : Dc K pc (.invokevirtual idx) 3 npc) (hlk : Cond.methodLink K.2.1 idx yX8_isT ∈ lw_good) (hw : (st.map fun v => v.category).sum ≤ 8) (hfit : fits_ E d 1) (hrm : room_ok E) (kk : ∀ q : Int32 × Sto, Rf cv E K npc lv (.int q.1 :: st) q.2 (kf q)) : Rf cv E K pc lv (.ref (E.1.1 8 0 0) :: st) σ (oc.bind kf) := c_V (n := 0) (as := []) (c0 := 8) (i := 0) (CC := "ThawGivesModel") (T := TX8) (N := 43) hd hOk hlk wi_X8_isT wv_X8_isT wn_X8 wc_X8_isT rfl (by decide) (by decide) ⟨by decide, by decide, by decide⟩ rfl rfl hw hfit hrm (fun b _ => kk b)
def f_X8_isE_B9 (q : Sto → Option (Int32 × Sto)) (k9 : Sto → Option (Int32 × Sto)) (s0 : Sto) : Option (Int32 × Sto) :=
  (f_X8_is s0 124).bind fun q3 => (if q3.1 = 0 then
    some (1, q3.2)
  else
    (f_X8_isT q q3.2).bind fun q5 => (if q5.1 = 0 then
      some (0, q5.2)
    else
      (f_X8_codes q5.2 2).bind fun q7 => (if q7.1 = 0 then
        some (0, q7.2)
      else
        k9 q7.2)))
def f_X8_isE_L9 (q : Sto → Option (Int32 × Sto)) : Nat → Sto → Option (Int32 × Sto)
  | 0 => fun _ => none
  | n + 1 => f_X8_isE_B9 q (f_X8_isE_L9 q n)
def f_X8_isE (q : Sto → Option (Int32 × Sto)) (s0 : Sto) : Option (Int32 × Sto) :=
  (f_X8_isT q s0).bind fun q1 => (if q1.1 = 0 then
    some (0, q1.2)
  else
    f_X8_isE_L9 q 1000 q1.2)
set_option maxRecDepth 100000 in
theorem s_X8_isE_B9 (g : Gm) (D0 : Nat) (hD0 : 5 ≤ D0) (q : Sto → Option (Int32 × Sto)) (hq : ∀ (s0 : Sto), Ok g yX8_isF kX8_isF D0 [.ref (g.1 8 0 0)] s0 cvIw (q s0)) (k9 : Sto → Option (Int32 × Sto)) (hk9 : ∀ (s0 : Sto), Rf cvIw (Em g (D0 + 2)) kX8_isE 9 [some (.ref ((Em g (D0 + 2)).1.1 8 0 0))] [] s0 (k9 s0)) (s0 : Sto) : Rf cvIw (Em g (D0 + 2)) kX8_isE 9 [some (.ref ((Em g (D0 + 2)).1.1 8 0 0))] [] s0 (f_X8_isE_B9 q k9 s0) := by
  unfold f_X8_isE_B9
  refine r_aload_n dX8_isE_9 rfl ?_
  refine r_bipush dX8_isE_10 cb_124 ?_
  refine u_X8_is (ok_X8_is g s0 124) dX8_isE_12 ml_X8_149 (Nat.le_of_ble_eq_true rfl) (fits_m (by omega) (by decide)) room_m (fun q3 => ?_)
  refine r_ifeq dX8_isE_15 (tgt := 35) (by decide) (fun c4 => ?_) (fun c4 => ?_)
  · refine r_iconst dX8_isE_35 ci_1 ?_
    exact r_zret dX8_isE_36 rfl rfl rfl
  · refine r_aload_n dX8_isE_18 rfl ?_
    refine u_X8_isT (ok_X8_isT g D0 hD0 q hq q3.2) dX8_isE_19 ml_X8_183 (Nat.le_of_ble_eq_true rfl) (fits_m (by omega) (by decide)) room_m (fun q5 => ?_)
    refine r_ifeq dX8_isE_22 (tgt := 33) (by decide) (fun c6 => ?_) (fun c6 => ?_)
    · refine r_iconst dX8_isE_33 ci_0 ?_
      exact r_zret dX8_isE_34 rfl rfl rfl
    · refine r_aload_n dX8_isE_25 rfl ?_
      refine r_iconst dX8_isE_26 ci_2 ?_
      refine u_X8_codes (ok_X8_codes g q5.2 2) dX8_isE_27 ml_X8_165 (Nat.le_of_ble_eq_true rfl) (fits_m (by omega) (by decide)) room_m (fun q7 => ?_)
      refine r_ifne dX8_isE_30 (tgt := 9) (by decide) (fun c8 => ?_) (fun c8 => ?_)
      · refine r_iconst dX8_isE_33 ci_0 ?_
        exact r_zret dX8_isE_34 rfl rfl rfl
      · exact r_mask [true] (hk9 q7.2)
theorem s_X8_isE_L9 (g : Gm) (D0 : Nat) (hD0 : 5 ≤ D0) (q : Sto → Option (Int32 × Sto)) (hq : ∀ (s0 : Sto), Ok g yX8_isF kX8_isF D0 [.ref (g.1 8 0 0)] s0 cvIw (q s0)) : ∀ (n : Nat) (s0 : Sto), Rf cvIw (Em g (D0 + 2)) kX8_isE 9 [some (.ref ((Em g (D0 + 2)).1.1 8 0 0))] [] s0 (f_X8_isE_L9 q n s0)
  | 0, _ => r_none
  | n + 1, s0 => s_X8_isE_B9 g D0 hD0 q hq (f_X8_isE_L9 q n) (s_X8_isE_L9 g D0 hD0 q hq n) s0
set_option maxRecDepth 100000 in
theorem s_X8_isE (g : Gm) (D0 : Nat) (hD0 : 5 ≤ D0) (q : Sto → Option (Int32 × Sto)) (hq : ∀ (s0 : Sto), Ok g yX8_isF kX8_isF D0 [.ref (g.1 8 0 0)] s0 cvIw (q s0)) (s0 : Sto) : Rf cvIw (Em g (D0 + 2)) kX8_isE 0 [some (.ref ((Em g (D0 + 2)).1.1 8 0 0))] [] s0 (f_X8_isE q s0) := by
  unfold f_X8_isE
  refine r_aload_n dX8_isE_0 rfl ?_
  refine u_X8_isT (ok_X8_isT g D0 hD0 q hq s0) dX8_isE_1 ml_X8_183 (Nat.le_of_ble_eq_true rfl) (fits_m (by omega) (by decide)) room_m (fun q1 => ?_)
  refine r_ifne dX8_isE_4 (tgt := 9) (by decide) (fun c2 => ?_) (fun c2 => ?_)
  · refine r_iconst dX8_isE_7 ci_0 ?_
    exact r_zret dX8_isE_8 rfl rfl rfl
  · exact r_mask [true] (s_X8_isE_L9 g D0 hD0 q hq 1000 q1.2)
theorem ok_X8_isE (g : Gm) (D0 : Nat) (hD0 : 5 ≤ D0) (q : Sto → Option (Int32 × Sto)) (hq : ∀ (s0 : Sto), Ok g yX8_isF kX8_isF D0 [.ref (g.1 8 0 0)] s0 cvIw (q s0)) (s0 : Sto) : Ok g yX8_isE kX8_isE (D0 + 2) [.ref ((Em g (D0 + 2)).1.1 8 0 0)] s0 cvIw (f_X8_isE q s0) := Ok.of (by decide) rfl (Nat.le_of_ble_eq_true rfl) (lv := [some (.ref ((Em g (D0 + 2)).1.1 8 0 0))]) rfl (s_X8_isE g D0 hD0 q hq s0)
theorem u_X8_isE {α : Type} {cv : α → Res} {E : EE} {K : KK} {pc npc idx d : Nat} {lv : List (Option Value)} {st : List Value} {σ : Sto} {oc : Option (Int32 × Sto)} {kf : (Int32 × Sto) → Option α} (hOk : Ok E.1 yX8_isE kX8_isE d [.ref (E.1.1 8 0 0)] σ cvIw oc) (hd : Dc K pc (.invokevirtual idx) 3 npc) (hlk : Cond.methodLink K.2.1 idx yX8_isE ∈ lw_good) (hw : (st.map fun v => v.category).sum ≤ 8) (hfit : fits_ E d 1) (hrm : room_ok E) (kk : ∀ q : Int32 × Sto, Rf cv E K npc lv (.int q.1 :: st) q.2 (kf q)) : Rf cv E K pc lv (.ref (E.1.1 8 0 0) :: st) σ (oc.bind kf) := c_V (n := 0) (as := []) (c0 := 8) (i := 0) (CC := "ThawGivesModel") (T := TX8) (N := 43) hd hOk hlk wi_X8_isE wv_X8_isE wn_X8 wc_X8_isE rfl (by decide) (by decide) ⟨by decide, by decide, by decide⟩ rfl rfl hw hfit hrm (fun b _ => kk b)
def f_X8_isF_L72 (q : Sto → Option (Int32 × Sto)) (s0 : Sto) (x1 : Int32) : Option (Int32 × Sto) :=
  nm (sF s0 8 12 0 ((s0.1 8 12 0) - 1)) fun s8 => (if x1 = 0 ∨ x1 = 1 then some (x1, s8) else none)
def f_X8_isF_L63 (q : Sto → Option (Int32 × Sto)) (s0 : Sto) (y0 : Int32) : Option (Int32 × Sto) :=
  f_X8_isF_L72 q s0 y0
def f_X8_isF_L62 (q : Sto → Option (Int32 × Sto)) (s0 : Sto) : Option (Int32 × Sto) :=
  f_X8_isF_L63 q s0 0
def f_X8_isF_L29 (q : Sto → Option (Int32 × Sto)) (s0 : Sto) (y0 : Int32) : Option (Int32 × Sto) :=
  f_X8_isF_L72 q s0 y0
def f_X8_isF_L28 (q : Sto → Option (Int32 × Sto)) (s0 : Sto) : Option (Int32 × Sto) :=
  f_X8_isF_L29 q s0 0
def f_X8_isF_K (q : Sto → Option (Int32 × Sto)) (s0 : Sto) : Option (Int32 × Sto) :=
  (f_X8_isOpened s0 33).bind fun q1 => (if q1.1 = 0 then
    (f_X8_isOpened q1.2 40).bind fun q3 => (if q3.1 = 0 then
      (f_X8_isTest q3.2).bind fun q5 => (if q5.1 = 0 ∨ q5.1 = 1 then some (q5.1, q5.2) else none)
    else
      (f_X8_isE q q3.2).bind fun q6 => (if q6.1 = 0 then
        f_X8_isF_L62 q q6.2
      else
        (f_X8_is q6.2 41).bind fun q9 => (if q9.1 = 0 then
          f_X8_isF_L62 q q9.2
        else
          f_X8_isF_L63 q q9.2 1)))
  else
    (q q1.2).bind fun q11 => (if q11.1 = 0 then
      f_X8_isF_L28 q q11.2
    else
      (f_X8_codes q11.2 0).bind fun q13 => (if q13.1 = 0 then
        f_X8_isF_L28 q q13.2
      else
        f_X8_isF_L29 q q13.2 1)))
set_option maxRecDepth 100000 in
theorem s_X8_isF_L72 (g : Gm) (D0 : Nat) (hD0 : 5 ≤ D0) (q : Sto → Option (Int32 × Sto)) (hq : ∀ (s0 : Sto), Ok g yX8_isF kX8_isF D0 [.ref (g.1 8 0 0)] s0 cvIw (q s0)) (s0 : Sto) (x1 : Int32) : Rf cvIw (Em g (D0 + 3)) kX8_isF 72 [some (.ref ((Em g (D0 + 3)).1.1 8 0 0)), some (.int x1)] [] s0 (f_X8_isF_L72 q s0 x1) := by
  unfold f_X8_isF_L72
  refine r_aload_n dX8_isF_72 rfl ?_
  refine r_dup dX8_isF_73 rfl ?_
  refine gf_X8_168 rfl dX8_isF_74 ?_
  refine r_iconst dX8_isF_77 ci_1 ?_
  refine r_isub dX8_isF_78 ?_
  refine pf_X8_168 rfl dX8_isF_79 (fun s8 => ?_)
  refine r_iload_n dX8_isF_82 rfl ?_
  exact r_gd (fun hz => r_zret dX8_isF_83 rfl (nz01 hz) rfl)
set_option maxRecDepth 100000 in
theorem s_X8_isF_L63 (g : Gm) (D0 : Nat) (hD0 : 5 ≤ D0) (q : Sto → Option (Int32 × Sto)) (hq : ∀ (s0 : Sto), Ok g yX8_isF kX8_isF D0 [.ref (g.1 8 0 0)] s0 cvIw (q s0)) (s0 : Sto) (y0 : Int32) : Rf cvIw (Em g (D0 + 3)) kX8_isF 63 [some (.ref ((Em g (D0 + 3)).1.1 8 0 0)), none] [.int y0] s0 (f_X8_isF_L63 q s0 y0) := by
  unfold f_X8_isF_L63
  refine r_istore_n dX8_isF_63 rfl (lt_b rfl) (lt_b rfl) ?_
  refine r_goto dX8_isF_64 (tgt := 72) (by decide) ?_
  exact r_mask [true, true] (s_X8_isF_L72 g D0 hD0 q hq s0 y0)
set_option maxRecDepth 100000 in
theorem s_X8_isF_L62 (g : Gm) (D0 : Nat) (hD0 : 5 ≤ D0) (q : Sto → Option (Int32 × Sto)) (hq : ∀ (s0 : Sto), Ok g yX8_isF kX8_isF D0 [.ref (g.1 8 0 0)] s0 cvIw (q s0)) (s0 : Sto) : Rf cvIw (Em g (D0 + 3)) kX8_isF 62 [some (.ref ((Em g (D0 + 3)).1.1 8 0 0)), none] [] s0 (f_X8_isF_L62 q s0) := by
  unfold f_X8_isF_L62
  refine r_iconst dX8_isF_62 ci_0 ?_
  exact r_mask [true, false] (s_X8_isF_L63 g D0 hD0 q hq s0 0)
set_option maxRecDepth 100000 in
theorem s_X8_isF_L29 (g : Gm) (D0 : Nat) (hD0 : 5 ≤ D0) (q : Sto → Option (Int32 × Sto)) (hq : ∀ (s0 : Sto), Ok g yX8_isF kX8_isF D0 [.ref (g.1 8 0 0)] s0 cvIw (q s0)) (s0 : Sto) (y0 : Int32) : Rf cvIw (Em g (D0 + 3)) kX8_isF 29 [some (.ref ((Em g (D0 + 3)).1.1 8 0 0)), none] [.int y0] s0 (f_X8_isF_L29 q s0 y0) := by
  unfold f_X8_isF_L29
  refine r_istore_n dX8_isF_29 rfl (lt_b rfl) (lt_b rfl) ?_
  refine r_goto dX8_isF_30 (tgt := 72) (by decide) ?_
  exact r_mask [true, true] (s_X8_isF_L72 g D0 hD0 q hq s0 y0)
set_option maxRecDepth 100000 in
theorem s_X8_isF_L28 (g : Gm) (D0 : Nat) (hD0 : 5 ≤ D0) (q : Sto → Option (Int32 × Sto)) (hq : ∀ (s0 : Sto), Ok g yX8_isF kX8_isF D0 [.ref (g.1 8 0 0)] s0 cvIw (q s0)) (s0 : Sto) : Rf cvIw (Em g (D0 + 3)) kX8_isF 28 [some (.ref ((Em g (D0 + 3)).1.1 8 0 0)), none] [] s0 (f_X8_isF_L28 q s0) := by
  unfold f_X8_isF_L28
  refine r_iconst dX8_isF_28 ci_0 ?_
  exact r_mask [true, false] (s_X8_isF_L29 g D0 hD0 q hq s0 0)
set_option maxRecDepth 100000 in
theorem s_X8_isF (g : Gm) (D0 : Nat) (hD0 : 5 ≤ D0) (q : Sto → Option (Int32 × Sto)) (hq : ∀ (s0 : Sto), Ok g yX8_isF kX8_isF D0 [.ref (g.1 8 0 0)] s0 cvIw (q s0)) (s0 : Sto) : Rf cvIw (Em g (D0 + 3)) kX8_isF 0 [some (.ref ((Em g (D0 + 3)).1.1 8 0 0)), none] [] s0 (f_X8_isF_K q s0) := by
  unfold f_X8_isF_K
  refine r_aload_n dX8_isF_0 rfl ?_
  refine r_bipush dX8_isF_1 cb_33 ?_
  refine u_X8_isOpened (ok_X8_isOpened g s0 33) dX8_isF_3 ml_X8_171 (Nat.le_of_ble_eq_true rfl) (fits_m (by omega) (by decide)) room_m (fun q1 => ?_)
  refine r_ifeq dX8_isF_6 (tgt := 33) (by decide) (fun c2 => ?_) (fun c2 => ?_)
  · refine r_aload_n dX8_isF_33 rfl ?_
    refine r_bipush dX8_isF_34 cb_40 ?_
    refine u_X8_isOpened (ok_X8_isOpened g q1.2 40) dX8_isF_36 ml_X8_171 (Nat.le_of_ble_eq_true rfl) (fits_m (by omega) (by decide)) room_m (fun q3 => ?_)
    refine r_ifeq dX8_isF_39 (tgt := 67) (by decide) (fun c4 => ?_) (fun c4 => ?_)
    · refine r_aload_n dX8_isF_67 rfl ?_
      refine u_X8_isTest (ok_X8_isTest g q3.2) dX8_isF_68 ml_X8_180 (Nat.le_of_ble_eq_true rfl) (fits_m (by omega) (by decide)) room_m (fun q5 => ?_)
      exact r_gd (fun hz => r_zret dX8_isF_71 rfl (nz01 hz) rfl)
    · refine r_aload_n dX8_isF_42 rfl ?_
      refine u_X8_isE (ok_X8_isE g D0 hD0 q hq q3.2) dX8_isF_43 ml_X8_177 (Nat.le_of_ble_eq_true rfl) (fits_m (by omega) (by decide)) room_m (fun q6 => ?_)
      refine r_ifeq dX8_isF_46 (tgt := 62) (by decide) (fun c7 => ?_) (fun c7 => ?_)
      · exact r_mask [true, false] (s_X8_isF_L62 g D0 hD0 q hq q6.2)
      · refine r_aload_n dX8_isF_49 rfl ?_
        refine r_bipush dX8_isF_50 cb_41 ?_
        refine u_X8_is (ok_X8_is g q6.2 41) dX8_isF_52 ml_X8_149 (Nat.le_of_ble_eq_true rfl) (fits_m (by omega) (by decide)) room_m (fun q9 => ?_)
        refine r_ifeq dX8_isF_55 (tgt := 62) (by decide) (fun c10 => ?_) (fun c10 => ?_)
        · exact r_mask [true, false] (s_X8_isF_L62 g D0 hD0 q hq q9.2)
        · refine r_iconst dX8_isF_58 ci_1 ?_
          refine r_goto dX8_isF_59 (tgt := 63) (by decide) ?_
          exact r_mask [true, false] (s_X8_isF_L63 g D0 hD0 q hq q9.2 1)
  · refine r_aload_n dX8_isF_9 rfl ?_
    refine u_X8_isF (hq q1.2) dX8_isF_10 ml_X8_174 (Nat.le_of_ble_eq_true rfl) (fits_m (by omega) (by decide)) room_m (fun q11 => ?_)
    refine r_ifeq dX8_isF_13 (tgt := 28) (by decide) (fun c12 => ?_) (fun c12 => ?_)
    · exact r_mask [true, false] (s_X8_isF_L28 g D0 hD0 q hq q11.2)
    · refine r_aload_n dX8_isF_16 rfl ?_
      refine r_iconst dX8_isF_17 ci_0 ?_
      refine u_X8_codes (ok_X8_codes g q11.2 0) dX8_isF_18 ml_X8_165 (Nat.le_of_ble_eq_true rfl) (fits_m (by omega) (by decide)) room_m (fun q13 => ?_)
      refine r_ifeq dX8_isF_21 (tgt := 28) (by decide) (fun c14 => ?_) (fun c14 => ?_)
      · exact r_mask [true, false] (s_X8_isF_L28 g D0 hD0 q hq q13.2)
      · refine r_iconst dX8_isF_24 ci_1 ?_
        refine r_goto dX8_isF_25 (tgt := 29) (by decide) ?_
        exact r_mask [true, false] (s_X8_isF_L29 g D0 hD0 q hq q13.2 1)
theorem ok_X8_isF_K (g : Gm) (D0 : Nat) (hD0 : 5 ≤ D0) (q : Sto → Option (Int32 × Sto)) (hq : ∀ (s0 : Sto), Ok g yX8_isF kX8_isF D0 [.ref (g.1 8 0 0)] s0 cvIw (q s0)) (s0 : Sto) : Ok g yX8_isF kX8_isF (D0 + 3) [.ref ((Em g (D0 + 3)).1.1 8 0 0)] s0 cvIw (f_X8_isF_K q s0) := Ok.of (by decide) rfl (Nat.le_of_ble_eq_true rfl) (lv := [some (.ref ((Em g (D0 + 3)).1.1 8 0 0)), none]) rfl (s_X8_isF g D0 hD0 q hq s0)
def f_X8_isF : Nat → Sto → Option (Int32 × Sto)
  | 0 => fun _ => none
  | n + 1 => f_X8_isF_K (f_X8_isF n)
theorem ok_X8_isF (g : Gm) : ∀ (n : Nat) (s0 : Sto), Ok g yX8_isF kX8_isF (5 + 3 * n) [.ref (g.1 8 0 0)] s0 cvIw (f_X8_isF n s0)
  | 0, _ => fun a h => nomatch h
  | n + 1, s0 => ok_X8_isF_K g (5 + 3 * n) (by omega) (f_X8_isF n) (ok_X8_isF g n) s0
def f_X8_isClause_L184 (s0 : Sto) (x1 : Int32) : Option (Int32 × Sto) :=
  (if 0 ≤ x1 ∧ x1 < 61 then (if 0 ≤ x1 ∧ x1 < 61 then nm (sA s0 8 19 0 (upd (s0.2.1 8 19 0) (Int32.toNatClampNeg x1) ((s0.1 8 21 0) - (s0.2.1 8 18 0 (Int32.toNatClampNeg x1))))) fun s23 => some (1, s23) else none) else none)
def f_X8_isClause_L115 (s0 : Sto) (x1 : Int32) (x2 : Int32) (y0 : Int32) : Option (Int32 × Sto) :=
  (if y0 = 0 then
    some (0, s0)
  else
    (f_X8_isNumber s0).bind fun q6 => (if q6.1 = 0 then
      some (0, q6.2)
    else
      (if 0 ≤ x1 ∧ x1 < 61 then nm (sA q6.2 8 16 0 (upd (q6.2.2.1 8 16 0) (Int32.toNatClampNeg x1) x2)) fun s10 => (if 0 ≤ x1 ∧ x1 < 61 then nm (sA s10 8 17 0 (upd (s10.2.1 8 17 0) (Int32.toNatClampNeg x1) (s10.1 8 10 0))) fun s13 => (if 0 ≤ x1 ∧ x1 < 61 then nm (sA s13 8 18 0 (upd (s13.2.1 8 18 0) (Int32.toNatClampNeg x1) (s13.1 8 21 0))) fun s16 => nm (sF s16 8 12 0 0) fun s17 => (if (2 : Int32) ≤ x2 then
        f_X8_isClause_L184 s17 x1
      else
        (f_X8_is s17 32).bind fun q24 => (if q24.1 = 0 then
          some (0, q24.2)
        else
          (f_X8_isE (f_X8_isF 12) q24.2).bind fun q26 => (if q26.1 = 0 then
            some (0, q26.2)
          else
            f_X8_isClause_L184 q26.2 x1))) else none) else none) else none)))
def f_X8_isClause_L114 (s0 : Sto) (x1 : Int32) (x2 : Int32) : Option (Int32 × Sto) :=
  f_X8_isClause_L115 s0 x1 x2 0
def f_X8_isClause_L69 (s0 : Sto) (x1 : Int32) (x2 : Int32) : Option (Int32 × Sto) :=
  (if x2 = 0 then
    (f_X8_isAll s0 0).bind fun q31 => f_X8_isClause_L115 q31.2 x1 x2 q31.1
  else
    (if x2 = 1 then
      (f_X8_isAll s0 1).bind fun q30 => f_X8_isClause_L115 q30.2 x1 x2 q30.1
    else
      (if x2 = 2 then
        (f_X8_isAll s0 2).bind fun q28 => (if q28.1 = 0 then
          f_X8_isClause_L114 q28.2 x1 x2
        else
          f_X8_isClause_L115 q28.2 x1 x2 1)
      else
        f_X8_isClause_L114 s0 x1 x2)))
def f_X8_isClause_L68 (s0 : Sto) (x1 : Int32) (y0 : Int32) : Option (Int32 × Sto) :=
  f_X8_isClause_L69 s0 x1 y0
def f_X8_isClause (s0 : Sto) (x1 : Int32) : Option (Int32 × Sto) :=
  (if (s0.1 8 7 0) ≤ (s0.1 8 9 0) then
    f_X8_isClause_L69 s0 x1 (-1 : Int32)
  else
    (if 0 ≤ (s0.1 8 9 0) ∧ (s0.1 8 9 0) < 100 then (if (s0.2.1 8 8 0 (Int32.toNatClampNeg (s0.1 8 9 0))) = 119 then
      f_X8_isClause_L68 s0 x1 0
    else
      (if 0 ≤ (s0.1 8 9 0) ∧ (s0.1 8 9 0) < 100 then (if (s0.2.1 8 8 0 (Int32.toNatClampNeg (s0.1 8 9 0))) = 102 then
        f_X8_isClause_L68 s0 x1 1
      else
        (if 0 ≤ (s0.1 8 9 0) ∧ (s0.1 8 9 0) < 100 then (if (s0.2.1 8 8 0 (Int32.toNatClampNeg (s0.1 8 9 0))) = 115 then
          f_X8_isClause_L68 s0 x1 2
        else
          f_X8_isClause_L68 s0 x1 (-1 : Int32)) else none)) else none)) else none))
set_option maxRecDepth 100000 in
theorem s_X8_isClause_L184 (g : Gm) (s0 : Sto) (x1 : Int32) : Rf cvIw (Em g 44) kX8_isClause 184 [some (.ref ((Em g 44).1.1 8 0 0)), some (.int x1), none, none] [] s0 (f_X8_isClause_L184 s0 x1) := by
  unfold f_X8_isClause_L184
  refine r_aload_n dX8_isClause_184 rfl ?_
  refine gf_X8_42 rfl dX8_isClause_185 ?_
  refine r_iload_n dX8_isClause_188 rfl ?_
  refine r_aload_n dX8_isClause_189 rfl ?_
  refine gf_X8_152 rfl dX8_isClause_190 ?_
  refine r_aload_n dX8_isClause_193 rfl ?_
  refine gf_X8_39 rfl dX8_isClause_194 ?_
  refine r_iload_n dX8_isClause_197 rfl ?_
  refine al_8_18 dX8_isClause_198 (fun hg19 hj20 => ?_)
  refine r_isub dX8_isClause_199 ?_
  refine as_8_19 dX8_isClause_200 (fun hg21 hj22 s23 => ?_)
  refine r_iconst dX8_isClause_201 ci_1 ?_
  exact r_zret dX8_isClause_202 rfl rfl rfl
set_option maxRecDepth 100000 in
theorem s_X8_isClause_L115 (g : Gm) (s0 : Sto) (x1 : Int32) (x2 : Int32) (y0 : Int32) : Rf cvIw (Em g 44) kX8_isClause 115 [some (.ref ((Em g 44).1.1 8 0 0)), some (.int x1), some (.int x2), none] [.int y0] s0 (f_X8_isClause_L115 s0 x1 x2 y0) := by
  unfold f_X8_isClause_L115
  refine r_istore_n dX8_isClause_115 rfl (lt_b rfl) (lt_b rfl) ?_
  refine r_iload_n dX8_isClause_116 rfl ?_
  refine r_ifeq dX8_isClause_117 (tgt := 127) (by decide) (fun c5 => ?_) (fun c5 => ?_)
  · refine r_iconst dX8_isClause_127 ci_0 ?_
    exact r_zret dX8_isClause_128 rfl rfl rfl
  · refine r_aload_n dX8_isClause_120 rfl ?_
    refine u_X8_isNumber (ok_X8_isNumber g s0) dX8_isClause_121 ml_X8_162 (Nat.le_of_ble_eq_true rfl) (fits_m (by decide) (by decide)) room_m (fun q6 => ?_)
    refine r_ifne dX8_isClause_124 (tgt := 129) (by decide) (fun c7 => ?_) (fun c7 => ?_)
    · refine r_iconst dX8_isClause_127 ci_0 ?_
      exact r_zret dX8_isClause_128 rfl rfl rfl
    · refine r_aload_n dX8_isClause_129 rfl ?_
      refine gf_X8_33 rfl dX8_isClause_130 ?_
      refine r_iload_n dX8_isClause_133 rfl ?_
      refine r_iload_n dX8_isClause_134 rfl ?_
      refine as_8_16 dX8_isClause_135 (fun hg8 hj9 s10 => ?_)
      refine r_aload_n dX8_isClause_136 rfl ?_
      refine gf_X8_36 rfl dX8_isClause_137 ?_
      refine r_iload_n dX8_isClause_140 rfl ?_
      refine r_aload_n dX8_isClause_141 rfl ?_
      refine gf_X8_130 rfl dX8_isClause_142 ?_
      refine as_8_17 dX8_isClause_145 (fun hg11 hj12 s13 => ?_)
      refine r_aload_n dX8_isClause_146 rfl ?_
      refine gf_X8_39 rfl dX8_isClause_147 ?_
      refine r_iload_n dX8_isClause_150 rfl ?_
      refine r_aload_n dX8_isClause_151 rfl ?_
      refine gf_X8_152 rfl dX8_isClause_152 ?_
      refine as_8_18 dX8_isClause_155 (fun hg14 hj15 s16 => ?_)
      refine r_aload_n dX8_isClause_156 rfl ?_
      refine r_iconst dX8_isClause_157 ci_0 ?_
      refine pf_X8_168 rfl dX8_isClause_158 (fun s17 => ?_)
      refine r_iload_n dX8_isClause_161 rfl ?_
      refine r_iconst dX8_isClause_162 ci_2 ?_
      refine r_icge dX8_isClause_163 (tgt := 184) (by decide) (fun c18 => ?_) (fun c18 => ?_)
      · exact r_mask [true, true, false, false] (s_X8_isClause_L184 g s17 x1)
      · refine r_aload_n dX8_isClause_166 rfl ?_
        refine r_bipush dX8_isClause_167 cb_32 ?_
        refine u_X8_is (ok_X8_is g s17 32) dX8_isClause_169 ml_X8_149 (Nat.le_of_ble_eq_true rfl) (fits_m (by decide) (by decide)) room_m (fun q24 => ?_)
        refine r_ifeq dX8_isClause_172 (tgt := 182) (by decide) (fun c25 => ?_) (fun c25 => ?_)
        · refine r_iconst dX8_isClause_182 ci_0 ?_
          exact r_zret dX8_isClause_183 rfl rfl rfl
        · refine r_aload_n dX8_isClause_175 rfl ?_
          refine u_X8_isE (ok_X8_isE g _ (by decide) (f_X8_isF 12) (ok_X8_isF g 12) q24.2) dX8_isClause_176 ml_X8_177 (Nat.le_of_ble_eq_true rfl) (fits_m (by decide) (by decide)) room_m (fun q26 => ?_)
          refine r_ifne dX8_isClause_179 (tgt := 184) (by decide) (fun c27 => ?_) (fun c27 => ?_)
          · refine r_iconst dX8_isClause_182 ci_0 ?_
            exact r_zret dX8_isClause_183 rfl rfl rfl
          · exact r_mask [true, true, false, false] (s_X8_isClause_L184 g q26.2 x1)
set_option maxRecDepth 100000 in
theorem s_X8_isClause_L114 (g : Gm) (s0 : Sto) (x1 : Int32) (x2 : Int32) : Rf cvIw (Em g 44) kX8_isClause 114 [some (.ref ((Em g 44).1.1 8 0 0)), some (.int x1), some (.int x2), none] [] s0 (f_X8_isClause_L114 s0 x1 x2) := by
  unfold f_X8_isClause_L114
  refine r_iconst dX8_isClause_114 ci_0 ?_
  exact r_mask [true, true, true, false] (s_X8_isClause_L115 g s0 x1 x2 0)
set_option maxRecDepth 100000 in
theorem s_X8_isClause_L69 (g : Gm) (s0 : Sto) (x1 : Int32) (x2 : Int32) : Rf cvIw (Em g 44) kX8_isClause 69 [some (.ref ((Em g 44).1.1 8 0 0)), some (.int x1), some (.int x2), none] [] s0 (f_X8_isClause_L69 s0 x1 x2) := by
  unfold f_X8_isClause_L69
  refine r_iload_n dX8_isClause_69 rfl ?_
  refine r_ifne dX8_isClause_70 (tgt := 82) (by decide) (fun c2 => ?_) (fun c2 => ?_)
  · refine r_aload_n dX8_isClause_73 rfl ?_
    refine r_ldcS dX8_isClause_74 st_X8_186 ?_
    refine u_X8_isAll (ok_X8_isAll g s0 0 (by decide)) dX8_isClause_76 ml_X8_188 (Nat.le_of_ble_eq_true rfl) (fits_m (by decide) (by decide)) room_m (fun q31 => ?_)
    refine r_goto dX8_isClause_79 (tgt := 115) (by decide) ?_
    exact r_mask [true, true, true, false] (s_X8_isClause_L115 g q31.2 x1 x2 q31.1)
  · refine r_iload_n dX8_isClause_82 rfl ?_
    refine r_iconst dX8_isClause_83 ci_1 ?_
    refine r_icne dX8_isClause_84 (tgt := 96) (by decide) (fun c3 => ?_) (fun c3 => ?_)
    · refine r_aload_n dX8_isClause_87 rfl ?_
      refine r_ldcS dX8_isClause_88 st_X8_192 ?_
      refine u_X8_isAll (ok_X8_isAll g s0 1 (by decide)) dX8_isClause_90 ml_X8_188 (Nat.le_of_ble_eq_true rfl) (fits_m (by decide) (by decide)) room_m (fun q30 => ?_)
      refine r_goto dX8_isClause_93 (tgt := 115) (by decide) ?_
      exact r_mask [true, true, true, false] (s_X8_isClause_L115 g q30.2 x1 x2 q30.1)
    · refine r_iload_n dX8_isClause_96 rfl ?_
      refine r_iconst dX8_isClause_97 ci_2 ?_
      refine r_icne dX8_isClause_98 (tgt := 114) (by decide) (fun c4 => ?_) (fun c4 => ?_)
      · refine r_aload_n dX8_isClause_101 rfl ?_
        refine r_ldcS dX8_isClause_102 st_X8_194 ?_
        refine u_X8_isAll (ok_X8_isAll g s0 2 (by decide)) dX8_isClause_104 ml_X8_188 (Nat.le_of_ble_eq_true rfl) (fits_m (by decide) (by decide)) room_m (fun q28 => ?_)
        refine r_ifeq dX8_isClause_107 (tgt := 114) (by decide) (fun c29 => ?_) (fun c29 => ?_)
        · exact r_mask [true, true, true, false] (s_X8_isClause_L114 g q28.2 x1 x2)
        · refine r_iconst dX8_isClause_110 ci_1 ?_
          refine r_goto dX8_isClause_111 (tgt := 115) (by decide) ?_
          exact r_mask [true, true, true, false] (s_X8_isClause_L115 g q28.2 x1 x2 1)
      · exact r_mask [true, true, true, false] (s_X8_isClause_L114 g s0 x1 x2)
set_option maxRecDepth 100000 in
theorem s_X8_isClause_L68 (g : Gm) (s0 : Sto) (x1 : Int32) (y0 : Int32) : Rf cvIw (Em g 44) kX8_isClause 68 [some (.ref ((Em g 44).1.1 8 0 0)), some (.int x1), none, none] [.int y0] s0 (f_X8_isClause_L68 s0 x1 y0) := by
  unfold f_X8_isClause_L68
  refine r_istore_n dX8_isClause_68 rfl (lt_b rfl) (lt_b rfl) ?_
  exact r_mask [true, true, true, false] (s_X8_isClause_L69 g s0 x1 y0)
set_option maxRecDepth 100000 in
theorem s_X8_isClause (g : Gm) (s0 : Sto) (x1 : Int32) : Rf cvIw (Em g 44) kX8_isClause 0 [some (.ref ((Em g 44).1.1 8 0 0)), some (.int x1), none, none] [] s0 (f_X8_isClause s0 x1) := by
  unfold f_X8_isClause
  refine r_iconst dX8_isClause_0 ci_m1 ?_
  refine r_istore_n dX8_isClause_1 rfl (lt_b rfl) (lt_b rfl) ?_
  refine r_aload_n dX8_isClause_2 rfl ?_
  refine gf_X8_127 rfl dX8_isClause_3 ?_
  refine r_aload_n dX8_isClause_6 rfl ?_
  refine gf_X8_124 rfl dX8_isClause_7 ?_
  refine r_icge dX8_isClause_10 (tgt := 69) (by decide) (fun c1 => ?_) (fun c1 => ?_)
  · exact r_mask [true, true, true, false] (s_X8_isClause_L69 g s0 x1 (-1 : Int32))
  · refine r_aload_n dX8_isClause_13 rfl ?_
    refine gf_X8_27 rfl dX8_isClause_14 ?_
    refine r_aload_n dX8_isClause_17 rfl ?_
    refine gf_X8_127 rfl dX8_isClause_18 ?_
    refine al_8_8 dX8_isClause_21 (fun hg32 hj33 => ?_)
    refine r_bipush dX8_isClause_22 cb_119 ?_
    refine r_icne dX8_isClause_24 (tgt := 31) (by decide) (fun c34 => ?_) (fun c34 => ?_)
    · refine r_iconst dX8_isClause_27 ci_0 ?_
      refine r_goto dX8_isClause_28 (tgt := 68) (by decide) ?_
      exact r_mask [true, true, false, false] (s_X8_isClause_L68 g s0 x1 0)
    · refine r_aload_n dX8_isClause_31 rfl ?_
      refine gf_X8_27 rfl dX8_isClause_32 ?_
      refine r_aload_n dX8_isClause_35 rfl ?_
      refine gf_X8_127 rfl dX8_isClause_36 ?_
      refine al_8_8 dX8_isClause_39 (fun hg35 hj36 => ?_)
      refine r_bipush dX8_isClause_40 cb_102 ?_
      refine r_icne dX8_isClause_42 (tgt := 49) (by decide) (fun c37 => ?_) (fun c37 => ?_)
      · refine r_iconst dX8_isClause_45 ci_1 ?_
        refine r_goto dX8_isClause_46 (tgt := 68) (by decide) ?_
        exact r_mask [true, true, false, false] (s_X8_isClause_L68 g s0 x1 1)
      · refine r_aload_n dX8_isClause_49 rfl ?_
        refine gf_X8_27 rfl dX8_isClause_50 ?_
        refine r_aload_n dX8_isClause_53 rfl ?_
        refine gf_X8_127 rfl dX8_isClause_54 ?_
        refine al_8_8 dX8_isClause_57 (fun hg38 hj39 => ?_)
        refine r_bipush dX8_isClause_58 cb_115 ?_
        refine r_icne dX8_isClause_60 (tgt := 67) (by decide) (fun c40 => ?_) (fun c40 => ?_)
        · refine r_iconst dX8_isClause_63 ci_2 ?_
          refine r_goto dX8_isClause_64 (tgt := 68) (by decide) ?_
          exact r_mask [true, true, false, false] (s_X8_isClause_L68 g s0 x1 2)
        · refine r_iconst dX8_isClause_67 ci_m1 ?_
          exact r_mask [true, true, false, false] (s_X8_isClause_L68 g s0 x1 (-1 : Int32))
theorem ok_X8_isClause (g : Gm) (s0 : Sto) (x1 : Int32) : Ok g yX8_isClause kX8_isClause 44 [.ref ((Em g 44).1.1 8 0 0), .int x1] s0 cvIw (f_X8_isClause s0 x1) := Ok.of (by decide) rfl (Nat.le_of_ble_eq_true rfl) (lv := [some (.ref ((Em g 44).1.1 8 0 0)), some (.int x1), none, none]) rfl (s_X8_isClause g s0 x1)
theorem u_X8_isClause {α : Type} {cv : α → Res} {E : EE} {K : KK} {pc npc idx d : Nat} {lv : List (Option Value)} {st : List Value} {σ : Sto} {oc : Option (Int32 × Sto)} {kf : (Int32 × Sto) → Option α} {x1 : Int32} (hOk : Ok E.1 yX8_isClause kX8_isClause d [.ref (E.1.1 8 0 0), .int x1] σ cvIw oc) (hd : Dc K pc (.invokevirtual idx) 3 npc) (hlk : Cond.methodLink K.2.1 idx yX8_isClause ∈ lw_good) (hw : (st.map fun v => v.category).sum ≤ 8) (hfit : fits_ E d 4) (hrm : room_ok E) (kk : ∀ q : Int32 × Sto, Rf cv E K npc lv (.int q.1 :: st) q.2 (kf q)) : Rf cv E K pc lv (.int x1 :: .ref (E.1.1 8 0 0) :: st) σ (oc.bind kf) := c_V (n := 1) (as := [.int x1]) (c0 := 8) (i := 0) (CC := "ThawGivesModel") (T := TX8) (N := 43) hd hOk hlk wi_X8_isClause wv_X8_isClause wn_X8 wc_X8_isClause rfl (by decide) (by decide) ⟨by decide, by decide, by decide⟩ rfl rfl hw hfit hrm (fun b _ => kk b)
def f_X8_col_L123 (s0 : Sto) (x1 : Int32) (x2 : Int32) (x4 : Int32) : Option (Int32 × Sto) :=
  nm (sF s0 8 7 0 0) fun s5 => (if x4 = 0 then
    nm (sF s5 8 21 0 x1) fun s12 => some (((-10 : Int32) - (s12.1 8 9 0)), s12)
  else
    (if 0 ≤ (s5.1 8 13 0) ∧ (s5.1 8 13 0) < 6 then nm (sA s5 8 15 0 (upd (s5.2.1 8 15 0) (Int32.toNatClampNeg (s5.1 8 13 0)) x2)) fun s9 => nm (sF s9 8 14 0 (s9.1 8 13 0)) fun s10 => nm (sF s10 8 13 0 ((s10.1 8 13 0) + 1)) fun s11 => some ((s10.1 8 13 0), s11) else none))
def f_X8_col_L92 (k29 : Sto → Int32 → Int32 → Int32 → Int32 → Option (Int32 × Sto)) (s0 : Sto) (x1 : Int32) (x2 : Int32) (y0 : Int32) : Option (Int32 × Sto) :=
  (if y0 = 0 then
    (if (10 : Int32) ≤ x2 then
      k29 s0 x1 x2 0 y0
    else
      (f_X8_is s0 59).bind fun q20 => (if q20.1 = 0 then
        k29 q20.2 x1 x2 0 y0
      else
        k29 q20.2 x1 x2 1 y0))
  else
    k29 s0 x1 x2 1 y0)
def f_X8_col_L65 (k29 : Sto → Int32 → Int32 → Int32 → Int32 → Option (Int32 × Sto)) (s0 : Sto) (x1 : Int32) (x2 : Int32) (x4 : Int32) (y0 : Int32) : Option (Int32 × Sto) :=
  (if y0 = 0 then
    k29 s0 x1 x2 y0 x4
  else
    nmI (x2 + 1) fun v16 => (if (s0.1 8 9 0) = (s0.1 8 7 0) then
      f_X8_col_L92 k29 s0 x1 v16 1
    else
      f_X8_col_L92 k29 s0 x1 v16 0))
def f_X8_col_L64 (k29 : Sto → Int32 → Int32 → Int32 → Int32 → Option (Int32 × Sto)) (s0 : Sto) (x1 : Int32) (x2 : Int32) (x4 : Int32) : Option (Int32 × Sto) :=
  f_X8_col_L65 k29 s0 x1 x2 x4 0
def f_X8_col_B29 (k29 : Sto → Int32 → Int32 → Int32 → Int32 → Option (Int32 × Sto)) (s0 : Sto) (x1 : Int32) (x2 : Int32) (x3 : Int32) (x4 : Int32) : Option (Int32 × Sto) :=
  (if x3 = 0 then
    f_X8_col_L123 s0 x1 x2 x4
  else
    (if x4 = 0 then
      (if (10 : Int32) ≤ x2 then
        f_X8_col_L64 k29 s0 x1 x2 x4
      else
        (f_X8_isClause s0 ((10 * (s0.1 8 13 0)) + x2)).bind fun q22 => (if q22.1 = 0 then
          f_X8_col_L64 k29 q22.2 x1 x2 x4
        else
          f_X8_col_L65 k29 q22.2 x1 x2 x4 1))
    else
      f_X8_col_L123 s0 x1 x2 x4))
def f_X8_col_L29 : Nat → Sto → Int32 → Int32 → Int32 → Int32 → Option (Int32 × Sto)
  | 0 => fun _ _ _ _ _ => none
  | n + 1 => f_X8_col_B29 (f_X8_col_L29 n)
def f_X8_col (s0 : Sto) : Option (Int32 × Sto) :=
  (if (s0.1 8 13 0) = 6 then
    some ((-4 : Int32), s0)
  else
    nmI ((s0.1 8 21 0)) fun v2 => nm (sF s0 8 9 0 0) fun s3 => f_X8_col_L29 1000 s3 v2 0 1 0)
set_option maxRecDepth 100000 in
theorem s_X8_col_L123 (g : Gm) (s0 : Sto) (x1 : Int32) (x2 : Int32) (x4 : Int32) : Rf cvIw (Em g 45) kX8_col 123 [some (.ref ((Em g 45).1.1 8 0 0)), some (.int x1), some (.int x2), none, some (.int x4)] [] s0 (f_X8_col_L123 s0 x1 x2 x4) := by
  unfold f_X8_col_L123
  refine r_aload_n dX8_col_123 rfl ?_
  refine r_iconst dX8_col_124 ci_0 ?_
  refine pf_X8_124 rfl dX8_col_125 (fun s5 => ?_)
  refine r_iload dX8_col_128 rfl ?_
  refine r_ifne dX8_col_130 (tgt := 146) (by decide) (fun c6 => ?_) (fun c6 => ?_)
  · refine r_aload_n dX8_col_133 rfl ?_
    refine r_iload_n dX8_col_134 rfl ?_
    refine pf_X8_152 rfl dX8_col_135 (fun s12 => ?_)
    refine r_bipush dX8_col_138 cb_m10 ?_
    refine r_aload_n dX8_col_140 rfl ?_
    refine gf_X8_127 rfl dX8_col_141 ?_
    refine r_isub dX8_col_144 ?_
    exact r_iret dX8_col_145 rfl rfl
  · refine r_aload_n dX8_col_146 rfl ?_
    refine gf_X8_30 rfl dX8_col_147 ?_
    refine r_aload_n dX8_col_150 rfl ?_
    refine gf_X8_196 rfl dX8_col_151 ?_
    refine r_iload_n dX8_col_154 rfl ?_
    refine as_8_15 dX8_col_155 (fun hg7 hj8 s9 => ?_)
    refine r_aload_n dX8_col_156 rfl ?_
    refine r_aload_n dX8_col_157 rfl ?_
    refine gf_X8_196 rfl dX8_col_158 ?_
    refine pf_X8_98 rfl dX8_col_161 (fun s10 => ?_)
    refine r_aload_n dX8_col_164 rfl ?_
    refine r_dup dX8_col_165 rfl ?_
    refine gf_X8_196 rfl dX8_col_166 ?_
    refine r_dup_x1 dX8_col_169 rfl rfl ?_
    refine r_iconst dX8_col_170 ci_1 ?_
    refine r_iadd dX8_col_171 ?_
    refine pf_X8_196 rfl dX8_col_172 (fun s11 => ?_)
    exact r_iret dX8_col_175 rfl rfl
set_option maxRecDepth 100000 in
theorem s_X8_col_L92 (g : Gm) (k29 : Sto → Int32 → Int32 → Int32 → Int32 → Option (Int32 × Sto)) (hk29 : ∀ (s0 : Sto) (x1 : Int32) (x2 : Int32) (x3 : Int32) (x4 : Int32), Rf cvIw (Em g 45) kX8_col 29 [some (.ref ((Em g 45).1.1 8 0 0)), some (.int x1), some (.int x2), some (.int x3), some (.int x4)] [] s0 (k29 s0 x1 x2 x3 x4)) (s0 : Sto) (x1 : Int32) (x2 : Int32) (y0 : Int32) : Rf cvIw (Em g 45) kX8_col 92 [some (.ref ((Em g 45).1.1 8 0 0)), some (.int x1), some (.int x2), none, none] [.int y0] s0 (f_X8_col_L92 k29 s0 x1 x2 y0) := by
  unfold f_X8_col_L92
  refine r_istore dX8_col_92 rfl (lt_b rfl) (lt_b rfl) ?_
  refine r_iload dX8_col_94 rfl ?_
  refine r_ifne dX8_col_96 (tgt := 114) (by decide) (fun c18 => ?_) (fun c18 => ?_)
  · refine r_iload_n dX8_col_99 rfl ?_
    refine r_bipush dX8_col_100 cb_10 ?_
    refine r_icge dX8_col_102 (tgt := 118) (by decide) (fun c19 => ?_) (fun c19 => ?_)
    · refine r_iconst dX8_col_118 ci_0 ?_
      refine r_istore_n dX8_col_119 rfl (lt_b rfl) (lt_b rfl) ?_
      refine r_goto dX8_col_120 (tgt := 29) (by decide) ?_
      exact r_mask [true, true, true, true, true] (hk29 s0 x1 x2 0 y0)
    · refine r_aload_n dX8_col_105 rfl ?_
      refine r_bipush dX8_col_106 cb_59 ?_
      refine u_X8_is (ok_X8_is g s0 59) dX8_col_108 ml_X8_149 (Nat.le_of_ble_eq_true rfl) (fits_m (by decide) (by decide)) room_m (fun q20 => ?_)
      refine r_ifeq dX8_col_111 (tgt := 118) (by decide) (fun c21 => ?_) (fun c21 => ?_)
      · refine r_iconst dX8_col_118 ci_0 ?_
        refine r_istore_n dX8_col_119 rfl (lt_b rfl) (lt_b rfl) ?_
        refine r_goto dX8_col_120 (tgt := 29) (by decide) ?_
        exact r_mask [true, true, true, true, true] (hk29 q20.2 x1 x2 0 y0)
      · refine r_iconst dX8_col_114 ci_1 ?_
        refine r_goto dX8_col_115 (tgt := 119) (by decide) ?_
        refine r_istore_n dX8_col_119 rfl (lt_b rfl) (lt_b rfl) ?_
        refine r_goto dX8_col_120 (tgt := 29) (by decide) ?_
        exact r_mask [true, true, true, true, true] (hk29 q20.2 x1 x2 1 y0)
  · refine r_iconst dX8_col_114 ci_1 ?_
    refine r_goto dX8_col_115 (tgt := 119) (by decide) ?_
    refine r_istore_n dX8_col_119 rfl (lt_b rfl) (lt_b rfl) ?_
    refine r_goto dX8_col_120 (tgt := 29) (by decide) ?_
    exact r_mask [true, true, true, true, true] (hk29 s0 x1 x2 1 y0)
set_option maxRecDepth 100000 in
theorem s_X8_col_L65 (g : Gm) (k29 : Sto → Int32 → Int32 → Int32 → Int32 → Option (Int32 × Sto)) (hk29 : ∀ (s0 : Sto) (x1 : Int32) (x2 : Int32) (x3 : Int32) (x4 : Int32), Rf cvIw (Em g 45) kX8_col 29 [some (.ref ((Em g 45).1.1 8 0 0)), some (.int x1), some (.int x2), some (.int x3), some (.int x4)] [] s0 (k29 s0 x1 x2 x3 x4)) (s0 : Sto) (x1 : Int32) (x2 : Int32) (x4 : Int32) (y0 : Int32) : Rf cvIw (Em g 45) kX8_col 65 [some (.ref ((Em g 45).1.1 8 0 0)), some (.int x1), some (.int x2), none, some (.int x4)] [.int y0] s0 (f_X8_col_L65 k29 s0 x1 x2 x4 y0) := by
  unfold f_X8_col_L65
  refine r_istore_n dX8_col_65 rfl (lt_b rfl) (lt_b rfl) ?_
  refine r_iload_n dX8_col_66 rfl ?_
  refine r_ifne dX8_col_67 (tgt := 73) (by decide) (fun c15 => ?_) (fun c15 => ?_)
  · refine r_goto dX8_col_70 (tgt := 29) (by decide) ?_
    exact r_mask [true, true, true, true, true] (hk29 s0 x1 x2 y0 x4)
  · refine r_iincN dX8_col_73 rfl ci_1 rfl (lt_b rfl) (fun v16 => ?_)
    refine r_aload_n dX8_col_76 rfl ?_
    refine gf_X8_127 rfl dX8_col_77 ?_
    refine r_aload_n dX8_col_80 rfl ?_
    refine gf_X8_124 rfl dX8_col_81 ?_
    refine r_icne dX8_col_84 (tgt := 91) (by decide) (fun c17 => ?_) (fun c17 => ?_)
    · refine r_iconst dX8_col_87 ci_1 ?_
      refine r_goto dX8_col_88 (tgt := 92) (by decide) ?_
      exact r_mask [true, true, true, false, false] (s_X8_col_L92 g k29 hk29 s0 x1 v16 1)
    · refine r_iconst dX8_col_91 ci_0 ?_
      exact r_mask [true, true, true, false, false] (s_X8_col_L92 g k29 hk29 s0 x1 v16 0)
set_option maxRecDepth 100000 in
theorem s_X8_col_L64 (g : Gm) (k29 : Sto → Int32 → Int32 → Int32 → Int32 → Option (Int32 × Sto)) (hk29 : ∀ (s0 : Sto) (x1 : Int32) (x2 : Int32) (x3 : Int32) (x4 : Int32), Rf cvIw (Em g 45) kX8_col 29 [some (.ref ((Em g 45).1.1 8 0 0)), some (.int x1), some (.int x2), some (.int x3), some (.int x4)] [] s0 (k29 s0 x1 x2 x3 x4)) (s0 : Sto) (x1 : Int32) (x2 : Int32) (x4 : Int32) : Rf cvIw (Em g 45) kX8_col 64 [some (.ref ((Em g 45).1.1 8 0 0)), some (.int x1), some (.int x2), none, some (.int x4)] [] s0 (f_X8_col_L64 k29 s0 x1 x2 x4) := by
  unfold f_X8_col_L64
  refine r_iconst dX8_col_64 ci_0 ?_
  exact r_mask [true, true, true, false, true] (s_X8_col_L65 g k29 hk29 s0 x1 x2 x4 0)
set_option maxRecDepth 100000 in
theorem s_X8_col_B29 (g : Gm) (k29 : Sto → Int32 → Int32 → Int32 → Int32 → Option (Int32 × Sto)) (hk29 : ∀ (s0 : Sto) (x1 : Int32) (x2 : Int32) (x3 : Int32) (x4 : Int32), Rf cvIw (Em g 45) kX8_col 29 [some (.ref ((Em g 45).1.1 8 0 0)), some (.int x1), some (.int x2), some (.int x3), some (.int x4)] [] s0 (k29 s0 x1 x2 x3 x4)) (s0 : Sto) (x1 : Int32) (x2 : Int32) (x3 : Int32) (x4 : Int32) : Rf cvIw (Em g 45) kX8_col 29 [some (.ref ((Em g 45).1.1 8 0 0)), some (.int x1), some (.int x2), some (.int x3), some (.int x4)] [] s0 (f_X8_col_B29 k29 s0 x1 x2 x3 x4) := by
  unfold f_X8_col_B29
  refine r_iload_n dX8_col_29 rfl ?_
  refine r_ifeq dX8_col_30 (tgt := 123) (by decide) (fun c4 => ?_) (fun c4 => ?_)
  · exact r_mask [true, true, true, false, true] (s_X8_col_L123 g s0 x1 x2 x4)
  · refine r_iload dX8_col_33 rfl ?_
    refine r_ifne dX8_col_35 (tgt := 123) (by decide) (fun c13 => ?_) (fun c13 => ?_)
    · refine r_iload_n dX8_col_38 rfl ?_
      refine r_bipush dX8_col_39 cb_10 ?_
      refine r_icge dX8_col_41 (tgt := 64) (by decide) (fun c14 => ?_) (fun c14 => ?_)
      · exact r_mask [true, true, true, false, true] (s_X8_col_L64 g k29 hk29 s0 x1 x2 x4)
      · refine r_aload_n dX8_col_44 rfl ?_
        refine r_bipush dX8_col_45 cb_10 ?_
        refine r_aload_n dX8_col_47 rfl ?_
        refine gf_X8_196 rfl dX8_col_48 ?_
        refine r_imul dX8_col_51 ?_
        refine r_iload_n dX8_col_52 rfl ?_
        refine r_iadd dX8_col_53 ?_
        refine u_X8_isClause (ok_X8_isClause g s0 ((10 * (s0.1 8 13 0)) + x2)) dX8_col_54 ml_X8_199 (Nat.le_of_ble_eq_true rfl) (fits_m (by decide) (by decide)) room_m (fun q22 => ?_)
        refine r_ifeq dX8_col_57 (tgt := 64) (by decide) (fun c23 => ?_) (fun c23 => ?_)
        · exact r_mask [true, true, true, false, true] (s_X8_col_L64 g k29 hk29 q22.2 x1 x2 x4)
        · refine r_iconst dX8_col_60 ci_1 ?_
          refine r_goto dX8_col_61 (tgt := 65) (by decide) ?_
          exact r_mask [true, true, true, false, true] (s_X8_col_L65 g k29 hk29 q22.2 x1 x2 x4 1)
    · exact r_mask [true, true, true, false, true] (s_X8_col_L123 g s0 x1 x2 x4)
theorem s_X8_col_L29 (g : Gm) : ∀ (n : Nat) (s0 : Sto) (x1 : Int32) (x2 : Int32) (x3 : Int32) (x4 : Int32), Rf cvIw (Em g 45) kX8_col 29 [some (.ref ((Em g 45).1.1 8 0 0)), some (.int x1), some (.int x2), some (.int x3), some (.int x4)] [] s0 (f_X8_col_L29 n s0 x1 x2 x3 x4)
  | 0, _, _, _, _, _ => r_none
  | n + 1, s0, x1, x2, x3, x4 => s_X8_col_B29 g (f_X8_col_L29 n) (s_X8_col_L29 g n) s0 x1 x2 x3 x4
set_option maxRecDepth 100000 in
theorem s_X8_col (g : Gm) (s0 : Sto) : Rf cvIw (Em g 45) kX8_col 0 [some (.ref ((Em g 45).1.1 8 0 0)), none, none, none, none] [] s0 (f_X8_col s0) := by
  unfold f_X8_col
  refine r_aload_n dX8_col_0 rfl ?_
  refine gf_X8_196 rfl dX8_col_1 ?_
  refine r_bipush dX8_col_4 cb_6 ?_
  refine r_icne dX8_col_6 (tgt := 12) (by decide) (fun c1 => ?_) (fun c1 => ?_)
  · refine r_bipush dX8_col_9 cb_m4 ?_
    exact r_iret dX8_col_11 rfl rfl
  · refine r_aload_n dX8_col_12 rfl ?_
    refine gf_X8_152 rfl dX8_col_13 ?_
    refine r_istore_nN dX8_col_16 rfl (lt_b rfl) (lt_b rfl) (fun v2 => ?_)
    refine r_aload_n dX8_col_17 rfl ?_
    refine r_iconst dX8_col_18 ci_0 ?_
    refine pf_X8_127 rfl dX8_col_19 (fun s3 => ?_)
    refine r_iconst dX8_col_22 ci_0 ?_
    refine r_istore_n dX8_col_23 rfl (lt_b rfl) (lt_b rfl) ?_
    refine r_iconst dX8_col_24 ci_1 ?_
    refine r_istore_n dX8_col_25 rfl (lt_b rfl) (lt_b rfl) ?_
    refine r_iconst dX8_col_26 ci_0 ?_
    refine r_istore dX8_col_27 rfl (lt_b rfl) (lt_b rfl) ?_
    exact r_mask [true, true, true, true, true] (s_X8_col_L29 g 1000 s3 v2 0 1 0)
theorem ok_X8_col (g : Gm) (s0 : Sto) : Ok g yX8_col kX8_col 45 [.ref ((Em g 45).1.1 8 0 0)] s0 cvIw (f_X8_col s0) := Ok.of (by decide) rfl (Nat.le_of_ble_eq_true rfl) (lv := [some (.ref ((Em g 45).1.1 8 0 0)), none, none, none, none]) rfl (s_X8_col g s0)
theorem u_X8_col {α : Type} {cv : α → Res} {E : EE} {K : KK} {pc npc idx d : Nat} {lv : List (Option Value)} {st : List Value} {σ : Sto} {oc : Option (Int32 × Sto)} {kf : (Int32 × Sto) → Option α} (hOk : Ok E.1 yX8_col kX8_col d [.ref (E.1.1 8 0 0)] σ cvIw oc) (hd : Dc K pc (.invokevirtual idx) 3 npc) (hlk : Cond.methodLink K.2.1 idx yX8_col ∈ lw_good) (hw : (st.map fun v => v.category).sum ≤ 8) (hfit : fits_ E d 5) (hrm : room_ok E) (kk : ∀ q : Int32 × Sto, Rf cv E K npc lv (.int q.1 :: st) q.2 (kf q)) : Rf cv E K pc lv (.ref (E.1.1 8 0 0) :: st) σ (oc.bind kf) := c_V (n := 0) (as := []) (c0 := 8) (i := 0) (CC := "ThawGivesModel") (T := TX8) (N := 43) hd hOk hlk wi_X8_col wv_X8_col wn_X8 wc_X8_col rfl (by decide) (by decide) ⟨by decide, by decide, by decide⟩ rfl rfl hw hfit hrm (fun b _ => kk b)
def f_X8_pass_B30 (k30 : Sto → Int32 → Int32 → Option (Int32 × Sto)) (s0 : Sto) (x1 : Int32) (x2 : Int32) : Option (Int32 × Sto) :=
  (if x1 ≤ x2 then
    some ((s0.1 8 6 0), s0)
  else
    (f_X8_goesWeek s0).bind fun q5 => nmI (x2 + 1) fun v6 => k30 q5 x1 v6)
def f_X8_pass_L30 : Nat → Sto → Int32 → Int32 → Option (Int32 × Sto)
  | 0 => fun _ _ _ => none
  | n + 1 => f_X8_pass_B30 (f_X8_pass_L30 n)
def f_X8_pass (s0 : Sto) (x1 : Int32) : Option (Int32 × Sto) :=
  (f_X8_within x1 0 60).bind fun q1 => (if q1 = 0 then
    some ((-2 : Int32), s0)
  else
    (if ((s0.1 8 6 0) + x1) ≤ 9999 then
      f_X8_pass_L30 1000 s0 x1 0
    else
      some ((-3 : Int32), s0)))
set_option maxRecDepth 100000 in
theorem s_X8_pass_B30 (g : Gm) (k30 : Sto → Int32 → Int32 → Option (Int32 × Sto)) (hk30 : ∀ (s0 : Sto) (x1 : Int32) (x2 : Int32), Rf cvIw (Em g 5) kX8_pass 30 [some (.ref ((Em g 5).1.1 8 0 0)), some (.int x1), some (.int x2)] [] s0 (k30 s0 x1 x2)) (s0 : Sto) (x1 : Int32) (x2 : Int32) : Rf cvIw (Em g 5) kX8_pass 30 [some (.ref ((Em g 5).1.1 8 0 0)), some (.int x1), some (.int x2)] [] s0 (f_X8_pass_B30 k30 s0 x1 x2) := by
  unfold f_X8_pass_B30
  refine r_iload_n dX8_pass_30 rfl ?_
  refine r_iload_n dX8_pass_31 rfl ?_
  refine r_icge dX8_pass_32 (tgt := 45) (by decide) (fun c4 => ?_) (fun c4 => ?_)
  · refine r_aload_n dX8_pass_45 rfl ?_
    refine gf_X8_113 rfl dX8_pass_46 ?_
    exact r_iret dX8_pass_49 rfl rfl
  · refine r_aload_n dX8_pass_35 rfl ?_
    refine u_X8_goesWeek (ok_X8_goesWeek g s0) dX8_pass_36 ml_X8_226 (Nat.le_of_ble_eq_true rfl) (fits_m (by decide) (by decide)) room_m (fun q5 => ?_)
    refine r_iincN dX8_pass_39 rfl ci_1 rfl (lt_b rfl) (fun v6 => ?_)
    refine r_goto dX8_pass_42 (tgt := 30) (by decide) ?_
    exact r_mask [true, true, true] (hk30 q5 x1 v6)
theorem s_X8_pass_L30 (g : Gm) : ∀ (n : Nat) (s0 : Sto) (x1 : Int32) (x2 : Int32), Rf cvIw (Em g 5) kX8_pass 30 [some (.ref ((Em g 5).1.1 8 0 0)), some (.int x1), some (.int x2)] [] s0 (f_X8_pass_L30 n s0 x1 x2)
  | 0, _, _, _ => r_none
  | n + 1, s0, x1, x2 => s_X8_pass_B30 g (f_X8_pass_L30 n) (s_X8_pass_L30 g n) s0 x1 x2
set_option maxRecDepth 100000 in
theorem s_X8_pass (g : Gm) (s0 : Sto) (x1 : Int32) : Rf cvIw (Em g 5) kX8_pass 0 [some (.ref ((Em g 5).1.1 8 0 0)), some (.int x1), none] [] s0 (f_X8_pass s0 x1) := by
  unfold f_X8_pass
  refine r_iload_n dX8_pass_0 rfl ?_
  refine r_iconst dX8_pass_1 ci_0 ?_
  refine r_bipush dX8_pass_2 cb_60 ?_
  refine u_X8_within (ok_X8_within g s0 x1 0 60) dX8_pass_4 ml_X8_105 (Nat.le_of_ble_eq_true rfl) (fits_m (by decide) (by decide)) room_m (fun q1 => ?_)
  refine r_ifne dX8_pass_7 (tgt := 13) (by decide) (fun c2 => ?_) (fun c2 => ?_)
  · refine r_bipush dX8_pass_10 cb_m2 ?_
    exact r_iret dX8_pass_12 rfl rfl
  · refine r_aload_n dX8_pass_13 rfl ?_
    refine gf_X8_113 rfl dX8_pass_14 ?_
    refine r_iload_n dX8_pass_17 rfl ?_
    refine r_iadd dX8_pass_18 ?_
    refine r_sipush dX8_pass_19 cs_9999 ?_
    refine r_icle dX8_pass_22 (tgt := 28) (by decide) (fun c3 => ?_) (fun c3 => ?_)
    · refine r_iconst dX8_pass_28 ci_0 ?_
      refine r_istore_n dX8_pass_29 rfl (lt_b rfl) (lt_b rfl) ?_
      exact r_mask [true, true, true] (s_X8_pass_L30 g 1000 s0 x1 0)
    · refine r_bipush dX8_pass_25 cb_m3 ?_
      exact r_iret dX8_pass_27 rfl rfl
theorem ok_X8_pass (g : Gm) (s0 : Sto) (x1 : Int32) : Ok g yX8_pass kX8_pass 5 [.ref ((Em g 5).1.1 8 0 0), .int x1] s0 cvIw (f_X8_pass s0 x1) := Ok.of (by decide) rfl (Nat.le_of_ble_eq_true rfl) (lv := [some (.ref ((Em g 5).1.1 8 0 0)), some (.int x1), none]) rfl (s_X8_pass g s0 x1)
theorem u_X8_pass {α : Type} {cv : α → Res} {E : EE} {K : KK} {pc npc idx d : Nat} {lv : List (Option Value)} {st : List Value} {σ : Sto} {oc : Option (Int32 × Sto)} {kf : (Int32 × Sto) → Option α} {x1 : Int32} (hOk : Ok E.1 yX8_pass kX8_pass d [.ref (E.1.1 8 0 0), .int x1] σ cvIw oc) (hd : Dc K pc (.invokevirtual idx) 3 npc) (hlk : Cond.methodLink K.2.1 idx yX8_pass ∈ lw_good) (hw : (st.map fun v => v.category).sum ≤ 8) (hfit : fits_ E d 3) (hrm : room_ok E) (kk : ∀ q : Int32 × Sto, Rf cv E K npc lv (.int q.1 :: st) q.2 (kf q)) : Rf cv E K pc lv (.int x1 :: .ref (E.1.1 8 0 0) :: st) σ (oc.bind kf) := c_V (n := 1) (as := [.int x1]) (c0 := 8) (i := 0) (CC := "ThawGivesModel") (T := TX8) (N := 43) hd hOk hlk wi_X8_pass wv_X8_pass wn_X8 wc_X8_pass rfl (by decide) (by decide) ⟨by decide, by decide, by decide⟩ rfl rfl hw hfit hrm (fun b _ => kk b)
