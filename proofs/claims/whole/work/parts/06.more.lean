def cvI (σ : Sto) : Int32 → Res := fun r => (some (.int r), σ)
def cvL (σ : Sto) : Int64 → Res := fun r => (some (.long r), σ)
def cvR (g : Gm) (c : Nat) (σ : Sto) : Nat → Res := fun r => (some (.ref (g.1 c 0 r)), σ)
def cvIw : Int32 × Sto → Res := fun q => (some (.int q.1), q.2)
def cvLw : Int64 × Sto → Res := fun q => (some (.long q.1), q.2)
def cvV : Sto → Res := fun τ => (none, τ)
def sby (n j : Nat) : Int32 := (sbyt.getD n []).getD j 0
def sln (n : Nat) : Int32 := Int32.ofNat (slen.getD n 0)
abbrev acok (sp dp n : Int32) (N : Nat) : Prop := (¬ sp < 0 ∧ ¬ dp < 0 ∧ ¬ n < 0) ∧ sp.toNatClampNeg + n.toNatClampNeg ≤ N ∧ dp.toNatClampNeg + n.toNatClampNeg ≤ N
def cvU (σ : Sto) : Unit → Res := fun _ => (none, σ)
theorem nvc {x : Int32} {ty : FieldType} (h : vp_nar ty x = x) (hn : narrow ty (.int x) = .int (vp_nar ty x) := by rfl) : narrow ty (.int x) = .int x := hn.trans (congrArg Value.int h)
theorem cl_0 : Int64.ofNat ((0 : Fin 2) : Nat) = (0 : Int64) := by decide
theorem cl_1 : Int64.ofNat ((1 : Fin 2) : Nat) = (1 : Int64) := by decide
theorem nz01 {x : Int32} (h : x = 0 ∨ x = 1) : narrow .boolean (.int x) = .int x := by rcases h with rfl | rfl <;> rfl
def mk_ : List Bool → List (Option Value) → List (Option Value)
  | b :: bs, v :: vs => (if b then v else none) :: mk_ bs vs
  | _, _ => []
theorem mk_at : ∀ (bs : List Bool) (lv : List (Option Value)) (k : Nat) (v : Value), (mk_ bs lv)[k]? = some (some v) → lv[k]? = some (some v)
  | [], _, _, _, h => by simp [mk_] at h
  | _ :: _, [], _, _, h => by simp [mk_] at h
  | b :: bs, w :: vs, 0, v, h => by
    simp only [mk_, List.getElem?_cons_zero, Option.some.injEq] at h ⊢
    cases b <;> simp_all
  | b :: bs, w :: vs, k + 1, v, h => by
    simp only [mk_, List.getElem?_cons_succ] at h ⊢
    exact mk_at bs vs k v h
theorem Ok.ofF {α : Type} {cv : α → Res} {g : Gm} {y : MethodName} {K : KK} {d : Nat} {as : List Value} {σ : Sto} {o : Option α} {lv : List (Option Value)} (hy : plainFor y = true) (hc : y.cls = K.2.1) (hfit : (lg_sl as).length ≤ K.2.2.1) (hlv : lvl 0 lv = lv_args 0 as) (h : Rf cv (Em g d) K 0 lv [] σ o) : Ok g y K d as σ cv o := by
  intro a ho l
  refine va_MetF (cc := K.1) (maxL := K.2.2.1) (ret := K.2.2.2) hy rfl ?_
  intro p e s m args below meth c s₁ B hml hv
  obtain ⟨rfl, hk, hP⟩ := hv
  have hts := atoms_spec (ws := wsm y K) B.pre
  rw [lg_entry_eq]
  have hl := lv_entry as hfit
  have hl' : LV ((lg_sl as ++ List.replicate (K.2.2.1 - (lg_sl as).length) Slot.unset).toArray) K.2.2.1 lv := by
    unfold LV
    rw [hlv]
    exact hl
  exact h a ho p l e s m _ below meth c s.heap [] _ ⟨B.exec, B.bytes, B.returns, hml, B.notSynchronized, by rw [← hc]; exact findClass_of_methodNamed B.named, fun w hw => hts w (List.mem_cons_of_mem _ hw), hk⟩ hP va_S.rf hl'
theorem lt_b {a b : Nat} (h : Nat.ble (a + 1) b = true) : a < b := Nat.le_of_ble_eq_true h
section MORE
variable {α : Type} {cv : α → Res} {E : EE} {K : KK} {pc npc : Nat} {lv : List (Option Value)} {st : List Value} {σ : Sto} {o : Option α}
theorem r_mask (bs : List Bool) (k : Rf cv E K pc (mk_ bs lv) st σ o) : Rf cv E K pc lv st σ o := fun a ho p l e s m args below meth c H locs ls C hP hS hl => k a ho p l e s m args below meth c H locs ls C hP hS (lv_weak hl)
where lv_weak {ls : Array Slot} {nL : Nat} (h : LV ls nL lv) : LV ls nL (mk_ bs lv) := ⟨h.1, h.2.1, fun q hq => by
  obtain ⟨k, h1, h2⟩ := lvl_of _ _ _ hq
  have h3 := h.at (mk_at _ _ _ _ h2)
  rw [h1, Nat.zero_add]
  exact h3⟩
theorem r_istore_nN {i : Fin 4} {x : Int32} {F : Int32 → Option α} (hd : Dc K pc (.istore_n i) 1 npc) (hok : lok lv i = true) (hi : (i : Nat) < lv.length) (hn : (i : Nat) < K.2.2.1) (k : ∀ y, Rf cv E K npc (lv.set i (some (.int y))) st σ (F y)) : Rf cv E K pc lv (.int x :: st) σ (nmI x F) := r_istore_n hd hok hi hn (k x)
theorem r_istoreN {i : Nat} {x : Int32} {F : Int32 → Option α} (hd : Dc K pc (.istore i) 2 npc) (hok : lok lv i = true) (hi : i < lv.length) (hn : i < K.2.2.1) (k : ∀ y, Rf cv E K npc (lv.set i (some (.int y))) st σ (F y)) : Rf cv E K pc lv (.int x :: st) σ (nmI x F) := r_istore hd hok hi hn (k x)
theorem r_iincN {i : Nat} {n : Int} {x w : Int32} {F : Int32 → Option α} (hd : Dc K pc (.iinc i n) 3 npc) (hx : lv[i]? = some (some (.int x))) (hw : Int32.ofInt n = w) (hok : lok lv i = true) (hn : i < K.2.2.1) (k : ∀ y, Rf cv E K npc (lv.set i (some (.int y))) st σ (F y)) : Rf cv E K pc lv st σ (nmI (x + w) F) := r_iinc hd hx (by rw [hw]) hok hn (k _)
theorem Ks {p : Program} {s : State} {m : MethodId} {args : Array Value} {meth : Method} {c : Code} (C : Cx E K p s m args meth c) : Ks1 E.1 (E.2.1 s) s s.heap := C.2.2.2.2.2.2.2.2.1
theorem g_comp {idx : Nat} (hd : Dc K pc (.getstatic idx) 3 npc) (hlk : Cond.fieldLink K.2.1 idx "java/lang/String" "COMPACT_STRINGS" "Z" ∈ lw_good) (k : Rf cv E K npc lv (.int 1 :: st) σ o) : Rf cv E K pc lv st σ o := fun a ho p l e s m args below meth c H locs ls C hP hS hl => va_gets C.1 C.2.1 (Ks C).2.2.1.1 hS C.2.2.2.2.2.1 (C.2.2.2.2.2.2.1 _ hlk) (fun _ h => h) hd.1 (hd.2 ▸ k a ho p l e s m args below meth c H locs ls C hP hS hl)
theorem g_fmt {idx : Nat} (hd : Dc K pc (.getstatic idx) 3 npc) (hlk : Cond.fieldLink K.2.1 idx "jdk/internal/util/Preconditions" "SIOOBE_FORMATTER" "Ljava/util/function/BiFunction;" ∈ lw_good) (k1 : Rf cv E K npc lv (.null :: st) σ o) (k2 : ∀ x : Nat, Rf cv E K npc lv (.ref x :: st) σ o) : Rf cv E K pc lv st σ o := fun a ho p l e s m args below meth c H locs ls C hP hS hl => by
  rcases (Ks C).2.2.1.2 with h | ⟨t, h⟩
  · exact va_gets C.1 C.2.1 h hS C.2.2.2.2.2.1 (C.2.2.2.2.2.2.1 _ hlk) (fun _ h => h) hd.1 (hd.2 ▸ k1 a ho p l e s m args below meth c H locs ls C hP hS hl)
  · exact va_gets C.1 C.2.1 h hS C.2.2.2.2.2.1 (C.2.2.2.2.2.2.1 _ hlk) (fun _ h => h) hd.1 (hd.2 ▸ k2 t a ho p l e s m args below meth c H locs ls C hP hS hl)
theorem g_stat0 {idx : Nat} (hd : Dc K pc (.getstatic idx) 3 npc) (hlk : Cond.fieldLink K.2.1 idx "ThawGives" "ABOVE" "[I" ∈ lw_good) (k : Rf cv E K npc lv (.ref (E.1.2.2.2.1 0) :: st) σ o) : Rf cv E K pc lv st σ o := fun a ho p l e s m args below meth c H locs ls C hP hS hl => va_gets C.1 C.2.1 (Ks C).1.1 hS C.2.2.2.2.2.1 (C.2.2.2.2.2.2.1 _ hlk) (fun _ h => h) hd.1 (hd.2 ▸ k a ho p l e s m args below meth c H locs ls C hP hS hl)
theorem g_stat1 {idx : Nat} (hd : Dc K pc (.getstatic idx) 3 npc) (hlk : Cond.fieldLink K.2.1 idx "ThawGives$Acts" "BODIES" "[I" ∈ lw_good) (k : Rf cv E K npc lv (.ref (E.1.2.2.2.1 1) :: st) σ o) : Rf cv E K pc lv st σ o := fun a ho p l e s m args below meth c H locs ls C hP hS hl => va_gets C.1 C.2.1 (Ks C).2.1.1 hS C.2.2.2.2.2.1 (C.2.2.2.2.2.2.1 _ hlk) (fun _ h => h) hd.1 (hd.2 ▸ k a ho p l e s m args below meth c H locs ls C hP hS hl)
theorem sa_0 {j : Int32} (hd : Dc K pc (.iaload) 1 npc) (kk : 0 ≤ j ∧ j < 7 → j.toNatClampNeg < 7 → Rf cv E K npc lv (.int ((sarr 0).getD j.toNatClampNeg 0) :: st) σ o) : Rf cv E K pc lv (.int j :: .ref (E.1.2.2.2.1 0) :: st) σ (if 0 ≤ j ∧ j < 7 then o else none) := r_gd (fun hg a ho p l e s m args below meth c H locs ls C hP hS hl => by
  have hb := inb (N := 7) (n := 7) (by decide) hg
  exact va_ti C.1 C.2.1 (Ks C).1.2 hS hb.1 rfl hd.1 (hd.2 ▸ kk hg hb.2 a ho p l e s m args below meth c H locs ls C hP hS hl))
theorem sa_1 {j : Int32} (hd : Dc K pc (.iaload) 1 npc) (kk : 0 ≤ j ∧ j < 21 → j.toNatClampNeg < 21 → Rf cv E K npc lv (.int ((sarr 1).getD j.toNatClampNeg 0) :: st) σ o) : Rf cv E K pc lv (.int j :: .ref (E.1.2.2.2.1 1) :: st) σ (if 0 ≤ j ∧ j < 21 then o else none) := r_gd (fun hg a ho p l e s m args below meth c H locs ls C hP hS hl => by
  have hb := inb (N := 21) (n := 21) (by decide) hg
  exact va_ti C.1 C.2.1 (Ks C).2.1.2 hS hb.1 rfl hd.1 (hd.2 ▸ kk hg hb.2 a ho p l e s m args below meth c H locs ls C hP hS hl))
theorem g_sval {idx n : Nat} (hd : Dc K pc (.getfield idx) 3 npc) (hlk : Cond.fieldLink K.2.1 idx "java/lang/String" "value" "[B" ∈ lw_good) (hn : n < 5) (k : Rf cv E K npc lv (.ref (E.1.2.2.2.2.2 n) :: st) σ o) : Rf cv E K pc lv (.ref (E.1.2.2.2.2.1 n) :: st) σ o := fun a ho p l e s m args below meth c H locs ls C hP hS hl => vk_getf C.1 C.2.1 ((Ks C).2.2.2.1 n hn).2.2.1 hS C.2.2.2.2.2.1 (C.2.2.2.2.2.2.1 _ hlk) (fun _ h => h) hd.1 (hd.2 ▸ k a ho p l e s m args below meth c H locs ls C hP hS hl)
theorem g_scod {idx n : Nat} (hd : Dc K pc (.getfield idx) 3 npc) (hlk : Cond.fieldLink K.2.1 idx "java/lang/String" "coder" "B" ∈ lw_good) (hn : n < 5) (k : Rf cv E K npc lv (.int 0 :: st) σ o) : Rf cv E K pc lv (.ref (E.1.2.2.2.2.1 n) :: st) σ o := fun a ho p l e s m args below meth c H locs ls C hP hS hl => vk_getf C.1 C.2.1 ((Ks C).2.2.2.1 n hn).2.1 hS C.2.2.2.2.2.1 (C.2.2.2.2.2.2.1 _ hlk) (fun _ h => h) hd.1 (hd.2 ▸ k a ho p l e s m args below meth c H locs ls C hP hS hl)
theorem g_slen {n : Nat} (hd : Dc K pc (.arraylength) 1 npc) (hn : n < 5) (k : Rf cv E K npc lv (.int (sln n) :: st) σ o) : Rf cv E K pc lv (.ref (E.1.2.2.2.2.2 n) :: st) σ o := fun a ho p l e s m args below meth c H locs ls C hP hS hl => va_tlen C.1 C.2.1 ((Ks C).2.2.2.1 n hn).2.2.2 hS rfl hd.1 (hd.2 ▸ k a ho p l e s m args below meth c H locs ls C hP hS hl)
theorem sl_0 (hd : Dc K pc (.arraylength) 1 npc) (k : Rf cv E K npc lv (.int 7 :: st) σ o) : Rf cv E K pc lv (.ref (E.1.2.2.2.1 0) :: st) σ o := fun a ho p l e s m args below meth c H locs ls C hP hS hl => va_tlen C.1 C.2.1 (Ks C).1.2 hS (by decide) hd.1 (hd.2 ▸ k a ho p l e s m args below meth c H locs ls C hP hS hl)
theorem sl_1 (hd : Dc K pc (.arraylength) 1 npc) (k : Rf cv E K npc lv (.int 21 :: st) σ o) : Rf cv E K pc lv (.ref (E.1.2.2.2.1 1) :: st) σ o := fun a ho p l e s m args below meth c H locs ls C hP hS hl => va_tlen C.1 C.2.1 (Ks C).2.1.2 hS (by decide) hd.1 (hd.2 ▸ k a ho p l e s m args below meth c H locs ls C hP hS hl)
theorem sln_toInt {n : Nat} (hn : n < 5) : (sln n).toInt = (slen.getD n 0 : Nat) := by
  rcases (show n = 0 ∨ n = 1 ∨ n = 2 ∨ n = 3 ∨ n = 4 by omega) with rfl | rfl | rfl | rfl | rfl <;> decide
def acr (E : EE) : Prop := 1 ≤ E.2.2.1.frames ∧ 8 + (nativeFrameWords "java/lang/System" "arraycopy" 5 + 11) ≤ E.2.2.1.locals
theorem acr_m {g : Gm} {d : Nat} (h : 2 ≤ d) : acr (Em g d) := by
  refine ⟨by show 1 ≤ d; omega, ?_⟩
  show 8 + (nativeFrameWords "java/lang/System" "arraycopy" 5 + 11) ≤ 40 * d
  have : nativeFrameWords "java/lang/System" "arraycopy" 5 ≤ 40 := by decide
  omega
theorem g_sbald {n : Nat} {j : Int32} (hd : Dc K pc (.baload) 1 npc) (hn : n < 5) (kk : 0 ≤ j ∧ j < sln n → j.toNatClampNeg < slen.getD n 0 → Rf cv E K npc lv (.int (sby n j.toNatClampNeg) :: st) σ o) : Rf cv E K pc lv (.int j :: .ref (E.1.2.2.2.2.2 n) :: st) σ (if 0 ≤ j ∧ j < sln n then o else none) := r_gd (fun hg a ho p l e s m args below meth c H locs ls C hP hS hl => by
  have hb := inb (sln_toInt hn) hg
  exact va_tb C.1 C.2.1 ((Ks C).2.2.2.1 n hn).2.2.2 hS hb.1 rfl hd.1 (hd.2 ▸ kk hg hb.2 a ho p l e s m args below meth c H locs ls C hP hS hl))
theorem g_copyi {c0 k i j N idx : Nat} {sp dp n : Int32} {F : Sto → Option α} (hd : Dc K pc (.invokestatic idx) 3 npc) (hlk : Cond.methodLink K.2.1 idx arraycopyName ∈ lw_good) (ht : (c0, k + 1) ∈ tabs) (ha : aty c0 k = 0) (hN : alen c0 k = N) (hi : i < cn c0) (hj : j < cn c0) (hw : (st.map fun v => v.category).sum ≤ 8) (hr : acr E) (kk : acok sp dp n N → ∀ τ, Rf cv E K npc lv st τ (F τ)) : Rf cv E K pc lv (.int n :: .int dp :: .ref (E.1.1 c0 (k + 1) j) :: .int sp :: .ref (E.1.1 c0 (k + 1) i) :: st) σ (if acok sp dp n N then nm (sA σ c0 k j (va_cpy (σ.2.1 c0 k i) (σ.2.1 c0 k j) sp.toNatClampNeg dp.toNatClampNeg n.toNatClampNeg)) F else none) := r_gd (fun hg a ho p l e s m args below meth c H locs ls C hP hS hl => by
  obtain ⟨q0, -, h1⟩ := wl_at E.1 (allc_mem ht hi)
  obtain ⟨q1, hq, h3⟩ := wl_at E.1 (allc_mem ht hj)
  have h2 := h1 σ
  have h4 := h3 σ
  have h5 := sA_self E.1 σ (c := c0) (k := k) (i := j) (va_cpy (σ.2.1 c0 k i) (σ.2.1 c0 k j) sp.toNatClampNeg dp.toNatClampNeg n.toNatClampNeg) (by omega) (by omega)
  rw [ha, hN] at h5
  rw [cel_arr, ha, hN, acon_i E.1 σ i (by omega) (by omega)] at h2
  rw [cel_arr, ha, hN, acon_i E.1 σ j (by omega) (by omega)] at h4
  have hts := C.2.2.2.2.2.2.1
  refine va_copyi C.1 C.2.1 (C.2.2.2.1.trans hl.1.symm) C.2.2.2.2.2.1 (hts _ hlk) (hts _ wa_ac) (hts _ wt_ac) (hts _ wn_sys) C.2.2.2.2.2.2.2.1 hP (wlD C σ) hS q0 q1 0 0 h2 h4 rfl rfl rfl hg.1.1 hg.1.2.1 hg.1.2.2 hg.2.1 hg.2.2 (fun _ _ => rfl) hr.1 (by have := hr.2; omega) hd.1 (fun H1 locs1 hP1 _ hS1 => ?_)
  have hw := wl_set E.1 hq h5 (sA_oth E.1 σ _)
  exact hd.2 ▸ kk hg _ a ho p l e s m args below meth c H1 locs1 ls C (hw ▸ hP1) hS1 hl)
theorem g_copyl {c0 k i j N idx : Nat} {sp dp n : Int32} {F : Sto → Option α} (hd : Dc K pc (.invokestatic idx) 3 npc) (hlk : Cond.methodLink K.2.1 idx arraycopyName ∈ lw_good) (ht : (c0, k + 1) ∈ tabs) (ha : aty c0 k = 1) (hN : alen c0 k = N) (hi : i < cn c0) (hj : j < cn c0) (hw : (st.map fun v => v.category).sum ≤ 8) (hr : acr E) (kk : acok sp dp n N → ∀ τ, Rf cv E K npc lv st τ (F τ)) : Rf cv E K pc lv (.int n :: .int dp :: .ref (E.1.1 c0 (k + 1) j) :: .int sp :: .ref (E.1.1 c0 (k + 1) i) :: st) σ (if acok sp dp n N then nm (sL σ c0 k j (va_cpy (σ.2.2.1 c0 k i) (σ.2.2.1 c0 k j) sp.toNatClampNeg dp.toNatClampNeg n.toNatClampNeg)) F else none) := r_gd (fun hg a ho p l e s m args below meth c H locs ls C hP hS hl => by
  obtain ⟨q0, -, h1⟩ := wl_at E.1 (allc_mem ht hi)
  obtain ⟨q1, hq, h3⟩ := wl_at E.1 (allc_mem ht hj)
  have h2 := h1 σ
  have h4 := h3 σ
  have h5 := sL_self E.1 σ (c := c0) (k := k) (i := j) (va_cpy (σ.2.2.1 c0 k i) (σ.2.2.1 c0 k j) sp.toNatClampNeg dp.toNatClampNeg n.toNatClampNeg) ha
  rw [ha, hN] at h5
  rw [cel_arr, ha, hN, acon_l E.1 σ i ha] at h2
  rw [cel_arr, ha, hN, acon_l E.1 σ j ha] at h4
  have hts := C.2.2.2.2.2.2.1
  refine va_copyl C.1 C.2.1 (C.2.2.2.1.trans hl.1.symm) C.2.2.2.2.2.1 (hts _ hlk) (hts _ wa_ac) (hts _ wt_ac) (hts _ wn_sys) C.2.2.2.2.2.2.2.1 hP (wlD C σ) hS q0 q1 1 1 h2 h4 rfl rfl rfl hg.1.1 hg.1.2.1 hg.1.2.2 hg.2.1 hg.2.2 (fun _ _ => rfl) hr.1 (by have := hr.2; omega) hd.1 (fun H1 locs1 hP1 _ hS1 => ?_)
  have hw := wl_set E.1 hq h5 (sL_oth E.1 σ _)
  exact hd.2 ▸ kk hg _ a ho p l e s m args below meth c H1 locs1 ls C (hw ▸ hP1) hS1 hl)
theorem pf_pass {i2 : Nat} {F : Sto → Option α} {idx : Nat} (hK : K.2.1 = "ThawGives$Text") (hd : Dc K pc (.putfield idx) 3 npc) (hlk : Cond.fieldLink "ThawGives$Text" idx "ThawGives$Text" "pass" "LThawGives$Pass;" ∈ lw_good) (hi2 : i2 < 8) (kk : ∀ τ, Rf cv E K npc lv st τ (F τ)) : Rf cv E K pc lv (.ref (E.1.1 1 0 i2) :: .ref (E.1.1 4 0 0) :: st) σ (nm (sT σ i2) F) := fun a ho p l e s m args below meth c H locs ls C hP hS hl => by
  obtain ⟨q0, hq, h1⟩ := wl_at E.1 (allc_mem (c := 4) (s := 0) (i := 0) (by decide) (by decide))
  refine va_put (T := TX4) (C := "ThawGives$Text") (N := 5) (ty := .object "ThawGives$Pass") C.1 C.2.1 C.2.2.2.2.2.2.1 uw_4 tyX4 tyX4_ok nmX4 C.2.2.2.2.2.1 C.2.2.2.2.2.2.2.1 hP (wlD C σ) hS q0 (h1 σ) rfl 4 (by decide) (by rw [hK]; exact C.2.2.2.2.2.2.1 _ hlk) (fun _ h => h) rfl (by decide +kernel) rfl rfl (by show 4 < (flds E.1 σ 4 0).length; unfold flds; rw [List.length_map, List.length_range]; decide) hd.1 (fun H1 locs1 hP1 _ hS1 => ?_)
  have hw := wl_set E.1 (σ := σ) (τ := sT σ i2) hq rfl (by
    rintro ⟨c', s', i'⟩ hm hne
    cases s' with
    | succ j => rfl
    | zero =>
      show Sum.inr (c', flds E.1 (sT σ i2) c' i') = Sum.inr (c', flds E.1 σ c' i')
      congr 2
      unfold flds
      apply List.map_congr_left
      intro k hk
      by_cases h4 : c' = 4 ∧ k = 4
      · exfalso
        obtain ⟨rfl, rfl⟩ := h4
        obtain ⟨q, hq1, hq2⟩ := List.mem_flatMap.mp hm
        obtain ⟨i, hi, he⟩ := List.mem_map.mp hq2
        have e1 : q.1 = 4 := (Prod.mk.inj he).1
        have e2 : i = i' := (Prod.mk.inj (Prod.mk.inj he).2).2
        rw [e1] at hi
        have := List.mem_range.mp hi
        have : i < 1 := this
        exact hne (by rw [show i' = 0 by omega])
      · unfold fv
        have : rf (sT σ i2) c' k i' = rf σ c' k i' := by
          unfold rf
          split <;> first | rfl | (exact absurd ⟨rfl, rfl⟩ h4)
        rw [this]
        rfl)
  exact hd.2 ▸ kk _ a ho p l e s m args below meth c H1 locs1 ls C (hw ▸ hP1) hS1 hl
theorem c_VS {β : Type} {cv2 : β → Res} {oc : Option β} {kf : β → Option α} {y : MethodName} {K2 : KK} {d n idx sn : Nat} {as stk : List Value} (hd : Dc K pc (.invokevirtual idx) 3 npc) (hOk : Ok E.1 y K2 d (.ref (E.1.2.2.2.2.1 sn) :: as) σ cv2 oc) (hlk : Cond.methodLink K.2.1 idx y ∈ lw_good) (him : Cond.instanceMethod y ∈ lw_good) (hse : Cond.selects "java/lang/String" y y ∈ lw_good) (hin : Cond.initialized y.cls ∈ lw_good) (hcd : Cond.code y K2.1 K2.2.2.1 K2.2.2.2 ∈ lw_good) (hsn : sn < 5) (hds : y.cls ≠ "java/lang/invoke/MethodHandle" ∧ y.cls ≠ "java/lang/invoke/VarHandle" ∧ (parseMethodDescriptor y.desc).map (fun d => d.parameters.length) = some n) (hn : as.length = n) (hstk : stk = as.reverse ++ .ref (E.1.2.2.2.2.1 sn) :: st) (hw : (st.map fun v => v.category).sum ≤ 8) (hfit : fits_ E d K2.2.2.1) (hrm : room_ok E) (kk : ∀ b, oc = some b → Rf cv E K npc lv ((cv2 b).1.toList ++ st) (cv2 b).2 (kf b)) : Rf cv E K pc lv stk σ (oc.bind kf) := by
  intro a ho p l e s m args below meth c H locs ls C hP hS hl
  cases hoc : oc with
  | none => rw [hoc] at ho; cases ho
  | some b =>
    rw [hoc] at ho
    have hts := C.2.2.2.2.2.2.1
    refine call_go (va_runV (As := as) (rest := st) (b := E.1.2.2.2.2.1 sn) ⟨C.1, C.2.1, C.2.2.2.1, C.2.2.2.2.2.1, hts⟩ (hOk b hoc l) ⟨callB_of n hts (wsm_good hcd) rfl rfl rfl (hts _ hin) (hts _ hlk) hds hfit, hts _ him, hts _ hse⟩ ⟨Wd_blind, vk_recv (Ks C).2.2.2 hsn hS, fun U hU hW => ⟨rfl, Wd_at C hP hS hU hW⟩⟩ rfl hn hl.1 hstk (lv_room hw) hd.1 hrm) hS (wl_A C.2.2.2.2.2.2.2.2.2.2) (fun H1 locs1 hP1 hS1 => ?_)
    exact hd.2 ▸ kk b hoc a ho p l e s m args below meth c H1 locs1 ls C hP1 hS1 hl
end MORE
