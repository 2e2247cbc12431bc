-- THE MAKING OF THE OBJECTS: worlds as lists of cells
theorem ra_uniq {U : State} {a b : ClassId} {ty : FieldType} (ha : va_RA U a ty) (hb : va_RA U b ty) : a = b := by
  cases ty with
  | object C =>
    obtain ⟨_, _, _, _, _, h1⟩ := ha
    obtain ⟨_, _, _, _, _, h2⟩ := hb
    exact Option.some.inj (h1.symm.trans h2)
  | _ => exact Option.some.inj ((show U.vm.findClass _ = some a from ha).symm.trans hb)
def tysC (gc : Nat → ClassId) : List (ClassId × FieldType) := [(gc 0, .int), (gc 1, .long), (gc 2, .byte), (gc 3, .boolean), (gc 4, .object "ThawGives$Thing"), (gc 5, .object "ThawGives$Pass"), (gc 6, .object "ThawGives$Tape")]
def KcC (D : va_G) (gc : Nat → ClassId) (U : State) : Prop := va_K D vwCl (tysC gc) U ∧ (∀ w ∈ lw_nest, va_Nw w U) ∧ va_AO "ThawGives$Thing" U ∧ va_AO "ThawGives$Pass" U ∧ va_AO "ThawGives$Tape" U
abbrev EC : Type := va_G × (Nat → ClassId) × (State → Nat → Prop) × Room × (Array Value → State → List Frame → State → Prop)
def Cw (E : EC) (K : KK) (p : Program) (s : State) (m : MethodId) (args : Array Value) (meth : Method) (c : Code) : Prop :=
  p.tables.exec = Jvm.exec ∧ c.code = K.1 ∧ meth.sig.returnType = K.2.2.2 ∧ c.maxLocals = K.2.2.1 ∧ meth.locks = false ∧ s.vm.findClass K.2.1 = some m.cls ∧ (∀ w ∈ lw_good, w.before args s = true) ∧ KcC E.1 E.2.1 s ∧ (∀ q, s.heap.size ≤ q → E.2.2.1 s q) ∧ (K.2.1 = "ThawGivesLaw" ∨ meth.name = "<init>")
def Rw (E : EC) (K : KK) (n k pc : Nat) (lv : List (Option Value)) (st : List Value) (ws : va_W) : Prop :=
  ∀ (p : Program) (l : Launch) (e : Env) (s : State) (m : MethodId) (args : Array Value) (below : List Frame) (meth : Method) (c : Code) (H : Heap) (locs : List Loc) (ls : Array Slot),
    Cw E K p s m args meth c → va_P E.1 vwCl ws H → va_D (E.2.2.1 s) ws → va_S (E.2.2.1 s) s.heap H locs → LV ls K.2.2.1 lv → W p l e E.2.2.2.1 s m args below meth c H locs n k (E.2.2.2.2 args s below) (F0 m pc ls st)
section MAKE
variable {E : EC} {K : KK} {n k pc npc : Nat} {lv : List (Option Value)} {st : List Value} {ws : va_W}
theorem w_iconst {i : Int} {v : Int32} (hd : Dc K pc (.iconst i) 1 npc) (hv : Int32.ofInt i = v) (kk : Rw E K n k npc lv (.int v :: st) ws) : Rw E K n k pc lv st ws := fun p l e s m args below meth c H locs ls C hP hD hS hl => lv_iconst C.1 C.2.1 hd.1 hv (hd.2 ▸ kk p l e s m args below meth c H locs ls C hP hD hS hl)
theorem w_bipush {i : Int} {v : Int32} (hd : Dc K pc (.bipush i) 2 npc) (hv : (Int8.ofInt i).toInt32 = v) (kk : Rw E K n k npc lv (.int v :: st) ws) : Rw E K n k pc lv st ws := fun p l e s m args below meth c H locs ls C hP hD hS hl => lv_bipush C.1 C.2.1 hd.1 hv (hd.2 ▸ kk p l e s m args below meth c H locs ls C hP hD hS hl)
theorem w_sipush {i : Int} {v : Int32} (hd : Dc K pc (.sipush i) 3 npc) (hv : (Int16.ofInt i).toInt32 = v) (kk : Rw E K n k npc lv (.int v :: st) ws) : Rw E K n k pc lv st ws := fun p l e s m args below meth c H locs ls C hP hD hS hl => lv_sipush C.1 C.2.1 hd.1 hv (hd.2 ▸ kk p l e s m args below meth c H locs ls C hP hD hS hl)
theorem w_iload_n {i : Fin 4} {x : Int32} (hd : Dc K pc (.iload_n i) 1 npc) (hx : lv[(i : Nat)]? = some (some (.int x))) (kk : Rw E K n k npc lv (.int x :: st) ws) : Rw E K n k pc lv st ws := fun p l e s m args below meth c H locs ls C hP hD hS hl => lv_iload_n C.1 C.2.1 hd.1 rfl (hl.at hx) (hd.2 ▸ kk p l e s m args below meth c H locs ls C hP hD hS hl)
theorem w_aload_n {i : Fin 4} {x : Nat} (hd : Dc K pc (.aload_n i) 1 npc) (hx : lv[(i : Nat)]? = some (some (.ref x))) (kk : Rw E K n k npc lv (.ref x :: st) ws) : Rw E K n k pc lv st ws := fun p l e s m args below meth c H locs ls C hP hD hS hl => lv_aload_n C.1 C.2.1 hd.1 rfl (hl.at hx) (hd.2 ▸ kk p l e s m args below meth c H locs ls C hP hD hS hl)
theorem w_istore_n {i : Fin 4} {x : Int32} (hd : Dc K pc (.istore_n i) 1 npc) (hok : lok lv i = true) (hi : (i : Nat) < lv.length) (hn : (i : Nat) < K.2.2.1) (kk : Rw E K n k npc (lv.set i (some (.int x))) st ws) : Rw E K n k pc lv (.int x :: st) ws := fun p l e s m args below meth c H locs ls C hP hD hS hl => lv_istore_n C.1 C.2.1 hd.1 rfl hl hn rfl (fun ls' hl' => hd.2 ▸ kk p l e s m args below meth c H locs ls' C hP hD hS (LV.set hok hi hl'))
theorem w_astore_n {i : Fin 4} {x : Nat} (hd : Dc K pc (.astore_n i) 1 npc) (hok : lok lv i = true) (hi : (i : Nat) < lv.length) (hn : (i : Nat) < K.2.2.1) (kk : Rw E K n k npc (lv.set i (some (.ref x))) st ws) : Rw E K n k pc lv (.ref x :: st) ws := fun p l e s m args below meth c H locs ls C hP hD hS hl => lv_astore_n C.1 C.2.1 hd.1 rfl hl hn rfl (fun ls' hl' => hd.2 ▸ kk p l e s m args below meth c H locs ls' C hP hD hS (LV.set hok hi hl'))
theorem w_iinc {i : Nat} {j : Int} {x v : Int32} (hd : Dc K pc (.iinc i j) 3 npc) (hx : lv[i]? = some (some (.int x))) (hv : x + Int32.ofInt j = v) (hok : lok lv i = true) (hn : i < K.2.2.1) (kk : Rw E K n k npc (lv.set i (some (.int v))) st ws) : Rw E K n k pc lv st ws := fun p l e s m args below meth c H locs ls C hP hD hS hl => by
  have hm := lvl_mem lv 0 i _ hx
  rw [Nat.zero_add] at hm
  obtain ⟨q, hq⟩ := List.getElem?_of_mem hm
  exact lv_iinc C.1 C.2.1 hd.1 hl hq hv hn rfl (fun ls' hl' => hd.2 ▸ kk p l e s m args below meth c H locs ls' C hP hD hS (LV.set hok (List.getElem?_eq_some_iff.mp hx).1 hl'))
theorem w_dup {x : Value} (hd : Dc K pc .dup 1 npc) (hx : x.category = 1) (kk : Rw E K n k npc lv (x :: x :: st) ws) : Rw E K n k pc lv (x :: st) ws := fun p l e s m args below meth c H locs ls C hP hD hS hl => lv_dup C.1 C.2.1 hd.1 hx (hd.2 ▸ kk p l e s m args below meth c H locs ls C hP hD hS hl)
theorem w_goto {off : Int} {tgt : Nat} (hd : Dc K pc (.goto off) 3 npc) (ht : (pc : Int) + off = (tgt : Int)) (kk : Rw E K n k tgt lv st ws) : Rw E K n k pc lv st ws := fun p l e s m args below meth c H locs ls C hP hD hS hl => lv_goto C.1 C.2.1 hd.1 ht (kk p l e s m args below meth c H locs ls C hP hD hS hl)
theorem w_geT {x y : Int32} {off : Int} {tgt : Nat} (hd : Dc K pc (.if_icmp .ge off) 3 npc) (ht : (pc : Int) + off = (tgt : Int)) (h : y ≤ x) (kk : Rw E K n k tgt lv st ws) : Rw E K n k pc lv (.int y :: .int x :: st) ws := fun p l e s m args below meth c H locs ls C hP hD hS hl => lv_icmp_ge C.1 C.2.1 hd.1 ht (fun _ => kk p l e s m args below meth c H locs ls C hP hD hS hl) (fun h2 => absurd h h2)
theorem w_geF {x y : Int32} {off : Int} {tgt : Nat} (hd : Dc K pc (.if_icmp .ge off) 3 npc) (ht : (pc : Int) + off = (tgt : Int)) (h : ¬ y ≤ x) (kk : Rw E K n k npc lv st ws) : Rw E K n k pc lv (.int y :: .int x :: st) ws := fun p l e s m args below meth c H locs ls C hP hD hS hl => lv_icmp_ge C.1 C.2.1 hd.1 ht (fun h2 => absurd h2 h) (fun _ => hd.2 ▸ kk p l e s m args below meth c H locs ls C hP hD hS hl)
theorem w_eq {ws' : va_W} (h : ws = ws') (kk : Rw E K n k pc lv st ws') : Rw E K n k pc lv st ws := h ▸ kk
theorem w_obj {a idx : Nat} (hd : Dc K pc (.invokespecial idx) 3 npc) (hlk : Cond.methodLink K.2.1 idx objectInit ∈ lw_good) (h1 : Cond.instanceMethod objectInit ∈ lw_good) (h2 : Cond.code objectInit ⟨#[0xb1]⟩ 1 none ∈ lw_good) (hw : (st.map fun v => v.category).sum ≤ 8) (hf : 1 ≤ E.2.2.2.1.frames) (hr : 20 ≤ E.2.2.2.1.locals) (kk : Rw E K n k npc lv st ws) : Rw E K n k pc lv (.ref a :: st) ws := fun p l e s m args below meth c H locs ls C hP hD hS hl => by
  have hts := C.2.2.2.2.2.2.1
  refine W.objInit C.1 C.2.1 C.2.2.2.2.2.1 (hts _ hlk) (hts _ h1) (hts _ h2) rfl (hl.1.trans C.2.2.2.1.symm) rfl hd.1 hf (by have := lv_room (m := m) (pc := pc) (ls := ls) (rest := .ref a :: st) hw; omega) ?_
  exact hd.2 ▸ kk p l e s m args below meth c H locs ls C hP hD hS hl
theorem w_get {a q0 ci N j idx : Nat} {CC : String} {T : u_T} {fs : List Value} {v : Value} (hd : Dc K pc (.getfield idx) 3 npc) (hc : vwCl[ci]? = some (CC, T, N)) (hws : ∀ w ∈ u_ws CC T N, w ∈ lw_good) (he : ws[q0]? = some (a, .inr (ci, fs))) (hj : j < N) (hT : (T j).1 = CC) (hlk : Cond.fieldLink K.2.1 idx CC (T j).2.1 (T j).2.2.1 ∈ lw_good) (hv : fs[j]? = some v) (kk : Rw E K n k npc lv (v :: st) ws) : Rw E K n k pc lv (.ref a :: st) ws := fun p l e s m args below meth c H locs ls C hP hD hS hl => va_get C.1 C.2.1 C.2.2.2.2.2.2.1 hws C.2.2.2.2.2.1 C.2.2.2.2.2.2.2.1.1 hP q0 he hc j hj (C.2.2.2.2.2.2.1 _ hlk) (by rw [hT]; exact fun _ h => h) hv hd.1 (hd.2 ▸ kk p l e s m args below meth c H locs ls C hP hD hS hl)
theorem w_put {a q0 ci N j idx : Nat} {CC : String} {T : u_T} {ty0 : Nat → FieldType} {ty : FieldType} {fs : List Value} {v : Value} (hd : Dc K pc (.putfield idx) 3 npc) (hc : vwCl[ci]? = some (CC, T, N)) (hws : ∀ w ∈ u_ws CC T N, w ∈ lw_good) (hty : ∀ k, k < N → parseFieldDescriptor (T k).2.2.1 = some (ty0 k)) (hnm : ∀ a, a < N → ∀ b, b < N → a ≠ b → (T a).2.1 ≠ (T b).2.1) (he : ws[q0]? = some (a, .inr (ci, fs))) (hj : j < N) (hT : (T j).1 = CC) (hfin : (T j).2.2.2 = false) (hpd : parseFieldDescriptor (T j).2.2.1 = some ty) (hn : narrow ty v = v) (hfit : fits ty v = true) (hlk : Cond.fieldLink K.2.1 idx CC (T j).2.1 (T j).2.2.1 ∈ lw_good) (hlen : j < fs.length) (kk : Rw E K n k npc lv st (ws.set q0 (a, .inr (ci, fs.set j v)))) : Rw E K n k pc lv (v :: .ref a :: st) ws := fun p l e s m args below meth c H locs ls C hP hD hS hl => va_put C.1 C.2.1 C.2.2.2.2.2.2.1 hws ty0 hty hnm C.2.2.2.2.2.1 C.2.2.2.2.2.2.2.1.1 hP hD hS q0 he hc j hj (C.2.2.2.2.2.2.1 _ hlk) (by rw [hT]; exact fun _ h => h) hfin hpd hn hfit hlen hd.1 (fun H1 locs1 hP1 hD1 hS1 => hd.2 ▸ kk p l e s m args below meth c H1 locs1 ls C hP1 hD1 hS1 hl)
theorem w_putF {a q0 ci N j idx : Nat} {CC : String} {T : u_T} {ty0 : Nat → FieldType} {ty : FieldType} {fs : List Value} {v : Value} (hd : Dc K pc (.putfield idx) 3 npc) (hc : vwCl[ci]? = some (CC, T, N)) (hws : ∀ w ∈ u_ws CC T N, w ∈ lw_good) (hty : ∀ k, k < N → parseFieldDescriptor (T k).2.2.1 = some (ty0 k)) (hnm : ∀ a, a < N → ∀ b, b < N → a ≠ b → (T a).2.1 ≠ (T b).2.1) (he : ws[q0]? = some (a, .inr (ci, fs))) (hj : j < N) (hT : (T j).1 = CC) (hK : CC = K.2.1) (hKl : K.2.1 ≠ "ThawGivesLaw") (hfin : (T j).2.2.2 = true) (hpd : parseFieldDescriptor (T j).2.2.1 = some ty) (hn : narrow ty v = v) (hfit : fits ty v = true) (hlk : Cond.fieldLink K.2.1 idx CC (T j).2.1 (T j).2.2.1 ∈ lw_good) (hlen : j < fs.length) (kk : Rw E K n k npc lv st (ws.set q0 (a, .inr (ci, fs.set j v)))) : Rw E K n k pc lv (v :: .ref a :: st) ws := fun p l e s m args below meth c H locs ls C hP hD hS hl => va_putF C.1 C.2.1 C.2.2.2.2.2.2.1 hws ty0 hty hnm C.2.2.2.2.2.1 C.2.2.2.2.2.2.2.1.1 hP hD hS q0 he hc j hj (C.2.2.2.2.2.2.1 _ hlk) (by rw [hT]; exact fun _ h => h) hfin (C.2.2.2.2.2.2.2.2.2.resolve_left hKl) (hT.trans hK) hpd hn hfit hlen hd.1 (fun H1 locs1 hP1 hD1 hS1 => hd.2 ▸ kk p l e s m args below meth c H1 locs1 ls C hP1 hD1 hS1 hl)
theorem w_newa {at_ : ArrayType} {ty : FieldType} {t N : Nat} {i : Int32} {a0 : vp_A} (hd : Dc K pc (.newarray at_) 2 npc) (hty : newarray.typeOf at_ = ty) (harr : Cond.arrayClass (newarray.typeOf at_) ∈ lw_good) (ht : ∀ gc, (tysC gc)[t]? = some (gc t, ty)) (ha : ∀ cA : ClassId, vp_cell cA a0 = arrV cA N (fun _ => defaultValue ty)) (hn : ¬ i < 0) (hN : i.toNatClampNeg = N) (hb : N * componentBytes ty ≤ 536870912) (hc : n + 1 ≤ E.2.2.2.1.cells) (hs : k + N ≤ E.2.2.2.1.slots) (kk : ∀ q, Rw E K (n + 1) (k + N) npc lv (.ref q :: st) (ws ++ [(q, .inl (E.2.1 t, a0))])) : Rw E K n k pc lv (.int i :: st) ws := fun p l e s m args below meth c H locs ls C hP hD hS hl => by
  refine va_newa C.1 C.2.1 (C.2.2.2.2.2.2.1 _ harr) hty C.2.2.2.2.2.2.2.1.1 hP hD hS C.2.2.2.2.2.2.2.2.1 ha hn hN hb hc hs hd.1 (fun q cA H1 hK hP1 hD1 hS1 => ?_)
  have h1 := (hK.2 (tysC E.2.1).length (cA, ty) (by simp)).2
  have h2 := (C.2.2.2.2.2.2.2.1.1.2 t _ (ht E.2.1)).2
  have h3 := ra_uniq h1 h2
  dsimp only at h3
  subst h3
  exact hd.2 ▸ kk q p l e s m args below meth c H1 locs ls C hP1 hD1 hS1 hl
theorem w_newq {CC : String} {t N idx : Nat} {i : Int32} (hd : Dc K pc (.anewarray idx) 3 npc) (hlk : Cond.classLink K.2.1 idx CC ∈ lw_good) (hao : ∀ D gc U, KcC D gc U → va_AO CC U) (ht : ∀ gc, (tysC gc)[t]? = some (gc t, .object CC)) (hn : ¬ i < 0) (hN : i.toNatClampNeg = N) (hb : N * 4 ≤ 536870912) (hc : n + 1 ≤ E.2.2.2.1.cells) (hs : k + N ≤ E.2.2.2.1.slots) (kk : ∀ q, Rw E K (n + 1) (k + N) npc lv (.ref q :: st) (ws ++ [(q, .inl (E.2.1 t, N, .inr (.inr (.inr (.inr (fun _ => none))))))])) : Rw E K n k pc lv (.int i :: st) ws := fun p l e s m args below meth c H locs ls C hP hD hS hl => by
  refine va_newq C.1 C.2.1 C.2.2.2.2.2.1 (C.2.2.2.2.2.2.1 _ hlk) (hao _ _ _ C.2.2.2.2.2.2.2.1) C.2.2.2.2.2.2.2.1.1 hP hD hS C.2.2.2.2.2.2.2.2.1 hn hN hb hc hs hd.1 (fun q cA H1 hK hP1 hD1 hS1 => ?_)
  have h1 := (hK.2 (tysC E.2.1).length (cA, .object CC) (by simp)).2
  have h2 := (C.2.2.2.2.2.2.2.1.1.2 t _ (ht E.2.1)).2
  have h3 := ra_uniq h1 h2
  dsimp only at h3
  subst h3
  exact hd.2 ▸ kk q p l e s m args below meth c H1 locs ls C hP1 hD1 hS1 hl
theorem w_new {CC : String} {T : u_T} {ty : Nat → FieldType} {ci N idx : Nat} {fs : List Value} (hd : Dc K pc (.new idx) 3 npc) (hc : vwCl[ci]? = some (CC, T, N)) (hws : ∀ w ∈ u_ws CC T N, w ∈ lw_good) (hty : ∀ k, k < N → parseFieldDescriptor (T k).2.2.1 = some (ty k)) (hlk : Cond.classLink K.2.1 idx CC ∈ lw_good) (h1 : Cond.instantiable CC N ∈ lw_good) (h2 : Cond.initialized CC ∈ lw_good) (hfs : ∀ j, j < N → defaultValue (ty j) = vp_V fs j) (hcc : n + 1 ≤ E.2.2.2.1.cells) (hs : k + N ≤ E.2.2.2.1.slots) (kk : ∀ q, Rw E K (n + 1) (k + N) npc lv (.ref q :: st) (ws ++ [(q, .inr (ci, fs))])) : Rw E K n k pc lv st ws := fun p l e s m args below meth c H locs ls C hP hD hS hl => by
  have hts := C.2.2.2.2.2.2.1
  exact va_new C.1 C.2.1 hts hws ty hty C.2.2.2.2.2.1 (hts _ hlk) (hts _ h1) (hts _ h2) C.2.2.2.2.2.2.2.1.1 hP hD hS C.2.2.2.2.2.2.2.2.1 hc hfs hcc hs hd.1 (fun q H1 hP1 hD1 hS1 => hd.2 ▸ kk q p l e s m args below meth c H1 locs ls C hP1 hD1 hS1 hl)
theorem w_aast {a v q0 qk t ci N : Nat} {i : Int32} {CC : String} {T : u_T} {N2 : Nat} {vs : List Value} {f : Nat → Option Nat} (hd : Dc K pc .aastore 1 npc) (ha : ws[q0]? = some (a, .inl (E.2.1 t, N, .inr (.inr (.inr (.inr f)))))) (ht : ∀ gc, (tysC gc)[t]? = some (gc t, .object CC)) (hv : ws[qk]? = some (v, .inr (ci, vs))) (hc : vwCl[ci]? = some (CC, T, N2)) (hin : vp_in i N) (kk : Rw E K n k npc lv st (ws.set q0 (a, .inl (E.2.1 t, N, .inr (.inr (.inr (.inr (va_up f i.toNatClampNeg (some v)))))))) ) : Rw E K n k pc lv (.ref v :: .int i :: .ref a :: st) ws := fun p l e s m args below meth c H locs ls C hP hD hS hl => va_astq C.1 C.2.1 C.2.2.2.2.2.2.2.1.1 hP hD hS q0 t qk ci ha (ht E.2.1) hv hc hin hd.1 (fun H1 locs1 hP1 hD1 hS1 => hd.2 ▸ kk p l e s m args below meth c H1 locs1 ls C hP1 hD1 hS1 hl)
theorem w_iast {a q0 N : Nat} {i x : Int32} {f : Nat → Int32} (hd : Dc K pc .iastore 1 npc) (ha : ws[q0]? = some (a, .inl (E.2.1 0, N, .inl f))) (hin : vp_in i N) (kk : Rw E K n k npc lv st (ws.set q0 (a, .inl (E.2.1 0, N, .inl (upd f i.toNatClampNeg x))))) : Rw E K n k pc lv (.int x :: .int i :: .ref a :: st) ws := fun p l e s m args below meth c H locs ls C hP hD hS hl => va_iast C.1 C.2.1 C.2.2.2.2.2.2.2.1.1 hP hD hS q0 0 ha rfl hin hd.1 (fun H1 locs1 hP1 hD1 hS1 => hd.2 ▸ kk p l e s m args below meth c H1 locs1 ls C hP1 hD1 hS1 hl)
theorem w_min {idx : Nat} {x y : Int32} (hd : Dc K pc (.invokestatic idx) 3 npc) (hlk : Cond.methodLink K.2.1 idx Lib.Math.min.name ∈ lw_good) (h1 : Cond.static Lib.Math.min.name ∈ lw_good) (h2 : Cond.initialized "java/lang/Math" ∈ lw_good) (h3 : Cond.code Lib.Math.min.name Lib.Math.min.code 2 (some .int) ∈ lw_good) (hf : 1 ≤ E.2.2.2.1.frames) (hw : (st.map fun v => v.category).sum + 13 ≤ E.2.2.2.1.locals) (hcc : n ≤ E.2.2.2.1.cells) (hs : k ≤ E.2.2.2.1.slots) (kk : Rw E K n k npc lv (.int (if y < x then y else x) :: st) ws) : Rw E K n k pc lv (.int y :: .int x :: st) ws := fun p l e s m args below meth c H locs ls C hP hD hS hl => by
  have hts := C.2.2.2.2.2.2.1
  exact va_mmin C.1 C.2.1 (C.2.2.2.1.trans hl.1.symm) C.2.2.2.2.2.1 (hts _ hlk) (hts _ h1) (hts _ h2) (hts _ h3) hf hw hcc hs hd.1 (hd.2 ▸ kk p l e s m args below meth c H locs ls C hP hD hS hl)
def QCc (D : va_G) (wi : va_W) (wo : (Nat → Nat) → va_W) (sz : Nat) : Array Value → State → Outcome → State → Prop := fun _ st oc t => oc = .returned none ∧ (∃ u, va_P D vwCl (wo u) t.heap ∧ va_D (va_A wi sz) (wo u)) ∧ va_F (va_A wi sz) st t
def rmc (d mc ms : Nat) : Room := { frames := d, cells := mc, slots := ms, locals := 40 * d }
def Okc (D : va_G) (gc : Nat → ClassId) (y : MethodName) (K : KK) (d mc ms : Nat) (as : List Value) (wi : va_W) (wo : (Nat → Nat) → va_W) : Prop :=
  ∀ (l : Launch) (sz : Nat), Met l y (wsm y K) (rmc d mc ms) (va_Pc as (fun U => U.heap.size = sz ∧ va_P D vwCl wi U.heap ∧ KcC D gc U ∧ va_D (fun _ => True) wi)) (QCc D wi wo sz) mc ms (va_A wi sz)
def Ec (D : va_G) (gc : Nat → ClassId) (d mc ms : Nat) (wi : va_W) (wo : (Nat → Nat) → va_W) : EC := (D, gc, (fun s => va_A wi s.heap.size), rmc d mc ms, fun args s below => MQ below (QCc D wi wo s.heap.size) args s mc ms (va_A wi s.heap.size))
theorem Okc.of {D : va_G} {gc : Nat → ClassId} {y : MethodName} {K : KK} {d mc ms : Nat} {as : List Value} {wi : va_W} {wo : (Nat → Nat) → va_W} {lv : List (Option Value)} (hy : plainName y.cls = true) (hc : y.cls = K.2.1) (hname : y.name = "<init>") (hfit : (lg_sl as).length ≤ K.2.2.1) (hlv : lvl 0 lv = lv_args 0 as) (h : Rw (Ec D gc d mc ms wi wo) K 0 0 0 lv [] wi) : Okc D gc y K d mc ms as wi wo := by
  intro l sz
  refine Met.ofW (cc := K.1) (maxL := K.2.2.1) (ret := K.2.2.2) hy rfl ?_
  intro p e s m args below meth c s₁ B hml hv
  obtain ⟨rfl, rfl, hP, hK, hD0⟩ := hv
  have hts := atoms_spec (ws := wsm y K) B.pre
  rw [lg_entry_eq]
  have hl := lv_entry as hfit
  have hl' : LV ((lg_sl as ++ List.replicate (K.2.2.1 - (lg_sl as).length) Slot.unset).toArray) K.2.2.1 lv := by
    unfold LV
    rw [hlv]
    exact hl
  exact h p l e s m _ below meth c s.heap [] _ ⟨B.exec, B.bytes, B.returns, hml, B.notSynchronized, by rw [← hc]; exact findClass_of_methodNamed B.named, fun w hw => hts w (List.mem_cons_of_mem _ hw), hK, fun q hq => Or.inr hq, Or.inr ((name_of_methodNamed B.named B.method).1.trans hname)⟩ hP hD0.self va_S.rf hl'
theorem w_ret {D : va_G} {gc : Nat → ClassId} {d mc ms : Nat} {wi ws : va_W} {wo : (Nat → Nat) → va_W} {u : Nat → Nat} (hd : Dc K pc .return_ 1 npc) (hr : K.2.2.2 = none) (hn : n ≤ mc) (hk : k ≤ ms) (hw : wo u = ws) : Rw (Ec D gc d mc ms wi wo) K n k pc lv [] ws := fun p l e s m args below meth c H locs ls C hP hD hS hl => by
  subst hw
  refine W.widen (k := mc) (n := ms) hn hk ?_
  exact W.vret C.1 C.2.1 (C.2.2.1.trans hr) (fun t ht _ => ⟨rfl, ⟨u, by rw [ht]; exact hP, hD⟩, hS.F ht⟩) hS.2.2 hd.1 C.2.2.2.2.1
theorem ap_l {D : va_G} {cl : List vw_C} {w1 w2 : va_W} {H : Heap} (h : va_P D cl (w1 ++ w2) H) : va_P D cl w1 H := fun i q hi => h i q (by rw [List.getElem?_append_left (List.getElem?_eq_some_iff.mp hi).1]; exact hi)
theorem ap_r {D : va_G} {cl : List vw_C} {w1 w2 : va_W} {H : Heap} (h : va_P D cl (w1 ++ w2) H) : va_P D cl w2 H := fun i q hi => h (w1.length + i) q (by rw [List.getElem?_append_right (by omega), Nat.add_sub_cancel_left]; exact hi)
theorem ad_l {A : Nat → Prop} {w1 w2 : va_W} (h : va_D A (w1 ++ w2)) : va_D A w1 := by
  have e : ∀ (i : Nat) (q : Nat × va_E), w1[i]? = some q → (w1 ++ w2)[i]? = some q := fun i q hi => by rw [List.getElem?_append_left (List.getElem?_eq_some_iff.mp hi).1]; exact hi
  exact ⟨fun i j p q hi hj => h.1 i j p q (e i p hi) (e j q hj), fun i q hi => h.2 i q (e i q hi)⟩
theorem ad_r {A : Nat → Prop} {w1 w2 : va_W} (h : va_D A (w1 ++ w2)) : va_D A w2 := by
  have e : ∀ (i : Nat) (q : Nat × va_E), w2[i]? = some q → (w1 ++ w2)[w1.length + i]? = some q := fun i q hi => by rw [List.getElem?_append_right (by omega), Nat.add_sub_cancel_left]; exact hi
  exact ⟨fun i j p q hi hj hpq => by have := h.1 _ _ p q (e i p hi) (e j q hj) hpq; omega, fun i q hi => h.2 _ q (e i q hi)⟩
theorem ad_x {A : Nat → Prop} {w1 w2 : va_W} (h : va_D A (w1 ++ w2)) : ∀ (i j : Nat) (p q : Nat × va_E), w1[i]? = some p → w2[j]? = some q → p.1 ≠ q.1 := fun i j p q hi hj hpq => by
  have hl := (List.getElem?_eq_some_iff.mp hi).1
  have := h.1 i (w1.length + j) p q (by rw [List.getElem?_append_left hl]; exact hi) (by rw [List.getElem?_append_right (by omega), Nat.add_sub_cancel_left]; exact hj) hpq
  omega
theorem KcC.at {p : Program} {s U : State} {m : MethodId} {args : Array Value} {meth : Method} {c : Code} (C : Cw E K p s m args meth c) (hW : s.WarmedH U.vm) : KcC E.1 E.2.1 U := by
  obtain ⟨h1, h2, h3, h4, h5⟩ := C.2.2.2.2.2.2.2.1
  exact ⟨va_K.moved hW.alike h1, fun w hw => nest_warm hW (List.mem_filter.mp hw).2 (h2 w hw), h3.moved hW.alike, h4.moved hW.alike, h5.moved hW.alike⟩
theorem KcC.blind {D : va_G} {gc : Nat → ClassId} {as : List Value} {wi : va_W} {sz : Nat} : FrameBlind (va_Pc as (fun U => U.heap.size = sz ∧ va_P D vwCl wi U.heap ∧ KcC D gc U ∧ va_D (fun _ => True) wi)) := fun a U gg mk h => ⟨h.1, h.2.1, h.2.2.1, ⟨va_K.moved (u := U) (U := U.calling gg mk a) (Vm.Alike.refl U.vm) h.2.2.2.1.1, fun w hw => nest_same (u := U) (U := U.calling gg mk a) rfl (List.mem_filter.mp hw).2 (h.2.2.2.1.2.1 w hw), h.2.2.2.1.2.2.1.moved (u := U) (U := U.calling gg mk a) (Vm.Alike.refl U.vm), h.2.2.2.1.2.2.2.1.moved (u := U) (U := U.calling gg mk a) (Vm.Alike.refl U.vm), h.2.2.2.1.2.2.2.2.moved (u := U) (U := U.calling gg mk a) (Vm.Alike.refl U.vm)⟩, h.2.2.2.2⟩
theorem w_go {y : MethodName} {K2 : KK} {mc ms b : Nat} {wr wi : va_W} {wo : (Nat → Nat) → va_W} {p : Program} {l : Launch} {e : Env} {s : State} {m : MethodId} {args : Array Value} {below : List Frame} {meth : Method} {c : Code} {H : Heap} {locs : List Loc} {ls : Array Slot} {st0 : List Value} {aa : Array Value} (C : Cw E K p s m args meth c) (hr : va_Run p l e E.2.2.2.1 s m args below meth c H locs n k mc ms (F0 m pc ls st0) st (QCc E.1 wi wo H.size aa) (va_A wi H.size)) (hP : va_P E.1 vwCl (wr ++ wi) H) (hD : va_D (E.2.2.1 s) (wr ++ wi)) (hS : va_S (E.2.2.1 s) s.heap H locs) (kk : ∀ (H1 : Heap) (locs1 : List Loc) (u : Nat → Nat), va_P E.1 vwCl (wr ++ wo u) H1 → va_D (E.2.2.1 s) (wr ++ wo u) → va_S (E.2.2.1 s) s.heap H1 locs1 → W p l e E.2.2.2.1 s m args below meth c H1 locs1 (n + mc) (k + ms) (E.2.2.2.2 args s below) (F0 m (pc + 3) ls st)) : W p l e E.2.2.2.1 s m args below meth c H locs n k (E.2.2.2.2 args s below) (F0 m pc ls st0) := by
  have hFc : ∀ q, va_A wi H.size q → E.2.2.1 s q := fun q h => by
    rcases h with ⟨i, e, h⟩ | h
    · exact (ad_r hD).2 i _ h
    · exact C.2.2.2.2.2.2.2.2.1 q (Nat.le_trans hS.1 h)
  intro T hT X
  obtain ⟨v, st₀, t, T', L, h0, X', hL, e1, e2, ⟨hv, ⟨u, hp, hd2⟩, hz, hk⟩, stp⟩ := hr T hT X
  cases hv
  rw [h0] at hz hk
  have hP1 : va_P E.1 vwCl (wr ++ wo u) T'.heap := va_P.app ((ap_l hP).kept (fun i q hi => by
    rw [e1]
    refine hk q.1 ((ap_l hP) i q hi).lt (fun hA => ?_)
    rcases hA with ⟨j, e3, hj⟩ | hA
    · exact ad_x hD i j q _ hi hj rfl
    · exact absurd ((ap_l hP) i q hi).lt (by omega))) (by rw [e1]; exact hp)
  have hD1 : va_D (E.2.2.1 s) (wr ++ wo u) := va_D.app (ad_l hD) (hd2.weaken (fun i q _ h => hFc q.1 h)) (fun i j x z hx hz2 hxz => by
    rcases hd2.2 j z hz2 with ⟨j2, e3, hj⟩ | hA
    · exact ad_x hD i j2 x _ hx hj hxz
    · exact absurd ((ap_l hP) i x hx).lt (by rw [hxz]; omega))
  obtain ⟨t2, a1, b1⟩ := kk T'.heap (locs ++ L) u hP1 hD1 ⟨Nat.le_trans hS.1 (by rw [e1]; exact hz), fun q h1 h2 => by rw [e1, hk q (Nat.lt_of_lt_of_le h1 hS.1) (fun z => h2 (hFc q z))]; exact hS.2.1 q h1 h2, fun q hq => by
      rcases List.mem_append.mp hq with h | h
      · exact hS.2.2 q h
      · exact hFc _ (hL q h)⟩ T' rfl X'
  exact ⟨t2, stp t2 a1, b1⟩
theorem w_init {y : MethodName} {K2 : KK} {d mc ms idx b na : Nat} {as stk : List Value} {wr wi : va_W} {wo : (Nat → Nat) → va_W} (hd : Dc K pc (.invokespecial idx) 3 npc) (hOk : Okc E.1 E.2.1 y K2 d mc ms (.ref b :: as) wi wo) (hlk : Cond.methodLink K.2.1 idx y ∈ lw_good) (him : Cond.instanceMethod y ∈ lw_good) (hin : Cond.initialized y.cls ∈ lw_good) (hcd : Cond.code y K2.1 K2.2.2.1 K2.2.2.2 ∈ lw_good) (hrt : K2.2.2.2 = none) (hy1 : y.name = "<init>") (hds : y.cls ≠ "java/lang/invoke/MethodHandle" ∧ y.cls ≠ "java/lang/invoke/VarHandle" ∧ (parseMethodDescriptor y.desc).map (fun d => d.parameters.length) = some na) (hna : as.length = na) (hstk : stk = as.reverse ++ .ref b :: st) (hw : (st.map fun v => v.category).sum ≤ 8) (hfit : d + 1 ≤ E.2.2.2.1.frames ∧ 8 + (K2.2.2.1 + 11) + 40 * d ≤ E.2.2.2.1.locals) (hrm : n + mc ≤ E.2.2.2.1.cells ∧ k + ms ≤ E.2.2.2.1.slots) (kk : ∀ u, Rw E K (n + mc) (k + ms) npc lv st (wr ++ wo u)) : Rw E K n k pc lv stk (wr ++ wi) := fun p l e s m args below meth c H locs ls C hP hD hS hl => by
  have hts := C.2.2.2.2.2.2.1
  refine w_go (y := y) (K2 := K2) (b := b) C (va_runI (As := as) (rest := st) (b := b) (y := y) (bytes := K2.1) (maxL := K2.2.2.1) ⟨C.1, C.2.1, C.2.2.2.1, C.2.2.2.2.2.1, hts⟩ (hOk l H.size) ⟨hrt ▸ callB_of na hts (wsm_good hcd) rfl rfl rfl (hts _ hin) (hts _ hlk) hds hfit, hy1, hts _ him⟩ ⟨KcC.blind, fun U hU hW => ⟨rfl, by rw [hU], by rw [hU]; exact ap_r hP, KcC.at C hW, (ad_r hD).weaken (fun _ _ _ _ => trivial)⟩⟩ rfl hna hl.1 hstk (lv_room hw) hd.1 hrm) hP hD hS (fun H1 locs1 u hP1 hD1 hS1 => ?_)
  exact hd.2 ▸ kk u p l e s m args below meth c H1 locs1 ls C hP1 hD1 hS1 hl
theorem w_initN {y : MethodName} {K2 : KK} {d mc ms idx b na : Nat} {as stk : List Value} {wr wi : va_W} {wo : (Nat → Nat) → va_W} (hd : Dc K pc (.invokespecial idx) 3 npc) (hOk : Okc E.1 E.2.1 y K2 d mc ms (.ref b :: as) wi wo) (hlk : Cond.methodLinkNest K.2.1 idx y "ThawGives" ∈ lw_nest) (him : Cond.instanceMethod y ∈ lw_good) (hin : Cond.initialized y.cls ∈ lw_good) (hcd : Cond.code y K2.1 K2.2.2.1 K2.2.2.2 ∈ lw_good) (hrt : K2.2.2.2 = none) (hy1 : y.name = "<init>") (hds : y.cls ≠ "java/lang/invoke/MethodHandle" ∧ y.cls ≠ "java/lang/invoke/VarHandle" ∧ (parseMethodDescriptor y.desc).map (fun d => d.parameters.length) = some na) (hna : as.length = na) (hstk : stk = as.reverse ++ .ref b :: st) (hw : (st.map fun v => v.category).sum ≤ 8) (hfit : d + 1 ≤ E.2.2.2.1.frames ∧ 8 + (K2.2.2.1 + 11) + 40 * d ≤ E.2.2.2.1.locals) (hrm : n + mc ≤ E.2.2.2.1.cells ∧ k + ms ≤ E.2.2.2.1.slots) (kk : ∀ u, Rw E K (n + mc) (k + ms) npc lv st (wr ++ wo u)) : Rw E K n k pc lv stk (wr ++ wi) := fun p l e s m args below meth c H locs ls C hP hD hS hl => by
  have hts := C.2.2.2.2.2.2.1
  refine w_go (y := y) (K2 := K2) (b := b) C (va_runIN (As := as) (rest := st) (b := b) (y := y) (bytes := K2.1) (maxL := K2.2.2.1) (host := "ThawGives") ⟨C.1, C.2.1, C.2.2.2.1, C.2.2.2.2.2.1, hts⟩ (hOk l H.size) ⟨hrt ▸ va_cnB na hts (wsm_good hcd) rfl rfl rfl (C.2.2.2.2.2.2.2.1.2.1 _ hlk) (hts _ hin) hds hfit, hy1, hts _ him⟩ ⟨KcC.blind, fun U hU hW => ⟨rfl, by rw [hU], by rw [hU]; exact ap_r hP, KcC.at C hW, (ad_r hD).weaken (fun _ _ _ _ => trivial)⟩⟩ rfl hna hl.1 hstk (lv_room hw) hd.1 hrm) hP hD hS (fun H1 locs1 u hP1 hD1 hS1 => ?_)
  exact hd.2 ▸ kk u p l e s m args below meth c H1 locs1 ls C hP1 hD1 hS1 hl
end MAKE
