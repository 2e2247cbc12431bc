-- WHAT HOLDS ALL THE WHILE
def isNest : Cond → Bool
  | .fieldLinkNest .. => true
  | .methodLinkNest .. => true
  | _ => false
def lw_good : List Cond := lw_tbl.filter goodWord
def lw_nest : List Cond := lw_tbl.filter isNest
theorem good_in {w : Cond} (h : w ∈ lw_tbl) (hg : goodWord w = true) : w ∈ lw_good := List.mem_filter.mpr ⟨h, hg⟩
theorem nest_in {w : Cond} (h : w ∈ lw_tbl) (hg : isNest w = true) : w ∈ lw_nest := List.mem_filter.mpr ⟨h, hg⟩
theorem nest_warm {s U : State} (hW : s.WarmedH U.vm) {w : Cond} (hn : isNest w = true) (h : va_Nw w s) : va_Nw w U := by
  cases w <;> first | exact va_Nw.warmF hW h | exact va_Nw.warmM hW h | (simp [isNest] at hn; done)
theorem nest_same {u U : State} (hv : u.vm = U.vm) {w : Cond} (hn : isNest w = true) (h : va_Nw w u) : va_Nw w U := by
  cases w <;> first | exact va_Nw.same rfl hv h | (simp [isNest] at hn; done)
def tys (g : Gm) : List (ClassId × FieldType) := [(g.2.2.1 0, .int), (g.2.2.1 1, .long), (g.2.2.1 2, .byte), (g.2.2.1 3, .boolean), (g.2.2.1 4, .object "ThawGives$Thing"), (g.2.2.1 5, .object "ThawGives$Pass"), (g.2.2.1 6, .object "ThawGives$Tape")]
def sarr : Nat → List Int32
  | 0 => [-1, 0, 0, 0, 1, 2, 3]
  | _ => [10, 11, 12, 10, 20, 12, 30, 11, 12, 10, 11, 40, 50, 51, 12, 30, 11, 60, 71, 70, 40]
def sbyt : List (List Int32) := [[119, 97, 114, 109, 32], [102, 114, 111, 115, 116, 32], [115, 110, 111, 119, 32], [112, 107, 118, 119, 100, 109], [60, 61, 62]]
def slen : List Nat := [5, 6, 5, 6, 3]
def strs : List (String × Nat × String × Nat) := [("ThawGives$Text", 52, "warm ", 0), ("ThawGives$Text", 54, "frost ", 1), ("ThawGives$Text", 56, "snow ", 2), ("ThawGives$Text", 81, "pkvwdm", 3), ("ThawGivesModel", 155, "pkvwdm", 3), ("ThawGivesModel", 160, "<=>", 4), ("ThawGivesModel", 186, "warm ", 0), ("ThawGivesModel", 192, "frost ", 1), ("ThawGivesModel", 194, "snow ", 2)]
def Ks1 (g : Gm) (A : Nat → Prop) (U : State) (H : Heap) : Prop :=
  (va_Z "ThawGives" "ABOVE" "[I" (.ref (g.2.2.2.1 0)) A U H ∧ va_T .int (g.2.2.2.1 0) 7 (fun j => .int ((sarr 0).getD j 0)) A U H) ∧ (va_Z "ThawGives$Acts" "BODIES" "[I" (.ref (g.2.2.2.1 1)) A U H ∧ va_T .int (g.2.2.2.1 1) 21 (fun j => .int ((sarr 1).getD j 0)) A U H) ∧ (va_Z "java/lang/String" "COMPACT_STRINGS" "Z" (.int 1) A U H ∧ va_Zq "jdk/internal/util/Preconditions" "SIOOBE_FORMATTER" "Ljava/util/function/BiFunction;" A U H) ∧ vk_S 5 slen sbyt g.2.2.2.2.1 g.2.2.2.2.2 A U H
def Ks2 (g : Gm) (U : State) : Prop := (∀ w ∈ lw_nest, va_Nw w U) ∧ ∀ q ∈ strs, vk_R q.1 q.2.1 q.2.2.1 (g.2.2.2.2.1 q.2.2.2) U
def Kst (g : Gm) (A : Nat → Prop) (U : State) (H : Heap) : Prop := va_K g.2.1 vwCl (tys g) U ∧ Ks1 g A U H ∧ Ks2 g U ∧ va_D A (wl g ((fun _ _ _ => 0), (fun _ _ _ _ => 0), (fun _ _ _ _ => 0), 0))
theorem wl_D {g : Gm} {A : Nat → Prop} {σ : Sto} (τ : Sto) (h : va_D A (wl g σ)) : va_D A (wl g τ) := by
  have key : ∀ (k : Nat) (q : Nat × va_E), (wl g τ)[k]? = some q → ∃ q', (wl g σ)[k]? = some q' ∧ q'.1 = q.1 := by
    intro k q hk
    unfold wl at hk ⊢
    rw [List.getElem?_map] at hk ⊢
    cases hx : allc[k]? with
    | none => rw [hx] at hk; cases hk
    | some x =>
      rw [hx] at hk
      cases hk
      exact ⟨_, rfl, rfl⟩
  refine ⟨fun i j p q hi hj e => ?_, fun k q hk => ?_⟩
  · obtain ⟨p', h1, h2⟩ := key i p hi
    obtain ⟨q', h3, h4⟩ := key j q hj
    exact h.1 i j p' q' h1 h3 (h2.trans (e.trans h4.symm))
  · obtain ⟨q', h1, h2⟩ := key k q hk
    rw [← h2]
    exact h.2 k q' h1
theorem Ks1.moved {g : Gm} {A : Nat → Prop} {u U : State} {H : Heap} (hvm : u.vm.Alike U.vm) (h : Ks1 g A u H) : Ks1 g A U H := ⟨⟨va_Z.moved hvm h.1.1, va_T.moved hvm h.1.2⟩, ⟨va_Z.moved hvm h.2.1.1, va_T.moved hvm h.2.1.2⟩, ⟨va_Z.moved hvm h.2.2.1.1, va_Zq.moved hvm h.2.2.1.2⟩, vk_S.moved hvm h.2.2.2⟩
theorem Ks1.kept {g : Gm} {A : Nat → Prop} {U : State} {H H1 : Heap} (h : Ks1 g A U H) (hq : ∀ a : Nat, a < H.size → ¬ A a → H1[a]? = H[a]?) : Ks1 g A U H1 := ⟨⟨h.1.1.kept hq, h.1.2.kept hq⟩, ⟨h.2.1.1.kept hq, h.2.1.2.kept hq⟩, ⟨h.2.2.1.1.kept hq, h.2.2.1.2.kept hq⟩, h.2.2.2.kept hq⟩
theorem Ks1.narrow {g : Gm} {A B : Nat → Prop} {U : State} {H : Heap} (h : Ks1 g A U H) (hAB : ∀ q, B q → A q) : Ks1 g B U H := ⟨⟨h.1.1.narrow hAB, h.1.2.narrow hAB⟩, ⟨h.2.1.1.narrow hAB, h.2.1.2.narrow hAB⟩, ⟨h.2.2.1.1.narrow hAB, h.2.2.1.2.narrow hAB⟩, h.2.2.2.narrow hAB⟩
theorem Ks2.warm {g : Gm} {s U : State} (hW : s.WarmedH U.vm) (h : Ks2 g s) : Ks2 g U := ⟨fun w hw => nest_warm hW (List.mem_filter.mp hw).2 (h.1 w hw), fun q hq => (h.2 q hq).warm hW⟩
theorem Ks2.same {g : Gm} {u U : State} (hv : u.vm = U.vm) (h : Ks2 g u) : Ks2 g U := ⟨fun w hw => nest_same hv (List.mem_filter.mp hw).2 (h.1 w hw), fun q hq => (h.2 q hq).same hv.symm⟩
-- the cells of the world
def Aw (g : Gm) : Nat → Prop := fun q => ∃ x ∈ allc, q = adr g x
theorem wl_A {g : Gm} {A : Nat → Prop} {σ : Sto} (h : va_D A (wl g σ)) : ∀ q, Aw g q → A q := by
  rintro q ⟨x, hx, rfl⟩
  obtain ⟨q0, -, h1⟩ := wl_at g hx
  exact h.2 q0 _ (h1 σ)
theorem wl_DA {g : Gm} {A : Nat → Prop} {σ : Sto} (h : va_D A (wl g σ)) : va_D (Aw g) (wl g σ) := h.weaken (fun k q hk _ => by
  unfold wl at hk
  rw [List.getElem?_map] at hk
  cases hx : allc[k]? with
  | none => rw [hx] at hk; cases hk
  | some x =>
    rw [hx] at hk
    cases hk
    exact ⟨x, List.mem_of_getElem? hx, rfl⟩)
-- METHODS: what a method's text is: its bytes, its class, its locals, its answer's kind
abbrev KK : Type := ByteArray × String × Nat × Option FieldType
abbrev Res : Type := Option Value × Sto
abbrev EE : Type := Gm × (State → Nat → Prop) × Room × Nat × Nat × (Res → Array Value → State → List Frame → State → Prop)
def Cx (E : EE) (K : KK) (p : Program) (s : State) (m : MethodId) (args : Array Value) (meth : Method) (c : Code) : Prop :=
  p.tables.exec = Jvm.exec ∧ c.code = K.1 ∧ meth.sig.returnType = K.2.2.2 ∧ c.maxLocals = K.2.2.1 ∧ meth.locks = false ∧ s.vm.findClass K.2.1 = some m.cls ∧ (∀ w ∈ lw_good, w.before args s = true) ∧ Kst E.1 (E.2.1 s) s s.heap
def lvl : Nat → List (Option Value) → List (Nat × Value)
  | _, [] => []
  | i, none :: r => lvl (i + 1) r
  | i, some v :: r => (i, v) :: lvl (i + 1) r
theorem lvl_mem : ∀ (lv : List (Option Value)) (i k : Nat) (v : Value), lv[k]? = some (some v) → (i + k, v) ∈ lvl i lv
  | [], _, _, _, h => by simp at h
  | none :: r, i, 0, v, h => by simp at h
  | none :: r, i, k + 1, v, h => by
    have := lvl_mem r (i + 1) k v (by simpa using h)
    rw [show i + (k + 1) = i + 1 + k by omega]
    exact this
  | some w :: r, i, 0, v, h => by
    simp at h
    subst h
    exact List.mem_cons_self
  | some w :: r, i, k + 1, v, h => by
    have := lvl_mem r (i + 1) k v (by simpa using h)
    rw [show i + (k + 1) = i + 1 + k by omega]
    exact List.mem_cons_of_mem _ this
theorem lvl_of : ∀ (lv : List (Option Value)) (i : Nat) (q : Nat × Value), q ∈ lvl i lv → ∃ k, q.1 = i + k ∧ lv[k]? = some (some q.2)
  | [], _, _, h => by simp [lvl] at h
  | none :: r, i, q, h => by
    obtain ⟨k, h1, h2⟩ := lvl_of r (i + 1) q h
    exact ⟨k + 1, by omega, by simpa using h2⟩
  | some w :: r, i, q, h => by
    rcases List.mem_cons.mp h with rfl | h
    · exact ⟨0, rfl, rfl⟩
    · obtain ⟨k, h1, h2⟩ := lvl_of r (i + 1) q h
      exact ⟨k + 1, by omega, by simpa using h2⟩
def LV (ls : Array Slot) (nL : Nat) (lv : List (Option Value)) : Prop := lv_has ls nL (lvl 0 lv)
theorem LV.at {ls : Array Slot} {nL : Nat} {lv : List (Option Value)} (h : LV ls nL lv) {k : Nat} {v : Value} (hk : lv[k]? = some (some v)) : ls[k]? = some (.val v) := by
  have := lvl_mem lv 0 k v hk
  rw [Nat.zero_add] at this
  exact h.2.2 _ this
def lok (lv : List (Option Value)) (i : Nat) : Bool := match i with
  | 0 => true
  | j + 1 => match lv[j]? with
    | some (some w) => w.category != 2
    | _ => true
theorem LV.set {ls : Array Slot} {nL : Nat} {lv : List (Option Value)} {i : Nat} {v : Value} (hok : lok lv i = true) (hi : i < lv.length) (h : lv_has ls nL ((i, v) :: (lvl 0 lv).filter (fun q => !(q.1 == i) && !(q.1 + 1 == i && q.2.category == 2)))) : LV ls nL (lv.set i (some v)) := by
  refine ⟨h.1, h.2.1, fun q hq => ?_⟩
  obtain ⟨k, h1, h2⟩ := lvl_of _ _ _ hq
  rw [Nat.zero_add] at h1
  by_cases hk : i = k
  · subst hk
    rw [List.getElem?_set_self hi] at h2
    have : q = (i, v) := by
      cases q
      simp only [Option.some.injEq] at h2
      simp_all
    rw [this]
    exact h.2.2 _ List.mem_cons_self
  · rw [List.getElem?_set_ne hk] at h2
    refine h.2.2 q (List.mem_cons_of_mem _ (List.mem_filter.mpr ⟨?_, ?_⟩))
    · have := lvl_mem lv 0 k q.2 h2
      rw [Nat.zero_add, ← h1] at this
      exact this
    · have h3 : ¬ q.1 = i := by omega
      simp only [Bool.and_eq_true, Bool.not_eq_true', beq_eq_false_iff_ne, ne_eq, h3, not_false_eq_true, Bool.and_eq_false_iff, true_and]
      by_cases h4 : q.1 + 1 = i
      · right
        subst h4
        rw [h1] at hok
        simp only [lok, h2] at hok
        simpa using hok
      · exact Or.inl h4
def Rf {α : Type} (cv : α → Res) (E : EE) (K : KK) (pc : Nat) (lv : List (Option Value)) (st : List Value) (σ : Sto) (o : Option α) : Prop :=
  ∀ a, o = some a → ∀ (p : Program) (l : Launch) (e : Env) (s : State) (m : MethodId) (args : Array Value) (below : List Frame) (meth : Method) (c : Code) (H : Heap) (locs : List Loc) (ls : Array Slot),
    Cx E K p s m args meth c → va_P E.1.2.1 vwCl (wl E.1 σ) H → va_S (E.2.1 s) s.heap H locs → LV ls K.2.2.1 lv → W p l e E.2.2.1 s m args below meth c H locs E.2.2.2.1 E.2.2.2.2.1 (E.2.2.2.2.2 (cv a) args s below) (F0 m pc ls st)
/-- an instruction's row: what stands at pc, how long it is, where the next begins -/
def Dc (K : KK) (pc : Nat) (i : Instr) (n npc : Nat) : Prop := decode K.1 pc = .ok (i, n) ∧ npc = pc + n
theorem ite_p {α : Type} {c : Prop} {d : Decidable c} {x y : Option α} {a : α} (h : (@ite _ c d x y) = some a) (hc : c) : x = some a := by rw [if_pos hc] at h; exact h
theorem ite_n {α : Type} {c : Prop} {d : Decidable c} {x y : Option α} {a : α} (h : (@ite _ c d x y) = some a) (hc : ¬ c) : y = some a := by rw [if_neg hc] at h; exact h
theorem inb {j n : Int32} {N : Nat} (hN : n.toInt = N) (h : 0 ≤ j ∧ j < n) : vp_in j N ∧ j.toNatClampNeg < N := by
  have h1 : (0 : Int) ≤ j.toInt := by have := Int32.le_iff_toInt_le.mp h.1; simpa using this
  have h2 : j.toInt < N := by rw [← hN]; exact Int32.lt_iff_toInt_lt.mp h.2
  have h3 : vp_in j N := vp_in_iff.mpr ⟨h1, h2⟩
  exact ⟨h3, Nat.not_le.mp fun q => h3 (Or.inr q)⟩
section RULES
variable {α : Type} {cv : α → Res} {E : EE} {K : KK} {pc npc : Nat} {lv : List (Option Value)} {st : List Value} {σ : Sto} {o o1 o2 : Option α}
theorem r_iconst {n : Int} {v : Int32} (hd : Dc K pc (.iconst n) 1 npc) (hv : Int32.ofInt n = v) (k : Rf cv E K npc lv (.int v :: st) σ o) : Rf cv E K pc lv (st) σ o := fun a ho p l e s m args below meth c H locs ls C hP hS hl => lv_iconst C.1 C.2.1 hd.1 hv (hd.2 ▸ k a ho p l e s m args below meth c H locs ls C hP hS hl)
theorem r_bipush {n : Int} {v : Int32} (hd : Dc K pc (.bipush n) 2 npc) (hv : (Int8.ofInt n).toInt32 = v) (k : Rf cv E K npc lv (.int v :: st) σ o) : Rf cv E K pc lv (st) σ o := fun a ho p l e s m args below meth c H locs ls C hP hS hl => lv_bipush C.1 C.2.1 hd.1 hv (hd.2 ▸ k a ho p l e s m args below meth c H locs ls C hP hS hl)
theorem r_sipush {n : Int} {v : Int32} (hd : Dc K pc (.sipush n) 3 npc) (hv : (Int16.ofInt n).toInt32 = v) (k : Rf cv E K npc lv (.int v :: st) σ o) : Rf cv E K pc lv (st) σ o := fun a ho p l e s m args below meth c H locs ls C hP hS hl => lv_sipush C.1 C.2.1 hd.1 hv (hd.2 ▸ k a ho p l e s m args below meth c H locs ls C hP hS hl)
theorem r_lconst {n : Fin 2} {v : Int64} (hd : Dc K pc (.lconst n) 1 npc) (hv : Int64.ofNat (n : Nat) = v) (k : Rf cv E K npc lv (.long v :: st) σ o) : Rf cv E K pc lv (st) σ o := fun a ho p l e s m args below meth c H locs ls C hP hS hl => lv_lconst C.1 C.2.1 hd.1 hv (hd.2 ▸ k a ho p l e s m args below meth c H locs ls C hP hS hl)
theorem r_ldc {i : Nat} {v : Int32} (hd : Dc K pc (.ldc i) 2 npc) (hw : Cond.constant K.2.1 i v ∈ lw_good) (k : Rf cv E K npc lv (.int v :: st) σ o) : Rf cv E K pc lv (st) σ o := fun a ho p l e s m args below meth c H locs ls C hP hS hl => lv_ldc C.1 C.2.1 C.2.2.2.2.2.1 (C.2.2.2.2.2.2.1 _ hw) hd.1 (hd.2 ▸ k a ho p l e s m args below meth c H locs ls C hP hS hl)
theorem r_ldc2 {i : Nat} {v : Int64} (hd : Dc K pc (.ldc2_w i) 3 npc) (hw : Cond.constantLong K.2.1 i v ∈ lw_good) (k : Rf cv E K npc lv (.long v :: st) σ o) : Rf cv E K pc lv (st) σ o := fun a ho p l e s m args below meth c H locs ls C hP hS hl => lv_ldc2 C.1 C.2.1 C.2.2.2.2.2.1 (C.2.2.2.2.2.2.1 _ hw) hd.1 (hd.2 ▸ k a ho p l e s m args below meth c H locs ls C hP hS hl)
theorem r_ldcS {i n : Nat} {tx : String} (hd : Dc K pc (.ldc i) 2 npc) (hw : (K.2.1, i, tx, n) ∈ strs) (k : Rf cv E K npc lv (.ref (E.1.2.2.2.2.1 n) :: st) σ o) : Rf cv E K pc lv (st) σ o := fun a ho p l e s m args below meth c H locs ls C hP hS hl => va_ldcS C.1 C.2.1 C.2.2.2.2.2.1 (C.2.2.2.2.2.2.2.2.2.1.2 _ hw) hd.1 (hd.2 ▸ k a ho p l e s m args below meth c H locs ls C hP hS hl)
theorem r_iload {i : Nat} {x : Int32} (hd : Dc K pc (.iload i) 2 npc) (hx : lv[i]? = some (some (.int x))) (k : Rf cv E K npc lv (.int x :: st) σ o) : Rf cv E K pc lv (st) σ o := fun a ho p l e s m args below meth c H locs ls C hP hS hl => lv_iload C.1 C.2.1 hd.1 (hl.at hx) (hd.2 ▸ k a ho p l e s m args below meth c H locs ls C hP hS hl)
theorem r_iload_n {i : Fin 4} {x : Int32} (hd : Dc K pc (.iload_n i) 1 npc) (hx : lv[(i : Nat)]? = some (some (.int x))) (k : Rf cv E K npc lv (.int x :: st) σ o) : Rf cv E K pc lv (st) σ o := fun a ho p l e s m args below meth c H locs ls C hP hS hl => lv_iload_n C.1 C.2.1 hd.1 rfl (hl.at hx) (hd.2 ▸ k a ho p l e s m args below meth c H locs ls C hP hS hl)
theorem r_aload {i : Nat} {x : Nat} (hd : Dc K pc (.aload i) 2 npc) (hx : lv[i]? = some (some (.ref x))) (k : Rf cv E K npc lv (.ref x :: st) σ o) : Rf cv E K pc lv (st) σ o := fun a ho p l e s m args below meth c H locs ls C hP hS hl => lv_aload C.1 C.2.1 hd.1 (hl.at hx) (hd.2 ▸ k a ho p l e s m args below meth c H locs ls C hP hS hl)
theorem r_aload_n {i : Fin 4} {x : Nat} (hd : Dc K pc (.aload_n i) 1 npc) (hx : lv[(i : Nat)]? = some (some (.ref x))) (k : Rf cv E K npc lv (.ref x :: st) σ o) : Rf cv E K pc lv (st) σ o := fun a ho p l e s m args below meth c H locs ls C hP hS hl => lv_aload_n C.1 C.2.1 hd.1 rfl (hl.at hx) (hd.2 ▸ k a ho p l e s m args below meth c H locs ls C hP hS hl)
theorem r_lload_n {i : Fin 4} {x : Int64} (hd : Dc K pc (.lload_n i) 1 npc) (hx : lv[(i : Nat)]? = some (some (.long x))) (k : Rf cv E K npc lv (.long x :: st) σ o) : Rf cv E K pc lv (st) σ o := fun a ho p l e s m args below meth c H locs ls C hP hS hl => lv_lload_n C.1 C.2.1 hd.1 rfl (hl.at hx) (hd.2 ▸ k a ho p l e s m args below meth c H locs ls C hP hS hl)
theorem r_istore_n {i : Fin 4} {x : Int32} (hd : Dc K pc (.istore_n i) 1 npc) (hok : lok lv (i : Nat) = true) (hi : (i : Nat) < lv.length) (hn : (i : Nat) < K.2.2.1) (k : Rf cv E K npc (lv.set (i : Nat) (some (.int x))) st σ o) : Rf cv E K pc lv (.int x :: st) σ o := fun a ho p l e s m args below meth c H locs ls C hP hS hl => lv_istore_n C.1 C.2.1 hd.1 rfl hl hn rfl (fun ls' hl' => hd.2 ▸ k a ho p l e s m args below meth c H locs ls' C hP hS (LV.set hok hi hl'))
theorem r_istore {i : Nat} {x : Int32} (hd : Dc K pc (.istore i) 2 npc) (hok : lok lv i = true) (hi : i < lv.length) (hn : i < K.2.2.1) (k : Rf cv E K npc (lv.set i (some (.int x))) st σ o) : Rf cv E K pc lv (.int x :: st) σ o := fun a ho p l e s m args below meth c H locs ls C hP hS hl => lv_istore C.1 C.2.1 hd.1 hl hn rfl (fun ls' hl' => hd.2 ▸ k a ho p l e s m args below meth c H locs ls' C hP hS (LV.set hok hi hl'))
theorem r_astore_n {i : Fin 4} {x : Nat} (hd : Dc K pc (.astore_n i) 1 npc) (hok : lok lv (i : Nat) = true) (hi : (i : Nat) < lv.length) (hn : (i : Nat) < K.2.2.1) (k : Rf cv E K npc (lv.set (i : Nat) (some (.ref x))) st σ o) : Rf cv E K pc lv (.ref x :: st) σ o := fun a ho p l e s m args below meth c H locs ls C hP hS hl => lv_astore_n C.1 C.2.1 hd.1 rfl hl hn rfl (fun ls' hl' => hd.2 ▸ k a ho p l e s m args below meth c H locs ls' C hP hS (LV.set hok hi hl'))
theorem r_astore {i : Nat} {x : Nat} (hd : Dc K pc (.astore i) 2 npc) (hok : lok lv i = true) (hi : i < lv.length) (hn : i < K.2.2.1) (k : Rf cv E K npc (lv.set i (some (.ref x))) st σ o) : Rf cv E K pc lv (.ref x :: st) σ o := fun a ho p l e s m args below meth c H locs ls C hP hS hl => lv_astore C.1 C.2.1 hd.1 hl hn rfl (fun ls' hl' => hd.2 ▸ k a ho p l e s m args below meth c H locs ls' C hP hS (LV.set hok hi hl'))
theorem r_iinc {i : Nat} {n : Int} {x v : Int32} (hd : Dc K pc (.iinc i n) 3 npc) (hx : lv[i]? = some (some (.int x))) (hv : x + Int32.ofInt n = v) (hok : lok lv i = true) (hn : i < K.2.2.1) (k : Rf cv E K npc (lv.set i (some (.int v))) st σ o) : Rf cv E K pc lv st σ o := fun a ho p l e s m args below meth c H locs ls C hP hS hl => by
  have hm := lvl_mem lv 0 i _ hx
  rw [Nat.zero_add] at hm
  obtain ⟨q, hq⟩ := List.getElem?_of_mem hm
  exact lv_iinc C.1 C.2.1 hd.1 hl hq hv hn rfl (fun ls' hl' => hd.2 ▸ k a ho p l e s m args below meth c H locs ls' C hP hS (LV.set hok (List.getElem?_eq_some_iff.mp hx).1 hl'))
theorem r_iadd {x y : Int32} (hd : Dc K pc (.iadd) 1 npc) (k : Rf cv E K npc lv (.int (x + y) :: st) σ o) : Rf cv E K pc lv (.int y :: .int x :: st) σ o := fun a ho p l e s m args below meth c H locs ls C hP hS hl => lv_iadd C.1 C.2.1 hd.1 (hd.2 ▸ k a ho p l e s m args below meth c H locs ls C hP hS hl)
theorem r_isub {x y : Int32} (hd : Dc K pc (.isub) 1 npc) (k : Rf cv E K npc lv (.int (x - y) :: st) σ o) : Rf cv E K pc lv (.int y :: .int x :: st) σ o := fun a ho p l e s m args below meth c H locs ls C hP hS hl => lv_isub C.1 C.2.1 hd.1 (hd.2 ▸ k a ho p l e s m args below meth c H locs ls C hP hS hl)
theorem r_imul {x y : Int32} (hd : Dc K pc (.imul) 1 npc) (k : Rf cv E K npc lv (.int (x * y) :: st) σ o) : Rf cv E K pc lv (.int y :: .int x :: st) σ o := fun a ho p l e s m args below meth c H locs ls C hP hS hl => lv_imul C.1 C.2.1 hd.1 (hd.2 ▸ k a ho p l e s m args below meth c H locs ls C hP hS hl)
theorem r_iand {x y : Int32} (hd : Dc K pc (.iand) 1 npc) (k : Rf cv E K npc lv (.int (x &&& y) :: st) σ o) : Rf cv E K pc lv (.int y :: .int x :: st) σ o := fun a ho p l e s m args below meth c H locs ls C hP hS hl => lv_iand C.1 C.2.1 hd.1 (hd.2 ▸ k a ho p l e s m args below meth c H locs ls C hP hS hl)
theorem r_ior {x y : Int32} (hd : Dc K pc (.ior) 1 npc) (k : Rf cv E K npc lv (.int (x ||| y) :: st) σ o) : Rf cv E K pc lv (.int y :: .int x :: st) σ o := fun a ho p l e s m args below meth c H locs ls C hP hS hl => lv_ior C.1 C.2.1 hd.1 (hd.2 ▸ k a ho p l e s m args below meth c H locs ls C hP hS hl)
theorem r_ixor {x y : Int32} (hd : Dc K pc (.ixor) 1 npc) (k : Rf cv E K npc lv (.int (x ^^^ y) :: st) σ o) : Rf cv E K pc lv (.int y :: .int x :: st) σ o := fun a ho p l e s m args below meth c H locs ls C hP hS hl => lv_ixor C.1 C.2.1 hd.1 (hd.2 ▸ k a ho p l e s m args below meth c H locs ls C hP hS hl)
theorem r_ladd {x y : Int64} (hd : Dc K pc (.ladd) 1 npc) (k : Rf cv E K npc lv (.long (x + y) :: st) σ o) : Rf cv E K pc lv (.long y :: .long x :: st) σ o := fun a ho p l e s m args below meth c H locs ls C hP hS hl => lv_ladd C.1 C.2.1 hd.1 (hd.2 ▸ k a ho p l e s m args below meth c H locs ls C hP hS hl)
theorem r_land {x y : Int64} (hd : Dc K pc (.land) 1 npc) (k : Rf cv E K npc lv (.long (x &&& y) :: st) σ o) : Rf cv E K pc lv (.long y :: .long x :: st) σ o := fun a ho p l e s m args below meth c H locs ls C hP hS hl => lv_land C.1 C.2.1 hd.1 (hd.2 ▸ k a ho p l e s m args below meth c H locs ls C hP hS hl)
theorem r_lor {x y : Int64} (hd : Dc K pc (.lor) 1 npc) (k : Rf cv E K npc lv (.long (x ||| y) :: st) σ o) : Rf cv E K pc lv (.long y :: .long x :: st) σ o := fun a ho p l e s m args below meth c H locs ls C hP hS hl => lv_lor C.1 C.2.1 hd.1 (hd.2 ▸ k a ho p l e s m args below meth c H locs ls C hP hS hl)
theorem r_idiv {x y : Int32} (hd : Dc K pc (.idiv) 1 npc) (hy : ¬ y = 0) (k : Rf cv E K npc lv (.int (x / y) :: st) σ o) : Rf cv E K pc lv (.int y :: .int x :: st) σ o := fun a ho p l e s m args below meth c H locs ls C hP hS hl => lv_idiv C.1 C.2.1 hd.1 hy (hd.2 ▸ k a ho p l e s m args below meth c H locs ls C hP hS hl)
theorem r_irem {x y : Int32} (hd : Dc K pc (.irem) 1 npc) (hy : ¬ y = 0) (k : Rf cv E K npc lv (.int (x - x / y * y) :: st) σ o) : Rf cv E K pc lv (.int y :: .int x :: st) σ o := fun a ho p l e s m args below meth c H locs ls C hP hS hl => lv_irem C.1 C.2.1 hd.1 hy (hd.2 ▸ k a ho p l e s m args below meth c H locs ls C hP hS hl)
theorem r_ineg {x : Int32} (hd : Dc K pc (.ineg) 1 npc) (k : Rf cv E K npc lv (.int (-x) :: st) σ o) : Rf cv E K pc lv (.int x :: st) σ o := fun a ho p l e s m args below meth c H locs ls C hP hS hl => lv_ineg C.1 C.2.1 hd.1 (hd.2 ▸ k a ho p l e s m args below meth c H locs ls C hP hS hl)
theorem r_ishl {x y : Int32} (hd : Dc K pc (.ishl) 1 npc) (k : Rf cv E K npc lv (.int (x <<< (y &&& 31)) :: st) σ o) : Rf cv E K pc lv (.int y :: .int x :: st) σ o := fun a ho p l e s m args below meth c H locs ls C hP hS hl => lv_ishl C.1 C.2.1 hd.1 (hd.2 ▸ k a ho p l e s m args below meth c H locs ls C hP hS hl)
theorem r_ishr {x y : Int32} (hd : Dc K pc (.ishr) 1 npc) (k : Rf cv E K npc lv (.int (x >>> (y &&& 31)) :: st) σ o) : Rf cv E K pc lv (.int y :: .int x :: st) σ o := fun a ho p l e s m args below meth c H locs ls C hP hS hl => lv_ishr C.1 C.2.1 hd.1 (hd.2 ▸ k a ho p l e s m args below meth c H locs ls C hP hS hl)
theorem r_lshl {x : Int64} {y : Int32} (hd : Dc K pc (.lshl) 1 npc) (k : Rf cv E K npc lv (.long (x <<< (y.toInt64 &&& 63)) :: st) σ o) : Rf cv E K pc lv (.int y :: .long x :: st) σ o := fun a ho p l e s m args below meth c H locs ls C hP hS hl => lv_lshl C.1 C.2.1 hd.1 rfl (hd.2 ▸ k a ho p l e s m args below meth c H locs ls C hP hS hl)
theorem r_i2l {x : Int32} (hd : Dc K pc (.i2l) 1 npc) (k : Rf cv E K npc lv (.long x.toInt64 :: st) σ o) : Rf cv E K pc lv (.int x :: st) σ o := fun a ho p l e s m args below meth c H locs ls C hP hS hl => lv_i2l C.1 C.2.1 hd.1 rfl (hd.2 ▸ k a ho p l e s m args below meth c H locs ls C hP hS hl)
theorem r_l2i {x : Int64} (hd : Dc K pc (.l2i) 1 npc) (k : Rf cv E K npc lv (.int x.toInt32 :: st) σ o) : Rf cv E K pc lv (.long x :: st) σ o := fun a ho p l e s m args below meth c H locs ls C hP hS hl => lv_l2i C.1 C.2.1 hd.1 rfl (hd.2 ▸ k a ho p l e s m args below meth c H locs ls C hP hS hl)
theorem r_i2b {x : Int32} (hd : Dc K pc (.i2b) 1 npc) (k : Rf cv E K npc lv (.int x.toInt8.toInt32 :: st) σ o) : Rf cv E K pc lv (.int x :: st) σ o := fun a ho p l e s m args below meth c H locs ls C hP hS hl => lv_i2b C.1 C.2.1 hd.1 rfl (hd.2 ▸ k a ho p l e s m args below meth c H locs ls C hP hS hl)
theorem r_i2s {x : Int32} (hd : Dc K pc (.i2s) 1 npc) (k : Rf cv E K npc lv (.int x.toInt16.toInt32 :: st) σ o) : Rf cv E K pc lv (.int x :: st) σ o := fun a ho p l e s m args below meth c H locs ls C hP hS hl => lv_i2s C.1 C.2.1 hd.1 rfl (hd.2 ▸ k a ho p l e s m args below meth c H locs ls C hP hS hl)
theorem r_i2c {x : Int32} (hd : Dc K pc (.i2c) 1 npc) (k : Rf cv E K npc lv (.int (x.toUInt32 % 65536).toInt32 :: st) σ o) : Rf cv E K pc lv (.int x :: st) σ o := fun a ho p l e s m args below meth c H locs ls C hP hS hl => lv_i2c C.1 C.2.1 hd.1 rfl (hd.2 ▸ k a ho p l e s m args below meth c H locs ls C hP hS hl)
theorem r_lcmp {x y : Int64} (hd : Dc K pc (.lcmp) 1 npc) (k : Rf cv E K npc lv (.int (lg_cmp x y) :: st) σ o) : Rf cv E K pc lv (.long y :: .long x :: st) σ o := fun a ho p l e s m args below meth c H locs ls C hP hS hl => W.lcmp C.1 C.2.1 hd.1 (hd.2 ▸ k a ho p l e s m args below meth c H locs ls C hP hS hl)
theorem r_dup {x : Value} (hd : Dc K pc (.dup) 1 npc) (hx : x.category = 1) (k : Rf cv E K npc lv (x :: x :: st) σ o) : Rf cv E K pc lv (x :: st) σ o := fun a ho p l e s m args below meth c H locs ls C hP hS hl => lv_dup C.1 C.2.1 hd.1 hx (hd.2 ▸ k a ho p l e s m args below meth c H locs ls C hP hS hl)
theorem r_pop {x : Value} (hd : Dc K pc (.pop) 1 npc) (hx : x.category = 1) (k : Rf cv E K npc lv (st) σ o) : Rf cv E K pc lv (x :: st) σ o := fun a ho p l e s m args below meth c H locs ls C hP hS hl => lv_pop C.1 C.2.1 hd.1 hx (hd.2 ▸ k a ho p l e s m args below meth c H locs ls C hP hS hl)
theorem r_dup_x1 {x y : Value} (hd : Dc K pc (.dup_x1) 1 npc) (hx : x.category = 1) (hy : y.category = 1) (k : Rf cv E K npc lv (x :: y :: x :: st) σ o) : Rf cv E K pc lv (x :: y :: st) σ o := fun a ho p l e s m args below meth c H locs ls C hP hS hl => lv_dup_x1 C.1 C.2.1 hd.1 hx hy (hd.2 ▸ k a ho p l e s m args below meth c H locs ls C hP hS hl)
theorem r_ifeq {x : Int32} {off : Int} {tgt : Nat} {d : Decidable (x = 0)} (hd : Dc K pc (.ifCond .eq off) 3 npc) (ht : (pc : Int) + off = (tgt : Int)) (k1 : x = 0 → Rf cv E K tgt lv st σ o1) (k2 : ¬ (x = 0) → Rf cv E K npc lv st σ o2) : Rf cv E K pc lv (.int x :: st) σ (@ite _ (x = 0) d o1 o2) := fun a ho p l e s m args below meth c H locs ls C hP hS hl => lv_if_eq C.1 C.2.1 hd.1 ht (fun h => k1 h a (ite_p ho h) p l e s m args below meth c H locs ls C hP hS hl) (fun h => hd.2 ▸ k2 h a (ite_n ho h) p l e s m args below meth c H locs ls C hP hS hl)
theorem r_iflt {x : Int32} {off : Int} {tgt : Nat} {d : Decidable (x < 0)} (hd : Dc K pc (.ifCond .lt off) 3 npc) (ht : (pc : Int) + off = (tgt : Int)) (k1 : x < 0 → Rf cv E K tgt lv st σ o1) (k2 : ¬ (x < 0) → Rf cv E K npc lv st σ o2) : Rf cv E K pc lv (.int x :: st) σ (@ite _ (x < 0) d o1 o2) := fun a ho p l e s m args below meth c H locs ls C hP hS hl => lv_if_lt C.1 C.2.1 hd.1 ht (fun h => k1 h a (ite_p ho h) p l e s m args below meth c H locs ls C hP hS hl) (fun h => hd.2 ▸ k2 h a (ite_n ho h) p l e s m args below meth c H locs ls C hP hS hl)
theorem r_ifge {x : Int32} {off : Int} {tgt : Nat} {d : Decidable (0 ≤ x)} (hd : Dc K pc (.ifCond .ge off) 3 npc) (ht : (pc : Int) + off = (tgt : Int)) (k1 : 0 ≤ x → Rf cv E K tgt lv st σ o1) (k2 : ¬ (0 ≤ x) → Rf cv E K npc lv st σ o2) : Rf cv E K pc lv (.int x :: st) σ (@ite _ (0 ≤ x) d o1 o2) := fun a ho p l e s m args below meth c H locs ls C hP hS hl => lv_if_ge C.1 C.2.1 hd.1 ht (fun h => k1 h a (ite_p ho h) p l e s m args below meth c H locs ls C hP hS hl) (fun h => hd.2 ▸ k2 h a (ite_n ho h) p l e s m args below meth c H locs ls C hP hS hl)
theorem r_ifgt {x : Int32} {off : Int} {tgt : Nat} {d : Decidable (0 < x)} (hd : Dc K pc (.ifCond .gt off) 3 npc) (ht : (pc : Int) + off = (tgt : Int)) (k1 : 0 < x → Rf cv E K tgt lv st σ o1) (k2 : ¬ (0 < x) → Rf cv E K npc lv st σ o2) : Rf cv E K pc lv (.int x :: st) σ (@ite _ (0 < x) d o1 o2) := fun a ho p l e s m args below meth c H locs ls C hP hS hl => lv_if_gt C.1 C.2.1 hd.1 ht (fun h => k1 h a (ite_p ho h) p l e s m args below meth c H locs ls C hP hS hl) (fun h => hd.2 ▸ k2 h a (ite_n ho h) p l e s m args below meth c H locs ls C hP hS hl)
theorem r_ifle {x : Int32} {off : Int} {tgt : Nat} {d : Decidable (x ≤ 0)} (hd : Dc K pc (.ifCond .le off) 3 npc) (ht : (pc : Int) + off = (tgt : Int)) (k1 : x ≤ 0 → Rf cv E K tgt lv st σ o1) (k2 : ¬ (x ≤ 0) → Rf cv E K npc lv st σ o2) : Rf cv E K pc lv (.int x :: st) σ (@ite _ (x ≤ 0) d o1 o2) := fun a ho p l e s m args below meth c H locs ls C hP hS hl => lv_if_le C.1 C.2.1 hd.1 ht (fun h => k1 h a (ite_p ho h) p l e s m args below meth c H locs ls C hP hS hl) (fun h => hd.2 ▸ k2 h a (ite_n ho h) p l e s m args below meth c H locs ls C hP hS hl)
theorem r_iceq {x y : Int32} {off : Int} {tgt : Nat} {d : Decidable (x = y)} (hd : Dc K pc (.if_icmp .eq off) 3 npc) (ht : (pc : Int) + off = (tgt : Int)) (k1 : x = y → Rf cv E K tgt lv st σ o1) (k2 : ¬ (x = y) → Rf cv E K npc lv st σ o2) : Rf cv E K pc lv (.int y :: .int x :: st) σ (@ite _ (x = y) d o1 o2) := fun a ho p l e s m args below meth c H locs ls C hP hS hl => lv_icmp_eq C.1 C.2.1 hd.1 ht (fun h => k1 h a (ite_p ho h) p l e s m args below meth c H locs ls C hP hS hl) (fun h => hd.2 ▸ k2 h a (ite_n ho h) p l e s m args below meth c H locs ls C hP hS hl)
theorem r_iclt {x y : Int32} {off : Int} {tgt : Nat} {d : Decidable (x < y)} (hd : Dc K pc (.if_icmp .lt off) 3 npc) (ht : (pc : Int) + off = (tgt : Int)) (k1 : x < y → Rf cv E K tgt lv st σ o1) (k2 : ¬ (x < y) → Rf cv E K npc lv st σ o2) : Rf cv E K pc lv (.int y :: .int x :: st) σ (@ite _ (x < y) d o1 o2) := fun a ho p l e s m args below meth c H locs ls C hP hS hl => lv_icmp_lt C.1 C.2.1 hd.1 ht (fun h => k1 h a (ite_p ho h) p l e s m args below meth c H locs ls C hP hS hl) (fun h => hd.2 ▸ k2 h a (ite_n ho h) p l e s m args below meth c H locs ls C hP hS hl)
theorem r_icge {x y : Int32} {off : Int} {tgt : Nat} {d : Decidable (y ≤ x)} (hd : Dc K pc (.if_icmp .ge off) 3 npc) (ht : (pc : Int) + off = (tgt : Int)) (k1 : y ≤ x → Rf cv E K tgt lv st σ o1) (k2 : ¬ (y ≤ x) → Rf cv E K npc lv st σ o2) : Rf cv E K pc lv (.int y :: .int x :: st) σ (@ite _ (y ≤ x) d o1 o2) := fun a ho p l e s m args below meth c H locs ls C hP hS hl => lv_icmp_ge C.1 C.2.1 hd.1 ht (fun h => k1 h a (ite_p ho h) p l e s m args below meth c H locs ls C hP hS hl) (fun h => hd.2 ▸ k2 h a (ite_n ho h) p l e s m args below meth c H locs ls C hP hS hl)
theorem r_icgt {x y : Int32} {off : Int} {tgt : Nat} {d : Decidable (y < x)} (hd : Dc K pc (.if_icmp .gt off) 3 npc) (ht : (pc : Int) + off = (tgt : Int)) (k1 : y < x → Rf cv E K tgt lv st σ o1) (k2 : ¬ (y < x) → Rf cv E K npc lv st σ o2) : Rf cv E K pc lv (.int y :: .int x :: st) σ (@ite _ (y < x) d o1 o2) := fun a ho p l e s m args below meth c H locs ls C hP hS hl => lv_icmp_gt C.1 C.2.1 hd.1 ht (fun h => k1 h a (ite_p ho h) p l e s m args below meth c H locs ls C hP hS hl) (fun h => hd.2 ▸ k2 h a (ite_n ho h) p l e s m args below meth c H locs ls C hP hS hl)
theorem r_icle {x y : Int32} {off : Int} {tgt : Nat} {d : Decidable (x ≤ y)} (hd : Dc K pc (.if_icmp .le off) 3 npc) (ht : (pc : Int) + off = (tgt : Int)) (k1 : x ≤ y → Rf cv E K tgt lv st σ o1) (k2 : ¬ (x ≤ y) → Rf cv E K npc lv st σ o2) : Rf cv E K pc lv (.int y :: .int x :: st) σ (@ite _ (x ≤ y) d o1 o2) := fun a ho p l e s m args below meth c H locs ls C hP hS hl => lv_icmp_le C.1 C.2.1 hd.1 ht (fun h => k1 h a (ite_p ho h) p l e s m args below meth c H locs ls C hP hS hl) (fun h => hd.2 ▸ k2 h a (ite_n ho h) p l e s m args below meth c H locs ls C hP hS hl)
theorem r_ifne {x : Int32} {off : Int} {tgt : Nat} {d : Decidable (x = 0)} (hd : Dc K pc (.ifCond .ne off) 3 npc) (ht : (pc : Int) + off = (tgt : Int)) (k1 : x = 0 → Rf cv E K npc lv st σ o1) (k2 : ¬ (x = 0) → Rf cv E K tgt lv st σ o2) : Rf cv E K pc lv (.int x :: st) σ (@ite _ (x = 0) d o1 o2) := fun a ho p l e s m args below meth c H locs ls C hP hS hl => lv_if_ne C.1 C.2.1 hd.1 ht (fun h => k2 h a (ite_n ho h) p l e s m args below meth c H locs ls C hP hS hl) (fun h => hd.2 ▸ k1 h a (ite_p ho h) p l e s m args below meth c H locs ls C hP hS hl)
theorem r_icne {x y : Int32} {off : Int} {tgt : Nat} {d : Decidable (x = y)} (hd : Dc K pc (.if_icmp .ne off) 3 npc) (ht : (pc : Int) + off = (tgt : Int)) (k1 : x = y → Rf cv E K npc lv st σ o1) (k2 : ¬ (x = y) → Rf cv E K tgt lv st σ o2) : Rf cv E K pc lv (.int y :: .int x :: st) σ (@ite _ (x = y) d o1 o2) := fun a ho p l e s m args below meth c H locs ls C hP hS hl => lv_icmp_ne C.1 C.2.1 hd.1 ht (fun h => k2 h a (ite_n ho h) p l e s m args below meth c H locs ls C hP hS hl) (fun h => hd.2 ▸ k1 h a (ite_p ho h) p l e s m args below meth c H locs ls C hP hS hl)
theorem r_goto {off : Int} {tgt : Nat} (hd : Dc K pc (.goto off) 3 npc) (ht : (pc : Int) + off = (tgt : Int)) (k : Rf cv E K tgt lv st σ o) : Rf cv E K pc lv st σ o := fun a ho p l e s m args below meth c H locs ls C hP hS hl => lv_goto C.1 C.2.1 hd.1 ht (k a ho p l e s m args below meth c H locs ls C hP hS hl)
theorem r_none {lv : List (Option Value)} {st : List Value} {pc : Nat} : Rf cv E K pc lv st σ none := fun a ho => nomatch ho
theorem r_gd {c : Prop} {d : Decidable c} (k : c → Rf cv E K pc lv st σ o) : Rf cv E K pc lv st σ (@ite _ c d o none) := fun a ho p l e s m args below meth cc H locs ls C hP hS hl => by
  by_cases hc : c
  · exact k hc a (ite_p ho hc) p l e s m args below meth cc H locs ls C hP hS hl
  · exact nomatch (ite_n ho hc)
theorem r_by {c : Prop} {d : Decidable c} (k1 : c → Rf cv E K pc lv st σ o1) (k2 : ¬ c → Rf cv E K pc lv st σ o2) : Rf cv E K pc lv st σ (@ite _ c d o1 o2) := fun a ho p l e s m args below meth cc H locs ls C hP hS hl => by
  by_cases hc : c
  · exact k1 hc a (ite_p ho hc) p l e s m args below meth cc H locs ls C hP hS hl
  · exact k2 hc a (ite_n ho hc) p l e s m args below meth cc H locs ls C hP hS hl
theorem r_tabIn {dflt lo hi : Int} {offs : Array Int} {n : Nat} {x v : Int32} {z : Int} {off : Int} {tgt : Nat} (hd : Dc K pc (.tableswitch dflt lo hi offs) n npc) (hx : x = v) (hz : v.toInt = z) (h1 : ¬ z < lo) (h2 : ¬ hi < z) (hof : offs[(z - lo).toNat]? = some off) (ht : (pc : Int) + off = (tgt : Int)) (k : Rf cv E K tgt lv st σ o) : Rf cv E K pc lv (.int x :: st) σ o := fun a ho p l e s m args below meth c H locs ls C hP hS hl => by
  subst hx
  subst hz
  exact lv_tableIn C.1 C.2.1 hd.1 h1 h2 hof ht (k a ho p l e s m args below meth c H locs ls C hP hS hl)
theorem r_tabOut {dflt lo hi : Int} {offs : Array Int} {n : Nat} {x : Int32} {tgt : Nat} (hd : Dc K pc (.tableswitch dflt lo hi offs) n npc) (h : x.toInt < lo ∨ hi < x.toInt) (ht : (pc : Int) + dflt = (tgt : Int)) (k : Rf cv E K tgt lv st σ o) : Rf cv E K pc lv (.int x :: st) σ o := fun a ho p l e s m args below meth c H locs ls C hP hS hl => lv_tableOut C.1 C.2.1 hd.1 h ht (k a ho p l e s m args below meth c H locs ls C hP hS hl)
theorem r_look {dflt : Int} {ps : Array (Int × Int)} {n : Nat} {x : Int32} {off : Int} {tgt : Nat} (hd : Dc K pc (.lookupswitch dflt ps) n npc) (hp : (ps.toList.zip (ps.toList.drop 1)).all (fun (a, next) => a.1 < next.1) = true) (hof : Op.lookupswitch.offset ps.toList dflt x.toInt = off) (ht : (pc : Int) + off = (tgt : Int)) (k : Rf cv E K tgt lv st σ o) : Rf cv E K pc lv (.int x :: st) σ o := fun a ho p l e s m args below meth c H locs ls C hP hS hl => lv_lookup C.1 C.2.1 hd.1 hp hof ht (k a ho p l e s m args below meth c H locs ls C hP hS hl)
theorem sw_ne {x v : Int32} {z : Int} (h : ¬ x = v) (hv : v.toInt = z) : x.toInt ≠ z := fun h2 => h (Int32.toInt_inj.mp (h2.trans hv.symm))
theorem wlD {E : EE} {K : KK} {p : Program} {s : State} {m : MethodId} {args : Array Value} {meth : Method} {c : Code} (C : Cx E K p s m args meth c) (σ : Sto) : va_D (E.2.1 s) (wl E.1 σ) := wl_D σ C.2.2.2.2.2.2.2.2.2.2
theorem r_get {c0 k i idx N : Nat} {CC : String} {T : u_T} {v : Value} (hd : Dc K pc (.getfield idx) 3 npc) (hc : vwCl[c0]? = some (CC, T, N)) (hws : ∀ w ∈ u_ws CC T N, w ∈ lw_good) (hk : k < N) (hkf : k < nf c0) (hT : (T k).1 = CC) (hlink : Cond.fieldLink K.2.1 idx CC (T k).2.1 (T k).2.2.1 ∈ lw_good) (ht : (c0, 0) ∈ tabs) (hi : i < cn c0) (hv : fv E.1 σ c0 k i = v) (kk : Rf cv E K npc lv (v :: st) σ o) : Rf cv E K pc lv (.ref (E.1.1 c0 0 i) :: st) σ o := fun a ho p l e s m args below meth c H locs ls C hP hS hl => by
  obtain ⟨q0, -, h1⟩ := wl_at E.1 (allc_mem ht hi)
  exact va_get C.1 C.2.1 C.2.2.2.2.2.2.1 hws C.2.2.2.2.2.1 C.2.2.2.2.2.2.2.1 hP q0 (h1 σ) hc k hk (C.2.2.2.2.2.2.1 _ hlink) (by rw [hT]; exact fun _ h => h) (v := v) (by rw [← hv]; exact flds_at E.1 σ hkf) hd.1 (hd.2 ▸ kk a ho p l e s m args below meth c H locs ls C hP hS hl)
theorem r_getN {c0 k i idx N : Nat} {CC : String} {T : u_T} {v : Value} (hd : Dc K pc (.getfield idx) 3 npc) (hc : vwCl[c0]? = some (CC, T, N)) (hws : ∀ w ∈ u_ws CC T N, w ∈ lw_good) (hk : k < N) (hkf : k < nf c0) (hT : (T k).1 = CC) (hlink : Cond.fieldLinkNest K.2.1 idx CC (T k).2.1 (T k).2.2.1 "ThawGives" ∈ lw_nest) (ht : (c0, 0) ∈ tabs) (hi : i < cn c0) (hv : fv E.1 σ c0 k i = v) (kk : Rf cv E K npc lv (v :: st) σ o) : Rf cv E K pc lv (.ref (E.1.1 c0 0 i) :: st) σ o := fun a ho p l e s m args below meth c H locs ls C hP hS hl => by
  obtain ⟨q0, -, h1⟩ := wl_at E.1 (allc_mem ht hi)
  exact va_getN C.1 C.2.1 C.2.2.2.2.2.2.1 hws C.2.2.2.2.2.1 C.2.2.2.2.2.2.2.1 hP q0 (h1 σ) hc k hk (va_Nw.use rfl (C.2.2.2.2.2.2.2.2.2.1.1 _ hlink)) (by rw [hT]; exact fun _ h => h) (v := v) (by rw [← hv]; exact flds_at E.1 σ hkf) hd.1 (hd.2 ▸ kk a ho p l e s m args below meth c H locs ls C hP hS hl)
theorem r_put {c0 k i idx N : Nat} {CC : String} {T : u_T} {ty0 : Nat → FieldType} {ty : FieldType} {v : Int32} (hd : Dc K pc (.putfield idx) 3 npc) (hc : vwCl[c0]? = some (CC, T, N)) (hws : ∀ w ∈ u_ws CC T N, w ∈ lw_good) (hty : ∀ k, k < N → parseFieldDescriptor (T k).2.2.1 = some (ty0 k)) (hnm : ∀ a, a < N → ∀ b, b < N → a ≠ b → (T a).2.1 ≠ (T b).2.1) (hk : k < N) (hkf : k < nf c0) (h0 : kd c0 k = 0) (hT : (T k).1 = CC) (hfin : (T k).2.2.2 = false) (hpd : parseFieldDescriptor (T k).2.2.1 = some ty) (hn : narrow ty (.int v) = .int v) (hfit : fits ty (.int v) = true) (hlink : Cond.fieldLink K.2.1 idx CC (T k).2.1 (T k).2.2.1 ∈ lw_good) (ht : (c0, 0) ∈ tabs) (hi : i < cn c0) (kk : Rf cv E K npc lv st (sF σ c0 k i v) o) : Rf cv E K pc lv (.int v :: .ref (E.1.1 c0 0 i) :: st) σ o := fun a ho p l e s m args below meth c H locs ls C hP hS hl => by
  obtain ⟨q0, hq, h1⟩ := wl_at E.1 (allc_mem ht hi)
  refine va_put C.1 C.2.1 C.2.2.2.2.2.2.1 hws ty0 hty hnm C.2.2.2.2.2.1 C.2.2.2.2.2.2.2.1 hP (wlD C σ) hS q0 (h1 σ) hc k hk (C.2.2.2.2.2.2.1 _ hlink) (by rw [hT]; exact fun _ h => h) hfin hpd hn hfit (by unfold flds; rw [List.length_map, List.length_range]; exact hkf) hd.1 (fun H1 locs1 hP1 _ hS1 => ?_)
  have hw := wl_set E.1 (τ := sF σ c0 k i v) hq (sF_self E.1 σ v hkf h0) (sF_oth E.1 σ v)
  exact hd.2 ▸ kk a ho p l e s m args below meth c H1 locs1 ls C (hw ▸ hP1) hS1 hl
theorem r_putN {c0 k i idx N : Nat} {CC : String} {T : u_T} {ty0 : Nat → FieldType} {ty : FieldType} {v : Int32} (hd : Dc K pc (.putfield idx) 3 npc) (hc : vwCl[c0]? = some (CC, T, N)) (hws : ∀ w ∈ u_ws CC T N, w ∈ lw_good) (hty : ∀ k, k < N → parseFieldDescriptor (T k).2.2.1 = some (ty0 k)) (hnm : ∀ a, a < N → ∀ b, b < N → a ≠ b → (T a).2.1 ≠ (T b).2.1) (hk : k < N) (hkf : k < nf c0) (h0 : kd c0 k = 0) (hT : (T k).1 = CC) (hfin : (T k).2.2.2 = false) (hpd : parseFieldDescriptor (T k).2.2.1 = some ty) (hn : narrow ty (.int v) = .int v) (hfit : fits ty (.int v) = true) (hlink : Cond.fieldLinkNest K.2.1 idx CC (T k).2.1 (T k).2.2.1 "ThawGives" ∈ lw_nest) (ht : (c0, 0) ∈ tabs) (hi : i < cn c0) (kk : Rf cv E K npc lv st (sF σ c0 k i v) o) : Rf cv E K pc lv (.int v :: .ref (E.1.1 c0 0 i) :: st) σ o := fun a ho p l e s m args below meth c H locs ls C hP hS hl => by
  obtain ⟨q0, hq, h1⟩ := wl_at E.1 (allc_mem ht hi)
  refine va_putN C.1 C.2.1 C.2.2.2.2.2.2.1 hws ty0 hty hnm C.2.2.2.2.2.1 C.2.2.2.2.2.2.2.1 hP (wlD C σ) hS q0 (h1 σ) hc k hk (va_Nw.use rfl (C.2.2.2.2.2.2.2.2.2.1.1 _ hlink)) (by rw [hT]; exact fun _ h => h) hfin hpd hn hfit (by unfold flds; rw [List.length_map, List.length_range]; exact hkf) hd.1 (fun H1 locs1 hP1 _ hS1 => ?_)
  have hw := wl_set E.1 (τ := sF σ c0 k i v) hq (sF_self E.1 σ v hkf h0) (sF_oth E.1 σ v)
  exact hd.2 ▸ kk a ho p l e s m args below meth c H1 locs1 ls C (hw ▸ hP1) hS1 hl
theorem cel_arr (g : Gm) (σ : Sto) (c k i : Nat) : cel g σ (c, k + 1, i) = .inl (g.2.2.1 (aty c k), alen c k, acon g σ c k i) := rfl
theorem acon_i (g : Gm) (σ : Sto) {c k : Nat} (i : Nat) (h1 : aty c k ≠ 1) (h3 : aty c k ≤ 3) : acon g σ c k i = .inl (σ.2.1 c k i) := by
  unfold acon
  rw [if_neg h1, if_pos h3]
theorem acon_l (g : Gm) (σ : Sto) {c k : Nat} (i : Nat) (h1 : aty c k = 1) : acon g σ c k i = .inr (.inl (σ.2.2.1 c k i)) := by
  unfold acon
  rw [if_pos h1]
theorem acon_q (g : Gm) (σ : Sto) {c k : Nat} (i : Nat) (h1 : aty c k ≠ 1) (h3 : ¬ aty c k ≤ 3) : acon g σ c k i = .inr (.inr (.inr (.inr (fun j => some (g.1 (ra c k i j).1 0 (ra c k i j).2))))) := by
  unfold acon
  rw [if_neg h1, if_neg h3]
theorem r_iald {c0 k i N : Nat} {j n : Int32} {d : Decidable (0 ≤ j ∧ j < n)} (hd : Dc K pc (.iaload) 1 npc) (ht : (c0, k + 1) ∈ tabs) (ha : aty c0 k = 0) (hN : alen c0 k = N) (hn : n.toInt = N) (hi : i < cn c0) (kk : 0 ≤ j ∧ j < n → j.toNatClampNeg < N → Rf cv E K npc lv (.int (σ.2.1 c0 k i j.toNatClampNeg) :: st) σ o) : Rf cv E K pc lv (.int j :: .ref (E.1.1 c0 (k + 1) i) :: st) σ (@ite _ (0 ≤ j ∧ j < n) d o none) := r_gd (fun hg a ho p l e s m args below meth c H locs ls C hP hS hl => by
  obtain ⟨q0, -, h1⟩ := wl_at E.1 (allc_mem ht hi)
  have h2 := h1 σ
  rw [cel_arr, ha, hN, acon_i E.1 σ i (by omega) (by omega)] at h2
  have hb := inb hn hg
  exact va_iald C.1 C.2.1 C.2.2.2.2.2.2.2.1 hP q0 0 h2 rfl hb.1 hd.1 (hd.2 ▸ kk hg hb.2 a ho p l e s m args below meth c H locs ls C hP hS hl))
theorem r_bald {c0 k i N : Nat} {j n : Int32} {d : Decidable (0 ≤ j ∧ j < n)} (hd : Dc K pc (.baload) 1 npc) (ht : (c0, k + 1) ∈ tabs) (ha : aty c0 k = 2) (hN : alen c0 k = N) (hn : n.toInt = N) (hi : i < cn c0) (kk : 0 ≤ j ∧ j < n → j.toNatClampNeg < N → Rf cv E K npc lv (.int (σ.2.1 c0 k i j.toNatClampNeg) :: st) σ o) : Rf cv E K pc lv (.int j :: .ref (E.1.1 c0 (k + 1) i) :: st) σ (@ite _ (0 ≤ j ∧ j < n) d o none) := r_gd (fun hg a ho p l e s m args below meth c H locs ls C hP hS hl => by
  obtain ⟨q0, -, h1⟩ := wl_at E.1 (allc_mem ht hi)
  have h2 := h1 σ
  rw [cel_arr, ha, hN, acon_i E.1 σ i (by omega) (by omega)] at h2
  have hb := inb hn hg
  exact va_bald C.1 C.2.1 C.2.2.2.2.2.2.2.1 hP q0 2 h2 rfl hb.1 hd.1 (hd.2 ▸ kk hg hb.2 a ho p l e s m args below meth c H locs ls C hP hS hl))
theorem r_zald {c0 k i N : Nat} {j n : Int32} {d : Decidable (0 ≤ j ∧ j < n)} (hd : Dc K pc (.baload) 1 npc) (ht : (c0, k + 1) ∈ tabs) (ha : aty c0 k = 3) (hN : alen c0 k = N) (hn : n.toInt = N) (hi : i < cn c0) (kk : 0 ≤ j ∧ j < n → j.toNatClampNeg < N → Rf cv E K npc lv (.int (σ.2.1 c0 k i j.toNatClampNeg) :: st) σ o) : Rf cv E K pc lv (.int j :: .ref (E.1.1 c0 (k + 1) i) :: st) σ (@ite _ (0 ≤ j ∧ j < n) d o none) := r_gd (fun hg a ho p l e s m args below meth c H locs ls C hP hS hl => by
  obtain ⟨q0, -, h1⟩ := wl_at E.1 (allc_mem ht hi)
  have h2 := h1 σ
  rw [cel_arr, ha, hN, acon_i E.1 σ i (by omega) (by omega)] at h2
  have hb := inb hn hg
  exact va_zald C.1 C.2.1 C.2.2.2.2.2.2.2.1 hP q0 3 h2 rfl hb.1 hd.1 (hd.2 ▸ kk hg hb.2 a ho p l e s m args below meth c H locs ls C hP hS hl))
theorem r_iast {c0 k i N : Nat} {j n x : Int32} {d : Decidable (0 ≤ j ∧ j < n)} (hd : Dc K pc (.iastore) 1 npc) (ht : (c0, k + 1) ∈ tabs) (ha : aty c0 k = 0) (hN : alen c0 k = N) (hn : n.toInt = N) (hi : i < cn c0) (kk : 0 ≤ j ∧ j < n → j.toNatClampNeg < N → Rf cv E K npc lv st (sA σ c0 k i (upd (σ.2.1 c0 k i) j.toNatClampNeg x)) o) : Rf cv E K pc lv (.int x :: .int j :: .ref (E.1.1 c0 (k + 1) i) :: st) σ (@ite _ (0 ≤ j ∧ j < n) d o none) := r_gd (fun hg a ho p l e s m args below meth c H locs ls C hP hS hl => by
  obtain ⟨q0, hq, h1⟩ := wl_at E.1 (allc_mem ht hi)
  have h2 := h1 σ
  have h5 := sA_self E.1 σ (c := c0) (k := k) (i := i) (upd (σ.2.1 c0 k i) j.toNatClampNeg x) (by omega) (by omega)
  rw [ha, hN] at h5
  rw [cel_arr, ha, hN, acon_i E.1 σ i (by omega) (by omega)] at h2
  have hb := inb hn hg
  refine va_iast C.1 C.2.1 C.2.2.2.2.2.2.2.1 hP (wlD C σ) hS q0 0 h2 rfl hb.1 hd.1 (fun H1 locs1 hP1 _ hS1 => ?_)
  have hw := wl_set E.1 hq h5 (sA_oth E.1 σ _)
  exact hd.2 ▸ kk hg hb.2 a ho p l e s m args below meth c H1 locs1 ls C (hw ▸ hP1) hS1 hl)
theorem r_bast {c0 k i N : Nat} {j n x : Int32} {d : Decidable (0 ≤ j ∧ j < n)} (hd : Dc K pc (.bastore) 1 npc) (ht : (c0, k + 1) ∈ tabs) (ha : aty c0 k = 2) (hN : alen c0 k = N) (hn : n.toInt = N) (hi : i < cn c0) (kk : 0 ≤ j ∧ j < n → j.toNatClampNeg < N → Rf cv E K npc lv st (sA σ c0 k i (upd (σ.2.1 c0 k i) j.toNatClampNeg (vp_nar .byte x))) o) : Rf cv E K pc lv (.int x :: .int j :: .ref (E.1.1 c0 (k + 1) i) :: st) σ (@ite _ (0 ≤ j ∧ j < n) d o none) := r_gd (fun hg a ho p l e s m args below meth c H locs ls C hP hS hl => by
  obtain ⟨q0, hq, h1⟩ := wl_at E.1 (allc_mem ht hi)
  have h2 := h1 σ
  have h5 := sA_self E.1 σ (c := c0) (k := k) (i := i) (upd (σ.2.1 c0 k i) j.toNatClampNeg (vp_nar .byte x)) (by omega) (by omega)
  rw [ha, hN] at h5
  rw [cel_arr, ha, hN, acon_i E.1 σ i (by omega) (by omega)] at h2
  have hb := inb hn hg
  refine va_bast C.1 C.2.1 C.2.2.2.2.2.2.2.1 hP (wlD C σ) hS q0 2 h2 rfl hb.1 hd.1 (fun H1 locs1 hP1 _ hS1 => ?_)
  have hw := wl_set E.1 hq h5 (sA_oth E.1 σ _)
  exact hd.2 ▸ kk hg hb.2 a ho p l e s m args below meth c H1 locs1 ls C (hw ▸ hP1) hS1 hl)
theorem r_zast {c0 k i N : Nat} {j n x : Int32} {d : Decidable (0 ≤ j ∧ j < n)} (hd : Dc K pc (.bastore) 1 npc) (ht : (c0, k + 1) ∈ tabs) (ha : aty c0 k = 3) (hN : alen c0 k = N) (hn : n.toInt = N) (hi : i < cn c0) (kk : 0 ≤ j ∧ j < n → j.toNatClampNeg < N → Rf cv E K npc lv st (sA σ c0 k i (upd (σ.2.1 c0 k i) j.toNatClampNeg (vp_nar .boolean x))) o) : Rf cv E K pc lv (.int x :: .int j :: .ref (E.1.1 c0 (k + 1) i) :: st) σ (@ite _ (0 ≤ j ∧ j < n) d o none) := r_gd (fun hg a ho p l e s m args below meth c H locs ls C hP hS hl => by
  obtain ⟨q0, hq, h1⟩ := wl_at E.1 (allc_mem ht hi)
  have h2 := h1 σ
  have h5 := sA_self E.1 σ (c := c0) (k := k) (i := i) (upd (σ.2.1 c0 k i) j.toNatClampNeg (vp_nar .boolean x)) (by omega) (by omega)
  rw [ha, hN] at h5
  rw [cel_arr, ha, hN, acon_i E.1 σ i (by omega) (by omega)] at h2
  have hb := inb hn hg
  refine va_zast C.1 C.2.1 C.2.2.2.2.2.2.2.1 hP (wlD C σ) hS q0 3 h2 rfl hb.1 hd.1 (fun H1 locs1 hP1 _ hS1 => ?_)
  have hw := wl_set E.1 hq h5 (sA_oth E.1 σ _)
  exact hd.2 ▸ kk hg hb.2 a ho p l e s m args below meth c H1 locs1 ls C (hw ▸ hP1) hS1 hl)
theorem r_lald {c0 k i N : Nat} {j n : Int32} {d : Decidable (0 ≤ j ∧ j < n)} (hd : Dc K pc (.laload) 1 npc) (ht : (c0, k + 1) ∈ tabs) (ha : aty c0 k = 1) (hN : alen c0 k = N) (hn : n.toInt = N) (hi : i < cn c0) (kk : 0 ≤ j ∧ j < n → j.toNatClampNeg < N → Rf cv E K npc lv (.long (σ.2.2.1 c0 k i j.toNatClampNeg) :: st) σ o) : Rf cv E K pc lv (.int j :: .ref (E.1.1 c0 (k + 1) i) :: st) σ (@ite _ (0 ≤ j ∧ j < n) d o none) := r_gd (fun hg a ho p l e s m args below meth c H locs ls C hP hS hl => by
  obtain ⟨q0, -, h1⟩ := wl_at E.1 (allc_mem ht hi)
  have h2 := h1 σ
  rw [cel_arr, ha, hN, acon_l E.1 σ i ha] at h2
  have hb := inb hn hg
  exact va_lald C.1 C.2.1 C.2.2.2.2.2.2.2.1 hP q0 1 h2 rfl hb.1 hd.1 (hd.2 ▸ kk hg hb.2 a ho p l e s m args below meth c H locs ls C hP hS hl))
theorem r_last {c0 k i N : Nat} {j n : Int32} {x : Int64} {d : Decidable (0 ≤ j ∧ j < n)} (hd : Dc K pc (.lastore) 1 npc) (ht : (c0, k + 1) ∈ tabs) (ha : aty c0 k = 1) (hN : alen c0 k = N) (hn : n.toInt = N) (hi : i < cn c0) (kk : 0 ≤ j ∧ j < n → j.toNatClampNeg < N → Rf cv E K npc lv st (sL σ c0 k i (vp_updL (σ.2.2.1 c0 k i) j.toNatClampNeg x)) o) : Rf cv E K pc lv (.long x :: .int j :: .ref (E.1.1 c0 (k + 1) i) :: st) σ (@ite _ (0 ≤ j ∧ j < n) d o none) := r_gd (fun hg a ho p l e s m args below meth c H locs ls C hP hS hl => by
  obtain ⟨q0, hq, h1⟩ := wl_at E.1 (allc_mem ht hi)
  have h2 := h1 σ
  have h5 := sL_self E.1 σ (c := c0) (k := k) (i := i) (vp_updL (σ.2.2.1 c0 k i) j.toNatClampNeg x) ha
  rw [ha, hN] at h5
  rw [cel_arr, ha, hN, acon_l E.1 σ i ha] at h2
  have hb := inb hn hg
  refine va_last C.1 C.2.1 C.2.2.2.2.2.2.2.1 hP (wlD C σ) hS q0 1 h2 rfl hb.1 hd.1 (fun H1 locs1 hP1 _ hS1 => ?_)
  have hw := wl_set E.1 hq h5 (sL_oth E.1 σ _)
  exact hd.2 ▸ kk hg hb.2 a ho p l e s m args below meth c H1 locs1 ls C (hw ▸ hP1) hS1 hl)
theorem r_aald {c0 k i N t : Nat} {j n : Int32} {CC : String} {d : Decidable (0 ≤ j ∧ j < n)} (hd : Dc K pc (.aaload) 1 npc) (ht : (c0, k + 1) ∈ tabs) (ha : aty c0 k = t) (ht3 : 3 < t) (hty : ∀ g : Gm, (tys g)[t]? = some (g.2.2.1 t, .object CC)) (hN : alen c0 k = N) (hn : n.toInt = N) (hi : i < cn c0) (kk : 0 ≤ j ∧ j < n → j.toNatClampNeg < N → Rf cv E K npc lv (.ref (E.1.1 (ra c0 k i j.toNatClampNeg).1 0 (ra c0 k i j.toNatClampNeg).2) :: st) σ o) : Rf cv E K pc lv (.int j :: .ref (E.1.1 c0 (k + 1) i) :: st) σ (@ite _ (0 ≤ j ∧ j < n) d o none) := r_gd (fun hg a ho p l e s m args below meth c H locs ls C hP hS hl => by
  obtain ⟨q0, -, h1⟩ := wl_at E.1 (allc_mem ht hi)
  have h2 := h1 σ
  rw [cel_arr, ha, hN, acon_q E.1 σ i (by omega) (by omega)] at h2
  have hb := inb hn hg
  exact va_aldq C.1 C.2.1 C.2.2.2.2.2.2.2.1 hP q0 t h2 (hty E.1) hb.1 hd.1 (hd.2 ▸ kk hg hb.2 a ho p l e s m args below meth c H locs ls C hP hS hl))
theorem r_alen {c0 k i : Nat} {n : Int32} {ty : FieldType} (hd : Dc K pc (.arraylength) 1 npc) (ht : (c0, k + 1) ∈ tabs) (hn : Int32.ofNat (alen c0 k) = n) (hty : ∀ g : Gm, (tys g)[aty c0 k]? = some (g.2.2.1 (aty c0 k), ty)) (hi : i < cn c0) (kk : Rf cv E K npc lv (.int n :: st) σ o) : Rf cv E K pc lv (.ref (E.1.1 c0 (k + 1) i) :: st) σ o := fun a ho p l e s m args below meth c H locs ls C hP hS hl => by
  obtain ⟨q0, -, h1⟩ := wl_at E.1 (allc_mem ht hi)
  have h2 := h1 σ
  rw [cel_arr] at h2
  exact va_alen C.1 C.2.1 C.2.2.2.2.2.2.2.1 hP q0 (aty c0 k) h2 (hty E.1) hn hd.1 (hd.2 ▸ kk a ho p l e s m args below meth c H locs ls C hP hS hl)
end RULES
-- CONTRACTS
def Wd (g : Gm) (σ : Sto) (U : State) : Prop := Kst g (Aw g) U U.heap ∧ va_P g.2.1 vwCl (wl g σ) U.heap
def QC (g : Gm) (r : Res) : Array Value → State → Outcome → State → Prop := fun _ st oc t => oc = .returned r.1 ∧ va_P g.2.1 vwCl (wl g r.2) t.heap ∧ va_F (Aw g) st t
def rmm (d : Nat) : Room := { frames := d, cells := 0, slots := 0, locals := 40 * d }
def wsm (y : MethodName) (K : KK) : List Cond := .code y K.1 K.2.2.1 K.2.2.2 :: lw_good
def Ok {α : Type} (g : Gm) (y : MethodName) (K : KK) (d : Nat) (as : List Value) (σ : Sto) (cv : α → Res) (o : Option α) : Prop :=
  ∀ a, o = some a → ∀ l : Launch, Met l y (wsm y K) (rmm d) (va_Pc as (Wd g σ)) (QC g (cv a)) 0 0 (Aw g)
/-- the surroundings of a method's own run -/
def Em (g : Gm) (d : Nat) : EE := (g, (fun _ => Aw g), rmm d, 0, 0, fun r args s below => MQ below (QC g r) args s 0 0 (Aw g))
theorem Ok.of {α : Type} {cv : α → Res} {g : Gm} {y : MethodName} {K : KK} {d : Nat} {as : List Value} {σ : Sto} {o : Option α} {lv : List (Option Value)} (hy : plainName y.cls = true) (hc : y.cls = K.2.1) (hfit : (lg_sl as).length ≤ K.2.2.1) (hlv : lvl 0 lv = lv_args 0 as) (h : Rf cv (Em g d) K 0 lv [] σ o) : Ok g y K d as σ cv o := by
  intro a ho l
  refine Met.ofW (cc := K.1) (maxL := K.2.2.1) (ret := K.2.2.2) hy rfl ?_
  intro p e s m args below meth c s₁ B hml hv
  obtain ⟨rfl, hk, hP⟩ := hv
  have hts := atoms_spec (ws := wsm y K) B.pre
  rw [lg_entry_eq]
  have hl := lv_entry as hfit
  have hl' : LV ((lg_sl as ++ List.replicate (K.2.2.1 - (lg_sl as).length) Slot.unset).toArray) K.2.2.1 lv := by
    unfold LV
    rw [hlv]
    exact hl
  exact h a ho p l e s m _ below meth c s.heap [] _ ⟨B.exec, B.bytes, B.returns, hml, B.notSynchronized, by rw [← hc]; exact findClass_of_methodNamed B.named, fun w hw => hts w (List.mem_cons_of_mem _ hw), hk⟩ hP va_S.rf hl'
section CALLS
variable {α β : Type} {cv : α → Res} {cv2 : β → Res} {E : EE} {K : KK} {pc npc : Nat} {lv : List (Option Value)} {st : List Value} {σ : Sto} {oc : Option β} {kf : β → Option α}
theorem Wd_blind {g : Gm} {as : List Value} {σ : Sto} : FrameBlind (va_Pc as (Wd g σ)) := fun a U gg mk h => ⟨h.1, ⟨va_K.moved (u := U) (U := U.calling gg mk a) (Vm.Alike.refl U.vm) h.2.1.1, h.2.1.2.1.moved (u := U) (U := U.calling gg mk a) (Vm.Alike.refl U.vm), h.2.1.2.2.1.same (u := U) (U := U.calling gg mk a) rfl, h.2.1.2.2.2⟩, h.2.2⟩
theorem Wd_at {p : Program} {s U : State} {m : MethodId} {args : Array Value} {meth : Method} {c : Code} {H : Heap} {locs : List Loc} (C : Cx E K p s m args meth c) (hP : va_P E.1.2.1 vwCl (wl E.1 σ) H) (hS : va_S (E.2.1 s) s.heap H locs) (hU : U.heap = H) (hW : s.WarmedH U.vm) : Wd E.1 σ U := by
  obtain ⟨-, -, -, -, -, -, -, h1, h2, h3, h4⟩ := C
  have hA := wl_A h4
  subst hU
  exact ⟨⟨va_K.moved hW.alike h1, ((h2.kept hS.2.1).narrow hA).moved hW.alike, h3.warm hW, wl_DA h4⟩, hP⟩
theorem call_go {g : Gm} {r : Res} {p : Program} {l : Launch} {e : Env} {R : Room} {s : State} {m : MethodId} {args : Array Value} {below : List Frame} {meth : Method} {c : Code} {H H0 : Heap} {locs : List Loc} {cells slots : Nat} {Q : State → Prop} {ls : Array Slot} {rest st0 : List Value} {as : Array Value} {A0 : Nat → Prop}
    (hr : va_Run p l e R s m args below meth c H locs cells slots 0 0 (F0 m pc ls st0) rest (QC g r as) (Aw g)) (hS : va_S A0 H0 H locs) (hA : ∀ q, Aw g q → A0 q)
    (kk : ∀ (H1 : Heap) (locs1 : List Loc), va_P g.2.1 vwCl (wl g r.2) H1 → va_S A0 H0 H1 locs1 → W p l e R s m args below meth c H1 locs1 cells slots Q (F0 m (pc + 3) ls (r.1.toList ++ rest))) : W p l e R s m args below meth c H locs cells slots Q (F0 m pc ls st0) := by
  intro T hT X
  obtain ⟨v, st₀, t, T', L, h0, X', hL, e1, e2, ⟨hv, hp, hz, hk⟩, stp⟩ := hr T hT X
  cases hv
  rw [h0] at hz hk
  obtain ⟨t2, a1, b1⟩ := kk T'.heap (locs ++ L) (by rw [e1]; exact hp) ⟨Nat.le_trans hS.1 (by rw [e1]; exact hz), fun q h1 h2 => by rw [e1, hk q (Nat.lt_of_lt_of_le h1 hS.1) (fun z => h2 (hA q z))]; exact hS.2.1 q h1 h2, fun q hq => by
      rcases List.mem_append.mp hq with h | h
      · exact hS.2.2 q h
      · exact hA _ (hL q h)⟩ T' rfl X'
  exact ⟨t2, stp t2 a1, b1⟩
/-- the room that a callee of depth d with n locals wants -/
def fits_ (E : EE) (d n : Nat) : Prop := d + 1 ≤ E.2.2.1.frames ∧ 8 + (n + 11) + 40 * d ≤ E.2.2.1.locals
theorem fits_m {g : Gm} {d d' n : Nat} (h : d' < d) (hn : n ≤ 21) : fits_ (Em g d) d' n := by
  unfold fits_ Em rmm
  constructor
  · show d' + 1 ≤ d
    omega
  · show 8 + (n + 11) + 40 * d' ≤ 40 * d
    omega
def room_ok (E : EE) : Prop := E.2.2.2.1 ≤ E.2.2.1.cells ∧ E.2.2.2.2.1 ≤ E.2.2.1.slots
theorem room_m {g : Gm} {d : Nat} : room_ok (Em g d) := ⟨Nat.le_refl 0, Nat.le_refl 0⟩
theorem wsm_good {y : MethodName} {K : KK} (h : Cond.code y K.1 K.2.2.1 K.2.2.2 ∈ lw_good) : GoodIn lw_good (wsm y K) := fun w hw => by
  have h1 : w ∈ lw_good := by
    rcases List.mem_cons.mp hw with rfl | hw
    · exact h
    · exact hw
  exact ⟨h1, good_of_word (List.mem_filter.mp h1).2⟩
/-- a static method of the own class or another -/
theorem c_S {y : MethodName} {K2 : KK} {d n idx : Nat} {as stk : List Value} (hd : Dc K pc (.invokestatic idx) 3 npc) (hOk : Ok E.1 y K2 d as σ cv2 oc) (hlk : Cond.methodLink K.2.1 idx y ∈ lw_good) (hst : Cond.static y ∈ lw_good) (hin : Cond.initialized y.cls ∈ lw_good) (hcd : Cond.code y K2.1 K2.2.2.1 K2.2.2.2 ∈ lw_good) (hds : y.cls ≠ "java/lang/invoke/MethodHandle" ∧ y.cls ≠ "java/lang/invoke/VarHandle" ∧ (parseMethodDescriptor y.desc).map (fun d => d.parameters.length) = some n) (hn : as.length = n) (hstk : stk = as.reverse ++ st) (hw : (st.map fun v => v.category).sum ≤ 8) (hfit : fits_ E d K2.2.2.1) (hrm : room_ok E) (kk : ∀ b, oc = some b → Rf cv E K npc lv ((cv2 b).1.toList ++ st) (cv2 b).2 (kf b)) : Rf cv E K pc lv stk σ (oc.bind kf) := by
  intro a ho p l e s m args below meth c H locs ls C hP hS hl
  cases hoc : oc with
  | none => rw [hoc] at ho; cases ho
  | some b =>
    rw [hoc] at ho
    have hts := C.2.2.2.2.2.2.1
    refine call_go (va_runS (As := as) (rest := st) ⟨C.1, C.2.1, C.2.2.2.1, C.2.2.2.2.2.1, hts⟩ (hOk b hoc l) ⟨callB_of n hts (wsm_good hcd) rfl rfl rfl (hts _ hin) (hts _ hlk) hds hfit, hts _ hst⟩ ⟨Wd_blind, fun U hU hW => ⟨rfl, Wd_at C hP hS hU hW⟩⟩ rfl hn hl.1 hstk (lv_room hw) hd.1 hrm) hS (wl_A C.2.2.2.2.2.2.2.2.2.2) (fun H1 locs1 hP1 hS1 => ?_)
    exact hd.2 ▸ kk b hoc a ho p l e s m args below meth c H1 locs1 ls C hP1 hS1 hl
theorem c_V {y : MethodName} {K2 : KK} {d n idx c0 i N : Nat} {CC : String} {T : u_T} {as stk : List Value} (hd : Dc K pc (.invokevirtual idx) 3 npc) (hOk : Ok E.1 y K2 d (.ref (E.1.1 c0 0 i) :: as) σ cv2 oc) (hlk : Cond.methodLink K.2.1 idx y ∈ lw_good) (him : Cond.instanceMethod y ∈ lw_good) (hse : Cond.selects CC y y ∈ lw_good) (hin : Cond.initialized y.cls ∈ lw_good) (hcd : Cond.code y K2.1 K2.2.2.1 K2.2.2.2 ∈ lw_good) (hc : vwCl[c0]? = some (CC, T, N)) (ht : (c0, 0) ∈ tabs) (hi : i < cn c0) (hds : y.cls ≠ "java/lang/invoke/MethodHandle" ∧ y.cls ≠ "java/lang/invoke/VarHandle" ∧ (parseMethodDescriptor y.desc).map (fun d => d.parameters.length) = some n) (hn : as.length = n) (hstk : stk = as.reverse ++ .ref (E.1.1 c0 0 i) :: st) (hw : (st.map fun v => v.category).sum ≤ 8) (hfit : fits_ E d K2.2.2.1) (hrm : room_ok E) (kk : ∀ b, oc = some b → Rf cv E K npc lv ((cv2 b).1.toList ++ st) (cv2 b).2 (kf b)) : Rf cv E K pc lv stk σ (oc.bind kf) := by
  intro a ho p l e s m args below meth c H locs ls C hP hS hl
  cases hoc : oc with
  | none => rw [hoc] at ho; cases ho
  | some b =>
    rw [hoc] at ho
    have hts := C.2.2.2.2.2.2.1
    obtain ⟨q0, -, h1⟩ := wl_at E.1 (allc_mem ht hi)
    refine call_go (va_runV (As := as) (rest := st) (b := E.1.1 c0 0 i) ⟨C.1, C.2.1, C.2.2.2.1, C.2.2.2.2.2.1, hts⟩ (hOk b hoc l) ⟨callB_of n hts (wsm_good hcd) rfl rfl rfl (hts _ hin) (hts _ hlk) hds hfit, hts _ him, hts _ hse⟩ ⟨Wd_blind, va_recv C.2.2.2.2.2.2.2.1 hP hc (h1 σ), fun U hU hW => ⟨rfl, Wd_at C hP hS hU hW⟩⟩ rfl hn hl.1 hstk (lv_room hw) hd.1 hrm) hS (wl_A C.2.2.2.2.2.2.2.2.2.2) (fun H1 locs1 hP1 hS1 => ?_)
    exact hd.2 ▸ kk b hoc a ho p l e s m args below meth c H1 locs1 ls C hP1 hS1 hl
theorem c_N {y : MethodName} {K2 : KK} {d n idx c0 i N : Nat} {CC : String} {T : u_T} {as stk : List Value} (hd : Dc K pc (.invokevirtual idx) 3 npc) (hOk : Ok E.1 y K2 d (.ref (E.1.1 c0 0 i) :: as) σ cv2 oc) (hlk : Cond.methodLinkNest K.2.1 idx y "ThawGives" ∈ lw_nest) (him : Cond.instanceMethod y ∈ lw_good) (hse : Cond.selects CC y y ∈ lw_good) (hin : Cond.initialized y.cls ∈ lw_good) (hcd : Cond.code y K2.1 K2.2.2.1 K2.2.2.2 ∈ lw_good) (hc : vwCl[c0]? = some (CC, T, N)) (ht : (c0, 0) ∈ tabs) (hi : i < cn c0) (hds : y.cls ≠ "java/lang/invoke/MethodHandle" ∧ y.cls ≠ "java/lang/invoke/VarHandle" ∧ (parseMethodDescriptor y.desc).map (fun d => d.parameters.length) = some n) (hn : as.length = n) (hstk : stk = as.reverse ++ .ref (E.1.1 c0 0 i) :: st) (hw : (st.map fun v => v.category).sum ≤ 8) (hfit : fits_ E d K2.2.2.1) (hrm : room_ok E) (kk : ∀ b, oc = some b → Rf cv E K npc lv ((cv2 b).1.toList ++ st) (cv2 b).2 (kf b)) : Rf cv E K pc lv stk σ (oc.bind kf) := by
  intro a ho p l e s m args below meth c H locs ls C hP hS hl
  cases hoc : oc with
  | none => rw [hoc] at ho; cases ho
  | some b =>
    rw [hoc] at ho
    have hts := C.2.2.2.2.2.2.1
    obtain ⟨q0, -, h1⟩ := wl_at E.1 (allc_mem ht hi)
    refine call_go (va_runVN (As := as) (rest := st) (b := E.1.1 c0 0 i) (host := "ThawGives") ⟨C.1, C.2.1, C.2.2.2.1, C.2.2.2.2.2.1, hts⟩ (hOk b hoc l) ⟨va_cnB n hts (wsm_good hcd) rfl rfl rfl (C.2.2.2.2.2.2.2.2.2.1.1 _ hlk) (hts _ hin) hds hfit, hts _ him, hts _ hse⟩ ⟨Wd_blind, va_recv C.2.2.2.2.2.2.2.1 hP hc (h1 σ), fun U hU hW => ⟨rfl, Wd_at C hP hS hU hW⟩⟩ rfl hn hl.1 hstk (lv_room hw) hd.1 hrm) hS (wl_A C.2.2.2.2.2.2.2.2.2.2) (fun H1 locs1 hP1 hS1 => ?_)
    exact hd.2 ▸ kk b hoc a ho p l e s m args below meth c H1 locs1 ls C hP1 hS1 hl
end CALLS
section RETS
variable {α : Type} {cv : α → Res} {g : Gm} {d : Nat} {K : KK} {pc npc : Nat} {lv : List (Option Value)} {σ : Sto} {a : α}
theorem r_iret {v : Int32} (hd : Dc K pc .ireturn 1 npc) (hr : K.2.2.2 = some .int) (ha : cv a = (some (.int v), σ)) : Rf cv (Em g d) K pc lv [.int v] σ (some a) := fun a' ho p l e s m args below meth c H locs ls C hP hS hl => by
  cases ho
  show W _ _ _ _ _ _ _ _ _ _ _ _ _ _ (MQ below (QC g (cv a)) args s 0 0 (Aw g)) _
  rw [ha]
  exact W.iret C.1 C.2.1 (C.2.2.1.trans hr) (fun t ht _ => ⟨rfl, by rw [ht]; exact hP, hS.F ht⟩) hS.2.2 hd.1 C.2.2.2.2.1
theorem r_zret {v : Int32} {ty : FieldType} (hd : Dc K pc .ireturn 1 npc) (hr : K.2.2.2 = some ty) (hn : narrow ty (.int v) = .int v) (ha : cv a = (some (.int v), σ)) : Rf cv (Em g d) K pc lv [.int v] σ (some a) := fun a' ho p l e s m args below meth c H locs ls C hP hS hl => by
  cases ho
  show W _ _ _ _ _ _ _ _ _ _ _ _ _ _ (MQ below (QC g (cv a)) args s 0 0 (Aw g)) _
  rw [ha]
  exact W.zret C.1 C.2.1 (C.2.2.1.trans hr) hn (fun t ht _ => ⟨rfl, by rw [ht]; exact hP, hS.F ht⟩) hS.2.2 hd.1 C.2.2.2.2.1
theorem r_lret {v : Int64} (hd : Dc K pc .lreturn 1 npc) (hr : K.2.2.2 = some .long) (ha : cv a = (some (.long v), σ)) : Rf cv (Em g d) K pc lv [.long v] σ (some a) := fun a' ho p l e s m args below meth c H locs ls C hP hS hl => by
  cases ho
  show W _ _ _ _ _ _ _ _ _ _ _ _ _ _ (MQ below (QC g (cv a)) args s 0 0 (Aw g)) _
  rw [ha]
  exact W.lret C.1 C.2.1 (C.2.2.1.trans hr) (fun t ht _ => ⟨rfl, by rw [ht]; exact hP, hS.F ht⟩) hS.2.2 hd.1 C.2.2.2.2.1
theorem r_aret {v : Nat} {CC : String} (hd : Dc K pc .areturn 1 npc) (hr : K.2.2.2 = some (.object CC)) (ha : cv a = (some (.ref v), σ)) : Rf cv (Em g d) K pc lv [.ref v] σ (some a) := fun a' ho p l e s m args below meth c H locs ls C hP hS hl => by
  cases ho
  show W _ _ _ _ _ _ _ _ _ _ _ _ _ _ (MQ below (QC g (cv a)) args s 0 0 (Aw g)) _
  rw [ha]
  exact W.aret C.1 C.2.1 (C.2.2.1.trans hr) (Or.inl ⟨_, rfl⟩) (Or.inr ⟨_, rfl⟩) (fun t ht _ => ⟨rfl, by rw [ht]; exact hP, hS.F ht⟩) hS.2.2 hd.1 C.2.2.2.2.1
theorem r_vret (hd : Dc K pc .return_ 1 npc) (hr : K.2.2.2 = none) (ha : cv a = (none, σ)) : Rf cv (Em g d) K pc lv [] σ (some a) := fun a' ho p l e s m args below meth c H locs ls C hP hS hl => by
  cases ho
  show W _ _ _ _ _ _ _ _ _ _ _ _ _ _ (MQ below (QC g (cv a)) args s 0 0 (Aw g)) _
  rw [ha]
  exact W.vret C.1 C.2.1 (C.2.2.1.trans hr) (fun t ht _ => ⟨rfl, by rw [ht]; exact hP, hS.F ht⟩) hS.2.2 hd.1 C.2.2.2.2.1
end RETS
