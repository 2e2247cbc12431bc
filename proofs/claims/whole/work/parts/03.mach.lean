-- WHAT HOLDS ALL THE WHILE
def isNest : Cond → Bool
  | .fieldLinkNest .. => true
  | .methodLinkNest .. => true
  | _ => false
def lw_good : List Cond := lw_tbl.filter goodWord
def lw_nest : List Cond := lw_tbl.filter isNest
theorem good_in {w : Cond} (h : w ∈ lw_tbl) (hg : goodWord w = true) : w ∈ lw_good := List.mem_filter.mpr ⟨h, hg⟩
theorem nest_in {w : Cond} (h : w ∈ lw_tbl) (hg : isNest w = true) : w ∈ lw_nest := List.mem_filter.mpr ⟨h, hg⟩
theorem nest_warm {s U : State} (hW : s.WarmedH U.vm) {w : Cond} (hn : isNest w = true) (h : va_Nw w s) : va_Nw w U := by
  cases w <;> first | exact va_Nw.warmF hW h | exact va_Nw.warmM hW h | (simp [isNest] at hn; done)
theorem nest_same {u U : State} (hv : u.vm = U.vm) {w : Cond} (hn : isNest w = true) (h : va_Nw w u) : va_Nw w U := by
  cases w <;> first | exact va_Nw.same rfl hv h | (simp [isNest] at hn; done)
def tys (g : Gm) : List (ClassId × FieldType) := [(g.2.2.1 0, .int), (g.2.2.1 1, .long), (g.2.2.1 2, .byte), (g.2.2.1 3, .boolean), (g.2.2.1 4, .object "ThawGives$Thing"), (g.2.2.1 5, .object "ThawGives$Pass"), (g.2.2.1 6, .object "ThawGives$Tape")]
def sarr : Nat → List Int32
  | 0 => [-1, 0, 0, 0, 1, 2, 3]
  | _ => [10, 11, 12, 10, 20, 12, 30, 11, 12, 10, 11, 40, 50, 51, 12, 30, 11, 60, 71, 70, 40]
def sbyt : List (List Int32) := [[119, 97, 114, 109, 32], [102, 114, 111, 115, 116, 32], [115, 110, 111, 119, 32], [112, 107, 118, 119, 100, 109], [60, 61, 62]]
def slen : List Nat := [5, 6, 5, 6, 3]
def strs : List (String × Nat × String × Nat) := [("ThawGives$Text", 52, "warm ", 0), ("ThawGives$Text", 54, "frost ", 1), ("ThawGives$Text", 56, "snow ", 2), ("ThawGives$Text", 81, "pkvwdm", 3), ("ThawGivesModel", 155, "pkvwdm", 3), ("ThawGivesModel", 160, "<=>", 4), ("ThawGivesModel", 186, "warm ", 0), ("ThawGivesModel", 192, "frost ", 1), ("ThawGivesModel", 194, "snow ", 2)]
def Ks1 (g : Gm) (A : Nat → Prop) (U : State) (H : Heap) : Prop :=
  (va_Z "ThawGives" "ABOVE" "[I" (.ref (g.2.2.2.1 0)) A U H ∧ va_T .int (g.2.2.2.1 0) 7 (fun j => .int ((sarr 0).getD j 0)) A U H) ∧ (va_Z "ThawGives$Acts" "BODIES" "[I" (.ref (g.2.2.2.1 1)) A U H ∧ va_T .int (g.2.2.2.1 1) 21 (fun j => .int ((sarr 1).getD j 0)) A U H) ∧ va_Z "java/lang/String" "COMPACT_STRINGS" "Z" (.int 1) A U H ∧ vk_S 5 slen sbyt g.2.2.2.2.1 g.2.2.2.2.2 A U H
def Ks2 (g : Gm) (U : State) : Prop := (∀ w ∈ lw_nest, va_Nw w U) ∧ ∀ q ∈ strs, vk_R q.1 q.2.1 q.2.2.1 (g.2.2.2.2.1 q.2.2.2) U
def Kst (g : Gm) (A : Nat → Prop) (U : State) (H : Heap) : Prop := va_K g.2.1 vwCl (tys g) U ∧ Ks1 g A U H ∧ Ks2 g U ∧ va_D A (wl g ((fun _ _ _ => 0), (fun _ _ _ _ => 0), (fun _ _ _ _ => 0), 0))
theorem wl_D {g : Gm} {A : Nat → Prop} {σ : Sto} (τ : Sto) (h : va_D A (wl g σ)) : va_D A (wl g τ) := by
  have key : ∀ (k : Nat) (q : Nat × va_E), (wl g τ)[k]? = some q → ∃ q', (wl g σ)[k]? = some q' ∧ q'.1 = q.1 := by
    intro k q hk
    unfold wl at hk ⊢
    rw [List.getElem?_map] at hk ⊢
    cases hx : allc[k]? with
    | none => rw [hx] at hk; cases hk
    | some x =>
      rw [hx] at hk
      cases hk
      exact ⟨_, rfl, rfl⟩
  refine ⟨fun i j p q hi hj e => ?_, fun k q hk => ?_⟩
  · obtain ⟨p', h1, h2⟩ := key i p hi
    obtain ⟨q', h3, h4⟩ := key j q hj
    exact h.1 i j p' q' h1 h3 (h2.trans (e.trans h4.symm))
  · obtain ⟨q', h1, h2⟩ := key k q hk
    rw [← h2]
    exact h.2 k q' h1
theorem Ks1.moved {g : Gm} {A : Nat → Prop} {u U : State} {H : Heap} (hvm : u.vm.Alike U.vm) (h : Ks1 g A u H) : Ks1 g A U H := ⟨⟨va_Z.moved hvm h.1.1, va_T.moved hvm h.1.2⟩, ⟨va_Z.moved hvm h.2.1.1, va_T.moved hvm h.2.1.2⟩, va_Z.moved hvm h.2.2.1, vk_S.moved hvm h.2.2.2⟩
theorem Ks1.kept {g : Gm} {A : Nat → Prop} {U : State} {H H1 : Heap} (h : Ks1 g A U H) (hq : ∀ a : Nat, a < H.size → ¬ A a → H1[a]? = H[a]?) : Ks1 g A U H1 := ⟨⟨h.1.1.kept hq, h.1.2.kept hq⟩, ⟨h.2.1.1.kept hq, h.2.1.2.kept hq⟩, h.2.2.1.kept hq, h.2.2.2.kept hq⟩
theorem Ks1.narrow {g : Gm} {A B : Nat → Prop} {U : State} {H : Heap} (h : Ks1 g A U H) (hAB : ∀ q, B q → A q) : Ks1 g B U H := ⟨⟨h.1.1.narrow hAB, h.1.2.narrow hAB⟩, ⟨h.2.1.1.narrow hAB, h.2.1.2.narrow hAB⟩, h.2.2.1.narrow hAB, h.2.2.2.narrow hAB⟩
theorem Ks2.warm {g : Gm} {s U : State} (hW : s.WarmedH U.vm) (h : Ks2 g s) : Ks2 g U := ⟨fun w hw => nest_warm hW (List.mem_filter.mp hw).2 (h.1 w hw), fun q hq => (h.2 q hq).warm hW⟩
theorem Ks2.same {g : Gm} {u U : State} (hv : u.vm = U.vm) (h : Ks2 g u) : Ks2 g U := ⟨fun w hw => nest_same hv (List.mem_filter.mp hw).2 (h.1 w hw), fun q hq => (h.2 q hq).same hv.symm⟩
-- the cells of the world
def Aw (g : Gm) : Nat → Prop := fun q => ∃ x ∈ allc, q = adr g x
theorem wl_A {g : Gm} {A : Nat → Prop} {σ : Sto} (h : va_D A (wl g σ)) : ∀ q, Aw g q → A q := by
  rintro q ⟨x, hx, rfl⟩
  obtain ⟨q0, -, h1⟩ := wl_at g hx
  exact h.2 q0 _ (h1 σ)
theorem wl_DA {g : Gm} {A : Nat → Prop} {σ : Sto} (h : va_D A (wl g σ)) : va_D (Aw g) (wl g σ) := h.weaken (fun k q hk _ => by
  unfold wl at hk
  rw [List.getElem?_map] at hk
  cases hx : allc[k]? with
  | none => rw [hx] at hk; cases hk
  | some x =>
    rw [hx] at hk
    cases hk
    exact ⟨x, List.mem_of_getElem? hx, rfl⟩)
-- METHODS: what a method's text is: its bytes, its class, its locals, its answer's kind
abbrev KK : Type := ByteArray × String × Nat × Option FieldType
abbrev Res : Type := Option Value × Sto
abbrev EE : Type := Gm × (State → Nat → Prop) × Room × Nat × Nat × (Res → Array Value → State → List Frame → State → Prop)
def Cx (E : EE) (K : KK) (p : Program) (s : State) (m : MethodId) (args : Array Value) (meth : Method) (c : Code) : Prop :=
  p.tables.exec = Jvm.exec ∧ c.code = K.1 ∧ meth.sig.returnType = K.2.2.2 ∧ c.maxLocals = K.2.2.1 ∧ meth.locks = false ∧ s.vm.findClass K.2.1 = some m.cls ∧ (∀ w ∈ lw_good, w.before args s = true) ∧ Kst E.1 (E.2.1 s) s s.heap
def lvl : Nat → List (Option Value) → List (Nat × Value)
  | _, [] => []
  | i, none :: r => lvl (i + 1) r
  | i, some v :: r => (i, v) :: lvl (i + 1) r
theorem lvl_mem : ∀ (lv : List (Option Value)) (i k : Nat) (v : Value), lv[k]? = some (some v) → (i + k, v) ∈ lvl i lv
  | [], _, _, _, h => by simp at h
  | none :: r, i, 0, v, h => by simp at h
  | none :: r, i, k + 1, v, h => by
    have := lvl_mem r (i + 1) k v (by simpa using h)
    rw [show i + (k + 1) = i + 1 + k by omega]
    exact this
  | some w :: r, i, 0, v, h => by
    simp at h
    subst h
    exact List.mem_cons_self
  | some w :: r, i, k + 1, v, h => by
    have := lvl_mem r (i + 1) k v (by simpa using h)
    rw [show i + (k + 1) = i + 1 + k by omega]
    exact List.mem_cons_of_mem _ this
theorem lvl_of : ∀ (lv : List (Option Value)) (i : Nat) (q : Nat × Value), q ∈ lvl i lv → ∃ k, q.1 = i + k ∧ lv[k]? = some (some q.2)
  | [], _, _, h => by simp [lvl] at h
  | none :: r, i, q, h => by
    obtain ⟨k, h1, h2⟩ := lvl_of r (i + 1) q h
    exact ⟨k + 1, by omega, by simpa using h2⟩
  | some w :: r, i, q, h => by
    rcases List.mem_cons.mp h with rfl | h
    · exact ⟨0, rfl, rfl⟩
    · obtain ⟨k, h1, h2⟩ := lvl_of r (i + 1) q h
      exact ⟨k + 1, by omega, by simpa using h2⟩
def LV (ls : Array Slot) (nL : Nat) (lv : List (Option Value)) : Prop := lv_has ls nL (lvl 0 lv)
theorem LV.at {ls : Array Slot} {nL : Nat} {lv : List (Option Value)} (h : LV ls nL lv) {k : Nat} {v : Value} (hk : lv[k]? = some (some v)) : ls[k]? = some (.val v) := by
  have := lvl_mem lv 0 k v hk
  rw [Nat.zero_add] at this
  exact h.2.2 _ this
def lok (lv : List (Option Value)) (i : Nat) : Bool := match i with
  | 0 => true
  | j + 1 => match lv[j]? with
    | some (some w) => w.category != 2
    | _ => true
theorem LV.set {ls : Array Slot} {nL : Nat} {lv : List (Option Value)} {i : Nat} {v : Value} (hok : lok lv i = true) (hi : i < lv.length) (h : lv_has ls nL ((i, v) :: (lvl 0 lv).filter (fun q => !(q.1 == i) && !(q.1 + 1 == i && q.2.category == 2)))) : LV ls nL (lv.set i (some v)) := by
  refine ⟨h.1, h.2.1, fun q hq => ?_⟩
  obtain ⟨k, h1, h2⟩ := lvl_of _ _ _ hq
  rw [Nat.zero_add] at h1
  by_cases hk : i = k
  · subst hk
    rw [List.getElem?_set_self hi] at h2
    have : q = (i, v) := by
      cases q
      simp only [Option.some.injEq] at h2
      simp_all
    rw [this]
    exact h.2.2 _ List.mem_cons_self
  · rw [List.getElem?_set_ne hk] at h2
    refine h.2.2 q (List.mem_cons_of_mem _ (List.mem_filter.mpr ⟨?_, ?_⟩))
    · have := lvl_mem lv 0 k q.2 h2
      rw [Nat.zero_add, ← h1] at this
      exact this
    · have h3 : ¬ q.1 = i := by omega
      simp only [Bool.and_eq_true, Bool.not_eq_true', beq_eq_false_iff_ne, ne_eq, h3, not_false_eq_true, Bool.and_eq_false_iff, true_and]
      by_cases h4 : q.1 + 1 = i
      · right
        subst h4
        rw [h1] at hok
        simp only [lok, h2] at hok
        simpa using hok
      · exact Or.inl h4
def Rf (E : EE) (K : KK) (pc : Nat) (lv : List (Option Value)) (st : List Value) (σ : Sto) (o : Option Res) : Prop :=
  ∀ res, o = some res → ∀ (p : Program) (l : Launch) (e : Env) (s : State) (m : MethodId) (args : Array Value) (below : List Frame) (meth : Method) (c : Code) (H : Heap) (locs : List Loc) (ls : Array Slot),
    Cx E K p s m args meth c → va_P E.1.2.1 vwCl (wl E.1 σ) H → va_S (E.2.1 s) s.heap H locs → LV ls K.2.2.1 lv → W p l e E.2.2.1 s m args below meth c H locs E.2.2.2.1 E.2.2.2.2.1 (E.2.2.2.2.2 res args s below) (F0 m pc ls st)
/-- an instruction's row: what stands at pc, how long it is, where the next begins -/
def Dc (K : KK) (pc : Nat) (i : Instr) (n npc : Nat) : Prop := decode K.1 pc = .ok (i, n) ∧ npc = pc + n
section RULES
variable {E : EE} {K : KK} {pc npc : Nat} {lv : List (Option Value)} {st : List Value} {σ : Sto} {o : Option Res}
theorem r_iconst {n : Int} {v : Int32} (hd : Dc K pc (.iconst n) 1 npc) (hv : Int32.ofInt n = v) (k : Rf E K npc lv (.int v :: st) σ o) : Rf E K pc lv st σ o := fun res ho p l e s m args below meth c H locs ls C hP hS hl => lv_iconst C.1 C.2.1 hd.1 hv (hd.2 ▸ k res ho p l e s m args below meth c H locs ls C hP hS hl)
theorem r_bipush {n : Int} {v : Int32} (hd : Dc K pc (.bipush n) 2 npc) (hv : (Int8.ofInt n).toInt32 = v) (k : Rf E K npc lv (.int v :: st) σ o) : Rf E K pc lv st σ o := fun res ho p l e s m args below meth c H locs ls C hP hS hl => lv_bipush C.1 C.2.1 hd.1 hv (hd.2 ▸ k res ho p l e s m args below meth c H locs ls C hP hS hl)
theorem r_iload {i : Nat} {x : Int32} (hd : Dc K pc (.iload i) 2 npc) (hx : lv[i]? = some (some (.int x))) (k : Rf E K npc lv (.int x :: st) σ o) : Rf E K pc lv st σ o := fun res ho p l e s m args below meth c H locs ls C hP hS hl => lv_iload C.1 C.2.1 hd.1 (hl.at hx) (hd.2 ▸ k res ho p l e s m args below meth c H locs ls C hP hS hl)
theorem r_iload_n {i : Fin 4} {x : Int32} (hd : Dc K pc (.iload_n i) 1 npc) (hx : lv[(i : Nat)]? = some (some (.int x))) (k : Rf E K npc lv (.int x :: st) σ o) : Rf E K pc lv st σ o := fun res ho p l e s m args below meth c H locs ls C hP hS hl => lv_iload_n C.1 C.2.1 hd.1 rfl (hl.at hx) (hd.2 ▸ k res ho p l e s m args below meth c H locs ls C hP hS hl)
theorem r_istore_n {i : Fin 4} {x : Int32} (hd : Dc K pc (.istore_n i) 1 npc) (hok : lok lv i = true) (hi : (i : Nat) < lv.length) (hn : (i : Nat) < K.2.2.1) (k : Rf E K npc (lv.set i (some (.int x))) st σ o) : Rf E K pc lv (.int x :: st) σ o := fun res ho p l e s m args below meth c H locs ls C hP hS hl => lv_istore_n C.1 C.2.1 hd.1 rfl hl hn rfl (fun ls' hl' => hd.2 ▸ k res ho p l e s m args below meth c H locs ls' C hP hS (LV.set hok hi hl'))
end RULES
