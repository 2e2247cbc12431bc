def R_law : String := "ThawGivesLaw"
def lw_P (b : Addr) (xs : List Int32) (args : Array Value) (s : State) : Prop := args = #[.ref b] ∧ s.IntsAt b xs ∧ xs.length ≤ 3072 ∧ (Jvm.Cond.and given_1 narrow_1).before args s = true
def lw_Q (_ : Array Value) (s : State) (o : Outcome) (t : State) : Prop := o = .returned (some (.int 1)) ∧ Framed s o t [] 600000 7302250
def lw_Z (below : List Frame) (a : Array Value) (s : State) : State → Prop := fun t => ∃ o, t.status = .running ∧ Ended t below o ∧ lw_Q a s o t
/-- the law's own end, with 1 on the stack, nothing written that was there before, its room as the claim has it -/
theorem lw_ret {p : Program} {l : Launch} {e : Env} {s : State} {m : MethodId} {below : List Frame} {meth : Method} {c : Code} {b : Nat} (hx : p.tables.exec = Jvm.exec) (hb : c.code = code) (hr : meth.sig.returnType = ret) (hlocks : meth.locks = false) {pc : Nat} {H : Heap} {ls : Array Slot} (hdg : decode code pc = .ok (.ireturn, 1)) : W p l e room_1 s m #[Value.ref b] below meth c H [] 600000 7302250 (lw_Z below #[Value.ref b] s) (F0 m pc ls [.int 1]) := by
  intro T hT X
  obtain ⟨fs, hret, hrun, hended, hW, hframe⟩ := X.leave (v := some (.int 1)) (hlocks := hlocks) (fun h => by rw [hr] at h; cases h)
  have hmeth' : T.vm.method? m = some meth := X.method'
  refine ⟨T.setFrames fs, ?_, .returned (some (.int 1)), hrun, hended, rfl, ⟨_, rfl⟩, hW, hframe⟩
  jvm_step X.here [X.here.top, hx, hb, hdg, hmeth', hr, ret, narrow_b1]
  (try refine ⟨rfl, ?_⟩); (try refine ⟨rfl, ?_⟩)
  first | (intro acts; rw [hret _ acts rfl rfl rfl]) | rw [hret _ _ rfl rfl rfl]
  exact Steps.refl _
/-- what holds at the law's entry: the machine, the code, the tables' words (any of lw_tbl by 'hts w (by decide +kernel)'), the script of L ints xs at the cell b, what the Statement gives of the start (any of its parts by flat_of_before) -/
def lw_At (p : Program) (s : State) (m : MethodId) (meth : Method) (c : Code) (b L : Nat) (xs : Nat → Int32) : Prop :=
  p.tables.exec = Jvm.exec ∧ c.code = code ∧ meth.sig.returnType = ret ∧ c.maxLocals = 4 ∧ s.vm.findClass R_law = some m.cls ∧ (∀ w ∈ lw_tbl, w.before #[Value.ref b] s = true) ∧ va_X b L xs s s.heap ∧ b < s.heap.size ∧ meth.locks = false ∧ (Jvm.Cond.and given_1 narrow_1).before #[Value.ref b] s = true
def LF (b L : Nat) (xs : Nat → Int32) (args : Array Value) (s : State) : Prop := args = #[.ref b] ∧ va_X b L xs s s.heap ∧ b < s.heap.size
def El (g : Gm) (b L : Nat) (xs : Nat → Int32) : EE := (g, (fun s q => s.heap.size ≤ q), room_1, 600000, 7302250, fun _ args s below t => LF b L xs args s → lw_Z below #[Value.ref b] s t)
def cvLaw : Unit → Res := fun _ => (none, (fun _ _ _ => 0), (fun _ _ _ _ => 0), (fun _ _ _ _ => 0), 0)
theorem room_l {g : Gm} {b L : Nat} {xs : Nat → Int32} : room_ok (El g b L xs) := ⟨Nat.le_refl _, Nat.le_refl _⟩
theorem fits_l {g : Gm} {b L : Nat} {xs : Nat → Int32} {d n : Nat} (h : d ≤ 200) (hn : n ≤ 21) : fits_ (El g b L xs) d n := by
  constructor
  · show d + 1 ≤ 2048
    omega
  · show 8 + (n + 11) + 40 * d ≤ 84000
    omega
section LAW
variable {α : Type} {cv : α → Res} {g : Gm} {b L : Nat} {xs : Nat → Int32} {pc npc : Nat} {lv : List (Option Value)} {st : List Value} {σ : Sto} {o : Option α}
theorem law_lf {K : KK} {lv : List (Option Value)} {st : List Value} {pc : Nat} {σ : Sto} {o : Option α} (k : ∀ a, o = some a → ∀ (p : Program) (l : Launch) (e : Env) (s : State) (m : MethodId) (args : Array Value) (below : List Frame) (meth : Method) (c : Code) (H : Heap) (locs : List Loc) (ls : Array Slot), Cx (El g b L xs) K p s m args meth c → va_P g.2.1 vwCl (wl g σ) H → va_S (fun q => s.heap.size ≤ q) s.heap H locs → LV ls K.2.2.1 lv → LF b L xs args s → W p l e room_1 s m args below meth c H locs 600000 7302250 (fun t => LF b L xs args s → lw_Z below #[Value.ref b] s t) (F0 m pc ls st)) : Rf cv (El g b L xs) K pc lv st σ o := fun a ho p l e s m args below meth c H locs ls C hP hS hl => by
  by_cases hf : LF b L xs args s
  · exact k a ho p l e s m args below meth c H locs ls C hP hS hl hf
  · intro T hT X
    exact ⟨_, Steps.refl _, fun h => absurd h hf⟩
theorem g_sld (hL : L ≤ 3072) {j : Int32} (hd : Dc kL_law pc (.iaload) 1 npc) (kk : 0 ≤ j ∧ j < Int32.ofNat L → Rf cv (El g b L xs) kL_law npc lv (.int (xs j.toNatClampNeg) :: st) σ o) : Rf cv (El g b L xs) kL_law pc lv (.int j :: .ref b :: st) σ (if 0 ≤ j ∧ j < Int32.ofNat L then o else none) := r_gd (fun hg => law_lf (fun a ho p l e s m args below meth c H locs ls C hP hS hl hf => by
  have hb := inb (N := L) (n := Int32.ofNat L) (nI_toInt (n := L) (by omega)) hg
  exact va_sld C.1 C.2.1 hf.2.1 hf.2.2 (Nat.not_le.mpr hf.2.2) hS hb.1 hd.1 (hd.2 ▸ kk hg a ho p l e s m args below meth c H locs ls C hP hS hl)))
theorem g_slenS (hL : L ≤ 3072) (hd : Dc kL_law pc (.arraylength) 1 npc) (kk : Rf cv (El g b L xs) kL_law npc lv (.int (Int32.ofNat L) :: st) σ o) : Rf cv (El g b L xs) kL_law pc lv (.ref b :: st) σ o := law_lf (fun a ho p l e s m args below meth c H locs ls C hP hS hl hf => va_slen C.1 C.2.1 hf.2.1 hf.2.2 (Nat.not_le.mpr hf.2.2) hS hd.1 (hd.2 ▸ kk a ho p l e s m args below meth c H locs ls C hP hS hl))
theorem r_lawret {a : α} (hd : Dc kL_law pc .ireturn 1 npc) : Rf cv (El g b L xs) kL_law pc lv [.int 1] σ (some a) := law_lf (fun a' ho p l e s m args below meth c H locs ls C hP hS hl hf => by
  have h1 : args = #[.ref b] := hf.1
  subst h1
  refine va_forget (fun q hq => hS.2.2 q hq) ?_
  intro T hT X
  obtain ⟨t, h2, h3⟩ := lw_ret (b := b) C.1 C.2.1 C.2.2.1 C.2.2.2.2.1 hd.1 T hT X
  exact ⟨t, h2, fun _ => h3⟩)
end LAW
def f_L_law_L629 (L : Nat) (xs : Nat → Int32) (k18 : Sto → Int32 → Option (Unit)) (s0 : Sto) (x3 : Int32) (y0 : Int32) (y2 : Int32) (y3 : Int32) (y4 : Int32) : Option (Unit) :=
  (f_X8_see s0 y2 y3 y4).bind fun q180 => (if y0 = q180.1 then
    nmI (x3 + 6) fun v182 => k18 q180.2 v182
  else
    none)
def f_L_law_L602 (L : Nat) (xs : Nat → Int32) (k18 : Sto → Int32 → Option (Unit)) (s0 : Sto) (x3 : Int32) (y1 : Int32) (y2 : Int32) (y3 : Int32) : Option (Unit) :=
  (f_X7_see s0 y1 y2 y3).bind fun q172 => (if 0 ≤ (x3 + 1) ∧ (x3 + 1) < Int32.ofNat L then (if 0 ≤ (x3 + 2) ∧ (x3 + 2) < Int32.ofNat L then (if 0 ≤ (x3 + 3) ∧ (x3 + 3) < Int32.ofNat L then (if (xs ((x3 + 3)).toNatClampNeg) = 0 then
    f_L_law_L629 L xs k18 q172.2 x3 q172.1 (xs ((x3 + 1)).toNatClampNeg) (xs ((x3 + 2)).toNatClampNeg) 0
  else
    f_L_law_L629 L xs k18 q172.2 x3 q172.1 (xs ((x3 + 1)).toNatClampNeg) (xs ((x3 + 2)).toNatClampNeg) 1) else none) else none) else none)
def f_L_law_B18 (L : Nat) (xs : Nat → Int32) (k18 : Sto → Int32 → Option (Unit)) (s0 : Sto) (x3 : Int32) : Option (Unit) :=
  (if ((Int32.ofNat L) - 6) < x3 then
    some ()
  else
    (if 0 ≤ x3 ∧ x3 < Int32.ofNat L then (if ((xs (x3).toNatClampNeg) &&& 31) = 0 then
      (if 0 ≤ (x3 + 1) ∧ (x3 + 1) < Int32.ofNat L then (if 0 ≤ (x3 + 2) ∧ (x3 + 2) < Int32.ofNat L then (if 0 ≤ (x3 + 3) ∧ (x3 + 3) < Int32.ofNat L then (if 0 ≤ (x3 + 4) ∧ (x3 + 4) < Int32.ofNat L then (f_X7_thing s0 (xs ((x3 + 1)).toNatClampNeg) (xs ((x3 + 2)).toNatClampNeg) (xs ((x3 + 3)).toNatClampNeg) (xs ((x3 + 4)).toNatClampNeg)).bind fun q13 => (if 0 ≤ (x3 + 1) ∧ (x3 + 1) < Int32.ofNat L then (if 0 ≤ (x3 + 2) ∧ (x3 + 2) < Int32.ofNat L then (if 0 ≤ (x3 + 3) ∧ (x3 + 3) < Int32.ofNat L then (if 0 ≤ (x3 + 4) ∧ (x3 + 4) < Int32.ofNat L then (f_X8_thing q13.2 (xs ((x3 + 1)).toNatClampNeg) (xs ((x3 + 2)).toNatClampNeg) (xs ((x3 + 3)).toNatClampNeg) (xs ((x3 + 4)).toNatClampNeg)).bind fun q22 => (if q13.1 = q22.1 then
        nmI (x3 + 6) fun v24 => k18 q22.2 v24
      else
        none) else none) else none) else none) else none) else none) else none) else none) else none)
    else (if ((xs (x3).toNatClampNeg) &&& 31) = 1 then
      (if 0 ≤ (x3 + 1) ∧ (x3 + 1) < Int32.ofNat L then (if 0 ≤ (x3 + 2) ∧ (x3 + 2) < Int32.ofNat L then (f_X7_of s0 (xs ((x3 + 1)).toNatClampNeg) (xs ((x3 + 2)).toNatClampNeg)).bind fun q30 => (if 0 ≤ (x3 + 1) ∧ (x3 + 1) < Int32.ofNat L then (if 0 ≤ (x3 + 2) ∧ (x3 + 2) < Int32.ofNat L then (f_X8_of q30.2 (xs ((x3 + 1)).toNatClampNeg) (xs ((x3 + 2)).toNatClampNeg)).bind fun q35 => (if q30.1 = q35.1 then
        nmI (x3 + 6) fun v37 => k18 q35.2 v37
      else
        none) else none) else none) else none) else none)
    else (if ((xs (x3).toNatClampNeg) &&& 31) = 2 then
      (if 0 ≤ (x3 + 1) ∧ (x3 + 1) < Int32.ofNat L then (if 0 ≤ (x3 + 2) ∧ (x3 + 2) < Int32.ofNat L then (if 0 ≤ (x3 + 3) ∧ (x3 + 3) < Int32.ofNat L then (f_X7_set s0 (xs ((x3 + 1)).toNatClampNeg) (xs ((x3 + 2)).toNatClampNeg) (xs ((x3 + 3)).toNatClampNeg)).bind fun q45 => (if 0 ≤ (x3 + 1) ∧ (x3 + 1) < Int32.ofNat L then (if 0 ≤ (x3 + 2) ∧ (x3 + 2) < Int32.ofNat L then (if 0 ≤ (x3 + 3) ∧ (x3 + 3) < Int32.ofNat L then (f_X8_set q45.2 (xs ((x3 + 1)).toNatClampNeg) (xs ((x3 + 2)).toNatClampNeg) (xs ((x3 + 3)).toNatClampNeg)).bind fun q52 => (if q45.1 = q52.1 then
        nmI (x3 + 6) fun v54 => k18 q52.2 v54
      else
        none) else none) else none) else none) else none) else none) else none)
    else (if ((xs (x3).toNatClampNeg) &&& 31) = 3 then
      (if 0 ≤ (x3 + 1) ∧ (x3 + 1) < Int32.ofNat L then (if 0 ≤ (x3 + 2) ∧ (x3 + 2) < Int32.ofNat L then (f_X7_melts s0 (xs ((x3 + 1)).toNatClampNeg) (xs ((x3 + 2)).toNatClampNeg)).bind fun q60 => (if 0 ≤ (x3 + 1) ∧ (x3 + 1) < Int32.ofNat L then (if 0 ≤ (x3 + 2) ∧ (x3 + 2) < Int32.ofNat L then (f_X8_melts q60.2 (xs ((x3 + 1)).toNatClampNeg) (xs ((x3 + 2)).toNatClampNeg)).bind fun q65 => (if q60.1 = q65.1 then
        nmI (x3 + 6) fun v67 => k18 q65.2 v67
      else
        none) else none) else none) else none) else none)
    else (if ((xs (x3).toNatClampNeg) &&& 31) = 4 then
      (if 0 ≤ (x3 + 1) ∧ (x3 + 1) < Int32.ofNat L then (if 0 ≤ (x3 + 2) ∧ (x3 + 2) < Int32.ofNat L then (if 0 ≤ (x3 + 3) ∧ (x3 + 3) < Int32.ofNat L then (f_X7_row s0 (xs ((x3 + 1)).toNatClampNeg) (xs ((x3 + 2)).toNatClampNeg) (xs ((x3 + 3)).toNatClampNeg)).bind fun q75 => (if 0 ≤ (x3 + 1) ∧ (x3 + 1) < Int32.ofNat L then (if 0 ≤ (x3 + 2) ∧ (x3 + 2) < Int32.ofNat L then (if 0 ≤ (x3 + 3) ∧ (x3 + 3) < Int32.ofNat L then (f_X8_row q75.2 (xs ((x3 + 1)).toNatClampNeg) (xs ((x3 + 2)).toNatClampNeg) (xs ((x3 + 3)).toNatClampNeg)).bind fun q82 => (if q75.1 = q82.1 then
        nmI (x3 + 6) fun v84 => k18 q82.2 v84
      else
        none) else none) else none) else none) else none) else none) else none)
    else (if ((xs (x3).toNatClampNeg) &&& 31) = 5 then
      (if 0 ≤ (x3 + 1) ∧ (x3 + 1) < Int32.ofNat L then (f_X7_feed s0 (xs ((x3 + 1)).toNatClampNeg)).bind fun q88 => (if 0 ≤ (x3 + 1) ∧ (x3 + 1) < Int32.ofNat L then (f_X8_feed q88.2 (xs ((x3 + 1)).toNatClampNeg)).bind fun q91 => (if q88.1 = q91.1 then
        nmI (x3 + 6) fun v93 => k18 q91.2 v93
      else
        none) else none) else none)
    else (if ((xs (x3).toNatClampNeg) &&& 31) = 6 then
      (f_X7_col s0).bind fun q95 => (f_X8_col q95.2).bind fun q96 => (if q95.1 = q96.1 then
        nmI (x3 + 6) fun v98 => k18 q96.2 v98
      else
        none)
    else (if ((xs (x3).toNatClampNeg) &&& 31) = 7 then
      (if 0 ≤ (x3 + 1) ∧ (x3 + 1) < Int32.ofNat L then (f_X7_told s0 (xs ((x3 + 1)).toNatClampNeg)).bind fun q102 => (if 0 ≤ (x3 + 1) ∧ (x3 + 1) < Int32.ofNat L then (f_X8_told q102.2 (xs ((x3 + 1)).toNatClampNeg)).bind fun q105 => (if q102.1 = q105.1 then
        nmI (x3 + 6) fun v107 => k18 q105.2 v107
      else
        none) else none) else none)
    else (if ((xs (x3).toNatClampNeg) &&& 31) = 8 then
      (if 0 ≤ (x3 + 1) ∧ (x3 + 1) < Int32.ofNat L then (f_X7_pass s0 (xs ((x3 + 1)).toNatClampNeg)).bind fun q111 => (if 0 ≤ (x3 + 1) ∧ (x3 + 1) < Int32.ofNat L then (f_X8_pass q111.2 (xs ((x3 + 1)).toNatClampNeg)).bind fun q114 => (if q111.1 = q114.1 then
        nmI (x3 + 6) fun v116 => k18 q114.2 v116
      else
        none) else none) else none)
    else (if ((xs (x3).toNatClampNeg) &&& 31) = 9 then
      (if 0 ≤ (x3 + 1) ∧ (x3 + 1) < Int32.ofNat L then (if 0 ≤ (x3 + 2) ∧ (x3 + 2) < Int32.ofNat L then (f_X7_on s0 (xs ((x3 + 1)).toNatClampNeg) (xs ((x3 + 2)).toNatClampNeg)).bind fun q122 => (if 0 ≤ (x3 + 1) ∧ (x3 + 1) < Int32.ofNat L then (if 0 ≤ (x3 + 2) ∧ (x3 + 2) < Int32.ofNat L then (f_X8_on q122.2 (xs ((x3 + 1)).toNatClampNeg) (xs ((x3 + 2)).toNatClampNeg)).bind fun q127 => (if q122.1 = q127.1 then
        nmI (x3 + 6) fun v129 => k18 q127.2 v129
      else
        none) else none) else none) else none) else none)
    else (if ((xs (x3).toNatClampNeg) &&& 31) = 10 then
      (if 0 ≤ (x3 + 1) ∧ (x3 + 1) < Int32.ofNat L then (if 0 ≤ (x3 + 2) ∧ (x3 + 2) < Int32.ofNat L then (if 0 ≤ (x3 + 3) ∧ (x3 + 3) < Int32.ofNat L then (f_X7_by s0 (xs ((x3 + 1)).toNatClampNeg) (xs ((x3 + 2)).toNatClampNeg) (xs ((x3 + 3)).toNatClampNeg)).bind fun q137 => (if 0 ≤ (x3 + 1) ∧ (x3 + 1) < Int32.ofNat L then (if 0 ≤ (x3 + 2) ∧ (x3 + 2) < Int32.ofNat L then (if 0 ≤ (x3 + 3) ∧ (x3 + 3) < Int32.ofNat L then (f_X8_by q137.2 (xs ((x3 + 1)).toNatClampNeg) (xs ((x3 + 2)).toNatClampNeg) (xs ((x3 + 3)).toNatClampNeg)).bind fun q144 => (if q137.1 = q144.1 then
        nmI (x3 + 6) fun v146 => k18 q144.2 v146
      else
        none) else none) else none) else none) else none) else none) else none)
    else (if ((xs (x3).toNatClampNeg) &&& 31) = 11 then
      (if 0 ≤ (x3 + 1) ∧ (x3 + 1) < Int32.ofNat L then (if 0 ≤ (x3 + 2) ∧ (x3 + 2) < Int32.ofNat L then (if 0 ≤ (x3 + 3) ∧ (x3 + 3) < Int32.ofNat L then (f_X7_need s0 (xs ((x3 + 1)).toNatClampNeg) (xs ((x3 + 2)).toNatClampNeg) (xs ((x3 + 3)).toNatClampNeg)).bind fun q154 => (if 0 ≤ (x3 + 1) ∧ (x3 + 1) < Int32.ofNat L then (if 0 ≤ (x3 + 2) ∧ (x3 + 2) < Int32.ofNat L then (if 0 ≤ (x3 + 3) ∧ (x3 + 3) < Int32.ofNat L then (f_X8_need q154.2 (xs ((x3 + 1)).toNatClampNeg) (xs ((x3 + 2)).toNatClampNeg) (xs ((x3 + 3)).toNatClampNeg)).bind fun q161 => (if q154.1 = q161.1 then
        nmI (x3 + 6) fun v163 => k18 q161.2 v163
      else
        none) else none) else none) else none) else none) else none) else none)
    else (if ((xs (x3).toNatClampNeg) &&& 31) = 12 then
      (if 0 ≤ (x3 + 1) ∧ (x3 + 1) < Int32.ofNat L then (if 0 ≤ (x3 + 2) ∧ (x3 + 2) < Int32.ofNat L then (if 0 ≤ (x3 + 3) ∧ (x3 + 3) < Int32.ofNat L then (if (xs ((x3 + 3)).toNatClampNeg) = 0 then
        f_L_law_L602 L xs k18 s0 x3 (xs ((x3 + 1)).toNatClampNeg) (xs ((x3 + 2)).toNatClampNeg) 0
      else
        f_L_law_L602 L xs k18 s0 x3 (xs ((x3 + 1)).toNatClampNeg) (xs ((x3 + 2)).toNatClampNeg) 1) else none) else none) else none)
    else (if ((xs (x3).toNatClampNeg) &&& 31) = 13 then
      (if 0 ≤ (x3 + 1) ∧ (x3 + 1) < Int32.ofNat L then (if 0 ≤ (x3 + 2) ∧ (x3 + 2) < Int32.ofNat L then (if 0 ≤ (x3 + 3) ∧ (x3 + 3) < Int32.ofNat L then (f_X7_can s0 (xs ((x3 + 1)).toNatClampNeg) (xs ((x3 + 2)).toNatClampNeg) (xs ((x3 + 3)).toNatClampNeg)).bind fun q190 => (if 0 ≤ (x3 + 1) ∧ (x3 + 1) < Int32.ofNat L then (if 0 ≤ (x3 + 2) ∧ (x3 + 2) < Int32.ofNat L then (if 0 ≤ (x3 + 3) ∧ (x3 + 3) < Int32.ofNat L then (f_X8_can q190.2 (xs ((x3 + 1)).toNatClampNeg) (xs ((x3 + 2)).toNatClampNeg) (xs ((x3 + 3)).toNatClampNeg)).bind fun q197 => (if q190.1 = q197.1 then
        nmI (x3 + 6) fun v199 => k18 q197.2 v199
      else
        none) else none) else none) else none) else none) else none) else none)
    else (if ((xs (x3).toNatClampNeg) &&& 31) = 14 then
      (if 0 ≤ (x3 + 1) ∧ (x3 + 1) < Int32.ofNat L then (if 0 ≤ (x3 + 2) ∧ (x3 + 2) < Int32.ofNat L then (if 0 ≤ (x3 + 3) ∧ (x3 + 3) < Int32.ofNat L then (f_X7_odds s0 (xs ((x3 + 1)).toNatClampNeg) (xs ((x3 + 2)).toNatClampNeg) (xs ((x3 + 3)).toNatClampNeg)).bind fun q207 => (if 0 ≤ (x3 + 1) ∧ (x3 + 1) < Int32.ofNat L then (if 0 ≤ (x3 + 2) ∧ (x3 + 2) < Int32.ofNat L then (if 0 ≤ (x3 + 3) ∧ (x3 + 3) < Int32.ofNat L then (f_X8_odds q207.2 (xs ((x3 + 1)).toNatClampNeg) (xs ((x3 + 2)).toNatClampNeg) (xs ((x3 + 3)).toNatClampNeg)).bind fun q214 => (if (lg_cmp q207.1 q214.1) = 0 then
        nmI (x3 + 6) fun v216 => k18 q214.2 v216
      else
        none) else none) else none) else none) else none) else none) else none)
    else (if ((xs (x3).toNatClampNeg) &&& 31) = 15 then
      (if 0 ≤ (x3 + 1) ∧ (x3 + 1) < Int32.ofNat L then (if 0 ≤ (x3 + 2) ∧ (x3 + 2) < Int32.ofNat L then (f_X7_mean s0 (xs ((x3 + 1)).toNatClampNeg) (xs ((x3 + 2)).toNatClampNeg)).bind fun q222 => (if 0 ≤ (x3 + 1) ∧ (x3 + 1) < Int32.ofNat L then (if 0 ≤ (x3 + 2) ∧ (x3 + 2) < Int32.ofNat L then (f_X8_mean q222.2 (xs ((x3 + 1)).toNatClampNeg) (xs ((x3 + 2)).toNatClampNeg)).bind fun q227 => (if (lg_cmp q222.1 q227.1) = 0 then
        nmI (x3 + 6) fun v229 => k18 q227.2 v229
      else
        none) else none) else none) else none) else none)
    else (if ((xs (x3).toNatClampNeg) &&& 31) = 16 then
      (if 0 ≤ (x3 + 1) ∧ (x3 + 1) < Int32.ofNat L then (if 0 ≤ (x3 + 2) ∧ (x3 + 2) < Int32.ofNat L then (f_X7_plan s0 (xs ((x3 + 1)).toNatClampNeg) (xs ((x3 + 2)).toNatClampNeg)).bind fun q235 => (if 0 ≤ (x3 + 1) ∧ (x3 + 1) < Int32.ofNat L then (if 0 ≤ (x3 + 2) ∧ (x3 + 2) < Int32.ofNat L then (f_X8_plan q235.2 (xs ((x3 + 1)).toNatClampNeg) (xs ((x3 + 2)).toNatClampNeg)).bind fun q240 => (if q235.1 = q240.1 then
        nmI (x3 + 6) fun v242 => k18 q240.2 v242
      else
        none) else none) else none) else none) else none)
    else (if ((xs (x3).toNatClampNeg) &&& 31) = 17 then
      (if 0 ≤ (x3 + 1) ∧ (x3 + 1) < Int32.ofNat L then (f_X7_ends s0 (xs ((x3 + 1)).toNatClampNeg)).bind fun q246 => (if 0 ≤ (x3 + 1) ∧ (x3 + 1) < Int32.ofNat L then (f_X8_ends q246.2 (xs ((x3 + 1)).toNatClampNeg)).bind fun q249 => (if q246.1 = q249.1 then
        nmI (x3 + 6) fun v251 => k18 q249.2 v251
      else
        none) else none) else none)
    else (if ((xs (x3).toNatClampNeg) &&& 31) = 18 then
      (if 0 ≤ (x3 + 1) ∧ (x3 + 1) < Int32.ofNat L then (if 0 ≤ (x3 + 2) ∧ (x3 + 2) < Int32.ofNat L then (f_X7_book s0 (xs ((x3 + 1)).toNatClampNeg) (xs ((x3 + 2)).toNatClampNeg)).bind fun q257 => (if 0 ≤ (x3 + 1) ∧ (x3 + 1) < Int32.ofNat L then (if 0 ≤ (x3 + 2) ∧ (x3 + 2) < Int32.ofNat L then (f_X8_book q257.2 (xs ((x3 + 1)).toNatClampNeg) (xs ((x3 + 2)).toNatClampNeg)).bind fun q262 => (if q257.1 = q262.1 then
        nmI (x3 + 6) fun v264 => k18 q262.2 v264
      else
        none) else none) else none) else none) else none)
    else (if ((xs (x3).toNatClampNeg) &&& 31) = 19 then
      (f_X7_looked s0).bind fun q266 => (f_X8_looked s0).bind fun q267 => (if q266 = q267 then
        nmI (x3 + 6) fun v269 => k18 s0 v269
      else
        none)
    else (if ((xs (x3).toNatClampNeg) &&& 31) = 20 then
      (if 0 ≤ (x3 + 1) ∧ (x3 + 1) < Int32.ofNat L then (if 0 ≤ (x3 + 2) ∧ (x3 + 2) < Int32.ofNat L then (f_X7_judge s0 (xs ((x3 + 1)).toNatClampNeg) (xs ((x3 + 2)).toNatClampNeg)).bind fun q275 => (if 0 ≤ (x3 + 1) ∧ (x3 + 1) < Int32.ofNat L then (if 0 ≤ (x3 + 2) ∧ (x3 + 2) < Int32.ofNat L then (f_X8_judge s0 (xs ((x3 + 1)).toNatClampNeg) (xs ((x3 + 2)).toNatClampNeg)).bind fun q280 => (if q275 = q280 then
        nmI (x3 + 6) fun v282 => k18 s0 v282
      else
        none) else none) else none) else none) else none)
    else (if ((xs (x3).toNatClampNeg) &&& 31) = 21 then
      (f_X7_image s0).bind fun q284 => (f_X8_image q284.2).bind fun q285 => (if q284.1 = q285.1 then
        nmI (x3 + 6) fun v287 => k18 q285.2 v287
      else
        none)
    else (if ((xs (x3).toNatClampNeg) &&& 31) = 22 then
      (f_X7_undo s0).bind fun q289 => (f_X8_undo q289.2).bind fun q290 => (if q289.1 = q290.1 then
        nmI (x3 + 6) fun v292 => k18 q290.2 v292
      else
        none)
    else (if ((xs (x3).toNatClampNeg) &&& 31) = 23 then
      (if 0 ≤ (x3 + 1) ∧ (x3 + 1) < Int32.ofNat L then (if 0 ≤ (x3 + 2) ∧ (x3 + 2) < Int32.ofNat L then (if 0 ≤ (x3 + 3) ∧ (x3 + 3) < Int32.ofNat L then (f_X7_act s0 (xs ((x3 + 1)).toNatClampNeg) (xs ((x3 + 2)).toNatClampNeg) (xs ((x3 + 3)).toNatClampNeg)).bind fun q300 => (if 0 ≤ (x3 + 1) ∧ (x3 + 1) < Int32.ofNat L then (if 0 ≤ (x3 + 2) ∧ (x3 + 2) < Int32.ofNat L then (if 0 ≤ (x3 + 3) ∧ (x3 + 3) < Int32.ofNat L then (f_X8_act q300.2 (xs ((x3 + 1)).toNatClampNeg) (xs ((x3 + 2)).toNatClampNeg) (xs ((x3 + 3)).toNatClampNeg)).bind fun q307 => (if q300.1 = q307.1 then
        nmI (x3 + 6) fun v309 => k18 q307.2 v309
      else
        none) else none) else none) else none) else none) else none) else none)
    else (if ((xs (x3).toNatClampNeg) &&& 31) = 24 then
      (if 0 ≤ (x3 + 1) ∧ (x3 + 1) < Int32.ofNat L then (f_X7_trace s0 (xs ((x3 + 1)).toNatClampNeg)).bind fun q313 => (if 0 ≤ (x3 + 1) ∧ (x3 + 1) < Int32.ofNat L then (f_X8_trace s0 (xs ((x3 + 1)).toNatClampNeg)).bind fun q316 => (if q313 = q316 then
        nmI (x3 + 6) fun v318 => k18 s0 v318
      else
        none) else none) else none)
    else (if ((xs (x3).toNatClampNeg) &&& 31) = 25 then
      (if 0 ≤ (x3 + 1) ∧ (x3 + 1) < Int32.ofNat L then (if 0 ≤ (x3 + 2) ∧ (x3 + 2) < Int32.ofNat L then (f_X7_taken s0 (xs ((x3 + 1)).toNatClampNeg) (xs ((x3 + 2)).toNatClampNeg)).bind fun q324 => (if 0 ≤ (x3 + 1) ∧ (x3 + 1) < Int32.ofNat L then (if 0 ≤ (x3 + 2) ∧ (x3 + 2) < Int32.ofNat L then (f_X8_taken s0 (xs ((x3 + 1)).toNatClampNeg) (xs ((x3 + 2)).toNatClampNeg)).bind fun q329 => (if q324 = q329 then
        nmI (x3 + 6) fun v331 => k18 s0 v331
      else
        none) else none) else none) else none) else none)
    else (if ((xs (x3).toNatClampNeg) &&& 31) = 26 then
      (if 0 ≤ (x3 + 1) ∧ (x3 + 1) < Int32.ofNat L then (f_X7_count s0 (xs ((x3 + 1)).toNatClampNeg)).bind fun q335 => (if 0 ≤ (x3 + 1) ∧ (x3 + 1) < Int32.ofNat L then (f_X8_count s0 (xs ((x3 + 1)).toNatClampNeg)).bind fun q338 => (if q335 = q338 then
        nmI (x3 + 6) fun v340 => k18 s0 v340
      else
        none) else none) else none)
    else (if ((xs (x3).toNatClampNeg) &&& 31) = 27 then
      (if 0 ≤ (x3 + 1) ∧ (x3 + 1) < Int32.ofNat L then (if 0 ≤ (x3 + 2) ∧ (x3 + 2) < Int32.ofNat L then (if 0 ≤ (x3 + 3) ∧ (x3 + 3) < Int32.ofNat L then (f_X7_tape s0 (xs ((x3 + 1)).toNatClampNeg) (xs ((x3 + 2)).toNatClampNeg) (xs ((x3 + 3)).toNatClampNeg)).bind fun q348 => (if 0 ≤ (x3 + 1) ∧ (x3 + 1) < Int32.ofNat L then (if 0 ≤ (x3 + 2) ∧ (x3 + 2) < Int32.ofNat L then (if 0 ≤ (x3 + 3) ∧ (x3 + 3) < Int32.ofNat L then (f_X8_tape q348.2 (xs ((x3 + 1)).toNatClampNeg) (xs ((x3 + 2)).toNatClampNeg) (xs ((x3 + 3)).toNatClampNeg)).bind fun q355 => (if q348.1 = q355.1 then
        nmI (x3 + 6) fun v357 => k18 q355.2 v357
      else
        none) else none) else none) else none) else none) else none) else none)
    else (if ((xs (x3).toNatClampNeg) &&& 31) = 28 then
      (if 0 ≤ (x3 + 1) ∧ (x3 + 1) < Int32.ofNat L then (if 0 ≤ (x3 + 2) ∧ (x3 + 2) < Int32.ofNat L then (if 0 ≤ (x3 + 3) ∧ (x3 + 3) < Int32.ofNat L then (if 0 ≤ (x3 + 4) ∧ (x3 + 4) < Int32.ofNat L then (f_X7_item s0 (xs ((x3 + 1)).toNatClampNeg) (xs ((x3 + 2)).toNatClampNeg) (((Int32.toInt64 (xs ((x3 + 3)).toNatClampNeg)) <<< (Int32.toInt64 32 &&& 63)) ||| ((Int32.toInt64 (xs ((x3 + 4)).toNatClampNeg)) &&& (4294967295 : Int64)))).bind fun q367 => (if 0 ≤ (x3 + 1) ∧ (x3 + 1) < Int32.ofNat L then (if 0 ≤ (x3 + 2) ∧ (x3 + 2) < Int32.ofNat L then (if 0 ≤ (x3 + 3) ∧ (x3 + 3) < Int32.ofNat L then (if 0 ≤ (x3 + 4) ∧ (x3 + 4) < Int32.ofNat L then (f_X8_item q367.2 (xs ((x3 + 1)).toNatClampNeg) (xs ((x3 + 2)).toNatClampNeg) (((Int32.toInt64 (xs ((x3 + 3)).toNatClampNeg)) <<< (Int32.toInt64 32 &&& 63)) ||| ((Int32.toInt64 (xs ((x3 + 4)).toNatClampNeg)) &&& (4294967295 : Int64)))).bind fun q376 => (if q367.1 = q376.1 then
        nmI (x3 + 6) fun v378 => k18 q376.2 v378
      else
        none) else none) else none) else none) else none) else none) else none) else none) else none)
    else (if ((xs (x3).toNatClampNeg) &&& 31) = 29 then
      (if 0 ≤ (x3 + 1) ∧ (x3 + 1) < Int32.ofNat L then (if 0 ≤ (x3 + 2) ∧ (x3 + 2) < Int32.ofNat L then (f_X7_read s0 (xs ((x3 + 1)).toNatClampNeg) (xs ((x3 + 2)).toNatClampNeg)).bind fun q384 => (if 0 ≤ (x3 + 1) ∧ (x3 + 1) < Int32.ofNat L then (if 0 ≤ (x3 + 2) ∧ (x3 + 2) < Int32.ofNat L then (f_X8_read s0 (xs ((x3 + 1)).toNatClampNeg) (xs ((x3 + 2)).toNatClampNeg)).bind fun q389 => (if (lg_cmp q384 q389) = 0 then
        nmI (x3 + 6) fun v391 => k18 s0 v391
      else
        none) else none) else none) else none) else none)
    else (if ((xs (x3).toNatClampNeg) &&& 31) = 30 then
      (if 0 ≤ (x3 + 1) ∧ (x3 + 1) < Int32.ofNat L then (if 0 ≤ (x3 + 2) ∧ (x3 + 2) < Int32.ofNat L then (if 0 ≤ (x3 + 3) ∧ (x3 + 3) < Int32.ofNat L then (if 0 ≤ (x3 + 4) ∧ (x3 + 4) < Int32.ofNat L then (if 0 ≤ (x3 + 5) ∧ (x3 + 5) < Int32.ofNat L then (f_X7_shift s0 (xs ((x3 + 1)).toNatClampNeg) (xs ((x3 + 2)).toNatClampNeg) (xs ((x3 + 3)).toNatClampNeg) (xs ((x3 + 4)).toNatClampNeg) (xs ((x3 + 5)).toNatClampNeg)).bind fun q403 => (if 0 ≤ (x3 + 1) ∧ (x3 + 1) < Int32.ofNat L then (if 0 ≤ (x3 + 2) ∧ (x3 + 2) < Int32.ofNat L then (if 0 ≤ (x3 + 3) ∧ (x3 + 3) < Int32.ofNat L then (if 0 ≤ (x3 + 4) ∧ (x3 + 4) < Int32.ofNat L then (if 0 ≤ (x3 + 5) ∧ (x3 + 5) < Int32.ofNat L then (f_X8_shift q403.2 (xs ((x3 + 1)).toNatClampNeg) (xs ((x3 + 2)).toNatClampNeg) (xs ((x3 + 3)).toNatClampNeg) (xs ((x3 + 4)).toNatClampNeg) (xs ((x3 + 5)).toNatClampNeg)).bind fun q414 => (if q403.1 = q414.1 then
        nmI (x3 + 6) fun v416 => k18 q414.2 v416
      else
        none) else none) else none) else none) else none) else none) else none) else none) else none) else none) else none)
    else nmI (x3 + 6) fun v417 => k18 s0 v417))))))))))))))))))))))))))))))) else none))
def f_L_law_L18 (L : Nat) (xs : Nat → Int32) : Nat → Sto → Int32 → Option (Unit)
  | 0 => fun _ _ => none
  | n + 1 => f_L_law_B18 L xs (f_L_law_L18 L xs n)
set_option maxRecDepth 100000 in
theorem s_L_law_L629 (g : Gm) (b L : Nat) (xs : Nat → Int32) (hL : L ≤ 3072) (k18 : Sto → Int32 → Option (Unit)) (hk18 : ∀ (s0 : Sto) (x3 : Int32), Rf cvLaw (El g b L xs) kL_law 18 [some (.ref b), some (.ref ((El g b L xs).1.1 7 0 0)), some (.ref ((El g b L xs).1.1 8 0 0)), some (.int x3)] [] s0 (k18 s0 x3)) (s0 : Sto) (x3 : Int32) (y0 : Int32) (y2 : Int32) (y3 : Int32) (y4 : Int32) : Rf cvLaw (El g b L xs) kL_law 629 [some (.ref b), some (.ref ((El g b L xs).1.1 7 0 0)), some (.ref ((El g b L xs).1.1 8 0 0)), some (.int x3)] [.int y4, .int y3, .int y2, .ref ((El g b L xs).1.1 8 0 0), .int y0] s0 (f_L_law_L629 L xs k18 s0 x3 y0 y2 y3 y4) := by
  unfold f_L_law_L629
  refine u_X8_see (ok_X8_see g s0 y2 y3 y4) dL_law_629 ml_L_70 (Nat.le_of_ble_eq_true rfl) (fits_l (by decide) (by decide)) room_l (fun q180 => ?_)
  refine r_iceq dL_law_632 (tgt := 1254) (by decide) (fun c181 => ?_) (fun c181 => ?_)
  · refine r_iincN dL_law_1254 rfl ci_6 rfl (lt_b rfl) (fun v182 => ?_)
    refine r_goto dL_law_1257 (tgt := 18) (by decide) ?_
    exact r_mask [true, true, true, true] (hk18 q180.2 v182)
  · refine r_iconst dL_law_635 ci_0 ?_
    exact r_none
set_option maxRecDepth 100000 in
theorem s_L_law_L602 (g : Gm) (b L : Nat) (xs : Nat → Int32) (hL : L ≤ 3072) (k18 : Sto → Int32 → Option (Unit)) (hk18 : ∀ (s0 : Sto) (x3 : Int32), Rf cvLaw (El g b L xs) kL_law 18 [some (.ref b), some (.ref ((El g b L xs).1.1 7 0 0)), some (.ref ((El g b L xs).1.1 8 0 0)), some (.int x3)] [] s0 (k18 s0 x3)) (s0 : Sto) (x3 : Int32) (y1 : Int32) (y2 : Int32) (y3 : Int32) : Rf cvLaw (El g b L xs) kL_law 602 [some (.ref b), some (.ref ((El g b L xs).1.1 7 0 0)), some (.ref ((El g b L xs).1.1 8 0 0)), some (.int x3)] [.int y3, .int y2, .int y1, .ref ((El g b L xs).1.1 7 0 0)] s0 (f_L_law_L602 L xs k18 s0 x3 y1 y2 y3) := by
  unfold f_L_law_L602
  refine u_X7_see (ok_X7_see g s0 y1 y2 y3) dL_law_602 ml_L_66 (Nat.le_of_ble_eq_true rfl) (fits_l (by decide) (by decide)) room_l (fun q172 => ?_)
  refine r_aload_n dL_law_605 rfl ?_
  refine r_aload_n dL_law_606 rfl ?_
  refine r_iload_n dL_law_607 rfl ?_
  refine r_iconst dL_law_608 ci_1 ?_
  refine r_iadd dL_law_609 ?_
  refine g_sld hL dL_law_610 (fun hg173 => ?_)
  refine r_aload_n dL_law_611 rfl ?_
  refine r_iload_n dL_law_612 rfl ?_
  refine r_iconst dL_law_613 ci_2 ?_
  refine r_iadd dL_law_614 ?_
  refine g_sld hL dL_law_615 (fun hg175 => ?_)
  refine r_aload_n dL_law_616 rfl ?_
  refine r_iload_n dL_law_617 rfl ?_
  refine r_iconst dL_law_618 ci_3 ?_
  refine r_iadd dL_law_619 ?_
  refine g_sld hL dL_law_620 (fun hg177 => ?_)
  refine r_ifeq dL_law_621 (tgt := 628) (by decide) (fun c179 => ?_) (fun c179 => ?_)
  · refine r_iconst dL_law_628 ci_0 ?_
    exact r_mask [true, true, true, true] (s_L_law_L629 g b L xs hL k18 hk18 q172.2 x3 q172.1 (xs ((x3 + 1)).toNatClampNeg) (xs ((x3 + 2)).toNatClampNeg) 0)
  · refine r_iconst dL_law_624 ci_1 ?_
    refine r_goto dL_law_625 (tgt := 629) (by decide) ?_
    exact r_mask [true, true, true, true] (s_L_law_L629 g b L xs hL k18 hk18 q172.2 x3 q172.1 (xs ((x3 + 1)).toNatClampNeg) (xs ((x3 + 2)).toNatClampNeg) 1)
set_option maxRecDepth 100000 in
theorem s_L_law_B18 (g : Gm) (b L : Nat) (xs : Nat → Int32) (hL : L ≤ 3072) (k18 : Sto → Int32 → Option (Unit)) (hk18 : ∀ (s0 : Sto) (x3 : Int32), Rf cvLaw (El g b L xs) kL_law 18 [some (.ref b), some (.ref ((El g b L xs).1.1 7 0 0)), some (.ref ((El g b L xs).1.1 8 0 0)), some (.int x3)] [] s0 (k18 s0 x3)) (s0 : Sto) (x3 : Int32) : Rf cvLaw (El g b L xs) kL_law 18 [some (.ref b), some (.ref ((El g b L xs).1.1 7 0 0)), some (.ref ((El g b L xs).1.1 8 0 0)), some (.int x3)] [] s0 (f_L_law_B18 L xs k18 s0 x3) := by
  unfold f_L_law_B18
  refine r_iload_n dL_law_18 rfl ?_
  refine r_aload_n dL_law_19 rfl ?_
  refine g_slenS hL dL_law_20 ?_
  refine r_bipush dL_law_21 cb_6 ?_
  refine r_isub dL_law_23 ?_
  refine r_icgt dL_law_24 (tgt := 1260) (by decide) (fun c1 => ?_) (fun c1 => ?_)
  · refine r_iconst dL_law_1260 ci_1 ?_
    exact r_lawret dL_law_1261
  · refine r_aload_n dL_law_27 rfl ?_
    refine r_iload_n dL_law_28 rfl ?_
    refine g_sld hL dL_law_29 (fun hg2 => ?_)
    refine r_bipush dL_law_30 cb_31 ?_
    refine r_iand dL_law_32 ?_
    refine r_by (fun e4 => ?_) (fun e4 => ?_)
    · refine r_tabIn dL_law_33 e4 (z := 0) (by decide) (by decide) (by decide) (off := 139) rfl (tgt := 172) (by decide) ?_
      refine r_aload_n dL_law_172 rfl ?_
      refine r_aload_n dL_law_173 rfl ?_
      refine r_iload_n dL_law_174 rfl ?_
      refine r_iconst dL_law_175 ci_1 ?_
      refine r_iadd dL_law_176 ?_
      refine g_sld hL dL_law_177 (fun hg5 => ?_)
      refine r_aload_n dL_law_178 rfl ?_
      refine r_iload_n dL_law_179 rfl ?_
      refine r_iconst dL_law_180 ci_2 ?_
      refine r_iadd dL_law_181 ?_
      refine g_sld hL dL_law_182 (fun hg7 => ?_)
      refine r_aload_n dL_law_183 rfl ?_
      refine r_iload_n dL_law_184 rfl ?_
      refine r_iconst dL_law_185 ci_3 ?_
      refine r_iadd dL_law_186 ?_
      refine g_sld hL dL_law_187 (fun hg9 => ?_)
      refine r_aload_n dL_law_188 rfl ?_
      refine r_iload_n dL_law_189 rfl ?_
      refine r_iconst dL_law_190 ci_4 ?_
      refine r_iadd dL_law_191 ?_
      refine g_sld hL dL_law_192 (fun hg11 => ?_)
      refine u_X7_thing (ok_X7_thing g s0 (xs ((x3 + 1)).toNatClampNeg) (xs ((x3 + 2)).toNatClampNeg) (xs ((x3 + 3)).toNatClampNeg) (xs ((x3 + 4)).toNatClampNeg)) dL_law_193 ml_L_13 (Nat.le_of_ble_eq_true rfl) (fits_l (by decide) (by decide)) room_l (fun q13 => ?_)
      refine r_aload_n dL_law_196 rfl ?_
      refine r_aload_n dL_law_197 rfl ?_
      refine r_iload_n dL_law_198 rfl ?_
      refine r_iconst dL_law_199 ci_1 ?_
      refine r_iadd dL_law_200 ?_
      refine g_sld hL dL_law_201 (fun hg14 => ?_)
      refine r_aload_n dL_law_202 rfl ?_
      refine r_iload_n dL_law_203 rfl ?_
      refine r_iconst dL_law_204 ci_2 ?_
      refine r_iadd dL_law_205 ?_
      refine g_sld hL dL_law_206 (fun hg16 => ?_)
      refine r_aload_n dL_law_207 rfl ?_
      refine r_iload_n dL_law_208 rfl ?_
      refine r_iconst dL_law_209 ci_3 ?_
      refine r_iadd dL_law_210 ?_
      refine g_sld hL dL_law_211 (fun hg18 => ?_)
      refine r_aload_n dL_law_212 rfl ?_
      refine r_iload_n dL_law_213 rfl ?_
      refine r_iconst dL_law_214 ci_4 ?_
      refine r_iadd dL_law_215 ?_
      refine g_sld hL dL_law_216 (fun hg20 => ?_)
      refine u_X8_thing (ok_X8_thing g q13.2 (xs ((x3 + 1)).toNatClampNeg) (xs ((x3 + 2)).toNatClampNeg) (xs ((x3 + 3)).toNatClampNeg) (xs ((x3 + 4)).toNatClampNeg)) dL_law_217 ml_L_17 (Nat.le_of_ble_eq_true rfl) (fits_l (by decide) (by decide)) room_l (fun q22 => ?_)
      refine r_iceq dL_law_220 (tgt := 1254) (by decide) (fun c23 => ?_) (fun c23 => ?_)
      · refine r_iincN dL_law_1254 rfl ci_6 rfl (lt_b rfl) (fun v24 => ?_)
        refine r_goto dL_law_1257 (tgt := 18) (by decide) ?_
        exact r_mask [true, true, true, true] (hk18 q22.2 v24)
      · refine r_iconst dL_law_223 ci_0 ?_
        exact r_none
    refine r_by (fun e25 => ?_) (fun e25 => ?_)
    · refine r_tabIn dL_law_33 e25 (z := 1) (by decide) (by decide) (by decide) (off := 192) rfl (tgt := 225) (by decide) ?_
      refine r_aload_n dL_law_225 rfl ?_
      refine r_aload_n dL_law_226 rfl ?_
      refine r_iload_n dL_law_227 rfl ?_
      refine r_iconst dL_law_228 ci_1 ?_
      refine r_iadd dL_law_229 ?_
      refine g_sld hL dL_law_230 (fun hg26 => ?_)
      refine r_aload_n dL_law_231 rfl ?_
      refine r_iload_n dL_law_232 rfl ?_
      refine r_iconst dL_law_233 ci_2 ?_
      refine r_iadd dL_law_234 ?_
      refine g_sld hL dL_law_235 (fun hg28 => ?_)
      refine u_X7_of (ok_X7_of g s0 (xs ((x3 + 1)).toNatClampNeg) (xs ((x3 + 2)).toNatClampNeg)) dL_law_236 ml_L_18 (Nat.le_of_ble_eq_true rfl) (fits_l (by decide) (by decide)) room_l (fun q30 => ?_)
      refine r_aload_n dL_law_239 rfl ?_
      refine r_aload_n dL_law_240 rfl ?_
      refine r_iload_n dL_law_241 rfl ?_
      refine r_iconst dL_law_242 ci_1 ?_
      refine r_iadd dL_law_243 ?_
      refine g_sld hL dL_law_244 (fun hg31 => ?_)
      refine r_aload_n dL_law_245 rfl ?_
      refine r_iload_n dL_law_246 rfl ?_
      refine r_iconst dL_law_247 ci_2 ?_
      refine r_iadd dL_law_248 ?_
      refine g_sld hL dL_law_249 (fun hg33 => ?_)
      refine u_X8_of (ok_X8_of g q30.2 (xs ((x3 + 1)).toNatClampNeg) (xs ((x3 + 2)).toNatClampNeg)) dL_law_250 ml_L_22 (Nat.le_of_ble_eq_true rfl) (fits_l (by decide) (by decide)) room_l (fun q35 => ?_)
      refine r_iceq dL_law_253 (tgt := 1254) (by decide) (fun c36 => ?_) (fun c36 => ?_)
      · refine r_iincN dL_law_1254 rfl ci_6 rfl (lt_b rfl) (fun v37 => ?_)
        refine r_goto dL_law_1257 (tgt := 18) (by decide) ?_
        exact r_mask [true, true, true, true] (hk18 q35.2 v37)
      · refine r_iconst dL_law_256 ci_0 ?_
        exact r_none
    refine r_by (fun e38 => ?_) (fun e38 => ?_)
    · refine r_tabIn dL_law_33 e38 (z := 2) (by decide) (by decide) (by decide) (off := 225) rfl (tgt := 258) (by decide) ?_
      refine r_aload_n dL_law_258 rfl ?_
      refine r_aload_n dL_law_259 rfl ?_
      refine r_iload_n dL_law_260 rfl ?_
      refine r_iconst dL_law_261 ci_1 ?_
      refine r_iadd dL_law_262 ?_
      refine g_sld hL dL_law_263 (fun hg39 => ?_)
      refine r_aload_n dL_law_264 rfl ?_
      refine r_iload_n dL_law_265 rfl ?_
      refine r_iconst dL_law_266 ci_2 ?_
      refine r_iadd dL_law_267 ?_
      refine g_sld hL dL_law_268 (fun hg41 => ?_)
      refine r_aload_n dL_law_269 rfl ?_
      refine r_iload_n dL_law_270 rfl ?_
      refine r_iconst dL_law_271 ci_3 ?_
      refine r_iadd dL_law_272 ?_
      refine g_sld hL dL_law_273 (fun hg43 => ?_)
      refine u_X7_set (ok_X7_set g s0 (xs ((x3 + 1)).toNatClampNeg) (xs ((x3 + 2)).toNatClampNeg) (xs ((x3 + 3)).toNatClampNeg)) dL_law_274 ml_L_23 (Nat.le_of_ble_eq_true rfl) (fits_l (by decide) (by decide)) room_l (fun q45 => ?_)
      refine r_aload_n dL_law_277 rfl ?_
      refine r_aload_n dL_law_278 rfl ?_
      refine r_iload_n dL_law_279 rfl ?_
      refine r_iconst dL_law_280 ci_1 ?_
      refine r_iadd dL_law_281 ?_
      refine g_sld hL dL_law_282 (fun hg46 => ?_)
      refine r_aload_n dL_law_283 rfl ?_
      refine r_iload_n dL_law_284 rfl ?_
      refine r_iconst dL_law_285 ci_2 ?_
      refine r_iadd dL_law_286 ?_
      refine g_sld hL dL_law_287 (fun hg48 => ?_)
      refine r_aload_n dL_law_288 rfl ?_
      refine r_iload_n dL_law_289 rfl ?_
      refine r_iconst dL_law_290 ci_3 ?_
      refine r_iadd dL_law_291 ?_
      refine g_sld hL dL_law_292 (fun hg50 => ?_)
      refine u_X8_set (ok_X8_set g q45.2 (xs ((x3 + 1)).toNatClampNeg) (xs ((x3 + 2)).toNatClampNeg) (xs ((x3 + 3)).toNatClampNeg)) dL_law_293 ml_L_27 (Nat.le_of_ble_eq_true rfl) (fits_l (by decide) (by decide)) room_l (fun q52 => ?_)
      refine r_iceq dL_law_296 (tgt := 1254) (by decide) (fun c53 => ?_) (fun c53 => ?_)
      · refine r_iincN dL_law_1254 rfl ci_6 rfl (lt_b rfl) (fun v54 => ?_)
        refine r_goto dL_law_1257 (tgt := 18) (by decide) ?_
        exact r_mask [true, true, true, true] (hk18 q52.2 v54)
      · refine r_iconst dL_law_299 ci_0 ?_
        exact r_none
    refine r_by (fun e55 => ?_) (fun e55 => ?_)
    · refine r_tabIn dL_law_33 e55 (z := 3) (by decide) (by decide) (by decide) (off := 268) rfl (tgt := 301) (by decide) ?_
      refine r_aload_n dL_law_301 rfl ?_
      refine r_aload_n dL_law_302 rfl ?_
      refine r_iload_n dL_law_303 rfl ?_
      refine r_iconst dL_law_304 ci_1 ?_
      refine r_iadd dL_law_305 ?_
      refine g_sld hL dL_law_306 (fun hg56 => ?_)
      refine r_aload_n dL_law_307 rfl ?_
      refine r_iload_n dL_law_308 rfl ?_
      refine r_iconst dL_law_309 ci_2 ?_
      refine r_iadd dL_law_310 ?_
      refine g_sld hL dL_law_311 (fun hg58 => ?_)
      refine u_X7_melts (ok_X7_melts g s0 (xs ((x3 + 1)).toNatClampNeg) (xs ((x3 + 2)).toNatClampNeg)) dL_law_312 ml_L_28 (Nat.le_of_ble_eq_true rfl) (fits_l (by decide) (by decide)) room_l (fun q60 => ?_)
      refine r_aload_n dL_law_315 rfl ?_
      refine r_aload_n dL_law_316 rfl ?_
      refine r_iload_n dL_law_317 rfl ?_
      refine r_iconst dL_law_318 ci_1 ?_
      refine r_iadd dL_law_319 ?_
      refine g_sld hL dL_law_320 (fun hg61 => ?_)
      refine r_aload_n dL_law_321 rfl ?_
      refine r_iload_n dL_law_322 rfl ?_
      refine r_iconst dL_law_323 ci_2 ?_
      refine r_iadd dL_law_324 ?_
      refine g_sld hL dL_law_325 (fun hg63 => ?_)
      refine u_X8_melts (ok_X8_melts g q60.2 (xs ((x3 + 1)).toNatClampNeg) (xs ((x3 + 2)).toNatClampNeg)) dL_law_326 ml_L_31 (Nat.le_of_ble_eq_true rfl) (fits_l (by decide) (by decide)) room_l (fun q65 => ?_)
      refine r_iceq dL_law_329 (tgt := 1254) (by decide) (fun c66 => ?_) (fun c66 => ?_)
      · refine r_iincN dL_law_1254 rfl ci_6 rfl (lt_b rfl) (fun v67 => ?_)
        refine r_goto dL_law_1257 (tgt := 18) (by decide) ?_
        exact r_mask [true, true, true, true] (hk18 q65.2 v67)
      · refine r_iconst dL_law_332 ci_0 ?_
        exact r_none
    refine r_by (fun e68 => ?_) (fun e68 => ?_)
    · refine r_tabIn dL_law_33 e68 (z := 4) (by decide) (by decide) (by decide) (off := 301) rfl (tgt := 334) (by decide) ?_
      refine r_aload_n dL_law_334 rfl ?_
      refine r_aload_n dL_law_335 rfl ?_
      refine r_iload_n dL_law_336 rfl ?_
      refine r_iconst dL_law_337 ci_1 ?_
      refine r_iadd dL_law_338 ?_
      refine g_sld hL dL_law_339 (fun hg69 => ?_)
      refine r_aload_n dL_law_340 rfl ?_
      refine r_iload_n dL_law_341 rfl ?_
      refine r_iconst dL_law_342 ci_2 ?_
      refine r_iadd dL_law_343 ?_
      refine g_sld hL dL_law_344 (fun hg71 => ?_)
      refine r_aload_n dL_law_345 rfl ?_
      refine r_iload_n dL_law_346 rfl ?_
      refine r_iconst dL_law_347 ci_3 ?_
      refine r_iadd dL_law_348 ?_
      refine g_sld hL dL_law_349 (fun hg73 => ?_)
      refine u_X7_row (ok_X7_row g s0 (xs ((x3 + 1)).toNatClampNeg) (xs ((x3 + 2)).toNatClampNeg) (xs ((x3 + 3)).toNatClampNeg)) dL_law_350 ml_L_32 (Nat.le_of_ble_eq_true rfl) (fits_l (by decide) (by decide)) room_l (fun q75 => ?_)
      refine r_aload_n dL_law_353 rfl ?_
      refine r_aload_n dL_law_354 rfl ?_
      refine r_iload_n dL_law_355 rfl ?_
      refine r_iconst dL_law_356 ci_1 ?_
      refine r_iadd dL_law_357 ?_
      refine g_sld hL dL_law_358 (fun hg76 => ?_)
      refine r_aload_n dL_law_359 rfl ?_
      refine r_iload_n dL_law_360 rfl ?_
      refine r_iconst dL_law_361 ci_2 ?_
      refine r_iadd dL_law_362 ?_
      refine g_sld hL dL_law_363 (fun hg78 => ?_)
      refine r_aload_n dL_law_364 rfl ?_
      refine r_iload_n dL_law_365 rfl ?_
      refine r_iconst dL_law_366 ci_3 ?_
      refine r_iadd dL_law_367 ?_
      refine g_sld hL dL_law_368 (fun hg80 => ?_)
      refine u_X8_row (ok_X8_row g q75.2 (xs ((x3 + 1)).toNatClampNeg) (xs ((x3 + 2)).toNatClampNeg) (xs ((x3 + 3)).toNatClampNeg)) dL_law_369 ml_L_35 (Nat.le_of_ble_eq_true rfl) (fits_l (by decide) (by decide)) room_l (fun q82 => ?_)
      refine r_iceq dL_law_372 (tgt := 1254) (by decide) (fun c83 => ?_) (fun c83 => ?_)
      · refine r_iincN dL_law_1254 rfl ci_6 rfl (lt_b rfl) (fun v84 => ?_)
        refine r_goto dL_law_1257 (tgt := 18) (by decide) ?_
        exact r_mask [true, true, true, true] (hk18 q82.2 v84)
      · refine r_iconst dL_law_375 ci_0 ?_
        exact r_none
    refine r_by (fun e85 => ?_) (fun e85 => ?_)
    · refine r_tabIn dL_law_33 e85 (z := 5) (by decide) (by decide) (by decide) (off := 344) rfl (tgt := 377) (by decide) ?_
      refine r_aload_n dL_law_377 rfl ?_
      refine r_aload_n dL_law_378 rfl ?_
      refine r_iload_n dL_law_379 rfl ?_
      refine r_iconst dL_law_380 ci_1 ?_
      refine r_iadd dL_law_381 ?_
      refine g_sld hL dL_law_382 (fun hg86 => ?_)
      refine u_X7_feed (ok_X7_feed g s0 (xs ((x3 + 1)).toNatClampNeg)) dL_law_383 ml_L_36 (Nat.le_of_ble_eq_true rfl) (fits_l (by decide) (by decide)) room_l (fun q88 => ?_)
      refine r_aload_n dL_law_386 rfl ?_
      refine r_aload_n dL_law_387 rfl ?_
      refine r_iload_n dL_law_388 rfl ?_
      refine r_iconst dL_law_389 ci_1 ?_
      refine r_iadd dL_law_390 ?_
      refine g_sld hL dL_law_391 (fun hg89 => ?_)
      refine u_X8_feed (ok_X8_feed g q88.2 (xs ((x3 + 1)).toNatClampNeg)) dL_law_392 ml_L_40 (Nat.le_of_ble_eq_true rfl) (fits_l (by decide) (by decide)) room_l (fun q91 => ?_)
      refine r_iceq dL_law_395 (tgt := 1254) (by decide) (fun c92 => ?_) (fun c92 => ?_)
      · refine r_iincN dL_law_1254 rfl ci_6 rfl (lt_b rfl) (fun v93 => ?_)
        refine r_goto dL_law_1257 (tgt := 18) (by decide) ?_
        exact r_mask [true, true, true, true] (hk18 q91.2 v93)
      · refine r_iconst dL_law_398 ci_0 ?_
        exact r_none
    refine r_by (fun e94 => ?_) (fun e94 => ?_)
    · refine r_tabIn dL_law_33 e94 (z := 6) (by decide) (by decide) (by decide) (off := 367) rfl (tgt := 400) (by decide) ?_
      refine r_aload_n dL_law_400 rfl ?_
      refine u_X7_col (ok_X7_col g s0) dL_law_401 ml_L_41 (Nat.le_of_ble_eq_true rfl) (fits_l (by decide) (by decide)) room_l (fun q95 => ?_)
      refine r_aload_n dL_law_404 rfl ?_
      refine u_X8_col (ok_X8_col g q95.2) dL_law_405 ml_L_45 (Nat.le_of_ble_eq_true rfl) (fits_l (by decide) (by decide)) room_l (fun q96 => ?_)
      refine r_iceq dL_law_408 (tgt := 1254) (by decide) (fun c97 => ?_) (fun c97 => ?_)
      · refine r_iincN dL_law_1254 rfl ci_6 rfl (lt_b rfl) (fun v98 => ?_)
        refine r_goto dL_law_1257 (tgt := 18) (by decide) ?_
        exact r_mask [true, true, true, true] (hk18 q96.2 v98)
      · refine r_iconst dL_law_411 ci_0 ?_
        exact r_none
    refine r_by (fun e99 => ?_) (fun e99 => ?_)
    · refine r_tabIn dL_law_33 e99 (z := 7) (by decide) (by decide) (by decide) (off := 380) rfl (tgt := 413) (by decide) ?_
      refine r_aload_n dL_law_413 rfl ?_
      refine r_aload_n dL_law_414 rfl ?_
      refine r_iload_n dL_law_415 rfl ?_
      refine r_iconst dL_law_416 ci_1 ?_
      refine r_iadd dL_law_417 ?_
      refine g_sld hL dL_law_418 (fun hg100 => ?_)
      refine u_X7_told (ok_X7_told g s0 (xs ((x3 + 1)).toNatClampNeg)) dL_law_419 ml_L_46 (Nat.le_of_ble_eq_true rfl) (fits_l (by decide) (by decide)) room_l (fun q102 => ?_)
      refine r_aload_n dL_law_422 rfl ?_
      refine r_aload_n dL_law_423 rfl ?_
      refine r_iload_n dL_law_424 rfl ?_
      refine r_iconst dL_law_425 ci_1 ?_
      refine r_iadd dL_law_426 ?_
      refine g_sld hL dL_law_427 (fun hg103 => ?_)
      refine u_X8_told (ok_X8_told g q102.2 (xs ((x3 + 1)).toNatClampNeg)) dL_law_428 ml_L_49 (Nat.le_of_ble_eq_true rfl) (fits_l (by decide) (by decide)) room_l (fun q105 => ?_)
      refine r_iceq dL_law_431 (tgt := 1254) (by decide) (fun c106 => ?_) (fun c106 => ?_)
      · refine r_iincN dL_law_1254 rfl ci_6 rfl (lt_b rfl) (fun v107 => ?_)
        refine r_goto dL_law_1257 (tgt := 18) (by decide) ?_
        exact r_mask [true, true, true, true] (hk18 q105.2 v107)
      · refine r_iconst dL_law_434 ci_0 ?_
        exact r_none
    refine r_by (fun e108 => ?_) (fun e108 => ?_)
    · refine r_tabIn dL_law_33 e108 (z := 8) (by decide) (by decide) (by decide) (off := 403) rfl (tgt := 436) (by decide) ?_
      refine r_aload_n dL_law_436 rfl ?_
      refine r_aload_n dL_law_437 rfl ?_
      refine r_iload_n dL_law_438 rfl ?_
      refine r_iconst dL_law_439 ci_1 ?_
      refine r_iadd dL_law_440 ?_
      refine g_sld hL dL_law_441 (fun hg109 => ?_)
      refine u_X7_pass (ok_X7_pass g s0 (xs ((x3 + 1)).toNatClampNeg)) dL_law_442 ml_L_50 (Nat.le_of_ble_eq_true rfl) (fits_l (by decide) (by decide)) room_l (fun q111 => ?_)
      refine r_aload_n dL_law_445 rfl ?_
      refine r_aload_n dL_law_446 rfl ?_
      refine r_iload_n dL_law_447 rfl ?_
      refine r_iconst dL_law_448 ci_1 ?_
      refine r_iadd dL_law_449 ?_
      refine g_sld hL dL_law_450 (fun hg112 => ?_)
      refine u_X8_pass (ok_X8_pass g q111.2 (xs ((x3 + 1)).toNatClampNeg)) dL_law_451 ml_L_53 (Nat.le_of_ble_eq_true rfl) (fits_l (by decide) (by decide)) room_l (fun q114 => ?_)
      refine r_iceq dL_law_454 (tgt := 1254) (by decide) (fun c115 => ?_) (fun c115 => ?_)
      · refine r_iincN dL_law_1254 rfl ci_6 rfl (lt_b rfl) (fun v116 => ?_)
        refine r_goto dL_law_1257 (tgt := 18) (by decide) ?_
        exact r_mask [true, true, true, true] (hk18 q114.2 v116)
      · refine r_iconst dL_law_457 ci_0 ?_
        exact r_none
    refine r_by (fun e117 => ?_) (fun e117 => ?_)
    · refine r_tabIn dL_law_33 e117 (z := 9) (by decide) (by decide) (by decide) (off := 426) rfl (tgt := 459) (by decide) ?_
      refine r_aload_n dL_law_459 rfl ?_
      refine r_aload_n dL_law_460 rfl ?_
      refine r_iload_n dL_law_461 rfl ?_
      refine r_iconst dL_law_462 ci_1 ?_
      refine r_iadd dL_law_463 ?_
      refine g_sld hL dL_law_464 (fun hg118 => ?_)
      refine r_aload_n dL_law_465 rfl ?_
      refine r_iload_n dL_law_466 rfl ?_
      refine r_iconst dL_law_467 ci_2 ?_
      refine r_iadd dL_law_468 ?_
      refine g_sld hL dL_law_469 (fun hg120 => ?_)
      refine u_X7_on (ok_X7_on g s0 (xs ((x3 + 1)).toNatClampNeg) (xs ((x3 + 2)).toNatClampNeg)) dL_law_470 ml_L_54 (Nat.le_of_ble_eq_true rfl) (fits_l (by decide) (by decide)) room_l (fun q122 => ?_)
      refine r_aload_n dL_law_473 rfl ?_
      refine r_aload_n dL_law_474 rfl ?_
      refine r_iload_n dL_law_475 rfl ?_
      refine r_iconst dL_law_476 ci_1 ?_
      refine r_iadd dL_law_477 ?_
      refine g_sld hL dL_law_478 (fun hg123 => ?_)
      refine r_aload_n dL_law_479 rfl ?_
      refine r_iload_n dL_law_480 rfl ?_
      refine r_iconst dL_law_481 ci_2 ?_
      refine r_iadd dL_law_482 ?_
      refine g_sld hL dL_law_483 (fun hg125 => ?_)
      refine u_X8_on (ok_X8_on g q122.2 (xs ((x3 + 1)).toNatClampNeg) (xs ((x3 + 2)).toNatClampNeg)) dL_law_484 ml_L_57 (Nat.le_of_ble_eq_true rfl) (fits_l (by decide) (by decide)) room_l (fun q127 => ?_)
      refine r_iceq dL_law_487 (tgt := 1254) (by decide) (fun c128 => ?_) (fun c128 => ?_)
      · refine r_iincN dL_law_1254 rfl ci_6 rfl (lt_b rfl) (fun v129 => ?_)
        refine r_goto dL_law_1257 (tgt := 18) (by decide) ?_
        exact r_mask [true, true, true, true] (hk18 q127.2 v129)
      · refine r_iconst dL_law_490 ci_0 ?_
        exact r_none
    refine r_by (fun e130 => ?_) (fun e130 => ?_)
    · refine r_tabIn dL_law_33 e130 (z := 10) (by decide) (by decide) (by decide) (off := 459) rfl (tgt := 492) (by decide) ?_
      refine r_aload_n dL_law_492 rfl ?_
      refine r_aload_n dL_law_493 rfl ?_
      refine r_iload_n dL_law_494 rfl ?_
      refine r_iconst dL_law_495 ci_1 ?_
      refine r_iadd dL_law_496 ?_
      refine g_sld hL dL_law_497 (fun hg131 => ?_)
      refine r_aload_n dL_law_498 rfl ?_
      refine r_iload_n dL_law_499 rfl ?_
      refine r_iconst dL_law_500 ci_2 ?_
      refine r_iadd dL_law_501 ?_
      refine g_sld hL dL_law_502 (fun hg133 => ?_)
      refine r_aload_n dL_law_503 rfl ?_
      refine r_iload_n dL_law_504 rfl ?_
      refine r_iconst dL_law_505 ci_3 ?_
      refine r_iadd dL_law_506 ?_
      refine g_sld hL dL_law_507 (fun hg135 => ?_)
      refine u_X7_by (ok_X7_by g s0 (xs ((x3 + 1)).toNatClampNeg) (xs ((x3 + 2)).toNatClampNeg) (xs ((x3 + 3)).toNatClampNeg)) dL_law_508 ml_L_58 (Nat.le_of_ble_eq_true rfl) (fits_l (by decide) (by decide)) room_l (fun q137 => ?_)
      refine r_aload_n dL_law_511 rfl ?_
      refine r_aload_n dL_law_512 rfl ?_
      refine r_iload_n dL_law_513 rfl ?_
      refine r_iconst dL_law_514 ci_1 ?_
      refine r_iadd dL_law_515 ?_
      refine g_sld hL dL_law_516 (fun hg138 => ?_)
      refine r_aload_n dL_law_517 rfl ?_
      refine r_iload_n dL_law_518 rfl ?_
      refine r_iconst dL_law_519 ci_2 ?_
      refine r_iadd dL_law_520 ?_
      refine g_sld hL dL_law_521 (fun hg140 => ?_)
      refine r_aload_n dL_law_522 rfl ?_
      refine r_iload_n dL_law_523 rfl ?_
      refine r_iconst dL_law_524 ci_3 ?_
      refine r_iadd dL_law_525 ?_
      refine g_sld hL dL_law_526 (fun hg142 => ?_)
      refine u_X8_by (ok_X8_by g q137.2 (xs ((x3 + 1)).toNatClampNeg) (xs ((x3 + 2)).toNatClampNeg) (xs ((x3 + 3)).toNatClampNeg)) dL_law_527 ml_L_61 (Nat.le_of_ble_eq_true rfl) (fits_l (by decide) (by decide)) room_l (fun q144 => ?_)
      refine r_iceq dL_law_530 (tgt := 1254) (by decide) (fun c145 => ?_) (fun c145 => ?_)
      · refine r_iincN dL_law_1254 rfl ci_6 rfl (lt_b rfl) (fun v146 => ?_)
        refine r_goto dL_law_1257 (tgt := 18) (by decide) ?_
        exact r_mask [true, true, true, true] (hk18 q144.2 v146)
      · refine r_iconst dL_law_533 ci_0 ?_
        exact r_none
    refine r_by (fun e147 => ?_) (fun e147 => ?_)
    · refine r_tabIn dL_law_33 e147 (z := 11) (by decide) (by decide) (by decide) (off := 502) rfl (tgt := 535) (by decide) ?_
      refine r_aload_n dL_law_535 rfl ?_
      refine r_aload_n dL_law_536 rfl ?_
      refine r_iload_n dL_law_537 rfl ?_
      refine r_iconst dL_law_538 ci_1 ?_
      refine r_iadd dL_law_539 ?_
      refine g_sld hL dL_law_540 (fun hg148 => ?_)
      refine r_aload_n dL_law_541 rfl ?_
      refine r_iload_n dL_law_542 rfl ?_
      refine r_iconst dL_law_543 ci_2 ?_
      refine r_iadd dL_law_544 ?_
      refine g_sld hL dL_law_545 (fun hg150 => ?_)
      refine r_aload_n dL_law_546 rfl ?_
      refine r_iload_n dL_law_547 rfl ?_
      refine r_iconst dL_law_548 ci_3 ?_
      refine r_iadd dL_law_549 ?_
      refine g_sld hL dL_law_550 (fun hg152 => ?_)
      refine u_X7_need (ok_X7_need g s0 (xs ((x3 + 1)).toNatClampNeg) (xs ((x3 + 2)).toNatClampNeg) (xs ((x3 + 3)).toNatClampNeg)) dL_law_551 ml_L_62 (Nat.le_of_ble_eq_true rfl) (fits_l (by decide) (by decide)) room_l (fun q154 => ?_)
      refine r_aload_n dL_law_554 rfl ?_
      refine r_aload_n dL_law_555 rfl ?_
      refine r_iload_n dL_law_556 rfl ?_
      refine r_iconst dL_law_557 ci_1 ?_
      refine r_iadd dL_law_558 ?_
      refine g_sld hL dL_law_559 (fun hg155 => ?_)
      refine r_aload_n dL_law_560 rfl ?_
      refine r_iload_n dL_law_561 rfl ?_
      refine r_iconst dL_law_562 ci_2 ?_
      refine r_iadd dL_law_563 ?_
      refine g_sld hL dL_law_564 (fun hg157 => ?_)
      refine r_aload_n dL_law_565 rfl ?_
      refine r_iload_n dL_law_566 rfl ?_
      refine r_iconst dL_law_567 ci_3 ?_
      refine r_iadd dL_law_568 ?_
      refine g_sld hL dL_law_569 (fun hg159 => ?_)
      refine u_X8_need (ok_X8_need g q154.2 (xs ((x3 + 1)).toNatClampNeg) (xs ((x3 + 2)).toNatClampNeg) (xs ((x3 + 3)).toNatClampNeg)) dL_law_570 ml_L_65 (Nat.le_of_ble_eq_true rfl) (fits_l (by decide) (by decide)) room_l (fun q161 => ?_)
      refine r_iceq dL_law_573 (tgt := 1254) (by decide) (fun c162 => ?_) (fun c162 => ?_)
      · refine r_iincN dL_law_1254 rfl ci_6 rfl (lt_b rfl) (fun v163 => ?_)
        refine r_goto dL_law_1257 (tgt := 18) (by decide) ?_
        exact r_mask [true, true, true, true] (hk18 q161.2 v163)
      · refine r_iconst dL_law_576 ci_0 ?_
        exact r_none
    refine r_by (fun e164 => ?_) (fun e164 => ?_)
    · refine r_tabIn dL_law_33 e164 (z := 12) (by decide) (by decide) (by decide) (off := 545) rfl (tgt := 578) (by decide) ?_
      refine r_aload_n dL_law_578 rfl ?_
      refine r_aload_n dL_law_579 rfl ?_
      refine r_iload_n dL_law_580 rfl ?_
      refine r_iconst dL_law_581 ci_1 ?_
      refine r_iadd dL_law_582 ?_
      refine g_sld hL dL_law_583 (fun hg165 => ?_)
      refine r_aload_n dL_law_584 rfl ?_
      refine r_iload_n dL_law_585 rfl ?_
      refine r_iconst dL_law_586 ci_2 ?_
      refine r_iadd dL_law_587 ?_
      refine g_sld hL dL_law_588 (fun hg167 => ?_)
      refine r_aload_n dL_law_589 rfl ?_
      refine r_iload_n dL_law_590 rfl ?_
      refine r_iconst dL_law_591 ci_3 ?_
      refine r_iadd dL_law_592 ?_
      refine g_sld hL dL_law_593 (fun hg169 => ?_)
      refine r_ifeq dL_law_594 (tgt := 601) (by decide) (fun c171 => ?_) (fun c171 => ?_)
      · refine r_iconst dL_law_601 ci_0 ?_
        exact r_mask [true, true, true, true] (s_L_law_L602 g b L xs hL k18 hk18 s0 x3 (xs ((x3 + 1)).toNatClampNeg) (xs ((x3 + 2)).toNatClampNeg) 0)
      · refine r_iconst dL_law_597 ci_1 ?_
        refine r_goto dL_law_598 (tgt := 602) (by decide) ?_
        exact r_mask [true, true, true, true] (s_L_law_L602 g b L xs hL k18 hk18 s0 x3 (xs ((x3 + 1)).toNatClampNeg) (xs ((x3 + 2)).toNatClampNeg) 1)
    refine r_by (fun e183 => ?_) (fun e183 => ?_)
    · refine r_tabIn dL_law_33 e183 (z := 13) (by decide) (by decide) (by decide) (off := 604) rfl (tgt := 637) (by decide) ?_
      refine r_aload_n dL_law_637 rfl ?_
      refine r_aload_n dL_law_638 rfl ?_
      refine r_iload_n dL_law_639 rfl ?_
      refine r_iconst dL_law_640 ci_1 ?_
      refine r_iadd dL_law_641 ?_
      refine g_sld hL dL_law_642 (fun hg184 => ?_)
      refine r_aload_n dL_law_643 rfl ?_
      refine r_iload_n dL_law_644 rfl ?_
      refine r_iconst dL_law_645 ci_2 ?_
      refine r_iadd dL_law_646 ?_
      refine g_sld hL dL_law_647 (fun hg186 => ?_)
      refine r_aload_n dL_law_648 rfl ?_
      refine r_iload_n dL_law_649 rfl ?_
      refine r_iconst dL_law_650 ci_3 ?_
      refine r_iadd dL_law_651 ?_
      refine g_sld hL dL_law_652 (fun hg188 => ?_)
      refine u_X7_can (ok_X7_can g s0 (xs ((x3 + 1)).toNatClampNeg) (xs ((x3 + 2)).toNatClampNeg) (xs ((x3 + 3)).toNatClampNeg)) dL_law_653 ml_L_71 (Nat.le_of_ble_eq_true rfl) (fits_l (by decide) (by decide)) room_l (fun q190 => ?_)
      refine r_aload_n dL_law_656 rfl ?_
      refine r_aload_n dL_law_657 rfl ?_
      refine r_iload_n dL_law_658 rfl ?_
      refine r_iconst dL_law_659 ci_1 ?_
      refine r_iadd dL_law_660 ?_
      refine g_sld hL dL_law_661 (fun hg191 => ?_)
      refine r_aload_n dL_law_662 rfl ?_
      refine r_iload_n dL_law_663 rfl ?_
      refine r_iconst dL_law_664 ci_2 ?_
      refine r_iadd dL_law_665 ?_
      refine g_sld hL dL_law_666 (fun hg193 => ?_)
      refine r_aload_n dL_law_667 rfl ?_
      refine r_iload_n dL_law_668 rfl ?_
      refine r_iconst dL_law_669 ci_3 ?_
      refine r_iadd dL_law_670 ?_
      refine g_sld hL dL_law_671 (fun hg195 => ?_)
      refine u_X8_can (ok_X8_can g q190.2 (xs ((x3 + 1)).toNatClampNeg) (xs ((x3 + 2)).toNatClampNeg) (xs ((x3 + 3)).toNatClampNeg)) dL_law_672 ml_L_74 (Nat.le_of_ble_eq_true rfl) (fits_l (by decide) (by decide)) room_l (fun q197 => ?_)
      refine r_iceq dL_law_675 (tgt := 1254) (by decide) (fun c198 => ?_) (fun c198 => ?_)
      · refine r_iincN dL_law_1254 rfl ci_6 rfl (lt_b rfl) (fun v199 => ?_)
        refine r_goto dL_law_1257 (tgt := 18) (by decide) ?_
        exact r_mask [true, true, true, true] (hk18 q197.2 v199)
      · refine r_iconst dL_law_678 ci_0 ?_
        exact r_none
    refine r_by (fun e200 => ?_) (fun e200 => ?_)
    · refine r_tabIn dL_law_33 e200 (z := 14) (by decide) (by decide) (by decide) (off := 647) rfl (tgt := 680) (by decide) ?_
      refine r_aload_n dL_law_680 rfl ?_
      refine r_aload_n dL_law_681 rfl ?_
      refine r_iload_n dL_law_682 rfl ?_
      refine r_iconst dL_law_683 ci_1 ?_
      refine r_iadd dL_law_684 ?_
      refine g_sld hL dL_law_685 (fun hg201 => ?_)
      refine r_aload_n dL_law_686 rfl ?_
      refine r_iload_n dL_law_687 rfl ?_
      refine r_iconst dL_law_688 ci_2 ?_
      refine r_iadd dL_law_689 ?_
      refine g_sld hL dL_law_690 (fun hg203 => ?_)
      refine r_aload_n dL_law_691 rfl ?_
      refine r_iload_n dL_law_692 rfl ?_
      refine r_iconst dL_law_693 ci_3 ?_
      refine r_iadd dL_law_694 ?_
      refine g_sld hL dL_law_695 (fun hg205 => ?_)
      refine u_X7_odds (ok_X7_odds g s0 (xs ((x3 + 1)).toNatClampNeg) (xs ((x3 + 2)).toNatClampNeg) (xs ((x3 + 3)).toNatClampNeg)) dL_law_696 ml_L_75 (Nat.le_of_ble_eq_true rfl) (fits_l (by decide) (by decide)) room_l (fun q207 => ?_)
      refine r_aload_n dL_law_699 rfl ?_
      refine r_aload_n dL_law_700 rfl ?_
      refine r_iload_n dL_law_701 rfl ?_
      refine r_iconst dL_law_702 ci_1 ?_
      refine r_iadd dL_law_703 ?_
      refine g_sld hL dL_law_704 (fun hg208 => ?_)
      refine r_aload_n dL_law_705 rfl ?_
      refine r_iload_n dL_law_706 rfl ?_
      refine r_iconst dL_law_707 ci_2 ?_
      refine r_iadd dL_law_708 ?_
      refine g_sld hL dL_law_709 (fun hg210 => ?_)
      refine r_aload_n dL_law_710 rfl ?_
      refine r_iload_n dL_law_711 rfl ?_
      refine r_iconst dL_law_712 ci_3 ?_
      refine r_iadd dL_law_713 ?_
      refine g_sld hL dL_law_714 (fun hg212 => ?_)
      refine u_X8_odds (ok_X8_odds g q207.2 (xs ((x3 + 1)).toNatClampNeg) (xs ((x3 + 2)).toNatClampNeg) (xs ((x3 + 3)).toNatClampNeg)) dL_law_715 ml_L_79 (Nat.le_of_ble_eq_true rfl) (fits_l (by decide) (by decide)) room_l (fun q214 => ?_)
      refine r_lcmp dL_law_718 ?_
      refine r_ifeq dL_law_719 (tgt := 1254) (by decide) (fun c215 => ?_) (fun c215 => ?_)
      · refine r_iincN dL_law_1254 rfl ci_6 rfl (lt_b rfl) (fun v216 => ?_)
        refine r_goto dL_law_1257 (tgt := 18) (by decide) ?_
        exact r_mask [true, true, true, true] (hk18 q214.2 v216)
      · refine r_iconst dL_law_722 ci_0 ?_
        exact r_none
    refine r_by (fun e217 => ?_) (fun e217 => ?_)
    · refine r_tabIn dL_law_33 e217 (z := 15) (by decide) (by decide) (by decide) (off := 691) rfl (tgt := 724) (by decide) ?_
      refine r_aload_n dL_law_724 rfl ?_
      refine r_aload_n dL_law_725 rfl ?_
      refine r_iload_n dL_law_726 rfl ?_
      refine r_iconst dL_law_727 ci_1 ?_
      refine r_iadd dL_law_728 ?_
      refine g_sld hL dL_law_729 (fun hg218 => ?_)
      refine r_aload_n dL_law_730 rfl ?_
      refine r_iload_n dL_law_731 rfl ?_
      refine r_iconst dL_law_732 ci_2 ?_
      refine r_iadd dL_law_733 ?_
      refine g_sld hL dL_law_734 (fun hg220 => ?_)
      refine u_X7_mean (ok_X7_mean g s0 (xs ((x3 + 1)).toNatClampNeg) (xs ((x3 + 2)).toNatClampNeg)) dL_law_735 ml_L_80 (Nat.le_of_ble_eq_true rfl) (fits_l (by decide) (by decide)) room_l (fun q222 => ?_)
      refine r_aload_n dL_law_738 rfl ?_
      refine r_aload_n dL_law_739 rfl ?_
      refine r_iload_n dL_law_740 rfl ?_
      refine r_iconst dL_law_741 ci_1 ?_
      refine r_iadd dL_law_742 ?_
      refine g_sld hL dL_law_743 (fun hg223 => ?_)
      refine r_aload_n dL_law_744 rfl ?_
      refine r_iload_n dL_law_745 rfl ?_
      refine r_iconst dL_law_746 ci_2 ?_
      refine r_iadd dL_law_747 ?_
      refine g_sld hL dL_law_748 (fun hg225 => ?_)
      refine u_X8_mean (ok_X8_mean g q222.2 (xs ((x3 + 1)).toNatClampNeg) (xs ((x3 + 2)).toNatClampNeg)) dL_law_749 ml_L_84 (Nat.le_of_ble_eq_true rfl) (fits_l (by decide) (by decide)) room_l (fun q227 => ?_)
      refine r_lcmp dL_law_752 ?_
      refine r_ifeq dL_law_753 (tgt := 1254) (by decide) (fun c228 => ?_) (fun c228 => ?_)
      · refine r_iincN dL_law_1254 rfl ci_6 rfl (lt_b rfl) (fun v229 => ?_)
        refine r_goto dL_law_1257 (tgt := 18) (by decide) ?_
        exact r_mask [true, true, true, true] (hk18 q227.2 v229)
      · refine r_iconst dL_law_756 ci_0 ?_
        exact r_none
    refine r_by (fun e230 => ?_) (fun e230 => ?_)
    · refine r_tabIn dL_law_33 e230 (z := 16) (by decide) (by decide) (by decide) (off := 725) rfl (tgt := 758) (by decide) ?_
      refine r_aload_n dL_law_758 rfl ?_
      refine r_aload_n dL_law_759 rfl ?_
      refine r_iload_n dL_law_760 rfl ?_
      refine r_iconst dL_law_761 ci_1 ?_
      refine r_iadd dL_law_762 ?_
      refine g_sld hL dL_law_763 (fun hg231 => ?_)
      refine r_aload_n dL_law_764 rfl ?_
      refine r_iload_n dL_law_765 rfl ?_
      refine r_iconst dL_law_766 ci_2 ?_
      refine r_iadd dL_law_767 ?_
      refine g_sld hL dL_law_768 (fun hg233 => ?_)
      refine u_X7_plan (ok_X7_plan g s0 (xs ((x3 + 1)).toNatClampNeg) (xs ((x3 + 2)).toNatClampNeg)) dL_law_769 ml_L_85 (Nat.le_of_ble_eq_true rfl) (fits_l (by decide) (by decide)) room_l (fun q235 => ?_)
      refine r_aload_n dL_law_772 rfl ?_
      refine r_aload_n dL_law_773 rfl ?_
      refine r_iload_n dL_law_774 rfl ?_
      refine r_iconst dL_law_775 ci_1 ?_
      refine r_iadd dL_law_776 ?_
      refine g_sld hL dL_law_777 (fun hg236 => ?_)
      refine r_aload_n dL_law_778 rfl ?_
      refine r_iload_n dL_law_779 rfl ?_
      refine r_iconst dL_law_780 ci_2 ?_
      refine r_iadd dL_law_781 ?_
      refine g_sld hL dL_law_782 (fun hg238 => ?_)
      refine u_X8_plan (ok_X8_plan g q235.2 (xs ((x3 + 1)).toNatClampNeg) (xs ((x3 + 2)).toNatClampNeg)) dL_law_783 ml_L_88 (Nat.le_of_ble_eq_true rfl) (fits_l (by decide) (by decide)) room_l (fun q240 => ?_)
      refine r_iceq dL_law_786 (tgt := 1254) (by decide) (fun c241 => ?_) (fun c241 => ?_)
      · refine r_iincN dL_law_1254 rfl ci_6 rfl (lt_b rfl) (fun v242 => ?_)
        refine r_goto dL_law_1257 (tgt := 18) (by decide) ?_
        exact r_mask [true, true, true, true] (hk18 q240.2 v242)
      · refine r_iconst dL_law_789 ci_0 ?_
        exact r_none
    refine r_by (fun e243 => ?_) (fun e243 => ?_)
    · refine r_tabIn dL_law_33 e243 (z := 17) (by decide) (by decide) (by decide) (off := 758) rfl (tgt := 791) (by decide) ?_
      refine r_aload_n dL_law_791 rfl ?_
      refine r_aload_n dL_law_792 rfl ?_
      refine r_iload_n dL_law_793 rfl ?_
      refine r_iconst dL_law_794 ci_1 ?_
      refine r_iadd dL_law_795 ?_
      refine g_sld hL dL_law_796 (fun hg244 => ?_)
      refine u_X7_ends (ok_X7_ends g s0 (xs ((x3 + 1)).toNatClampNeg)) dL_law_797 ml_L_89 (Nat.le_of_ble_eq_true rfl) (fits_l (by decide) (by decide)) room_l (fun q246 => ?_)
      refine r_aload_n dL_law_800 rfl ?_
      refine r_aload_n dL_law_801 rfl ?_
      refine r_iload_n dL_law_802 rfl ?_
      refine r_iconst dL_law_803 ci_1 ?_
      refine r_iadd dL_law_804 ?_
      refine g_sld hL dL_law_805 (fun hg247 => ?_)
      refine u_X8_ends (ok_X8_ends g q246.2 (xs ((x3 + 1)).toNatClampNeg)) dL_law_806 ml_L_92 (Nat.le_of_ble_eq_true rfl) (fits_l (by decide) (by decide)) room_l (fun q249 => ?_)
      refine r_iceq dL_law_809 (tgt := 1254) (by decide) (fun c250 => ?_) (fun c250 => ?_)
      · refine r_iincN dL_law_1254 rfl ci_6 rfl (lt_b rfl) (fun v251 => ?_)
        refine r_goto dL_law_1257 (tgt := 18) (by decide) ?_
        exact r_mask [true, true, true, true] (hk18 q249.2 v251)
      · refine r_iconst dL_law_812 ci_0 ?_
        exact r_none
    refine r_by (fun e252 => ?_) (fun e252 => ?_)
    · refine r_tabIn dL_law_33 e252 (z := 18) (by decide) (by decide) (by decide) (off := 781) rfl (tgt := 814) (by decide) ?_
      refine r_aload_n dL_law_814 rfl ?_
      refine r_aload_n dL_law_815 rfl ?_
      refine r_iload_n dL_law_816 rfl ?_
      refine r_iconst dL_law_817 ci_1 ?_
      refine r_iadd dL_law_818 ?_
      refine g_sld hL dL_law_819 (fun hg253 => ?_)
      refine r_aload_n dL_law_820 rfl ?_
      refine r_iload_n dL_law_821 rfl ?_
      refine r_iconst dL_law_822 ci_2 ?_
      refine r_iadd dL_law_823 ?_
      refine g_sld hL dL_law_824 (fun hg255 => ?_)
      refine u_X7_book (ok_X7_book g s0 (xs ((x3 + 1)).toNatClampNeg) (xs ((x3 + 2)).toNatClampNeg)) dL_law_825 ml_L_93 (Nat.le_of_ble_eq_true rfl) (fits_l (by decide) (by decide)) room_l (fun q257 => ?_)
      refine r_aload_n dL_law_828 rfl ?_
      refine r_aload_n dL_law_829 rfl ?_
      refine r_iload_n dL_law_830 rfl ?_
      refine r_iconst dL_law_831 ci_1 ?_
      refine r_iadd dL_law_832 ?_
      refine g_sld hL dL_law_833 (fun hg258 => ?_)
      refine r_aload_n dL_law_834 rfl ?_
      refine r_iload_n dL_law_835 rfl ?_
      refine r_iconst dL_law_836 ci_2 ?_
      refine r_iadd dL_law_837 ?_
      refine g_sld hL dL_law_838 (fun hg260 => ?_)
      refine u_X8_book (ok_X8_book g q257.2 (xs ((x3 + 1)).toNatClampNeg) (xs ((x3 + 2)).toNatClampNeg)) dL_law_839 ml_L_96 (Nat.le_of_ble_eq_true rfl) (fits_l (by decide) (by decide)) room_l (fun q262 => ?_)
      refine r_iceq dL_law_842 (tgt := 1254) (by decide) (fun c263 => ?_) (fun c263 => ?_)
      · refine r_iincN dL_law_1254 rfl ci_6 rfl (lt_b rfl) (fun v264 => ?_)
        refine r_goto dL_law_1257 (tgt := 18) (by decide) ?_
        exact r_mask [true, true, true, true] (hk18 q262.2 v264)
      · refine r_iconst dL_law_845 ci_0 ?_
        exact r_none
    refine r_by (fun e265 => ?_) (fun e265 => ?_)
    · refine r_tabIn dL_law_33 e265 (z := 19) (by decide) (by decide) (by decide) (off := 814) rfl (tgt := 847) (by decide) ?_
      refine r_aload_n dL_law_847 rfl ?_
      refine u_X7_looked (ok_X7_looked g s0) dL_law_848 ml_L_97 (Nat.le_of_ble_eq_true rfl) (fits_l (by decide) (by decide)) room_l (fun q266 => ?_)
      refine r_aload_n dL_law_851 rfl ?_
      refine u_X8_looked (ok_X8_looked g s0) dL_law_852 ml_L_100 (Nat.le_of_ble_eq_true rfl) (fits_l (by decide) (by decide)) room_l (fun q267 => ?_)
      refine r_iceq dL_law_855 (tgt := 1254) (by decide) (fun c268 => ?_) (fun c268 => ?_)
      · refine r_iincN dL_law_1254 rfl ci_6 rfl (lt_b rfl) (fun v269 => ?_)
        refine r_goto dL_law_1257 (tgt := 18) (by decide) ?_
        exact r_mask [true, true, true, true] (hk18 s0 v269)
      · refine r_iconst dL_law_858 ci_0 ?_
        exact r_none
    refine r_by (fun e270 => ?_) (fun e270 => ?_)
    · refine r_tabIn dL_law_33 e270 (z := 20) (by decide) (by decide) (by decide) (off := 827) rfl (tgt := 860) (by decide) ?_
      refine r_aload_n dL_law_860 rfl ?_
      refine r_aload_n dL_law_861 rfl ?_
      refine r_iload_n dL_law_862 rfl ?_
      refine r_iconst dL_law_863 ci_1 ?_
      refine r_iadd dL_law_864 ?_
      refine g_sld hL dL_law_865 (fun hg271 => ?_)
      refine r_aload_n dL_law_866 rfl ?_
      refine r_iload_n dL_law_867 rfl ?_
      refine r_iconst dL_law_868 ci_2 ?_
      refine r_iadd dL_law_869 ?_
      refine g_sld hL dL_law_870 (fun hg273 => ?_)
      refine u_X7_judge (ok_X7_judge g s0 (xs ((x3 + 1)).toNatClampNeg) (xs ((x3 + 2)).toNatClampNeg)) dL_law_871 ml_L_101 (Nat.le_of_ble_eq_true rfl) (fits_l (by decide) (by decide)) room_l (fun q275 => ?_)
      refine r_aload_n dL_law_874 rfl ?_
      refine r_aload_n dL_law_875 rfl ?_
      refine r_iload_n dL_law_876 rfl ?_
      refine r_iconst dL_law_877 ci_1 ?_
      refine r_iadd dL_law_878 ?_
      refine g_sld hL dL_law_879 (fun hg276 => ?_)
      refine r_aload_n dL_law_880 rfl ?_
      refine r_iload_n dL_law_881 rfl ?_
      refine r_iconst dL_law_882 ci_2 ?_
      refine r_iadd dL_law_883 ?_
      refine g_sld hL dL_law_884 (fun hg278 => ?_)
      refine u_X8_judge (ok_X8_judge g s0 (xs ((x3 + 1)).toNatClampNeg) (xs ((x3 + 2)).toNatClampNeg)) dL_law_885 ml_L_104 (Nat.le_of_ble_eq_true rfl) (fits_l (by decide) (by decide)) room_l (fun q280 => ?_)
      refine r_iceq dL_law_888 (tgt := 1254) (by decide) (fun c281 => ?_) (fun c281 => ?_)
      · refine r_iincN dL_law_1254 rfl ci_6 rfl (lt_b rfl) (fun v282 => ?_)
        refine r_goto dL_law_1257 (tgt := 18) (by decide) ?_
        exact r_mask [true, true, true, true] (hk18 s0 v282)
      · refine r_iconst dL_law_891 ci_0 ?_
        exact r_none
    refine r_by (fun e283 => ?_) (fun e283 => ?_)
    · refine r_tabIn dL_law_33 e283 (z := 21) (by decide) (by decide) (by decide) (off := 860) rfl (tgt := 893) (by decide) ?_
      refine r_aload_n dL_law_893 rfl ?_
      refine u_X7_image (ok_X7_image g s0) dL_law_894 ml_L_105 (Nat.le_of_ble_eq_true rfl) (fits_l (by decide) (by decide)) room_l (fun q284 => ?_)
      refine r_aload_n dL_law_897 rfl ?_
      refine u_X8_image (ok_X8_image g q284.2) dL_law_898 ml_L_108 (Nat.le_of_ble_eq_true rfl) (fits_l (by decide) (by decide)) room_l (fun q285 => ?_)
      refine r_iceq dL_law_901 (tgt := 1254) (by decide) (fun c286 => ?_) (fun c286 => ?_)
      · refine r_iincN dL_law_1254 rfl ci_6 rfl (lt_b rfl) (fun v287 => ?_)
        refine r_goto dL_law_1257 (tgt := 18) (by decide) ?_
        exact r_mask [true, true, true, true] (hk18 q285.2 v287)
      · refine r_iconst dL_law_904 ci_0 ?_
        exact r_none
    refine r_by (fun e288 => ?_) (fun e288 => ?_)
    · refine r_tabIn dL_law_33 e288 (z := 22) (by decide) (by decide) (by decide) (off := 873) rfl (tgt := 906) (by decide) ?_
      refine r_aload_n dL_law_906 rfl ?_
      refine u_X7_undo (ok_X7_undo g s0) dL_law_907 ml_L_109 (Nat.le_of_ble_eq_true rfl) (fits_l (by decide) (by decide)) room_l (fun q289 => ?_)
      refine r_aload_n dL_law_910 rfl ?_
      refine u_X8_undo (ok_X8_undo g q289.2) dL_law_911 ml_L_112 (Nat.le_of_ble_eq_true rfl) (fits_l (by decide) (by decide)) room_l (fun q290 => ?_)
      refine r_iceq dL_law_914 (tgt := 1254) (by decide) (fun c291 => ?_) (fun c291 => ?_)
      · refine r_iincN dL_law_1254 rfl ci_6 rfl (lt_b rfl) (fun v292 => ?_)
        refine r_goto dL_law_1257 (tgt := 18) (by decide) ?_
        exact r_mask [true, true, true, true] (hk18 q290.2 v292)
      · refine r_iconst dL_law_917 ci_0 ?_
        exact r_none
    refine r_by (fun e293 => ?_) (fun e293 => ?_)
    · refine r_tabIn dL_law_33 e293 (z := 23) (by decide) (by decide) (by decide) (off := 886) rfl (tgt := 919) (by decide) ?_
      refine r_aload_n dL_law_919 rfl ?_
      refine r_aload_n dL_law_920 rfl ?_
      refine r_iload_n dL_law_921 rfl ?_
      refine r_iconst dL_law_922 ci_1 ?_
      refine r_iadd dL_law_923 ?_
      refine g_sld hL dL_law_924 (fun hg294 => ?_)
      refine r_aload_n dL_law_925 rfl ?_
      refine r_iload_n dL_law_926 rfl ?_
      refine r_iconst dL_law_927 ci_2 ?_
      refine r_iadd dL_law_928 ?_
      refine g_sld hL dL_law_929 (fun hg296 => ?_)
      refine r_aload_n dL_law_930 rfl ?_
      refine r_iload_n dL_law_931 rfl ?_
      refine r_iconst dL_law_932 ci_3 ?_
      refine r_iadd dL_law_933 ?_
      refine g_sld hL dL_law_934 (fun hg298 => ?_)
      refine u_X7_act (ok_X7_act g s0 (xs ((x3 + 1)).toNatClampNeg) (xs ((x3 + 2)).toNatClampNeg) (xs ((x3 + 3)).toNatClampNeg)) dL_law_935 ml_L_113 (Nat.le_of_ble_eq_true rfl) (fits_l (by decide) (by decide)) room_l (fun q300 => ?_)
      refine r_aload_n dL_law_938 rfl ?_
      refine r_aload_n dL_law_939 rfl ?_
      refine r_iload_n dL_law_940 rfl ?_
      refine r_iconst dL_law_941 ci_1 ?_
      refine r_iadd dL_law_942 ?_
      refine g_sld hL dL_law_943 (fun hg301 => ?_)
      refine r_aload_n dL_law_944 rfl ?_
      refine r_iload_n dL_law_945 rfl ?_
      refine r_iconst dL_law_946 ci_2 ?_
      refine r_iadd dL_law_947 ?_
      refine g_sld hL dL_law_948 (fun hg303 => ?_)
      refine r_aload_n dL_law_949 rfl ?_
      refine r_iload_n dL_law_950 rfl ?_
      refine r_iconst dL_law_951 ci_3 ?_
      refine r_iadd dL_law_952 ?_
      refine g_sld hL dL_law_953 (fun hg305 => ?_)
      refine u_X8_act (ok_X8_act g q300.2 (xs ((x3 + 1)).toNatClampNeg) (xs ((x3 + 2)).toNatClampNeg) (xs ((x3 + 3)).toNatClampNeg)) dL_law_954 ml_L_116 (Nat.le_of_ble_eq_true rfl) (fits_l (by decide) (by decide)) room_l (fun q307 => ?_)
      refine r_iceq dL_law_957 (tgt := 1254) (by decide) (fun c308 => ?_) (fun c308 => ?_)
      · refine r_iincN dL_law_1254 rfl ci_6 rfl (lt_b rfl) (fun v309 => ?_)
        refine r_goto dL_law_1257 (tgt := 18) (by decide) ?_
        exact r_mask [true, true, true, true] (hk18 q307.2 v309)
      · refine r_iconst dL_law_960 ci_0 ?_
        exact r_none
    refine r_by (fun e310 => ?_) (fun e310 => ?_)
    · refine r_tabIn dL_law_33 e310 (z := 24) (by decide) (by decide) (by decide) (off := 929) rfl (tgt := 962) (by decide) ?_
      refine r_aload_n dL_law_962 rfl ?_
      refine r_aload_n dL_law_963 rfl ?_
      refine r_iload_n dL_law_964 rfl ?_
      refine r_iconst dL_law_965 ci_1 ?_
      refine r_iadd dL_law_966 ?_
      refine g_sld hL dL_law_967 (fun hg311 => ?_)
      refine u_X7_trace (ok_X7_trace g s0 (xs ((x3 + 1)).toNatClampNeg)) dL_law_968 ml_L_117 (Nat.le_of_ble_eq_true rfl) (fits_l (by decide) (by decide)) room_l (fun q313 => ?_)
      refine r_aload_n dL_law_971 rfl ?_
      refine r_aload_n dL_law_972 rfl ?_
      refine r_iload_n dL_law_973 rfl ?_
      refine r_iconst dL_law_974 ci_1 ?_
      refine r_iadd dL_law_975 ?_
      refine g_sld hL dL_law_976 (fun hg314 => ?_)
      refine u_X8_trace (ok_X8_trace g s0 (xs ((x3 + 1)).toNatClampNeg)) dL_law_977 ml_L_120 (Nat.le_of_ble_eq_true rfl) (fits_l (by decide) (by decide)) room_l (fun q316 => ?_)
      refine r_iceq dL_law_980 (tgt := 1254) (by decide) (fun c317 => ?_) (fun c317 => ?_)
      · refine r_iincN dL_law_1254 rfl ci_6 rfl (lt_b rfl) (fun v318 => ?_)
        refine r_goto dL_law_1257 (tgt := 18) (by decide) ?_
        exact r_mask [true, true, true, true] (hk18 s0 v318)
      · refine r_iconst dL_law_983 ci_0 ?_
        exact r_none
    refine r_by (fun e319 => ?_) (fun e319 => ?_)
    · refine r_tabIn dL_law_33 e319 (z := 25) (by decide) (by decide) (by decide) (off := 952) rfl (tgt := 985) (by decide) ?_
      refine r_aload_n dL_law_985 rfl ?_
      refine r_aload_n dL_law_986 rfl ?_
      refine r_iload_n dL_law_987 rfl ?_
      refine r_iconst dL_law_988 ci_1 ?_
      refine r_iadd dL_law_989 ?_
      refine g_sld hL dL_law_990 (fun hg320 => ?_)
      refine r_aload_n dL_law_991 rfl ?_
      refine r_iload_n dL_law_992 rfl ?_
      refine r_iconst dL_law_993 ci_2 ?_
      refine r_iadd dL_law_994 ?_
      refine g_sld hL dL_law_995 (fun hg322 => ?_)
      refine u_X7_taken (ok_X7_taken g s0 (xs ((x3 + 1)).toNatClampNeg) (xs ((x3 + 2)).toNatClampNeg)) dL_law_996 ml_L_121 (Nat.le_of_ble_eq_true rfl) (fits_l (by decide) (by decide)) room_l (fun q324 => ?_)
      refine r_aload_n dL_law_999 rfl ?_
      refine r_aload_n dL_law_1000 rfl ?_
      refine r_iload_n dL_law_1001 rfl ?_
      refine r_iconst dL_law_1002 ci_1 ?_
      refine r_iadd dL_law_1003 ?_
      refine g_sld hL dL_law_1004 (fun hg325 => ?_)
      refine r_aload_n dL_law_1005 rfl ?_
      refine r_iload_n dL_law_1006 rfl ?_
      refine r_iconst dL_law_1007 ci_2 ?_
      refine r_iadd dL_law_1008 ?_
      refine g_sld hL dL_law_1009 (fun hg327 => ?_)
      refine u_X8_taken (ok_X8_taken g s0 (xs ((x3 + 1)).toNatClampNeg) (xs ((x3 + 2)).toNatClampNeg)) dL_law_1010 ml_L_124 (Nat.le_of_ble_eq_true rfl) (fits_l (by decide) (by decide)) room_l (fun q329 => ?_)
      refine r_iceq dL_law_1013 (tgt := 1254) (by decide) (fun c330 => ?_) (fun c330 => ?_)
      · refine r_iincN dL_law_1254 rfl ci_6 rfl (lt_b rfl) (fun v331 => ?_)
        refine r_goto dL_law_1257 (tgt := 18) (by decide) ?_
        exact r_mask [true, true, true, true] (hk18 s0 v331)
      · refine r_iconst dL_law_1016 ci_0 ?_
        exact r_none
    refine r_by (fun e332 => ?_) (fun e332 => ?_)
    · refine r_tabIn dL_law_33 e332 (z := 26) (by decide) (by decide) (by decide) (off := 985) rfl (tgt := 1018) (by decide) ?_
      refine r_aload_n dL_law_1018 rfl ?_
      refine r_aload_n dL_law_1019 rfl ?_
      refine r_iload_n dL_law_1020 rfl ?_
      refine r_iconst dL_law_1021 ci_1 ?_
      refine r_iadd dL_law_1022 ?_
      refine g_sld hL dL_law_1023 (fun hg333 => ?_)
      refine u_X7_count (ok_X7_count g s0 (xs ((x3 + 1)).toNatClampNeg)) dL_law_1024 ml_L_125 (Nat.le_of_ble_eq_true rfl) (fits_l (by decide) (by decide)) room_l (fun q335 => ?_)
      refine r_aload_n dL_law_1027 rfl ?_
      refine r_aload_n dL_law_1028 rfl ?_
      refine r_iload_n dL_law_1029 rfl ?_
      refine r_iconst dL_law_1030 ci_1 ?_
      refine r_iadd dL_law_1031 ?_
      refine g_sld hL dL_law_1032 (fun hg336 => ?_)
      refine u_X8_count (ok_X8_count g s0 (xs ((x3 + 1)).toNatClampNeg)) dL_law_1033 ml_L_128 (Nat.le_of_ble_eq_true rfl) (fits_l (by decide) (by decide)) room_l (fun q338 => ?_)
      refine r_iceq dL_law_1036 (tgt := 1254) (by decide) (fun c339 => ?_) (fun c339 => ?_)
      · refine r_iincN dL_law_1254 rfl ci_6 rfl (lt_b rfl) (fun v340 => ?_)
        refine r_goto dL_law_1257 (tgt := 18) (by decide) ?_
        exact r_mask [true, true, true, true] (hk18 s0 v340)
      · refine r_iconst dL_law_1039 ci_0 ?_
        exact r_none
    refine r_by (fun e341 => ?_) (fun e341 => ?_)
    · refine r_tabIn dL_law_33 e341 (z := 27) (by decide) (by decide) (by decide) (off := 1008) rfl (tgt := 1041) (by decide) ?_
      refine r_aload_n dL_law_1041 rfl ?_
      refine r_aload_n dL_law_1042 rfl ?_
      refine r_iload_n dL_law_1043 rfl ?_
      refine r_iconst dL_law_1044 ci_1 ?_
      refine r_iadd dL_law_1045 ?_
      refine g_sld hL dL_law_1046 (fun hg342 => ?_)
      refine r_aload_n dL_law_1047 rfl ?_
      refine r_iload_n dL_law_1048 rfl ?_
      refine r_iconst dL_law_1049 ci_2 ?_
      refine r_iadd dL_law_1050 ?_
      refine g_sld hL dL_law_1051 (fun hg344 => ?_)
      refine r_aload_n dL_law_1052 rfl ?_
      refine r_iload_n dL_law_1053 rfl ?_
      refine r_iconst dL_law_1054 ci_3 ?_
      refine r_iadd dL_law_1055 ?_
      refine g_sld hL dL_law_1056 (fun hg346 => ?_)
      refine u_X7_tape (ok_X7_tape g s0 (xs ((x3 + 1)).toNatClampNeg) (xs ((x3 + 2)).toNatClampNeg) (xs ((x3 + 3)).toNatClampNeg)) dL_law_1057 ml_L_129 (Nat.le_of_ble_eq_true rfl) (fits_l (by decide) (by decide)) room_l (fun q348 => ?_)
      refine r_aload_n dL_law_1060 rfl ?_
      refine r_aload_n dL_law_1061 rfl ?_
      refine r_iload_n dL_law_1062 rfl ?_
      refine r_iconst dL_law_1063 ci_1 ?_
      refine r_iadd dL_law_1064 ?_
      refine g_sld hL dL_law_1065 (fun hg349 => ?_)
      refine r_aload_n dL_law_1066 rfl ?_
      refine r_iload_n dL_law_1067 rfl ?_
      refine r_iconst dL_law_1068 ci_2 ?_
      refine r_iadd dL_law_1069 ?_
      refine g_sld hL dL_law_1070 (fun hg351 => ?_)
      refine r_aload_n dL_law_1071 rfl ?_
      refine r_iload_n dL_law_1072 rfl ?_
      refine r_iconst dL_law_1073 ci_3 ?_
      refine r_iadd dL_law_1074 ?_
      refine g_sld hL dL_law_1075 (fun hg353 => ?_)
      refine u_X8_tape (ok_X8_tape g q348.2 (xs ((x3 + 1)).toNatClampNeg) (xs ((x3 + 2)).toNatClampNeg) (xs ((x3 + 3)).toNatClampNeg)) dL_law_1076 ml_L_132 (Nat.le_of_ble_eq_true rfl) (fits_l (by decide) (by decide)) room_l (fun q355 => ?_)
      refine r_iceq dL_law_1079 (tgt := 1254) (by decide) (fun c356 => ?_) (fun c356 => ?_)
      · refine r_iincN dL_law_1254 rfl ci_6 rfl (lt_b rfl) (fun v357 => ?_)
        refine r_goto dL_law_1257 (tgt := 18) (by decide) ?_
        exact r_mask [true, true, true, true] (hk18 q355.2 v357)
      · refine r_iconst dL_law_1082 ci_0 ?_
        exact r_none
    refine r_by (fun e358 => ?_) (fun e358 => ?_)
    · refine r_tabIn dL_law_33 e358 (z := 28) (by decide) (by decide) (by decide) (off := 1051) rfl (tgt := 1084) (by decide) ?_
      refine r_aload_n dL_law_1084 rfl ?_
      refine r_aload_n dL_law_1085 rfl ?_
      refine r_iload_n dL_law_1086 rfl ?_
      refine r_iconst dL_law_1087 ci_1 ?_
      refine r_iadd dL_law_1088 ?_
      refine g_sld hL dL_law_1089 (fun hg359 => ?_)
      refine r_aload_n dL_law_1090 rfl ?_
      refine r_iload_n dL_law_1091 rfl ?_
      refine r_iconst dL_law_1092 ci_2 ?_
      refine r_iadd dL_law_1093 ?_
      refine g_sld hL dL_law_1094 (fun hg361 => ?_)
      refine r_aload_n dL_law_1095 rfl ?_
      refine r_iload_n dL_law_1096 rfl ?_
      refine r_iconst dL_law_1097 ci_3 ?_
      refine r_iadd dL_law_1098 ?_
      refine g_sld hL dL_law_1099 (fun hg363 => ?_)
      refine r_i2l dL_law_1100 ?_
      refine r_bipush dL_law_1101 cb_32 ?_
      refine r_lshl dL_law_1103 ?_
      refine r_aload_n dL_law_1104 rfl ?_
      refine r_iload_n dL_law_1105 rfl ?_
      refine r_iconst dL_law_1106 ci_4 ?_
      refine r_iadd dL_law_1107 ?_
      refine g_sld hL dL_law_1108 (fun hg365 => ?_)
      refine r_i2l dL_law_1109 ?_
      refine r_ldc2 dL_law_1110 co_L_133 ?_
      refine r_land dL_law_1113 ?_
      refine r_lor dL_law_1114 ?_
      refine u_X7_item (ok_X7_item g s0 (xs ((x3 + 1)).toNatClampNeg) (xs ((x3 + 2)).toNatClampNeg) (((Int32.toInt64 (xs ((x3 + 3)).toNatClampNeg)) <<< (Int32.toInt64 32 &&& 63)) ||| ((Int32.toInt64 (xs ((x3 + 4)).toNatClampNeg)) &&& (4294967295 : Int64)))) dL_law_1115 ml_L_135 (Nat.le_of_ble_eq_true rfl) (fits_l (by decide) (by decide)) room_l (fun q367 => ?_)
      refine r_aload_n dL_law_1118 rfl ?_
      refine r_aload_n dL_law_1119 rfl ?_
      refine r_iload_n dL_law_1120 rfl ?_
      refine r_iconst dL_law_1121 ci_1 ?_
      refine r_iadd dL_law_1122 ?_
      refine g_sld hL dL_law_1123 (fun hg368 => ?_)
      refine r_aload_n dL_law_1124 rfl ?_
      refine r_iload_n dL_law_1125 rfl ?_
      refine r_iconst dL_law_1126 ci_2 ?_
      refine r_iadd dL_law_1127 ?_
      refine g_sld hL dL_law_1128 (fun hg370 => ?_)
      refine r_aload_n dL_law_1129 rfl ?_
      refine r_iload_n dL_law_1130 rfl ?_
      refine r_iconst dL_law_1131 ci_3 ?_
      refine r_iadd dL_law_1132 ?_
      refine g_sld hL dL_law_1133 (fun hg372 => ?_)
      refine r_i2l dL_law_1134 ?_
      refine r_bipush dL_law_1135 cb_32 ?_
      refine r_lshl dL_law_1137 ?_
      refine r_aload_n dL_law_1138 rfl ?_
      refine r_iload_n dL_law_1139 rfl ?_
      refine r_iconst dL_law_1140 ci_4 ?_
      refine r_iadd dL_law_1141 ?_
      refine g_sld hL dL_law_1142 (fun hg374 => ?_)
      refine r_i2l dL_law_1143 ?_
      refine r_ldc2 dL_law_1144 co_L_133 ?_
      refine r_land dL_law_1147 ?_
      refine r_lor dL_law_1148 ?_
      refine u_X8_item (ok_X8_item g q367.2 (xs ((x3 + 1)).toNatClampNeg) (xs ((x3 + 2)).toNatClampNeg) (((Int32.toInt64 (xs ((x3 + 3)).toNatClampNeg)) <<< (Int32.toInt64 32 &&& 63)) ||| ((Int32.toInt64 (xs ((x3 + 4)).toNatClampNeg)) &&& (4294967295 : Int64)))) dL_law_1149 ml_L_139 (Nat.le_of_ble_eq_true rfl) (fits_l (by decide) (by decide)) room_l (fun q376 => ?_)
      refine r_iceq dL_law_1152 (tgt := 1254) (by decide) (fun c377 => ?_) (fun c377 => ?_)
      · refine r_iincN dL_law_1254 rfl ci_6 rfl (lt_b rfl) (fun v378 => ?_)
        refine r_goto dL_law_1257 (tgt := 18) (by decide) ?_
        exact r_mask [true, true, true, true] (hk18 q376.2 v378)
      · refine r_iconst dL_law_1155 ci_0 ?_
        exact r_none
    refine r_by (fun e379 => ?_) (fun e379 => ?_)
    · refine r_tabIn dL_law_33 e379 (z := 29) (by decide) (by decide) (by decide) (off := 1124) rfl (tgt := 1157) (by decide) ?_
      refine r_aload_n dL_law_1157 rfl ?_
      refine r_aload_n dL_law_1158 rfl ?_
      refine r_iload_n dL_law_1159 rfl ?_
      refine r_iconst dL_law_1160 ci_1 ?_
      refine r_iadd dL_law_1161 ?_
      refine g_sld hL dL_law_1162 (fun hg380 => ?_)
      refine r_aload_n dL_law_1163 rfl ?_
      refine r_iload_n dL_law_1164 rfl ?_
      refine r_iconst dL_law_1165 ci_2 ?_
      refine r_iadd dL_law_1166 ?_
      refine g_sld hL dL_law_1167 (fun hg382 => ?_)
      refine u_X7_read (ok_X7_read g s0 (xs ((x3 + 1)).toNatClampNeg) (xs ((x3 + 2)).toNatClampNeg)) dL_law_1168 ml_L_140 (Nat.le_of_ble_eq_true rfl) (fits_l (by decide) (by decide)) room_l (fun q384 => ?_)
      refine r_aload_n dL_law_1171 rfl ?_
      refine r_aload_n dL_law_1172 rfl ?_
      refine r_iload_n dL_law_1173 rfl ?_
      refine r_iconst dL_law_1174 ci_1 ?_
      refine r_iadd dL_law_1175 ?_
      refine g_sld hL dL_law_1176 (fun hg385 => ?_)
      refine r_aload_n dL_law_1177 rfl ?_
      refine r_iload_n dL_law_1178 rfl ?_
      refine r_iconst dL_law_1179 ci_2 ?_
      refine r_iadd dL_law_1180 ?_
      refine g_sld hL dL_law_1181 (fun hg387 => ?_)
      refine u_X8_read (ok_X8_read g s0 (xs ((x3 + 1)).toNatClampNeg) (xs ((x3 + 2)).toNatClampNeg)) dL_law_1182 ml_L_143 (Nat.le_of_ble_eq_true rfl) (fits_l (by decide) (by decide)) room_l (fun q389 => ?_)
      refine r_lcmp dL_law_1185 ?_
      refine r_ifeq dL_law_1186 (tgt := 1254) (by decide) (fun c390 => ?_) (fun c390 => ?_)
      · refine r_iincN dL_law_1254 rfl ci_6 rfl (lt_b rfl) (fun v391 => ?_)
        refine r_goto dL_law_1257 (tgt := 18) (by decide) ?_
        exact r_mask [true, true, true, true] (hk18 s0 v391)
      · refine r_iconst dL_law_1189 ci_0 ?_
        exact r_none
    refine r_by (fun e392 => ?_) (fun e392 => ?_)
    · refine r_tabIn dL_law_33 e392 (z := 30) (by decide) (by decide) (by decide) (off := 1158) rfl (tgt := 1191) (by decide) ?_
      refine r_aload_n dL_law_1191 rfl ?_
      refine r_aload_n dL_law_1192 rfl ?_
      refine r_iload_n dL_law_1193 rfl ?_
      refine r_iconst dL_law_1194 ci_1 ?_
      refine r_iadd dL_law_1195 ?_
      refine g_sld hL dL_law_1196 (fun hg393 => ?_)
      refine r_aload_n dL_law_1197 rfl ?_
      refine r_iload_n dL_law_1198 rfl ?_
      refine r_iconst dL_law_1199 ci_2 ?_
      refine r_iadd dL_law_1200 ?_
      refine g_sld hL dL_law_1201 (fun hg395 => ?_)
      refine r_aload_n dL_law_1202 rfl ?_
      refine r_iload_n dL_law_1203 rfl ?_
      refine r_iconst dL_law_1204 ci_3 ?_
      refine r_iadd dL_law_1205 ?_
      refine g_sld hL dL_law_1206 (fun hg397 => ?_)
      refine r_aload_n dL_law_1207 rfl ?_
      refine r_iload_n dL_law_1208 rfl ?_
      refine r_iconst dL_law_1209 ci_4 ?_
      refine r_iadd dL_law_1210 ?_
      refine g_sld hL dL_law_1211 (fun hg399 => ?_)
      refine r_aload_n dL_law_1212 rfl ?_
      refine r_iload_n dL_law_1213 rfl ?_
      refine r_iconst dL_law_1214 ci_5 ?_
      refine r_iadd dL_law_1215 ?_
      refine g_sld hL dL_law_1216 (fun hg401 => ?_)
      refine u_X7_shift (ok_X7_shift g s0 (xs ((x3 + 1)).toNatClampNeg) (xs ((x3 + 2)).toNatClampNeg) (xs ((x3 + 3)).toNatClampNeg) (xs ((x3 + 4)).toNatClampNeg) (xs ((x3 + 5)).toNatClampNeg)) dL_law_1217 ml_L_144 (Nat.le_of_ble_eq_true rfl) (fits_l (by decide) (by decide)) room_l (fun q403 => ?_)
      refine r_aload_n dL_law_1220 rfl ?_
      refine r_aload_n dL_law_1221 rfl ?_
      refine r_iload_n dL_law_1222 rfl ?_
      refine r_iconst dL_law_1223 ci_1 ?_
      refine r_iadd dL_law_1224 ?_
      refine g_sld hL dL_law_1225 (fun hg404 => ?_)
      refine r_aload_n dL_law_1226 rfl ?_
      refine r_iload_n dL_law_1227 rfl ?_
      refine r_iconst dL_law_1228 ci_2 ?_
      refine r_iadd dL_law_1229 ?_
      refine g_sld hL dL_law_1230 (fun hg406 => ?_)
      refine r_aload_n dL_law_1231 rfl ?_
      refine r_iload_n dL_law_1232 rfl ?_
      refine r_iconst dL_law_1233 ci_3 ?_
      refine r_iadd dL_law_1234 ?_
      refine g_sld hL dL_law_1235 (fun hg408 => ?_)
      refine r_aload_n dL_law_1236 rfl ?_
      refine r_iload_n dL_law_1237 rfl ?_
      refine r_iconst dL_law_1238 ci_4 ?_
      refine r_iadd dL_law_1239 ?_
      refine g_sld hL dL_law_1240 (fun hg410 => ?_)
      refine r_aload_n dL_law_1241 rfl ?_
      refine r_iload_n dL_law_1242 rfl ?_
      refine r_iconst dL_law_1243 ci_5 ?_
      refine r_iadd dL_law_1244 ?_
      refine g_sld hL dL_law_1245 (fun hg412 => ?_)
      refine u_X8_shift (ok_X8_shift g q403.2 (xs ((x3 + 1)).toNatClampNeg) (xs ((x3 + 2)).toNatClampNeg) (xs ((x3 + 3)).toNatClampNeg) (xs ((x3 + 4)).toNatClampNeg) (xs ((x3 + 5)).toNatClampNeg)) dL_law_1246 ml_L_148 (Nat.le_of_ble_eq_true rfl) (fits_l (by decide) (by decide)) room_l (fun q414 => ?_)
      refine r_iceq dL_law_1249 (tgt := 1254) (by decide) (fun c415 => ?_) (fun c415 => ?_)
      · refine r_iincN dL_law_1254 rfl ci_6 rfl (lt_b rfl) (fun v416 => ?_)
        refine r_goto dL_law_1257 (tgt := 18) (by decide) ?_
        exact r_mask [true, true, true, true] (hk18 q414.2 v416)
      · refine r_iconst dL_law_1252 ci_0 ?_
        exact r_none
    refine r_tabOut dL_law_33 (by have a0 := sw_ne e4 (z := 0) (by decide); have a1 := sw_ne e25 (z := 1) (by decide); have a2 := sw_ne e38 (z := 2) (by decide); have a3 := sw_ne e55 (z := 3) (by decide); have a4 := sw_ne e68 (z := 4) (by decide); have a5 := sw_ne e85 (z := 5) (by decide); have a6 := sw_ne e94 (z := 6) (by decide); have a7 := sw_ne e99 (z := 7) (by decide); have a8 := sw_ne e108 (z := 8) (by decide); have a9 := sw_ne e117 (z := 9) (by decide); have a10 := sw_ne e130 (z := 10) (by decide); have a11 := sw_ne e147 (z := 11) (by decide); have a12 := sw_ne e164 (z := 12) (by decide); have a13 := sw_ne e183 (z := 13) (by decide); have a14 := sw_ne e200 (z := 14) (by decide); have a15 := sw_ne e217 (z := 15) (by decide); have a16 := sw_ne e230 (z := 16) (by decide); have a17 := sw_ne e243 (z := 17) (by decide); have a18 := sw_ne e252 (z := 18) (by decide); have a19 := sw_ne e265 (z := 19) (by decide); have a20 := sw_ne e270 (z := 20) (by decide); have a21 := sw_ne e283 (z := 21) (by decide); have a22 := sw_ne e288 (z := 22) (by decide); have a23 := sw_ne e293 (z := 23) (by decide); have a24 := sw_ne e310 (z := 24) (by decide); have a25 := sw_ne e319 (z := 25) (by decide); have a26 := sw_ne e332 (z := 26) (by decide); have a27 := sw_ne e341 (z := 27) (by decide); have a28 := sw_ne e358 (z := 28) (by decide); have a29 := sw_ne e379 (z := 29) (by decide); have a30 := sw_ne e392 (z := 30) (by decide); omega) (tgt := 1254) (by decide) ?_
    refine r_iincN dL_law_1254 rfl ci_6 rfl (lt_b rfl) (fun v417 => ?_)
    refine r_goto dL_law_1257 (tgt := 18) (by decide) ?_
    exact r_mask [true, true, true, true] (hk18 s0 v417)
theorem s_L_law_L18 (g : Gm) (b L : Nat) (xs : Nat → Int32) (hL : L ≤ 3072) : ∀ (n : Nat) (s0 : Sto) (x3 : Int32), Rf cvLaw (El g b L xs) kL_law 18 [some (.ref b), some (.ref ((El g b L xs).1.1 7 0 0)), some (.ref ((El g b L xs).1.1 8 0 0)), some (.int x3)] [] s0 (f_L_law_L18 L xs n s0 x3)
  | 0, _, _ => r_none
  | n + 1, s0, x3 => s_L_law_B18 g b L xs hL (f_L_law_L18 L xs n) (s_L_law_L18 g b L xs hL n) s0 x3
