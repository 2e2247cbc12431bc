-- a PASS in both: the class's steps and the reference's codes
def StR (st lt nb c : Int32) : Prop := (c = 0 ∧ st = 33) ∨ (c = 1 ∧ st = 38) ∨ (c = 2 ∧ st = 124) ∨ ∃ l s v : Nat, l < 6 ∧ s < 3 ∧ v < 100 ∧ c = nI (3 + 300 * l + 100 * s + v) ∧ st = nI (60 + s) ∧ lt = nI l ∧ nb = nI v
def snN (wd nu : Nat → Int32) : Nat → Int32
  | 0 => 0
  | i + 1 => if wd i = 2 then nu i else snN wd nu i
/-- how many answers a row of codes leaves, out of d -/
def dp : List Int32 → Nat → Option Nat
  | [] => fun d => some d
  | c :: cs => fun d => if c = 0 then (if 1 ≤ d then dp cs d else none) else if c = 1 ∨ c = 2 then (if 2 ≤ d then dp cs (d - 1) else none) else (if d < 30 then dp cs (d + 1) else none)
def RCx (st lt nb : Nat → Int32) (wd nu be le code : Nat → Int32) (cd : Int32) (C : Nat → List Int32) (P : Nat → Nat) (i : Nat) : Prop :=
  (wd i = 0 ∨ wd i = 1 ∨ wd i = 2) ∧ (0 ≤ nu i ∧ nu i ≤ 99) ∧ (wd i = 2 → P (i + 1) = P i) ∧ (wd i ≠ 2 → P (i + 1) = P i + (C i).length + 1 ∧ le i = nI (C i).length ∧ (∃ b : Nat, be i = nI b ∧ ((b + (C i).length : Nat) : Int) ≤ cd.toInt ∧ ∀ (j : Nat) (h : j < (C i).length), code (b + j) = (C i)[j] ∧ StR (st (P i + j)) (lt (P i + j)) (nb (P i + j)) (C i)[j]) ∧ st (P i + (C i).length) = 59 ∧ nb (P i + (C i).length) = (if wd i = 0 then nu i else - nu i) ∧ dp (C i) 0 = some 1)
def RPx (st lt nb : Nat → Int32) (size snow cls : Int32) (wd nu be le code : Nat → Int32) (cd : Int32) : Prop :=
  ∃ (m : Nat) (C : Nat → List Int32) (P : Nat → Nat), m ≤ 10 ∧ cls = nI m ∧ P 0 = 0 ∧ size = nI (P m) ∧ P m ≤ 100 ∧ snow = snN wd nu m ∧ ∀ i : Nat, i < m → RCx st lt nb wd nu be le code cd C P i
def RP (σ : Sto) (k : Nat) : Prop := RPx (σ.2.1 1 0 k) (σ.2.1 1 1 k) (σ.2.1 1 2 k) (σ.1 1 3 k) (σ.1 1 4 k) (σ.2.1 8 15 0 k) (fun i => σ.2.1 8 16 0 (10 * k + i)) (fun i => σ.2.1 8 17 0 (10 * k + i)) (fun i => σ.2.1 8 18 0 (10 * k + i)) (fun i => σ.2.1 8 19 0 (10 * k + i)) (σ.2.1 8 20 0) (σ.1 8 21 0)
def Ps (σ : Sto) : Prop := (σ.1 1 3 6 = 0 ∧ σ.1 1 4 6 = 0) ∧ ∀ k : Nat, (k : Int) < (σ.1 8 13 0).toInt → RP σ k
def Pc (σ : Sto) : Prop := σ.1 7 7 0 = σ.1 8 13 0 ∧ 0 ≤ σ.1 8 13 0 ∧ σ.1 8 13 0 ≤ 6 ∧ 0 ≤ σ.1 8 21 0 ∧ (σ.1 8 21 0).toInt ≤ 100 * (σ.1 8 13 0).toInt
def Im (σ : Sto) : Prop := σ.1 7 2 0 = σ.1 8 35 0 ∧ (σ.1 8 35 0 = 0 ∨ (σ.1 8 35 0 = 1 ∧ RW σ 1 (σ.2.1 8 36 0))) ∧ σ.1 2 0 3 = 5 ∧ σ.1 2 0 4 = 10 ∧ σ.1 2 0 5 = 8
def Inv (σ : Sto) : Prop := W0 σ ∧ I_tx σ ∧ I_ac σ ∧ I_tp σ ∧ Im σ ∧ Pc σ ∧ Ps σ
-- what each part reads, and that it holds where nothing of that has changed
theorem FrE.f {fs as ls : List (Nat × Nat × Nat)} {σ σ' : Sto} (e : FrE fs as ls σ σ') {b : Nat × Nat × Nat → Prop} (hn : ∀ x ∈ fs, ¬ b x) {c k i : Nat} (hb : b (c, k, grp c i)) : σ'.1 c k i = σ.1 c k i := e.1 c k i (fun q => hn _ q hb)
theorem FrE.a {fs as ls : List (Nat × Nat × Nat)} {σ σ' : Sto} (e : FrE fs as ls σ σ') {b : Nat × Nat × Nat → Prop} (hn : ∀ x ∈ as, ¬ b x) {c k i : Nat} (hb : b (c, k, grp c i)) : σ'.2.1 c k i = σ.2.1 c k i := e.2.1 c k i (fun q => hn _ q hb)
theorem FrE.l {fs as ls : List (Nat × Nat × Nat)} {σ σ' : Sto} (e : FrE fs as ls σ σ') {b : Nat × Nat × Nat → Prop} (hn : ∀ x ∈ ls, ¬ b x) {c k i : Nat} (hb : b (c, k, grp c i)) : σ'.2.2.1 c k i = σ.2.2.1 c k i := e.2.2 c k i (fun q => hn _ q hb)
abbrev bf_Wt (x : Nat × Nat × Nat) : Prop := (x.1 = 5 ∧ x.2.2 = 0)
abbrev ba_Wt (x : Nat × Nat × Nat) : Prop := (x.1 = 5 ∧ x.2.1 = 5 ∧ x.2.2 = 0) ∨ (x.1 = 8 ∧ x.2.1 = 1) ∨ (x.1 = 8 ∧ x.2.1 = 2) ∨ (x.1 = 8 ∧ x.2.1 = 3) ∨ (x.1 = 8 ∧ x.2.1 = 4) ∨ (x.1 = 8 ∧ x.2.1 = 5)
abbrev bf_Wn (x : Nat × Nat × Nat) : Prop := (x.1 = 6 ∧ x.2.2 = 0) ∨ (x.1 = 8 ∧ x.2.1 = 0) ∨ (x.1 = 8 ∧ x.2.1 = 6) ∨ (x.1 = 8 ∧ x.2.1 = 14) ∨ (x.1 = 7 ∧ x.2.1 = 7)
abbrev bf_Ws (x : Nat × Nat × Nat) : Prop := (x.1 = 2 ∧ x.2.2 = 0) ∨ (x.1 = 8 ∧ x.2.1 = 23)
abbrev ba_Ws (x : Nat × Nat × Nat) : Prop := (x.1 = 2 ∧ x.2.2 = 0) ∨ (x.1 = 8 ∧ x.2.1 = 24) ∨ (x.1 = 8 ∧ x.2.1 = 25) ∨ (x.1 = 8 ∧ x.2.1 = 26)
abbrev bf_Wp (x : Nat × Nat × Nat) : Prop := (x.1 = 2 ∧ x.2.2 = 0) ∨ (x.1 = 8 ∧ x.2.1 = 27) ∨ (x.1 = 8 ∧ x.2.1 = 0)
abbrev ba_Wp (x : Nat × Nat × Nat) : Prop := (x.1 = 2 ∧ x.2.2 = 0) ∨ (x.1 = 8 ∧ x.2.1 = 28) ∨ (x.1 = 8 ∧ x.2.1 = 29)
abbrev bf_Wb (x : Nat × Nat × Nat) : Prop := (x.1 = 2 ∧ x.2.2 = 0) ∨ (x.1 = 8 ∧ x.2.1 = 30) ∨ (x.1 = 8 ∧ x.2.1 = 0)
abbrev ba_Wb (x : Nat × Nat × Nat) : Prop := (x.1 = 2 ∧ x.2.2 = 0) ∨ (x.1 = 8 ∧ x.2.1 = 31) ∨ (x.1 = 8 ∧ x.2.1 = 32)
abbrev bf_I_tx (x : Nat × Nat × Nat) : Prop := (x.1 = 4 ∧ x.2.1 = 1) ∨ (x.1 = 8 ∧ x.2.1 = 7)
abbrev ba_I_tx (x : Nat × Nat × Nat) : Prop := (x.1 = 4 ∧ x.2.1 = 0) ∨ (x.1 = 8 ∧ x.2.1 = 8)
abbrev bf_I_ac (x : Nat × Nat × Nat) : Prop := (x.1 = 0 ∧ x.2.1 = 1) ∨ (x.1 = 8 ∧ x.2.1 = 33)
abbrev ba_I_ac (x : Nat × Nat × Nat) : Prop := (x.1 = 0 ∧ x.2.1 = 0) ∨ (x.1 = 8 ∧ x.2.1 = 34)
abbrev bf_I_tp (x : Nat × Nat × Nat) : Prop := (x.1 = 3)
abbrev ba_I_tp (x : Nat × Nat × Nat) : Prop := (x.1 = 8 ∧ x.2.1 = 40) ∨ (x.1 = 8 ∧ x.2.1 = 41)
abbrev bl_I_tp (x : Nat × Nat × Nat) : Prop := (x.1 = 3) ∨ (x.1 = 8 ∧ x.2.1 = 42)
abbrev bf_Im (x : Nat × Nat × Nat) : Prop := (x.1 = 5 ∧ x.2.2 = 1) ∨ (x.1 = 6 ∧ x.2.2 = 1) ∨ (x.1 = 2 ∧ x.2.2 = 1) ∨ (x.1 = 7 ∧ x.2.1 = 7) ∨ (x.1 = 7 ∧ x.2.1 = 2) ∨ (x.1 = 8 ∧ x.2.1 = 35)
abbrev ba_Im (x : Nat × Nat × Nat) : Prop := (x.1 = 5 ∧ x.2.1 = 5 ∧ x.2.2 = 1) ∨ (x.1 = 2 ∧ x.2.2 = 1) ∨ (x.1 = 8 ∧ x.2.1 = 36)
abbrev bf_Pc (x : Nat × Nat × Nat) : Prop := (x.1 = 7 ∧ x.2.1 = 7) ∨ (x.1 = 8 ∧ x.2.1 = 13) ∨ (x.1 = 8 ∧ x.2.1 = 21)
abbrev bf_Ps (x : Nat × Nat × Nat) : Prop := (x.1 = 1) ∨ (x.1 = 8 ∧ x.2.1 = 13) ∨ (x.1 = 8 ∧ x.2.1 = 21)
abbrev ba_Ps (x : Nat × Nat × Nat) : Prop := (x.1 = 1) ∨ (x.1 = 8 ∧ x.2.1 = 15) ∨ (x.1 = 8 ∧ x.2.1 = 16) ∨ (x.1 = 8 ∧ x.2.1 = 17) ∨ (x.1 = 8 ∧ x.2.1 = 18) ∨ (x.1 = 8 ∧ x.2.1 = 19) ∨ (x.1 = 8 ∧ x.2.1 = 20)
theorem Wn_fr {fs as ls : List (Nat × Nat × Nat)} {σ σ' : Sto} (h : Wn σ) (e : FrE fs as ls σ σ') (hf : ∀ x ∈ fs, ¬ bf_Wn x) : Wn σ' := by
  unfold Wn at *
  rw [e.f (c := 6) (k := 1) (i := 0) hf (by decide)]
  rw [e.f (c := 6) (k := 2) (i := 0) hf (by decide)]
  rw [e.f (c := 6) (k := 3) (i := 0) hf (by decide)]
  rw [e.f (c := 8) (k := 0) (i := 0) hf (by decide)]
  rw [e.f (c := 8) (k := 6) (i := 0) hf (by decide)]
  rw [e.f (c := 8) (k := 14) (i := 0) hf (by decide)]
  rw [e.f (c := 7) (k := 7) (i := 0) hf (by decide)]
  exact h
theorem Ws_fr {fs as ls : List (Nat × Nat × Nat)} {σ σ' : Sto} (h : Ws σ) (e : FrE fs as ls σ σ') (hf : ∀ x ∈ fs, ¬ bf_Ws x) (ha : ∀ x ∈ as, ¬ ba_Ws x) : Ws σ' := by
  unfold Ws at *
  rw [e.f (c := 2) (k := 0) (i := 0) hf (by decide)]
  rw [e.f (c := 2) (k := 4) (i := 0) hf (by decide)]
  rw [e.f (c := 8) (k := 23) (i := 0) hf (by decide)]
  rw [e.a (c := 2) (k := 1) (i := 0) ha (by decide)]
  rw [e.a (c := 2) (k := 2) (i := 0) ha (by decide)]
  rw [e.a (c := 2) (k := 3) (i := 0) ha (by decide)]
  rw [e.a (c := 8) (k := 24) (i := 0) ha (by decide)]
  rw [e.a (c := 8) (k := 25) (i := 0) ha (by decide)]
  rw [e.a (c := 8) (k := 26) (i := 0) ha (by decide)]
  exact h
theorem Wp_fr {fs as ls : List (Nat × Nat × Nat)} {σ σ' : Sto} (h : Wp σ) (e : FrE fs as ls σ σ') (hf : ∀ x ∈ fs, ¬ bf_Wp x) (ha : ∀ x ∈ as, ¬ ba_Wp x) : Wp σ' := by
  unfold Wp at *
  rw [e.f (c := 2) (k := 0) (i := 1) hf (by decide)]
  rw [e.f (c := 2) (k := 4) (i := 1) hf (by decide)]
  rw [e.f (c := 8) (k := 27) (i := 0) hf (by decide)]
  rw [e.f (c := 8) (k := 0) (i := 0) hf (by decide)]
  rw [e.a (c := 2) (k := 1) (i := 1) ha (by decide)]
  rw [e.a (c := 2) (k := 2) (i := 1) ha (by decide)]
  rw [e.a (c := 8) (k := 28) (i := 0) ha (by decide)]
  rw [e.a (c := 8) (k := 29) (i := 0) ha (by decide)]
  exact h
theorem Wb_fr {fs as ls : List (Nat × Nat × Nat)} {σ σ' : Sto} (h : Wb σ) (e : FrE fs as ls σ σ') (hf : ∀ x ∈ fs, ¬ bf_Wb x) (ha : ∀ x ∈ as, ¬ ba_Wb x) : Wb σ' := by
  unfold Wb at *
  rw [e.f (c := 2) (k := 0) (i := 2) hf (by decide)]
  rw [e.f (c := 2) (k := 4) (i := 2) hf (by decide)]
  rw [e.f (c := 8) (k := 30) (i := 0) hf (by decide)]
  rw [e.f (c := 8) (k := 0) (i := 0) hf (by decide)]
  rw [e.a (c := 2) (k := 1) (i := 2) ha (by decide)]
  rw [e.a (c := 2) (k := 2) (i := 2) ha (by decide)]
  rw [e.a (c := 8) (k := 31) (i := 0) ha (by decide)]
  rw [e.a (c := 8) (k := 32) (i := 0) ha (by decide)]
  exact h
theorem I_tx_fr {fs as ls : List (Nat × Nat × Nat)} {σ σ' : Sto} (h : I_tx σ) (e : FrE fs as ls σ σ') (hf : ∀ x ∈ fs, ¬ bf_I_tx x) (ha : ∀ x ∈ as, ¬ ba_I_tx x) : I_tx σ' := by
  unfold I_tx at *
  rw [e.f (c := 4) (k := 1) (i := 0) hf (by decide)]
  rw [e.f (c := 8) (k := 7) (i := 0) hf (by decide)]
  rw [e.a (c := 4) (k := 0) (i := 0) ha (by decide)]
  rw [e.a (c := 8) (k := 8) (i := 0) ha (by decide)]
  exact h
theorem I_ac_fr {fs as ls : List (Nat × Nat × Nat)} {σ σ' : Sto} (h : I_ac σ) (e : FrE fs as ls σ σ') (hf : ∀ x ∈ fs, ¬ bf_I_ac x) (ha : ∀ x ∈ as, ¬ ba_I_ac x) : I_ac σ' := by
  unfold I_ac at *
  rw [e.f (c := 0) (k := 1) (i := 0) hf (by decide)]
  rw [e.f (c := 8) (k := 33) (i := 0) hf (by decide)]
  rw [e.a (c := 0) (k := 0) (i := 0) ha (by decide)]
  rw [e.a (c := 8) (k := 34) (i := 0) ha (by decide)]
  exact h
theorem Pc_fr {fs as ls : List (Nat × Nat × Nat)} {σ σ' : Sto} (h : Pc σ) (e : FrE fs as ls σ σ') (hf : ∀ x ∈ fs, ¬ bf_Pc x) : Pc σ' := by
  unfold Pc at *
  rw [e.f (c := 7) (k := 7) (i := 0) hf (by decide)]
  rw [e.f (c := 8) (k := 13) (i := 0) hf (by decide)]
  rw [e.f (c := 8) (k := 21) (i := 0) hf (by decide)]
  exact h
theorem Wt_fr {fs as ls : List (Nat × Nat × Nat)} {σ σ' : Sto} (h : Wt σ) (e : FrE fs as ls σ σ') (hf : ∀ x ∈ fs, ¬ bf_Wt x) (ha : ∀ x ∈ as, ¬ ba_Wt x) : Wt σ' := by
  intro p hp
  have g := grp5a hp
  rw [e.f (c := 5) (k := 0) (i := p) hf ⟨rfl, g⟩, e.f (c := 5) (k := 1) (i := p) hf ⟨rfl, g⟩, e.f (c := 5) (k := 2) (i := p) hf ⟨rfl, g⟩, e.f (c := 5) (k := 3) (i := p) hf ⟨rfl, g⟩, e.f (c := 5) (k := 4) (i := p) hf ⟨rfl, g⟩, e.a (c := 5) (k := 5) (i := p) ha (Or.inl ⟨rfl, rfl, g⟩), e.a (c := 8) (k := 1) (i := 0) ha (by decide), e.a (c := 8) (k := 2) (i := 0) ha (by decide), e.a (c := 8) (k := 3) (i := 0) ha (by decide), e.a (c := 8) (k := 4) (i := 0) ha (by decide), e.a (c := 8) (k := 5) (i := 0) ha (by decide)]
  exact h p hp
theorem I_tp_fr {fs as ls : List (Nat × Nat × Nat)} {σ σ' : Sto} (h : I_tp σ) (e : FrE fs as ls σ σ') (hf : ∀ x ∈ fs, ¬ bf_I_tp x) (ha : ∀ x ∈ as, ¬ ba_I_tp x) (hl : ∀ x ∈ ls, ¬ bl_I_tp x) : I_tp σ' := by
  intro t ht
  rw [e.f (c := 3) (k := 1) (i := t) hf rfl, e.f (c := 3) (k := 2) (i := t) hf rfl, e.a (c := 8) (k := 40) (i := 0) ha (by decide), e.a (c := 8) (k := 41) (i := 0) ha (by decide), e.l (c := 3) (k := 0) (i := t) hl (Or.inl rfl), e.l (c := 8) (k := 42) (i := 0) hl (by decide)]
  exact h t ht
theorem RW1_fr {fs as ls : List (Nat × Nat × Nat)} {σ σ' : Sto} {s : Nat → Int32} (h : RW σ 1 s) (e : FrE fs as ls σ σ') (hf : ∀ x ∈ fs, ¬ bf_Im x) (ha : ∀ x ∈ as, ¬ ba_Im x) : RW σ' 1 s := by
  obtain ⟨h1, h2, h3, h4, h5⟩ := h
  refine ⟨?_, ?_, ?_, ?_, ?_⟩
  · intro p hp
    have g : grp 5 (6 * 1 + p) = 1 := grp5b hp
    rw [e.f (c := 5) (k := 0) (i := 6 * 1 + p) hf (Or.inl ⟨rfl, g⟩), e.f (c := 5) (k := 1) (i := 6 * 1 + p) hf (Or.inl ⟨rfl, g⟩), e.f (c := 5) (k := 2) (i := 6 * 1 + p) hf (Or.inl ⟨rfl, g⟩), e.f (c := 5) (k := 3) (i := 6 * 1 + p) hf (Or.inl ⟨rfl, g⟩), e.f (c := 5) (k := 4) (i := 6 * 1 + p) hf (Or.inl ⟨rfl, g⟩), e.a (c := 5) (k := 5) (i := 6 * 1 + p) ha (Or.inl ⟨rfl, rfl, g⟩)]
    exact h1 p hp
  · unfold RWn at *
    rw [e.f (c := 6) (k := 1) (i := 1) hf (by decide), e.f (c := 6) (k := 2) (i := 1) hf (by decide), e.f (c := 6) (k := 3) (i := 1) hf (by decide), e.f (c := 7) (k := 7) (i := 0) hf (by decide)]
    exact h2
  · unfold RWs at *
    rw [e.f (c := 2) (k := 0) (i := 3 * 1) hf (by decide), e.f (c := 2) (k := 4) (i := 3 * 1) hf (by decide), e.a (c := 2) (k := 1) (i := 3 * 1) ha (by decide), e.a (c := 2) (k := 2) (i := 3 * 1) ha (by decide), e.a (c := 2) (k := 3) (i := 3 * 1) ha (by decide)]
    exact h3
  · unfold RWp at *
    rw [e.f (c := 2) (k := 0) (i := 3 * 1 + 1) hf (by decide), e.f (c := 2) (k := 4) (i := 3 * 1 + 1) hf (by decide), e.a (c := 2) (k := 1) (i := 3 * 1 + 1) ha (by decide), e.a (c := 2) (k := 2) (i := 3 * 1 + 1) ha (by decide)]
    exact h4
  · unfold RWb at *
    rw [e.f (c := 2) (k := 0) (i := 3 * 1 + 2) hf (by decide), e.f (c := 2) (k := 4) (i := 3 * 1 + 2) hf (by decide), e.a (c := 2) (k := 1) (i := 3 * 1 + 2) ha (by decide), e.a (c := 2) (k := 2) (i := 3 * 1 + 2) ha (by decide)]
    exact h5
theorem Im_fr {fs as ls : List (Nat × Nat × Nat)} {σ σ' : Sto} (h : Im σ) (e : FrE fs as ls σ σ') (hf : ∀ x ∈ fs, ¬ bf_Im x) (ha : ∀ x ∈ as, ¬ ba_Im x) : Im σ' := by
  unfold Im at *
  rw [e.f (c := 7) (k := 2) (i := 0) hf (by decide), e.f (c := 8) (k := 35) (i := 0) hf (by decide), e.a (c := 8) (k := 36) (i := 0) ha (by decide)]
  rw [e.f (c := 2) (k := 0) (i := 3) hf (by decide), e.f (c := 2) (k := 0) (i := 4) hf (by decide), e.f (c := 2) (k := 0) (i := 5) hf (by decide)]
  refine ⟨h.1, ?_, h.2.2⟩
  rcases h.2.1 with h2 | h2
  · exact Or.inl h2
  · exact Or.inr ⟨h2.1, RW1_fr h2.2 e hf ha⟩
theorem RP_fr {fs as ls : List (Nat × Nat × Nat)} {σ σ' : Sto} {k : Nat} (h : RP σ k) (e : FrE fs as ls σ σ') (hf : ∀ x ∈ fs, ¬ bf_Ps x) (ha : ∀ x ∈ as, ¬ ba_Ps x) : RP σ' k := by
  unfold RP at *
  rw [e.f (c := 1) (k := 3) (i := k) hf (Or.inl rfl), e.f (c := 1) (k := 4) (i := k) hf (Or.inl rfl), e.f (c := 8) (k := 21) (i := 0) hf (by decide), e.a (c := 1) (k := 0) (i := k) ha (Or.inl rfl), e.a (c := 1) (k := 1) (i := k) ha (Or.inl rfl), e.a (c := 1) (k := 2) (i := k) ha (Or.inl rfl)]
  rw [e.a (c := 8) (k := 15) (i := 0) ha (by decide), e.a (c := 8) (k := 16) (i := 0) ha (by decide), e.a (c := 8) (k := 17) (i := 0) ha (by decide), e.a (c := 8) (k := 18) (i := 0) ha (by decide), e.a (c := 8) (k := 19) (i := 0) ha (by decide), e.a (c := 8) (k := 20) (i := 0) ha (by decide)]
  exact h
theorem Ps_fr {fs as ls : List (Nat × Nat × Nat)} {σ σ' : Sto} (h : Ps σ) (e : FrE fs as ls σ σ') (hf : ∀ x ∈ fs, ¬ bf_Ps x) (ha : ∀ x ∈ as, ¬ ba_Ps x) : Ps σ' := by
  refine ⟨?_, fun k hk => ?_⟩
  · rw [e.f (c := 1) (k := 3) (i := 6) hf (Or.inl rfl), e.f (c := 1) (k := 4) (i := 6) hf (Or.inl rfl)]
    exact h.1
  · rw [e.f (c := 8) (k := 13) (i := 0) hf (by decide)] at hk
    exact RP_fr (h.2 k hk) e hf ha
