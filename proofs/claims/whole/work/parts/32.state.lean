/-! what a state is, for both; what each simple call does to it -/
abbrev Gr : Type := Nat × (Nat → Nat) × (Nat → Nat)
abbrev St : Type := (Nat → Option Nat) × (Nat → Nat → Int32) × (Nat → Option Gr) × (Int32 × (Nat → Int32)) × (Int64 × Int64)
def sSz (S : St) : Nat → Option Nat := S.1
def sBy (S : St) : Nat → Nat → Int32 := S.2.1
def sGr (S : St) : Nat → Option Gr := S.2.2.1
def sFi (S : St) : Int32 := S.2.2.2.1.1
def sFs (S : St) : Nat → Int32 := S.2.2.2.1.2
def sUp (S : St) : Int64 := S.2.2.2.2.1
def sLo (S : St) : Int64 := S.2.2.2.2.2
def fu {α : Type} (f : Nat → α) (k : Nat) (v : α) : Nat → α := fun j => if j = k then v else f j
theorem fu_at {α : Type} {f : Nat → α} {k : Nat} {v : α} : fu f k v k = v := if_pos rfl
theorem fu_ne {α : Type} {f : Nat → α} {k j : Nat} {v : α} (h : j ≠ k) : fu f k v j = f j := if_neg h
/-- a finding is met -/
def sMeet (S : St) (k : Nat) : St := (sSz S, sBy S, sGr S, (nI k, fu (sFs S) k (sFs S k + 1)), (sUp S, sLo S))
def sSetSheet (S : St) (s : Nat) (z : Option Nat) (b : Nat → Int32) : St := (fu (sSz S) s z, fu (sBy S) s b, sGr S, (sFi S, sFs S), (sUp S, sLo S))
def sSetGr (S : St) (g : Nat) (G : Option Gr) : St := (sSz S, sBy S, fu (sGr S) g G, (sFi S, sFs S), (sUp S, sLo S))
def sSetFr (S : St) (a b : Int64) : St := (sSz S, sBy S, sGr S, (sFi S, sFs S), (a, b))
/-- a ground -/
def Gd (G : Gr) : Prop := 1 ≤ G.1 ∧ G.1 ≤ 8 ∧ Prm G.1 G.2.1 ∧ Prm G.1 G.2.2
def Conn (n : Nat) (R U : Nat → Nat) : Prop := ∀ X : Nat → Prop, (∀ q, q < n → X q → X (R q) ∧ X (U q)) → (∃ q, q < n ∧ X q) → ∀ q, q < n → X q
def Wf (S : St) : Prop := (∀ s n, s < 4 → sSz S s = some n → n ≤ 8) ∧ (∀ s i, s < 4 → i < 8 → fits .byte (.int (sBy S s i)) = true) ∧ (∀ g G, g < 10 → sGr S g = some G → Gd G ∧ Conn G.1 G.2.1 G.2.2)
theorem Wf.meet {S : St} (h : Wf S) (k : Nat) : Wf (sMeet S k) := h
theorem Wf.fr {S : St} (h : Wf S) (a b : Int64) : Wf (sSetFr S a b) := h
/-! calls that need no ground's inside -/
def isIn (n : Nat) (x : Int32) : Bool := decide (0 ≤ x) && decide (x < nI n)
theorem isIn_ok {n : Nat} {x : Int32} (hn : n < 2000000000) (h : isIn n x = true) : ∃ q, q < n ∧ x = nI q ∧ x.toNatClampNeg = q := by
  unfold isIn at h
  simp only [Bool.and_eq_true, decide_eq_true_eq] at h
  rcases pk_ix x (n := n) (by omega) with z | z | ⟨q, h1, h2⟩
  · rw [Int32.lt_iff_toInt_lt] at z
    rw [Int32.le_iff_toInt_le] at h
    omega
  · have h2 := h.2
    rw [Int32.lt_iff_toInt_lt] at h2
    rw [Int32.le_iff_toInt_le] at z
    omega
  · exact ⟨q, h1, h2, by rw [h2]; exact nI_clamp (by omega)⟩
theorem isIn_nI {n q : Nat} (hn : n < 2000000000) (hq : q < n) : isIn n (nI q) = true := by
  unfold isIn
  simp only [Bool.and_eq_true, decide_eq_true_eq]
  exact ⟨nI_pos' (by omega), nI_lt hq (by omega)⟩
def spSheet (S : St) (s n : Int32) : Int32 × St :=
  if isIn 4 s = false ∨ 8 < n then (-1, S) else if n < 0 then (-3, sMeet S 5) else (n, sSetSheet S s.toNatClampNeg (some n.toNatClampNeg) (fun _ => 0))
def spLay (S : St) (s i v : Int32) : Int32 × St :=
  if isIn 4 s = false then (-1, S) else match sSz S s.toNatClampNeg with
    | none => (-3, sMeet S 1)
    | some n => if isIn n i = false then (-3, sMeet S 2) else (sBy S s.toNatClampNeg i.toNatClampNeg + 1000, sSetSheet S s.toNatClampNeg (some n) (upd (sBy S s.toNatClampNeg) i.toNatClampNeg v.toInt8.toInt32))
def spTear (S : St) (s : Int32) : Int32 × St :=
  if isIn 4 s = false then (-1, S) else match sSz S s.toNatClampNeg with
    | none => (-3, sMeet S 1)
    | some _ => (1, sSetSheet S s.toNatClampNeg none (sBy S s.toNatClampNeg))
def spFindings (S : St) (f : Int32) : Int32 := if isIn 6 f = true ∧ f ≠ 0 then sFs S f.toNatClampNeg else -1
/-- the reference holds S -/
def MoAt (S : St) (mi : Nat → Int32) (ml : Nat → Int64) (ma : Nat → Nat → Int32) : Prop :=
  mi 0 = sFi S ∧ (∀ k, k < 6 → ma 108 k = sFs S k) ∧ (∀ s, s < 4 → ma 109 s = match sSz S s with
    | none => -9
    | some n => nI n) ∧ (∀ s i, s < 4 → i < 8 → ma 110 (8 * s + i) = sBy S s i) ∧ (∀ g, g < 10 → ma 116 g = match sGr S g with
    | none => 0
    | some G => nI G.1) ∧ (∀ g G, g < 10 → sGr S g = some G → ∀ q, q < G.1 → ma 117 (8 * g + q) = nI (G.2.1 q) ∧ ma 118 (8 * g + q) = nI (G.2.2 q)) ∧ ml 21 = sUp S ∧ ml 22 = sLo S
/-- only these arrays change -/
def Sm (l : List Nat) (ma ma' : Nat → Nat → Int32) : Prop := ∀ a, a ∉ l → ma' a = ma a
theorem Sm.rf {l : List Nat} {ma : Nat → Nat → Int32} : Sm l ma ma := fun _ _ => rfl
theorem Sm.tr {l : List Nat} {ma ma' ma'' : Nat → Nat → Int32} (h1 : Sm l ma ma') (h2 : Sm l ma' ma'') : Sm l ma ma'' := fun a h => (h2 a h).trans (h1 a h)
theorem Sm.up {l : List Nat} {ma : Nat → Nat → Int32} {a q : Nat} {v : Int32} (h : a ∈ l) : Sm l ma (mup ma a q v) := fun b hb => mup_ne (fun e => hb (e ▸ h))
theorem Sm.sub {l l' : List Nat} {ma ma' : Nat → Nat → Int32} (h : Sm l ma ma') (hs : ∀ a ∈ l, a ∈ l') : Sm l' ma ma' := fun a ha => h a (fun z => ha (hs a z))
def mScr : List Nat := [111, 112, 113, 114, 115, 119, 120, 121, 122, 123, 124, 125, 126, 127, 128, 129, 130, 131]
theorem MoAt.keep {S : St} {mi mi' : Nat → Int32} {ml ml' : Nat → Int64} {ma ma' : Nat → Nat → Int32} (h : MoAt S mi ml ma) (hm : Sm mScr ma ma') (hi : mi' 0 = mi 0) (h1 : ml' 21 = ml 21) (h2 : ml' 22 = ml 22) : MoAt S mi' ml' ma' := by
  obtain ⟨a1, a2, a3, a4, a5, a6, a7, a8⟩ := h
  have e : ∀ a, a ∉ mScr → ma' a = ma a := hm
  rw [← e 108 (by decide)] at a2
  rw [← e 109 (by decide)] at a3
  rw [← e 110 (by decide)] at a4
  rw [← e 116 (by decide)] at a5
  rw [← e 117 (by decide), ← e 118 (by decide)] at a6
  exact ⟨hi.trans a1, a2, a3, a4, a5, a6, h1.trans a7, h2.trans a8⟩
