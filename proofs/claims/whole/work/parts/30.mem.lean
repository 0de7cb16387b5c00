/-! the heap behind the constructors: 132 cells, as a function -/
def HF (f : Nat → mCell) : mHeap := (List.range 132).map f
def up (f : Nat → mCell) (a : Nat) (c : mCell) : Nat → mCell := fun i => if i = a then c else f i
theorem up_at {f : Nat → mCell} {a : Nat} {c : mCell} : up f a c a = c := if_pos rfl
theorem up_ne {f : Nat → mCell} {a b : Nat} {c : mCell} (h : b ≠ a) : up f a c b = f b := if_neg h
theorem HF_at {f : Nat → mCell} {a : Nat} (h : a < 132) : (HF f)[a]? = some (f a) := by
  unfold HF
  rw [List.getElem?_map, List.getElem?_range h]
  rfl
theorem HF_set {f : Nat → mCell} {a : Nat} {c : mCell} : (HF f).set a c = HF (up f a c) := by
  apply List.ext_getElem?
  intro k
  rw [List.getElem?_set]
  unfold HF
  simp only [List.getElem?_map, List.length_map, List.length_range]
  by_cases hk : k < 132
  · rw [List.getElem?_range hk]
    by_cases e : a = k
    · subst e
      rw [if_pos rfl, if_pos hk]
      simp only [Option.map_some, up_at]
    · rw [if_neg e]
      simp only [Option.map_some]
      rw [up_ne (fun z => e z.symm)]
  · have hn : (List.range 132)[k]? = none := by rw [List.getElem?_eq_none]; simp; omega
    rw [hn]
    by_cases e : a = k
    · rw [if_pos e, if_neg (by omega)]; rfl
    · rw [if_neg e]; rfl
theorem HF_ext {f g : Nat → mCell} (h : ∀ a, a < 132 → f a = g a) : HF f = HF g := List.map_congr_left (fun a ha => h a (List.mem_range.mp ha))
section RD
variable {f : Nat → mCell} {a ci k n q : Nat} {fs : List Value} {g : Nat → Int32} {gl : Nat → Int64} {gr : Nat → Option Nat}
theorem gI_of (ha : a < 132) (hf : f a = .inr (ci, fs)) {x : Int32} (hk : fs[k]? = some (.int x)) : gI (HF f) a ci k = some x := by
  simp only [gI, cFld, HF_at ha, hf, if_true, hk]
theorem gL_of (ha : a < 132) (hf : f a = .inr (ci, fs)) {x : Int64} (hk : fs[k]? = some (.long x)) : gL (HF f) a ci k = some x := by
  simp only [gL, cFld, HF_at ha, hf, if_true, hk]
theorem gR_of (ha : a < 132) (hf : f a = .inr (ci, fs)) {x : Nat} (hk : fs[k]? = some (.ref x)) : gR (HF f) a ci k = some x := by
  simp only [gR, cFld, HF_at ha, hf, if_true, hk]
theorem gO_of (ha : a < 132) (hf : f a = .inr (ci, fs)) : gO (HF f) a ci = some () := by
  simp only [gO, HF_at ha, hf, if_true]
theorem cPut_of (ha : a < 132) (hf : f a = .inr (ci, fs)) (hk : k < fs.length) (v : Value) : cPut (HF f) a ci k v = some (HF (up f a (.inr (ci, fs.set k v)))) := by
  simp only [cPut, HF_at ha, hf]
  rw [if_pos ⟨trivial, hk⟩, HF_set]
theorem idx_ok {q n : Nat} (hq : q < n) (hn : n ≤ 100000) : ¬ (nI q < 0 ∨ n ≤ (nI q).toNatClampNeg) := by
  rw [nI_clamp (by omega)]
  rintro (h | h)
  · exact nI_pos (by omega) h
  · omega
theorem cAldI_of {lw : Bool} (ha : a < 132) (hf : f a = .inl (0, n, .inl g)) (hq : q < n) (hn : n ≤ 100000) : cAldI lw (HF f) a (nI q) = some (g q) := by
  simp only [cAldI, HF_at ha, hf]
  rw [if_neg (idx_ok hq hn), if_pos (Or.inl trivial), nI_clamp (by omega)]
theorem cAstI_of (ha : a < 132) (hf : f a = .inl (0, n, .inl g)) (hq : q < n) (hn : n ≤ 100000) (x : Int32) : cAstI (HF f) a (nI q) x = some (HF (up f a (.inl (0, n, .inl (upd g q x))))) := by
  simp only [cAstI, HF_at ha, hf]
  rw [if_neg (idx_ok hq hn), if_pos trivial, nI_clamp (by omega), HF_set]
theorem cAldB_of (ha : a < 132) (hf : f a = .inl (1, n, .inl g)) (hq : q < n) (hn : n ≤ 100000) : cAldB (HF f) a (nI q) = some (g q) := by
  simp only [cAldB, HF_at ha, hf]
  rw [if_neg (idx_ok hq hn), if_pos trivial, nI_clamp (by omega)]
theorem cAstB_of (ha : a < 132) (hf : f a = .inl (1, n, .inl g)) (hq : q < n) (hn : n ≤ 100000) (x : Int32) : cAstB (HF f) a (nI q) x = some (HF (up f a (.inl (1, n, .inl (upd g q (vp_nar .byte x)))))) := by
  simp only [cAstB, HF_at ha, hf]
  rw [if_neg (idx_ok hq hn), if_pos trivial, nI_clamp (by omega), HF_set]
theorem cAldL_of (ha : a < 132) (hf : f a = .inl (2, n, .inr (.inl gl))) (hq : q < n) (hn : n ≤ 100000) : cAldL (HF f) a (nI q) = some (gl q) := by
  simp only [cAldL, HF_at ha, hf]
  rw [if_neg (idx_ok hq hn), if_pos trivial, nI_clamp (by omega)]
theorem cAstL_of (ha : a < 132) (hf : f a = .inl (2, n, .inr (.inl gl))) (hq : q < n) (hn : n ≤ 100000) (x : Int64) : cAstL (HF f) a (nI q) x = some (HF (up f a (.inl (2, n, .inr (.inl (vp_updL gl q x)))))) := by
  simp only [cAstL, HF_at ha, hf]
  rw [if_neg (idx_ok hq hn), if_pos trivial, nI_clamp (by omega), HF_set]
theorem cAldR_of {t : Nat} (ht : t = 3 ∨ t = 4) (ha : a < 132) (hf : f a = .inl (t, n, .inr (.inr (.inr (.inr gr))))) (hq : q < n) (hn : n ≤ 100000) : cAldR (HF f) a (nI q) = gr q := by
  simp only [cAldR, HF_at ha, hf]
  rw [if_neg (idx_ok hq hn), if_pos ht, nI_clamp (by omega)]
theorem cAldT_of (h0 : f 0 = .inl (5, 9, .inl mPart)) (hq : q < 9) : cAldI false (HF f) 0 (nI q) = some (mPart q) := by
  simp only [cAldI, HF_at (show 0 < 132 by decide), h0]
  rw [if_neg (idx_ok hq (by omega)), if_pos (Or.inr (Or.inl ⟨trivial, trivial⟩)), nI_clamp (by omega)]
end RD
/-! numbers -/
theorem iLE {a b : Nat} (ha : a < 2000000000) (hb : b < 2000000000) : (nI a ≤ nI b) = (a ≤ b) := propext (nI_leI (by omega) (by omega))
theorem iLT {a b : Nat} (ha : a < 2000000000) (hb : b < 2000000000) : (nI a < nI b) = (a < b) := propext (nI_ltI (by omega) (by omega))
theorem iEQ {a b : Nat} (ha : a < 2000000000) (hb : b < 2000000000) : (nI a = nI b) = (a = b) := propext (nI_eq (by omega) (by omega))
theorem l0 : (0 : Int32) = nI 0 := rfl
theorem l1 : (1 : Int32) = nI 1 := rfl
theorem l2 : (2 : Int32) = nI 2 := rfl
theorem l3 : (3 : Int32) = nI 3 := rfl
theorem l4 : (4 : Int32) = nI 4 := rfl
theorem l5 : (5 : Int32) = nI 5 := rfl
theorem l8 : (8 : Int32) = nI 8 := rfl
theorem l9 : (9 : Int32) = nI 9 := rfl
theorem l16 : (16 : Int32) = nI 16 := rfl
theorem l10 : (10 : Int32) = nI 10 := rfl
theorem l500 : (500 : Int32) = nI 500 := rfl
theorem iAdd (a b : Nat) : nI a + nI b = nI (a + b) := nI_add a b
theorem iMul (a b : Nat) : nI a * nI b = nI (a * b) := pk_mul a b
theorem iSub {a b : Nat} (h : b ≤ a) : nI a - nI b = nI (a - b) := pk_sub h
/-- an int is within 0 .. n - 1, as a number, or it isn't -/
theorem iRng (x : Int32) (n : Nat) (hn : n < 2000000000) : (∃ q, q < n ∧ x = nI q) ∨ (x < 0 ∨ nI n ≤ x) := by
  rcases pk_ix x (n := n) (by omega) with h | h | h
  · exact Or.inr (Or.inl h)
  · exact Or.inr (Or.inr h)
  · exact Or.inl h
/-! the reference's cells -/
def moObj (mi : Nat → Int32) (ml : Nat → Int64) : List Value := [.int (mi 0), .ref 108, .ref 109, .ref 110, .ref 111, .int (mi 5), .ref 112, .ref 113, .ref 114, .ref 115, .ref 116, .ref 117, .ref 118, .ref 119, .ref 120, .ref 121, .ref 122, .int (mi 17), .ref 123, .ref 124, .ref 125, .long (ml 21), .long (ml 22), .int (mi 23), .ref 126, .ref 127, .ref 128, .ref 129, .ref 130, .ref 131]
def moLen (a : Nat) : Nat := ([6, 4, 32, 8, 8, 8, 8, 8, 10, 80, 80, 8, 8, 16, 16, 16, 8, 8, 8000, 500, 500, 500, 500, 500] : List Nat).getD (a - 108) 0
def MF (x : Nat → mCell) (mi : Nat → Int32) (ml : Nat → Int64) (ma : Nat → Nat → Int32) : Nat → mCell := fun a => if a < 107 then x a else if a = 107 then .inr (8, moObj mi ml) else .inl (0, moLen a, .inl (ma a))
def iup (mi : Nat → Int32) (k : Nat) (v : Int32) : Nat → Int32 := fun j => if j = k then v else mi j
def lup (ml : Nat → Int64) (k : Nat) (v : Int64) : Nat → Int64 := fun j => if j = k then v else ml j
def mup (ma : Nat → Nat → Int32) (a q : Nat) (v : Int32) : Nat → Nat → Int32 := fun b => if b = a then upd (ma a) q v else ma b
noncomputable abbrev MH (x : Nat → mCell) (mi : Nat → Int32) (ml : Nat → Int64) (ma : Nat → Nat → Int32) : mHeap := HF (MF x mi ml ma)
theorem iup_at {mi : Nat → Int32} {k : Nat} {v : Int32} : iup mi k v k = v := if_pos rfl
theorem iup_ne {mi : Nat → Int32} {k j : Nat} {v : Int32} (h : j ≠ k) : iup mi k v j = mi j := if_neg h
theorem mup_at {ma : Nat → Nat → Int32} {a q : Nat} {v : Int32} : mup ma a q v a = upd (ma a) q v := if_pos rfl
theorem mup_ne {ma : Nat → Nat → Int32} {a q b : Nat} {v : Int32} (h : b ≠ a) : mup ma a q v b = ma b := if_neg h
section MO
variable {x : Nat → mCell} {mi : Nat → Int32} {ml : Nat → Int64} {ma : Nat → Nat → Int32}
theorem MF_obj : MF x mi ml ma 107 = .inr (8, moObj mi ml) := rfl
theorem MF_arr {a : Nat} (h : 108 ≤ a) : MF x mi ml ma a = .inl (0, moLen a, .inl (ma a)) := by
  unfold MF
  rw [if_neg (by omega), if_neg (by omega)]
theorem mo_O : gO (MH x mi ml ma) 107 8 = some () := gO_of (by decide) MF_obj
theorem moLen_le {a : Nat} (h : a < 132) : moLen a ≤ 100000 := by
  have : ∀ a, a < 132 → moLen a ≤ 100000 := by decide +kernel
  exact this a h
theorem moAld {lw : Bool} {a q : Nat} (ha : 108 ≤ a ∧ a < 132) (hq : q < moLen a) : cAldI lw (MH x mi ml ma) a (nI q) = some (ma a q) := cAldI_of ha.2 (MF_arr ha.1) hq (moLen_le ha.2)
theorem moAst {a q : Nat} {v : Int32} (ha : 108 ≤ a ∧ a < 132) (hq : q < moLen a) : cAstI (MH x mi ml ma) a (nI q) v = some (MH x mi ml (mup ma a q v)) := by
  rw [cAstI_of ha.2 (MF_arr ha.1) hq (moLen_le ha.2)]
  congr 1
  refine HF_ext (fun b hb => ?_)
  unfold up
  by_cases e : b = a
  · subst e
    rw [if_pos rfl, MF_arr ha.1, mup_at]
  · rw [if_neg e]
    unfold MF
    by_cases e2 : b < 107
    · rw [if_pos e2, if_pos e2]
    · rw [if_neg e2, if_neg e2]
      by_cases e3 : b = 107
      · rw [if_pos e3, if_pos e3]
      · rw [if_neg e3, if_neg e3, mup_ne e]
theorem moPutI {k : Nat} {v : Int32} (hk : k = 0 ∨ k = 5 ∨ k = 17 ∨ k = 23) : cPut (MH x mi ml ma) 107 8 k (.int v) = some (MH x (iup mi k v) ml ma) := by
  have hl : k < (moObj mi ml).length := by show k < 30; omega
  rw [cPut_of (by decide) MF_obj hl]
  congr 1
  refine HF_ext (fun b hb => ?_)
  unfold up MF
  by_cases e : b = 107
  · subst e
    rcases hk with rfl | rfl | rfl | rfl <;> rfl
  · rw [if_neg e]
    by_cases e2 : b < 107
    · rw [if_pos e2, if_pos e2]
    · rw [if_neg e2, if_neg e2, if_neg e, if_neg e]
theorem moPutL {k : Nat} {v : Int64} (hk : k = 21 ∨ k = 22) : cPut (MH x mi ml ma) 107 8 k (.long v) = some (MH x mi (lup ml k v) ma) := by
  have hl : k < (moObj mi ml).length := by show k < 30; omega
  rw [cPut_of (by decide) MF_obj hl]
  congr 1
  refine HF_ext (fun b hb => ?_)
  unfold up MF
  by_cases e : b = 107
  · subst e
    rcases hk with rfl | rfl <;> rfl
  · rw [if_neg e]
    by_cases e2 : b < 107
    · rw [if_pos e2, if_pos e2]
    · rw [if_neg e2, if_neg e2, if_neg e, if_neg e]
theorem moI0 : gI (MH x mi ml ma) 107 8 0 = some (mi 0) := gI_of (by decide) MF_obj rfl
theorem moI5 : gI (MH x mi ml ma) 107 8 5 = some (mi 5) := gI_of (by decide) MF_obj rfl
theorem moI17 : gI (MH x mi ml ma) 107 8 17 = some (mi 17) := gI_of (by decide) MF_obj rfl
theorem moI23 : gI (MH x mi ml ma) 107 8 23 = some (mi 23) := gI_of (by decide) MF_obj rfl
theorem moL21 : gL (MH x mi ml ma) 107 8 21 = some (ml 21) := gL_of (by decide) MF_obj rfl
theorem moL22 : gL (MH x mi ml ma) 107 8 22 = some (ml 22) := gL_of (by decide) MF_obj rfl
theorem moR1 : gR (MH x mi ml ma) 107 8 1 = some 108 := gR_of (by decide) MF_obj rfl
theorem moR2 : gR (MH x mi ml ma) 107 8 2 = some 109 := gR_of (by decide) MF_obj rfl
theorem moR3 : gR (MH x mi ml ma) 107 8 3 = some 110 := gR_of (by decide) MF_obj rfl
theorem moR4 : gR (MH x mi ml ma) 107 8 4 = some 111 := gR_of (by decide) MF_obj rfl
theorem moR6 : gR (MH x mi ml ma) 107 8 6 = some 112 := gR_of (by decide) MF_obj rfl
theorem moR7 : gR (MH x mi ml ma) 107 8 7 = some 113 := gR_of (by decide) MF_obj rfl
theorem moR8 : gR (MH x mi ml ma) 107 8 8 = some 114 := gR_of (by decide) MF_obj rfl
theorem moR9 : gR (MH x mi ml ma) 107 8 9 = some 115 := gR_of (by decide) MF_obj rfl
theorem moR10 : gR (MH x mi ml ma) 107 8 10 = some 116 := gR_of (by decide) MF_obj rfl
theorem moR11 : gR (MH x mi ml ma) 107 8 11 = some 117 := gR_of (by decide) MF_obj rfl
theorem moR12 : gR (MH x mi ml ma) 107 8 12 = some 118 := gR_of (by decide) MF_obj rfl
theorem moR13 : gR (MH x mi ml ma) 107 8 13 = some 119 := gR_of (by decide) MF_obj rfl
theorem moR14 : gR (MH x mi ml ma) 107 8 14 = some 120 := gR_of (by decide) MF_obj rfl
theorem moR15 : gR (MH x mi ml ma) 107 8 15 = some 121 := gR_of (by decide) MF_obj rfl
theorem moR16 : gR (MH x mi ml ma) 107 8 16 = some 122 := gR_of (by decide) MF_obj rfl
theorem moR18 : gR (MH x mi ml ma) 107 8 18 = some 123 := gR_of (by decide) MF_obj rfl
theorem moR19 : gR (MH x mi ml ma) 107 8 19 = some 124 := gR_of (by decide) MF_obj rfl
theorem moR20 : gR (MH x mi ml ma) 107 8 20 = some 125 := gR_of (by decide) MF_obj rfl
theorem moR24 : gR (MH x mi ml ma) 107 8 24 = some 126 := gR_of (by decide) MF_obj rfl
theorem moR25 : gR (MH x mi ml ma) 107 8 25 = some 127 := gR_of (by decide) MF_obj rfl
theorem moR26 : gR (MH x mi ml ma) 107 8 26 = some 128 := gR_of (by decide) MF_obj rfl
theorem moR27 : gR (MH x mi ml ma) 107 8 27 = some 129 := gR_of (by decide) MF_obj rfl
theorem moR28 : gR (MH x mi ml ma) 107 8 28 = some 130 := gR_of (by decide) MF_obj rfl
theorem moR29 : gR (MH x mi ml ma) 107 8 29 = some 131 := gR_of (by decide) MF_obj rfl
end MO
