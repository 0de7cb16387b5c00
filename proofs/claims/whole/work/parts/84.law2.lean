/-! the law: both side by side -/
def W1 (S : St) : Prop := (∀ s n, s < 4 → sSz S s = some n → n ≤ 8) ∧ ∀ s i, s < 4 → i < 8 → fits .byte (.int (sBy S s i)) = true
def SmS (S S' : St) : Prop := sSz S' = sSz S ∧ sBy S' = sBy S
theorem W1.sm {S S' : St} (h : W1 S) (e : SmS S S') : W1 S' := by
  unfold W1
  rw [e.1, e.2]
  exact h
theorem W1.wf {S : St} {f : Nat → mCell} (h : W1 S) (hC : ClsAt S f) : Wf S := by
  refine ⟨h.1, h.2, fun g G hg e => ?_⟩
  have := hC.go hg
  rw [e] at this
  exact this.2
theorem SmS.rf {S : St} : SmS S S := ⟨rfl, rfl⟩
theorem SmS.meet {S : St} {k : Nat} : SmS S (sMeet S k) := ⟨rfl, rfl⟩
theorem SmS.gr {S : St} {g : Nat} {Z : Option Gr} : SmS S (sSetGr S g Z) := ⟨rfl, rfl⟩
theorem SmS.fr {S : St} {a b : Int64} : SmS S (sSetFr S a b) := ⟨rfl, rfl⟩
theorem sm_ask {S : St} {g : Int32} {f : Gr → Int32 × St} (h : ∀ G, SmS S (f G).2) : SmS S (spAsk S g f).2 := by
  unfold spAsk
  split
  · exact SmS.rf
  · split
    · exact SmS.meet
    · exact h _
theorem sm_ask2 {S : St} {g k : Int32} {f : Gr → Gr → Int32 × St} (h : ∀ G K, SmS S (f G K).2) : SmS S (spAsk2 S g k f).2 := by
  unfold spAsk2
  split
  · exact SmS.rf
  · split
    · exact h _ _
    · exact SmS.meet
theorem sm_reach {S : St} {g : Int32} {f : Gr → Rs → Int32 × St} (h : ∀ G r, SmS S (f G r).2) : SmS S (spReach S g f).2 := by
  unfold spReach
  refine sm_ask fun G => ?_
  split
  · exact SmS.rf
  · exact h _ _
theorem fit8 (v : Int32) : fits .byte (.int v.toInt8.toInt32) = true := by
  have h1 : v.toInt8.toInt32.toInt = v.toInt8.toInt := by simp
  have h2 : -128 ≤ v.toInt8.toInt ∧ v.toInt8.toInt < 128 := by
    constructor
    · first | exact Int8.le_toInt _ | exact BitVec.le_toInt _
    · first | exact Int8.toInt_lt _ | exact BitVec.toInt_lt
  show (decide ((-128 : Int32) ≤ v.toInt8.toInt32) && decide (v.toInt8.toInt32 ≤ 127)) = true
  have a : (-128 : Int32).toInt = -128 := rfl
  have b : (127 : Int32).toInt = 127 := rfl
  rw [decide_eq_true (by rw [Int32.le_iff_toInt_le, h1, a]; exact h2.1), decide_eq_true (by rw [Int32.le_iff_toInt_le, h1, b]; omega)]
  rfl
theorem W1.set {S : St} (h : W1 S) {q : Nat} {z : Option Nat} {b : Nat → Int32} (hz : ∀ n, z = some n → n ≤ 8) (hb : ∀ i, i < 8 → fits .byte (.int (b i)) = true) : W1 (sSetSheet S q z b) := by
  constructor
  · intro s n hs e
    have e : fu (sSz S) q z s = some n := e
    by_cases c : s = q
    · rw [c, fu_at] at e
      exact hz n e
    · rw [fu_ne c] at e
      exact h.1 s n hs e
  · intro s i hs hi
    show fits .byte (.int (fu (sBy S) q b s i)) = true
    by_cases c : s = q
    · rw [c, fu_at]
      exact hb i hi
    · rw [fu_ne c]
      exact h.2 s i hs hi
theorem w_sheet {S : St} (h : W1 S) (s n : Int32) : W1 (spSheet S s n).2 := by
  unfold spSheet
  by_cases c : isIn 4 s = false ∨ 8 < n
  · rw [if_pos c]; exact h
  · rw [if_neg c]
    by_cases c1 : n < 0
    · rw [if_pos c1]; exact h.sm SmS.meet
    · rw [if_neg c1]
      obtain ⟨m, m1, m2, m3⟩ := i32in (n := 8) (by omega) c1 (fun z => c (Or.inr z))
      refine h.set (fun k hk => ?_) (fun i _ => by decide)
      have hk : some n.toNatClampNeg = some k := hk
      rw [m3] at hk
      cases hk
      exact m1
theorem w_lay {S : St} (h : W1 S) (s i v : Int32) : W1 (spLay S s i v).2 := by
  unfold spLay
  by_cases c : isIn 4 s = false
  · rw [if_pos c]; exact h
  · rw [if_neg c]
    obtain ⟨q, hq, rfl, hc⟩ := idx4 c
    rw [hc]
    cases e : sSz S q with
    | none => exact h.sm SmS.meet
    | some n =>
      simp only
      split
      · exact h.sm SmS.meet
      · refine h.set (fun k hk => by cases hk; exact h.1 q n hq e) (fun j hj => ?_)
        show fits .byte (.int (upd (sBy S q) i.toNatClampNeg v.toInt8.toInt32 j)) = true
        by_cases c2 : j = i.toNatClampNeg
        · rw [c2, pk_us]
          exact fit8 v
        · rw [pk_un c2]
          exact h.2 q j hq hj
theorem w_tear {S : St} (h : W1 S) (s : Int32) : W1 (spTear S s).2 := by
  unfold spTear
  by_cases c : isIn 4 s = false
  · rw [if_pos c]; exact h
  · rw [if_neg c]
    obtain ⟨q, hq, rfl, hc⟩ := idx4 c
    rw [hc]
    cases e : sSz S q with
    | none => exact h.sm SmS.meet
    | some n => exact h.set (fun k hk => by cases hk) (fun j hj => h.2 q j hq hj)
theorem w_copy {S : St} (h : W1 S) (s i to j n : Int32) : W1 (spCopy S s i to j n).2 := by
  unfold spCopy
  by_cases c : isIn 4 s = false ∨ isIn 4 to = false
  · rw [if_pos c]; exact h
  · rw [if_neg c]
    obtain ⟨q, hq, rfl, hc⟩ := idx4 (fun z => c (Or.inl z))
    obtain ⟨u, hu, rfl, hcu⟩ := idx4 (fun z => c (Or.inr z))
    rw [hc, hcu]
    by_cases c1 : n < 0
    · rw [if_pos c1]; exact h.sm SmS.meet
    · rw [if_neg c1]
      cases e : sSz S q with
      | none => exact h.sm SmS.meet
      | some a =>
        cases e2 : sSz S u with
        | none => exact h.sm SmS.meet
        | some b =>
          simp only
          by_cases c2 : hasAll (nI a) i n = true ∧ hasAll (nI b) j n = true
          · rw [if_pos c2]
            have ha8 := h.1 q a hq e
            have hb8 := h.1 u b hu e2
            obtain ⟨i0, n0, -, -, x3, x4, x5⟩ := has_ok ha8 c1 c2.1
            obtain ⟨j0, n1, -, -, y3, y4, y5⟩ := has_ok hb8 c1 c2.2
            refine h.set (fun k hk => by cases hk; exact hb8) (fun k hk => ?_)
            show fits .byte (.int (va_cpy (sBy S q) (sBy S u) i.toNatClampNeg j.toNatClampNeg n.toNatClampNeg k)) = true
            rw [x4, x5, y4]
            unfold va_cpy
            split
            · exact h.2 q _ hq (by omega)
            · exact h.2 u k hu hk
          · rw [if_neg c2]; exact h.sm SmS.meet
/-- both are in the same state -/
def STt (L : Nat) (xs : Nat → Int32) (S : St) (h : mHeap) : Prop := ∃ f mi ml ma, h = HF f ∧ ClsAt S f ∧ MoAt S mi ml ma ∧ (∀ a, 107 ≤ a → a < 132 → f a = MF f mi ml ma a) ∧ f 1 = k6 L xs ∧ W1 S
theorem MF_of {f g : Nat → mCell} {mi : Nat → Int32} {ml : Nat → Int64} {ma : Nat → Nat → Int32} {a : Nat} (ha : 107 ≤ a) : MF f mi ml ma a = MF g mi ml ma a := by
  unfold MF
  rw [if_neg (show ¬ a < 107 by omega), if_neg (show ¬ a < 107 by omega)]
theorem HF_MH {f : Nat → mCell} {mi : Nat → Int32} {ml : Nat → Int64} {ma : Nat → Nat → Int32} (h : ∀ a, 107 ≤ a → a < 132 → f a = MF f mi ml ma a) : HF f = MH f mi ml ma := by
  refine HF_ext fun a ha => ?_
  by_cases c : a < 107
  · unfold MF
    rw [if_pos c]
  · exact h a (by omega) ha
section PAIR
variable {L : Nat} {xs : Nat → Int32} {S : St} {h : mHeap}
theorem pairI {j1 j2 : Nat} {as : List Value} {r : Int32 × St} (hS : STt L xs S h) (c : Wf S → CSp j1 as S r) (m : Wf S → MoSp j2 as S r) (w : W1 S → W1 r.2) : ∃ h1 h2, vI j1 2 as h = some (r.1, h1) ∧ vI j2 107 as h1 = some (r.1, h2) ∧ h[1]? = some (k6 L xs) ∧ h1[1]? = some (k6 L xs) ∧ STt L xs r.2 h2 := by
  obtain ⟨f, mi, ml, ma, rfl, hC, hM, hF, h1, hw⟩ := hS
  have hW := hw.wf hC
  obtain ⟨f1, a1, a2, a3⟩ := c hW f hC
  have hF1 : ∀ a, 107 ≤ a → a < 132 → f1 a = MF f1 mi ml ma a := fun a b1 b2 => by
    rw [a3 a (by omega), hF a b1 b2]
    exact MF_of b1
  have e1 := HF_MH hF1
  obtain ⟨mi2, ml2, ma2, b1, b2⟩ := m hW f1 mi ml ma hM
  have f11 : f1 1 = k6 L xs := by rw [a3 1 (by omega)]; exact h1
  refine ⟨HF f1, MH f1 mi2 ml2 ma2, a1, by rw [e1]; exact b1, by rw [HF_at (by omega), h1], by rw [HF_at (by omega), f11], ?_⟩
  have hx : Fx 107 131 f1 (fun a => if a < 132 then MF f1 mi2 ml2 ma2 a else f1 a) := by
    intro b hb
    show (if b < 132 then MF f1 mi2 ml2 ma2 b else f1 b) = f1 b
    rcases hb with hb | hb
    · rw [if_pos (by omega)]
      unfold MF
      rw [if_pos hb]
    · rw [if_neg (by omega)]
  refine ⟨fun a => if a < 132 then MF f1 mi2 ml2 ma2 a else f1 a, mi2, ml2, ma2, HF_ext fun a ha => ?_, a2.out hx, b2, fun a c1 c2 => ?_, ?_, w hw⟩
  · show MF f1 mi2 ml2 ma2 a = if a < 132 then MF f1 mi2 ml2 ma2 a else f1 a
    rw [if_pos ha]
  · show (if a < 132 then MF f1 mi2 ml2 ma2 a else f1 a) = _
    rw [if_pos c2]
    exact MF_of c1
  · rw [hx 1 (by omega)]
    exact f11
theorem pairL {j1 j2 : Nat} {r : Int64} (hS : STt L xs S h) (c : ∀ f, Wf S → ClsAt S f → vL j1 2 [] (HF f) = some (r, HF f)) (m : ∀ (x : Nat → mCell) (mi : Nat → Int32) (ml : Nat → Int64) (ma : Nat → Nat → Int32), Wf S → MoAt S mi ml ma → vL j2 107 [] (MH x mi ml ma) = some (r, MH x mi ml ma)) : vL j1 2 [] h = some (r, h) ∧ vL j2 107 [] h = some (r, h) := by
  obtain ⟨f, mi, ml, ma, rfl, hC, hM, hF, h1, hw⟩ := hS
  have hW := hw.wf hC
  refine ⟨c f hW hC, ?_⟩
  rw [HF_MH hF]
  exact m f mi ml ma hW hM
end PAIR
