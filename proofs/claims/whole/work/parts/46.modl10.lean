def toldG (G : Gr) (w : Int) : Nat := if w = 5 then nmS G else if w = 0 then G.1 else if w = 1 then kindG G else if w = 2 then crn G 2 G.1 / 2 + 1 else crn G (w - 3).toNat G.1
def spTold (S : St) (g w : Int32) : Int32 × St := if 0 ≤ w.toInt ∧ w.toInt ≤ 5 then spAsk S g (fun G => (nI (toldG G w.toInt), S)) else (-1, S)
theorem i32eq (k : Int32) (z : Int32) : (k = z) = (k.toInt = z.toInt) := propext Int32.toInt_inj.symm
theorem Mo_told (S : St) (hW : Wf S) (g w : Int32) : MoSp 126 [.int g, .int w] S (spTold S g w) := by
  intro x mi ml ma h
  unfold spTold
  have t0 : (0 : Int32).toInt = 0 := rfl
  have t5 : (5 : Int32).toInt = 5 := rfl
  by_cases hb : 0 ≤ w.toInt ∧ w.toInt ≤ 5
  · rw [if_pos hb]
    refine Mo_ask (K := fun q2 => (vI 125 107 [.int w] q2.2).bind fun q3 => some (some (.int q3.1), q3.2)) hW h rfl ?_ (fun j G ma' hj e hs hok hC hM => ?_)
    · rw [F126_eq, Mo_in]
      simp only [Option.bind_some, in_toInt, b2i_0, decide_eq_false_iff_not]
      rw [if_pos (fun z => z (by rw [t0, t5]; exact hb))]
    · have h8 := hok.1.2.1
      have key : ∀ {mi2 : Nat → Int32} {ma2 : Nat → Nat → Int32}, F 125 [.ref 107, .int w] (MH x (iup mi 5 (nI G.1)) ml ma') = some (some (.int (nI (toldG G w.toInt))), MH x mi2 ml ma2) → MoAt S mi2 ml ma2 → ∃ mi'' ml'' ma'', ((vI 125 107 [.int w] (MH x (iup mi 5 (nI G.1)) ml ma')).bind fun q3 => (some (some (Value.int q3.1), q3.2) : mR')) = some (some (Value.int (nI (toldG G w.toInt))), MH x mi'' ml'' ma'') ∧ MoAt S mi'' ml'' ma'' := by
        intro mi2 ma2 e1 e2
        refine ⟨mi2, ml, ma2, ?_, e2⟩
        rw [vI_of (ci := 8) rfl mo_O e1]
        rfl
      have pre := F125_eq 107 w (MH x (iup mi 5 (nI G.1)) ml ma')
      simp only [i32eq] at pre
      have u1 : (1 : Int32).toInt = 1 := rfl
      have u2 : (2 : Int32).toInt = 2 := rfl
      rw [t0, t5, u1, u2] at pre
      by_cases c5 : w.toInt = 5
      · obtain ⟨mi2, ma2, d1, d2, d3, d4⟩ := Mo_setName (x := x) (ml := ml) hok hC
        rw [if_neg (fun z => z c5), d1] at pre
        simp only [Option.bind_some] at pre
        rw [moI17, d4.1] at pre
        refine key (mi2 := mi2) (ma2 := ma2) ?_ (hM.keep (d2.sub (by decide)) (d3 0 (by decide)) rfl rfl)
        rw [pre]
        unfold toldG
        rw [if_pos c5]
        rfl
      · rw [if_pos c5] at pre
        by_cases c0 : w.toInt = 0
        · rw [if_neg (fun z => z c0), moI5, hC.1] at pre
          refine key ?_ hM
          rw [pre]
          unfold toldG
          rw [if_neg c5, if_pos c0]
          rfl
        · rw [if_pos c0] at pre
          by_cases c1 : w.toInt = 1
          · rw [if_neg (fun z => z c1), Mo_kindOf hok.1 hC] at pre
            refine key ?_ hM
            rw [pre]
            unfold toldG
            rw [if_neg c5, if_neg c0, if_pos c1]
            rfl
          · rw [if_pos c1] at pre
            by_cases c2 : w.toInt = 2
            · have m2 := Mo_corners (x := x) (ml := ml) hok.1 hC (w := 2) (by decide)
              have k2 := crn_le hok.1 2 G.1 (Nat.le_refl _)
              rw [← l2] at m2
              rw [if_neg (fun z => z c2), m2] at pre
              simp only [Option.bind_some] at pre
              rw [if_neg (by decide), l2, pk_div (by omega) (by omega) (by omega)] at pre
              refine key ?_ hM
              rw [pre]
              unfold toldG
              rw [if_neg c5, if_neg c0, if_neg c1, if_pos c2, l1, iAdd]
            · rw [if_pos c2] at pre
              have ew : w - 3 = nI (w.toInt - 3).toNat := by
                apply Int32.toInt_inj.mp
                have u3 : (3 : Int32).toInt = 3 := rfl
                rw [i_sub (by rw [u3]; omega), u3, nI_toInt (by omega)]
                omega
              rw [ew, Mo_corners hok.1 hC (by omega)] at pre
              refine key ?_ hM
              rw [pre]
              unfold toldG
              rw [if_neg c5, if_neg c0, if_neg c1, if_neg c2]
              rfl
  · rw [if_neg hb]
    refine ⟨mi, ml, ma, vI_of (ci := 8) rfl mo_O ?_, h⟩
    rw [F126_eq, Mo_in]
    simp only [Option.bind_some, in_toInt, b2i_0, decide_eq_false_iff_not]
    rw [if_neg (fun z => z (by rw [t0, t5]; exact hb))]
def nmDg (G : Gr) (i : Nat) : Nat := nmV G / 8 ^ (2 * G.1 - 1 - i) % 8
def spName (S : St) (g i : Int32) : Int32 × St := spAsk S g (fun G => if isIn (2 * G.1) i = false then (-3, sMeet S 2) else (nI (nmDg G i.toNatClampNeg), S))
theorem isIn_2n {n : Nat} (h0 : n ≤ 8) (i : Int32) : (decide ((0 : Int32) ≤ i) && decide (i ≤ 2 * nI n - 1)) = isIn (2 * n) i := by
  unfold isIn
  congr 1
  apply decide_eq_decide.mpr
  have h1 : (nI (2 * n)).toInt = (2 * n : Nat) := nI_toInt (by omega)
  have h2 : (2 * nI n - 1).toInt = ((2 * n : Nat) : Int) - 1 := by
    rw [l2, iMul]
    exact pk_sub_toInt (a := 2 * n) (b := 1) (by omega) (by omega)
  rw [Int32.lt_iff_toInt_lt, Int32.le_iff_toInt_le, h1, h2]
  omega
theorem Mo_name (S : St) (hW : Wf S) (g i : Int32) : MoSp 131 [.int g, .int i] S (spName S g i) := by
  intro x mi ml ma h
  refine Mo_ask hW h rfl (F131_eq 107 g i _) (fun k G ma' hk e hs hok hC hM => ?_)
  have h8 := hok.1.2.1
  obtain ⟨mi2, ma2, d1, d2, d3, d4, f, f1, f2⟩ := Mo_setName (x := x) (ml := ml) hok hC
  have hM2 : MoAt S mi2 ml ma2 := hM.keep (d2.sub (by decide)) (d3 0 (by decide)) rfl rfl
  dsimp only
  rw [d1]
  simp only [Option.bind_some]
  rw [moI5, d3 5 (by decide), hC.1]
  simp only [Option.bind_some]
  rw [Mo_in]
  simp only [Option.bind_some, isIn_2n h8, b2i_0]
  by_cases hi : isIn (2 * G.1) i = false
  · rw [if_pos hi, if_pos hi]
    refine ⟨iup mi2 0 (nI 2), ml, mup ma2 108 2 (ma2 108 2 + 1), ?_, hM2.meet (k := 2) (by decide)⟩
    rw [show (Value.int 2) = Value.int (nI 2) from rfl, Mo_meets (by decide)]
    rfl
  · rw [if_neg hi, if_neg hi, moR15]
    obtain ⟨p, hp, rfl, hcp⟩ := isIn_ok (n := 2 * G.1) (by omega) (by simpa using hi)
    simp only [Option.bind_some]
    rw [moAld (by decide) (show p < moLen 121 by show _ < 16; omega), (f1 p hp).2, hcp]
    refine ⟨mi2, ml, ma2, ?_, hM2⟩
    have := pkv_digit (f := f) (2 * G.1) (fun i hi => (f1 i hi).1) p hp
    unfold nmDg
    rw [← f2, this]
    rfl
section M15
variable {x : Nat → mCell} {mi : Nat → Int32} {ml : Nat → Int64} {ma : Nat → Nat → Int32} {S : St} {G : Gr}
theorem Mo_otherL (hm : mi 5 = nI G.1) (h8 : G.1 ≤ 8) {g1 : Int32} {f : Nat → Nat} : ∀ (d k : Nat), k + d = 2 * G.1 → ∀ ma : Nat → Nat → Int32, DgAt (2 * G.1) f (ma 121) → (∀ i, i < k → ma 123 i = nI (f i)) → ∃ ma', q132_11 107 g1 (nI k) (MH x mi ml ma) = some (some (.int (nI G.1)), MH x mi ml ma') ∧ Sm [123] ma ma' ∧ DgAt (2 * G.1) f (ma' 123) := by
  intro d
  induction d with
  | zero =>
    intro k hk ma hf h1
    refine ⟨ma, ?_, Sm.rf, fun i hi => ⟨(hf i hi).1, h1 i (by omega)⟩⟩
    rw [q132_11_eq, moI5]
    simp only [Option.bind_some]
    rw [hm, l2, iMul, if_pos (by rw [iLE (by omega) (by omega)]; omega)]
  | succ d ih =>
    intro k hk ma hf h1
    obtain ⟨f1, f2⟩ := hf k (by omega)
    obtain ⟨ma', c1, c2, c3⟩ := ih (k + 1) (by omega) (mup ma 123 k (nI (f k))) (by rw [mup_ne (by decide)]; exact hf) (fun i hi => by
      rw [mup_at]
      by_cases e : i = k
      · subst e; exact pk_us
      · rw [pk_un e]; exact h1 i (by omega))
    refine ⟨ma', ?_, (Sm.up (by decide)).tr c2, c3⟩
    rw [q132_11_eq, moI5]
    simp only [Option.bind_some]
    rw [hm, l2, iMul, if_neg (by rw [iLE (by omega) (by omega)]; omega), moR18]
    simp only [Option.bind_some, moR15]
    rw [moAld (by decide) (show k < moLen 121 by show _ < 16; omega), f2]
    simp only [Option.bind_some]
    rw [moAst (by decide) (show k < moLen 123 by show _ < 16; omega)]
    simp only [Option.bind_some]
    rw [l1, iAdd]
    exact c1
/-- the other's name is laid aside -/
theorem Mo_otherName (hW : Wf S) {g : Nat} (hg : g < 10) (h : MoAt S mi ml ma) (hs : sGr S g = some G) : ∃ mi' ma', vI 132 107 [.int (nI g)] (MH x mi ml ma) = some (nI G.1, MH x mi' ml ma') ∧ MoAt S mi' ml ma' ∧ ∃ f, DgAt (2 * G.1) f (ma' 123) ∧ pkv f (2 * G.1) = nmV G := by
  have hok := hW.2.2 g G hg hs
  obtain ⟨ma1, a1, a2, a3⟩ := Mo_load (x := x) hok.1 hg h hs
  obtain ⟨mi2, ma2, d1, d2, d3, d4, f, f1, f2⟩ := Mo_setName (x := x) (ml := ml) hok a3
  have hm : mi2 5 = nI G.1 := (d3 5 (by decide)).trans a3.1
  obtain ⟨ma3, c1, c2, c3⟩ := Mo_otherL (x := x) (mi := mi2) (ml := ml) (g1 := nI g) hm hok.1.2.1 (2 * G.1) 0 (by omega) ma2 f1 (fun i hi => by omega)
  refine ⟨mi2, ma3, vI_of (ci := 8) rfl mo_O ?_, ?_, f, c3, f2⟩
  · rw [F132_eq, a1]
    simp only [Option.bind_some]
    rw [d1]
    exact c1
  · exact h.keep (((a2.sub (by decide)).tr (d2.sub (by decide))).tr (c2.sub (by decide))) ((d3 0 (by decide)).trans (iup_ne (by decide))) rfl rfl
theorem Mo_isOtherL (hm : mi 5 = nI G.1) (h8 : G.1 ≤ 8) {f g : Nat → Nat} (hf : DgAt (2 * G.1) f (ma 121)) (hg : DgAt (2 * G.1) g (ma 123)) : ∀ (d k : Nat), k + d = 2 * G.1 → ∀ b : Bool, (b = true ↔ ∀ i, i < k → f i = g i) → q133_4 107 (b2i b) (nI k) (MH x mi ml ma) = some (some (.int (b2i (decide (pkv f (2 * G.1) = pkv g (2 * G.1))))), MH x mi ml ma) := by
  intro d
  induction d with
  | zero =>
    intro k hk b hb
    have e : b = decide (pkv f (2 * G.1) = pkv g (2 * G.1)) := by
      rw [Bool.eq_iff_iff, hb, decide_eq_true_eq]
      constructor
      · intro he; exact pkv_congr _ (fun i hi => he i (by omega))
      · intro he i hi; exact pkv_inj (fun i hi => (hf i hi).1) (fun i hi => (hg i hi).1) he i (by omega)
    rw [q133_4_eq, moI5]
    simp only [Option.bind_some]
    rw [hm, l2, iMul, if_pos (by rw [iLE (by omega) (by omega)]; omega), if_pos (nzb b), e]
  | succ d ih =>
    intro k hk b hb
    rw [q133_4_eq, moI5]
    simp only [Option.bind_some]
    rw [hm, l2, iMul, if_neg (by rw [iLE (by omega) (by omega)]; omega)]
    cases b with
    | false =>
      have e : decide (pkv f (2 * G.1) = pkv g (2 * G.1)) = false := by
        rw [decide_eq_false_iff_not]
        intro he
        have := hb.mpr (fun i hi => pkv_inj (fun i hi => (hf i hi).1) (fun i hi => (hg i hi).1) he i (by omega))
        cases this
      rw [if_pos (show b2i false = 0 from rfl), if_pos (nzb false), e]
    | true =>
      have he := hb.mp rfl
      obtain ⟨f1, f2⟩ := hf k (by omega)
      obtain ⟨g1, g2⟩ := hg k (by omega)
      rw [if_neg (show ¬ b2i true = 0 by decide), moR15]
      simp only [Option.bind_some]
      rw [moAld (by decide) (show k < moLen 121 by show _ < 16; omega), f2]
      simp only [Option.bind_some, moR18]
      rw [moAld (by decide) (show k < moLen 123 by show _ < 16; omega), g2]
      simp only [Option.bind_some, iEQ (show f k < 2000000000 by omega) (show g k < 2000000000 by omega)]
      have z1 : nI k + 1 = nI (k + 1) := iAdd k 1
      rw [z1]
      by_cases c : f k = g k
      · rw [if_neg (fun z => z c)]
        exact ih (k + 1) (by omega) true ⟨fun _ i hi => by
          by_cases e : i = k
          · subst e; exact c
          · exact he i (by omega), fun _ => rfl⟩
      · rw [if_pos c]
        exact ih (k + 1) (by omega) false ⟨(fun z => by cases z), fun z => absurd (z k (by omega)) c⟩
theorem Mo_isOther (hm : mi 5 = nI G.1) (h8 : G.1 ≤ 8) {f g : Nat → Nat} (hf : DgAt (2 * G.1) f (ma 121)) (hg : DgAt (2 * G.1) g (ma 123)) : vI 133 107 [] (MH x mi ml ma) = some (b2i (decide (pkv f (2 * G.1) = pkv g (2 * G.1))), MH x mi ml ma) := by
  refine vI_of (ci := 8) rfl mo_O ?_
  rw [F133_eq]
  exact Mo_isOtherL hm h8 hf hg (2 * G.1) 0 (by omega) true ⟨fun _ i hi => by omega, fun _ => rfl⟩
end M15
/-- calls about two grounds -/
def spAsk2 (S : St) (g h : Int32) (f : Gr → Gr → Int32 × St) : Int32 × St := if isIn 10 g = false ∨ isIn 10 h = false then (-1, S) else match sGr S g.toNatClampNeg, sGr S h.toNatClampNeg with
  | some G, some K => f G K
  | _, _ => (-3, sMeet S 1)
def spAlike (S : St) (g h : Int32) : Int32 × St := spAsk2 S g h (fun G K => (b2i (decide (G.1 = K.1 ∧ nmV G = nmV K)), S))
theorem Mo_alike (S : St) (hW : Wf S) (g k : Int32) : MoSp 134 [.int g, .int k] S (spAlike S g k) := by
  intro x mi ml ma h
  unfold spAlike spAsk2
  by_cases hb : isIn 10 g = false
  · rw [if_pos (Or.inl hb)]
    refine ⟨mi, ml, ma, vI_of (ci := 8) rfl mo_O ?_, h⟩
    rw [F134_eq, Mo_isNumber]
    simp only [Option.bind_some, isIn_le9, b2i_0, hb, if_true]
  · by_cases hb2 : isIn 10 k = false
    · rw [if_pos (Or.inr hb2)]
      refine ⟨mi, ml, ma, vI_of (ci := 8) rfl mo_O ?_, h⟩
      rw [F134_eq, Mo_isNumber]
      simp only [Option.bind_some, isIn_le9, b2i_0]
      rw [if_neg hb, Mo_isNumber]
      simp only [Option.bind_some, isIn_le9, b2i_0, hb2, not_true, if_false]
    · rw [if_neg (fun z => z.elim hb hb2)]
      obtain ⟨p, hp, rfl, hc⟩ := idx10 hb
      obtain ⟨q, hq, rfl, hcq⟩ := idx10 hb2
      rw [hc, hcq]
      have sa := h.2.2.2.2.1 p hp
      have sb := h.2.2.2.2.1 q hq
      have meet1 : F 134 [.ref 107, .int (nI p), .int (nI q)] (MH x mi ml ma) = ((vI 101 107 [.int 1] (MH x mi ml ma)).bind fun q => some (some (.int q.1), q.2)) → ∃ mi' ml' ma', vI 134 107 [.int (nI p), .int (nI q)] (MH x mi ml ma) = some ((-3, sMeet S 1).1, MH x mi' ml' ma') ∧ MoAt ((-3, sMeet S 1) : Int32 × St).2 mi' ml' ma' := by
        intro e
        refine ⟨iup mi 0 (nI 1), ml, mup ma 108 1 (ma 108 1 + 1), vI_of (ci := 8) rfl mo_O ?_, h.meet (k := 1) (by decide)⟩
        rw [e, show (Value.int 1) = Value.int (nI 1) from rfl, Mo_meets (by decide)]
        rfl
      have pre := F134_eq 107 (nI p) (nI q) (MH x mi ml ma)
      rw [Mo_isNumber] at pre
      simp only [Option.bind_some, isIn_le9, b2i_0] at pre
      rw [if_neg hb, Mo_isNumber] at pre
      simp only [Option.bind_some, isIn_le9, b2i_0] at pre
      rw [if_pos hb2, moR10] at pre
      simp only [Option.bind_some] at pre
      rw [moAld (by decide) (show p < moLen 116 from hp)] at pre
      simp only [Option.bind_some, moAld (show 108 ≤ 116 ∧ 116 < 132 by decide) (show q < moLen 116 from hq)] at pre
      cases hz : sGr S p with
      | none =>
        rw [hz] at sa
        rw [sa, if_pos rfl] at pre
        exact meet1 pre
      | some G =>
        rw [hz] at sa
        have hok := hW.2.2 p G hp hz
        have h8 := hok.1.2.1
        have h1 := hok.1.1
        rw [sa, if_neg (by rw [l0, iEQ (by omega) (by omega)]; omega)] at pre
        cases hz2 : sGr S q with
        | none =>
          rw [hz2] at sb
          rw [sb, if_neg (fun z => z rfl)] at pre
          exact meet1 pre
        | some K =>
          rw [hz2] at sb
          have hok2 := hW.2.2 q K hq hz2
          have h82 := hok2.1.2.1
          have h12 := hok2.1.1
          rw [sb, if_pos (by rw [l0, iEQ (by omega) (by omega)]; omega)] at pre
          obtain ⟨mi1, ma1, a1, a2, f, f1, f2⟩ := Mo_otherName (x := x) hW hq h hz2
          obtain ⟨ma2, b1, b2, b3⟩ := Mo_load (x := x) hok.1 hp a2 hz
          obtain ⟨mi3, ma3, d1, d2, d3, d4, e, e1, e2⟩ := Mo_setName (x := x) (ml := ml) hok b3
          have hm : mi3 5 = nI G.1 := (d3 5 (by decide)).trans b3.1
          have hM3 : MoAt S mi3 ml ma3 := a2.keep ((b2.sub (by decide)).tr (d2.sub (by decide))) ((d3 0 (by decide)).trans (iup_ne (by decide))) rfl rfl
          have h123 : ma3 123 = ma1 123 := (d2 123 (by decide)).trans (b2 123 (by decide))
          rw [a1] at pre
          simp only [Option.bind_some] at pre
          rw [b1] at pre
          simp only [Option.bind_some] at pre
          rw [d1] at pre
          simp only [Option.bind_some] at pre
          rw [moI5, hm] at pre
          simp only [Option.bind_some, iEQ (show K.1 < 2000000000 by omega) (show G.1 < 2000000000 by omega)] at pre
          refine ⟨mi3, ml, ma3, vI_of (ci := 8) rfl mo_O ?_, hM3⟩
          rw [pre]
          by_cases c : K.1 = G.1
          · rw [if_neg (fun z => z c)]
            have f1' : DgAt (2 * G.1) f (ma3 123) := by rw [h123, ← c]; exact f1
            rw [Mo_isOther (f := e) (g := f) hm h8 e1 f1']
            simp only [Option.bind_some, b2i_0]
            have e3 : pkv f (2 * G.1) = nmV K := by rw [← c]; exact f2
            rw [e2, e3]
            by_cases c2 : nmV G = nmV K
            · simp [c2, c, b2i]
            · simp [c2, b2i]
          · rw [if_pos c]
            have : ¬ (G.1 = K.1) := fun z => c z.symm
            simp [this, b2i]
