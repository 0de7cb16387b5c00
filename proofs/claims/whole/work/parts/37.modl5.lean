/-- calls about one ground: refused, or what is said of it -/
def spAsk (S : St) (g : Int32) (f : Gr → Int32 × St) : Int32 × St := if isIn 10 g = false then (-1, S) else match sGr S g.toNatClampNeg with
  | none => (-3, sMeet S 1)
  | some G => f G
section M6
variable {x : Nat → mCell} {mi : Nat → Int32} {ml : Nat → Int64} {ma : Nat → Nat → Int32} {S : St} {G : Gr}
theorem Mo_ask {j : Nat} {as : List Value} {g : Int32} {K : Int32 × mHeap → mR'} {f : Gr → Int32 × St} (hW : Wf S) (h : MoAt S mi ml ma) (hj : mO j = 8) (hF : F j (.ref 107 :: as) (MH x mi ml ma) = (vI 110 107 [.int g] (MH x mi ml ma)).bind fun q1 => if 0 ≤ q1.1 then K q1 else some (some (.int q1.1), q1.2))
    (hK : ∀ (k : Nat) (G : Gr) (ma' : Nat → Nat → Int32), k < 10 → g = nI k → sGr S k = some G → Ok G → Cur G (iup mi 5 (nI G.1)) ma' → MoAt S (iup mi 5 (nI G.1)) ml ma' → ∃ mi'' ml'' ma'', K (0, MH x (iup mi 5 (nI G.1)) ml ma') = some (some (.int (f G).1), MH x mi'' ml'' ma'') ∧ MoAt (f G).2 mi'' ml'' ma'') :
    ∃ mi' ml' ma', vI j 107 as (MH x mi ml ma) = some ((spAsk S g f).1, MH x mi' ml' ma') ∧ MoAt (spAsk S g f).2 mi' ml' ma' := by
  unfold spAsk
  by_cases hb : isIn 10 g = false
  · rw [if_pos hb]
    refine ⟨mi, ml, ma, vI_of hj mo_O ?_, h⟩
    rw [hF, Mo_askB hb]
    rfl
  · rw [if_neg hb]
    obtain ⟨k, hk, rfl, hc⟩ := idx10 hb
    rw [hc]
    cases hs : sGr S k with
    | none =>
      refine ⟨_, ml, _, vI_of hj mo_O ?_, h.meet (k := 1) (by decide)⟩
      rw [hF, Mo_askN hk h hs]
      rfl
    | some G =>
      have hok := hW.2.2 k G hk hs
      obtain ⟨ma', c1, c2, c3⟩ := Mo_askG (x := x) hok.1 hk h hs
      obtain ⟨mi2, ml2, ma2, d1, d2⟩ := hK k G ma' hk rfl hs hok c3 (h.keep (c2.sub (by decide)) (iup_ne (by decide)) rfl rfl)
      refine ⟨mi2, ml2, ma2, vI_of hj mo_O ?_, d2⟩
      rw [hF, c1]
      simp only [Option.bind_some]
      rw [if_pos (by decide)]
      exact d1
end M6
def spDrop (S : St) (g : Int32) : Int32 × St := spAsk S g (fun _ => (1, sSetGr S g.toNatClampNeg none))
theorem Mo_drop (S : St) (hW : Wf S) (g : Int32) : MoSp 116 [.int g] S (spDrop S g) := by
  intro x mi ml ma h
  refine Mo_ask hW h rfl (F116_eq 107 g _) (fun k G ma' hk e hs hok hC hM => ?_)
  subst e
  refine ⟨iup mi 5 (nI G.1), ml, mup ma' 116 k 0, ?_, ?_⟩
  · dsimp only
    rw [moR10]
    simp only [Option.bind_some]
    rw [moAst (by decide) (show k < moLen 116 from hk)]
    rfl
  · rw [nI_cl (by omega)]
    refine hM.setGr _ (fun s hs => ?_) (fun s i hs hne hi => ?_) (fun G' e i hi => by cases e) ⟨?_, ?_, ?_⟩ (fun s G' hs e => (hW.2.2 s G' hs e).1.2.1) rfl
    · rw [mup_at]
      by_cases e : s = k
      · subst e; rw [pk_us, if_pos rfl]
      · rw [pk_un e, if_neg e]
    · rw [mup_ne (by decide), mup_ne (by decide)]; exact ⟨rfl, rfl⟩
    · rw [mup_ne (by decide)]
    · rw [mup_ne (by decide)]
    · rw [mup_ne (by decide)]
def spTwin (S : St) (g to : Int32) : Int32 × St := if isIn 10 to = false then (-1, S) else spAsk S g (fun G => (nI G.1, sSetGr S to.toNatClampNeg (some G)))
theorem Mo_twin (S : St) (hW : Wf S) (g to : Int32) : MoSp 117 [.int g, .int to] S (spTwin S g to) := by
  intro x mi ml ma h
  unfold spTwin
  by_cases hb : isIn 10 to = false
  · rw [if_pos hb]
    refine ⟨mi, ml, ma, vI_of (ci := 8) rfl mo_O ?_, h⟩
    rw [F117_eq, Mo_isNumber]
    simp only [Option.bind_some, isIn_le9, hb, b2i_0, not_true, if_false]
  · rw [if_neg hb]
    obtain ⟨u, hu, rfl, hc⟩ := idx10 hb
    rw [hc]
    refine Mo_ask (K := fun q => (vI 112 107 [.int (nI u)] q.2).bind fun q3 => some (some (.int q3.1), q3.2)) hW h rfl ?_ (fun k G ma' hk e hs hok hC hM => ?_)
    · rw [F117_eq, Mo_isNumber]
      simp only [Option.bind_some, isIn_le9, b2i_0]
      rw [if_pos hb]
    · obtain ⟨ma2, d1, d2⟩ := Mo_keep (x := x) hW hok.1 hu hM hC
      exact ⟨_, ml, ma2, by dsimp only; rw [d1]; rfl, d2⟩
def spNext (S : St) (g q u : Int32) : Int32 × St := spAsk S g (fun G => if isIn G.1 q = false then (-3, sMeet S 2) else if u = 0 then (nI (G.2.1 q.toNatClampNeg), S) else (nI (G.2.2 q.toNatClampNeg), S))
theorem Mo_next (S : St) (hW : Wf S) (g q u : Int32) : MoSp 129 [.int g, .int q, .int u] S (spNext S g q u) := by
  intro x mi ml ma h
  refine Mo_ask hW h rfl (F129_eq 107 g q u _) (fun k G ma' hk e hs hok hC hM => ?_)
  subst e
  have h8 := hok.1.2.1
  dsimp only
  rw [moI5]
  simp only [Option.bind_some]
  rw [hC.1, Mo_in]
  simp only [Option.bind_some, isIn_nIm h8, b2i_0]
  by_cases hi : isIn G.1 q = false
  · rw [if_pos hi, if_pos hi]
    refine ⟨_, ml, _, ?_, hM.meet (k := 2) (by decide)⟩
    rw [show (Value.int 2) = Value.int (nI 2) from rfl, Mo_meets (by decide)]
    rfl
  · rw [if_neg hi, if_neg hi]
    obtain ⟨p, hp, rfl, hcp⟩ := isIn_ok (n := G.1) (by omega) (by simpa using hi)
    rw [hcp]
    have hp8 : p < moLen 112 := by show p < 8; omega
    have hp8' : p < moLen 113 := hp8
    by_cases hu : u = 0
    · rw [if_pos hu, if_pos hu, moR6]
      simp only [Option.bind_some]
      rw [moAld (by decide) hp8, hC.2.1 p hp]
      exact ⟨_, ml, ma', rfl, hM⟩
    · rw [if_neg hu, if_neg hu, moR7]
      simp only [Option.bind_some]
      rw [moAld (by decide) hp8', hC.2.2.1 p hp]
      exact ⟨_, ml, ma', rfl, hM⟩
theorem Mo_upper (S : St) : ∀ (x : Nat → mCell) (mi : Nat → Int32) (ml : Nat → Int64) (ma : Nat → Nat → Int32), MoAt S mi ml ma → vL 166 107 [] (MH x mi ml ma) = some (sUp S, MH x mi ml ma) := by
  intro x mi ml ma h
  refine vL_of (ci := 8) rfl mo_O ?_
  rw [F166_eq, moL21, h.2.2.2.2.2.2.1]
  rfl
theorem Mo_lower (S : St) : ∀ (x : Nat → mCell) (mi : Nat → Int32) (ml : Nat → Int64) (ma : Nat → Nat → Int32), MoAt S mi ml ma → vL 167 107 [] (MH x mi ml ma) = some (sLo S, MH x mi ml ma) := by
  intro x mi ml ma h
  refine vL_of (ci := 8) rfl mo_O ?_
  rw [F167_eq, moL22, h.2.2.2.2.2.2.2]
  rfl
theorem Mo_finding (S : St) : MoSp 169 [] S (sFi S, S) := by
  intro x mi ml ma h
  refine ⟨mi, ml, ma, vI_of (ci := 8) rfl mo_O ?_, h⟩
  rw [F169_eq, moI0, h.1]
  rfl
theorem isIn_15 (f : Int32) : (decide ((1 : Int32) ≤ f) && decide (f ≤ 5)) = decide (isIn 6 f = true ∧ f ≠ 0) := by
  have e1 : ((1 : Int32) ≤ f) = (1 ≤ f.toInt) := propext (by rw [Int32.le_iff_toInt_le]; rfl)
  have e2 : (f ≤ 5) = (f.toInt ≤ 5) := propext (by rw [Int32.le_iff_toInt_le]; rfl)
  have e3 : (isIn 6 f = true) = (0 ≤ f.toInt ∧ f.toInt < 6) := propext (by
    unfold isIn
    simp only [Bool.and_eq_true, decide_eq_true_eq]
    rw [Int32.le_iff_toInt_le, Int32.lt_iff_toInt_lt]
    rfl)
  have e4 : (f ≠ 0) = (f.toInt ≠ 0) := propext (by
    constructor
    · intro z y; exact z (Int32.toInt_inj.mp y)
    · intro z y; subst y; exact z rfl)
  rw [Bool.eq_iff_iff]
  simp only [Bool.and_eq_true, decide_eq_true_eq, e1, e2, e3, e4]
  omega
theorem Mo_findings (S : St) (f : Int32) : MoSp 170 [.int f] S (spFindings S f, S) := by
  intro x mi ml ma h
  refine ⟨mi, ml, ma, vI_of (ci := 8) rfl mo_O ?_, h⟩
  unfold spFindings
  rw [F170_eq, Mo_in]
  simp only [Option.bind_some, isIn_15, b2i_0, decide_eq_false_iff_not]
  by_cases hf : isIn 6 f = true ∧ f ≠ 0
  · rw [if_pos hf, if_neg (fun z => z hf), moR1]
    obtain ⟨k, hk, rfl, hc⟩ := isIn_ok (n := 6) (by decide) hf.1
    simp only [Option.bind_some]
    rw [moAld (by decide) (show k < moLen 108 from hk), h.2.1 k hk, hc]
    rfl
  · rw [if_neg hf, if_pos hf]
