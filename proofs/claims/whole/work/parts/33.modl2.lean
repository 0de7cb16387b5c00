section M2
variable {x : Nat → mCell} {mi : Nat → Int32} {ml : Nat → Int64} {ma : Nat → Nat → Int32} {S : St}
theorem MoAt.meet (h : MoAt S mi ml ma) {k : Nat} (hk : k < 6) : MoAt (sMeet S k) (iup mi 0 (nI k)) ml (mup ma 108 k (ma 108 k + 1)) := by
  obtain ⟨a1, a2, a3, a4, a5, a6, a7, a8⟩ := h
  refine ⟨iup_at, fun j hj => ?_, ?_, ?_, ?_, ?_, a7, a8⟩
  · rw [mup_at]
    show upd (ma 108) k (ma 108 k + 1) j = fu (sFs S) k (sFs S k + 1) j
    by_cases e : j = k
    · subst e
      rw [pk_us, fu_at, a2 j hj]
    · rw [pk_un e, fu_ne e, a2 j hj]
  · rw [mup_ne (by decide)]; exact a3
  · rw [mup_ne (by decide)]; exact a4
  · rw [mup_ne (by decide)]; exact a5
  · rw [mup_ne (by decide), mup_ne (by decide)]; exact a6
theorem isIn_le3 (s : Int32) : (decide (0 ≤ s) && decide (s ≤ 3)) = isIn 4 s := by
  unfold isIn
  congr 1
  apply decide_eq_decide.mpr
  rw [Int32.lt_iff_toInt_lt, Int32.le_iff_toInt_le]
  show s.toInt ≤ 3 ↔ s.toInt < 4
  omega
theorem isIn_le9 (s : Int32) : (decide (0 ≤ s) && decide (s ≤ 9)) = isIn 10 s := by
  unfold isIn
  congr 1
  apply decide_eq_decide.mpr
  rw [Int32.lt_iff_toInt_lt, Int32.le_iff_toInt_le]
  show s.toInt ≤ 9 ↔ s.toInt < 10
  omega
theorem nI_m9 {n : Nat} (hn : n < 2000000000) : (0 ≤ nI n) = True := eq_true (nI_pos' (by omega))
/-- what Model's method j answers at S, and the state behind it -/
def MoSp (j : Nat) (as : List Value) (S : St) (r : Int32 × St) : Prop := ∀ (x : Nat → mCell) (mi : Nat → Int32) (ml : Nat → Int64) (ma : Nat → Nat → Int32), MoAt S mi ml ma → ∃ mi' ml' ma', vI j 107 as (MH x mi ml ma) = some (r.1, MH x mi' ml' ma') ∧ MoAt r.2 mi' ml' ma'
theorem Mo_looked {s : Nat} (hs : s < 4) (h : MoAt S mi ml ma) (hn : ∃ n, sSz S s = some n ∧ n ≤ 8) : vI 103 107 [.int (nI s)] (MH x mi ml ma) = some (0, MH x mi ml ma) := by
  obtain ⟨n, hn, h8⟩ := hn
  refine vI_of (ci := 8) rfl mo_O ?_
  rw [F103_eq, Mo_isSheet]
  simp only [Option.bind_some, isIn_le3, isIn_nI (show 4 < 2000000000 by decide) hs, b2i_0]
  rw [if_pos (by simp), moR2]
  simp only [Option.bind_some]
  rw [moAld (by decide) (show s < moLen 109 from hs)]
  simp only [Option.bind_some]
  rw [h.2.2.1 s hs, hn]
  simp only [nI_m9 (show n < 2000000000 by omega), if_true]
theorem Mo_lookedN {s : Nat} (hs : s < 4) (h : MoAt S mi ml ma) (hn : sSz S s = none) : vI 103 107 [.int (nI s)] (MH x mi ml ma) = some (-3, MH x (iup mi 0 (nI 1)) ml (mup ma 108 1 (ma 108 1 + 1))) := by
  refine vI_of (ci := 8) rfl mo_O ?_
  rw [F103_eq, Mo_isSheet]
  simp only [Option.bind_some, isIn_le3, isIn_nI (show 4 < 2000000000 by decide) hs, b2i_0]
  rw [if_pos (by simp), moR2]
  simp only [Option.bind_some]
  rw [moAld (by decide) (show s < moLen 109 from hs)]
  simp only [Option.bind_some]
  rw [h.2.2.1 s hs, hn]
  rw [if_neg (by decide), show (Value.int 1) = Value.int (nI 1) from rfl, Mo_meets (by decide)]
  rfl
theorem Mo_lookedB {s : Int32} (hs : isIn 4 s = false) : vI 103 107 [.int s] (MH x mi ml ma) = some (-1, MH x mi ml ma) := by
  refine vI_of (ci := 8) rfl mo_O ?_
  rw [F103_eq, Mo_isSheet]
  simp only [Option.bind_some, isIn_le3, hs, b2i_0, not_true, if_false]
end M2
theorem Mo_tear (S : St) (hW : Wf S) (s : Int32) : MoSp 106 [.int s] S (spTear S s) := by
  intro x mi ml ma h
  unfold spTear
  by_cases hb : isIn 4 s = false
  · rw [if_pos hb]
    refine ⟨mi, ml, ma, vI_of (ci := 8) rfl mo_O ?_, h⟩
    rw [F106_eq, Mo_lookedB hb]
    rfl
  · rw [if_neg hb]
    obtain ⟨q, hq, rfl, hc⟩ := isIn_ok (n := 4) (by decide) (by simpa using hb)
    rw [hc]
    cases hn : sSz S q with
    | none =>
      refine ⟨_, ml, _, vI_of (ci := 8) rfl mo_O ?_, h.meet (by decide)⟩
      rw [F106_eq, Mo_lookedN hq h hn]
      rfl
    | some n =>
      refine ⟨mi, ml, mup ma 109 q (-9), vI_of (ci := 8) rfl mo_O ?_, ?_⟩
      · rw [F106_eq, Mo_looked hq h ⟨n, hn, hW.1 q n hq hn⟩]
        simp only [Option.bind_some]
        rw [if_pos (by decide), moR2]
        simp only [Option.bind_some]
        rw [moAst (by decide) (show q < moLen 109 from hq)]
        rfl
      · obtain ⟨a1, a2, a3, a4, a5, a6, a7, a8⟩ := h
        refine ⟨a1, ?_, fun j hj => ?_, fun j i hj hi => ?_, ?_, ?_, a7, a8⟩
        · rw [mup_ne (by decide)]; exact a2
        · rw [mup_at]
          show upd (ma 109) q (-9) j = match fu (sSz S) q none j with
            | none => -9
            | some n => nI n
          by_cases e : j = q
          · subst e; rw [pk_us, fu_at]
          · rw [pk_un e, fu_ne e]; exact a3 j hj
        · rw [mup_ne (by decide), a4 j i hj hi]
          show sBy S j i = fu (sBy S) q (sBy S q) j i
          by_cases e : j = q
          · subst e; rw [fu_at]
          · rw [fu_ne e]
        · rw [mup_ne (by decide)]; exact a5
        · rw [mup_ne (by decide), mup_ne (by decide)]; exact a6
