section RP3
variable {n0 L1 L2 : Nat} {f0 x1 x2 : Nat → Int32} {t : mHeap} {j : Nat} {i : Instr} {len pc : Nat} {ls : mLoc} {st : List Value} {cu su : Nat} {o : mOut}
theorem law_f (hj : j ≠ mLaw) : (j == mLaw) = false := by
  cases e : j == mLaw with
  | false => rfl
  | true => exact absurd (by simpa using e) hj
set_option maxHeartbeats 4000000 in
theorem rp_mx (hj : j ≠ mLaw) : Rp n0 L1 L2 f0 x1 x2 (mx j i len pc ls st (k5 n0 f0 :: k6 L1 x1 :: t) cu su) (mx j i len pc ls st (k5 n0 f0 :: k6 L2 x2 :: t) cu su) := by
  have hl := law_f hj
  cases i
  case putfield k =>
    simp only [mx, mPutF]
    split
    · split
      · split
        · cases e : cPut (k5 n0 f0 :: k6 L1 x1 :: t) _ _ _ _ with
          | none => exact Rp.no
          | some h' =>
            obtain ⟨t', rfl, e2⟩ := cPut_r (L2 := L2) (x2 := x2) e
            rw [e2]
            exact Rp.nx
        · exact Rp.no
      · exact Rp.no
    · exact Rp.no
  case getfield k =>
    simp only [mx, mGetF]
    split
    · split
      · rw [cFld_r (L1 := L1) (x1 := x1) (L2 := L2) (x2 := x2)]
        split
        · split
          · split
            · exact Rp.nx
            · exact Rp.no
          · split
            · exact Rp.nx
            · exact Rp.no
        · exact Rp.no
      · exact Rp.no
    · exact Rp.no
  case invokestatic k => exact Rp.call
  case invokevirtual k => exact Rp.call (pc := pc)
  case invokespecial k => exact Rp.call
  case tableswitch d lo hi offs =>
    simp only [mx, mTab]
    split
    · split
      · split
        · exact Rp.nx
        · exact Rp.no
      · exact Rp.no
    · exact Rp.no
  case ifCond cd o =>
    cases cd <;> (simp only [mx, mif1]; split; (split; (split; (exact Rp.nx); (exact Rp.no)); (exact Rp.no)); (exact Rp.no))
  case if_icmp cd o =>
    cases cd <;> (simp only [mx, mif2]; split; (split; (split; (exact Rp.nx); (exact Rp.no)); (exact Rp.no)); (exact Rp.no))
  case iastore =>
    simp only [mx]
    split
    · split
      · cases e : cAstI (k5 n0 f0 :: k6 L1 x1 :: t) _ _ _ with
        | none => exact Rp.no
        | some h' =>
          obtain ⟨t', rfl, e2⟩ := cAstI_r (L2 := L2) (x2 := x2) e
          rw [e2]
          exact Rp.nx
      · exact Rp.no
    · exact Rp.no
  case bastore =>
    simp only [mx]
    split
    · split
      · cases e : cAstB (k5 n0 f0 :: k6 L1 x1 :: t) _ _ _ with
        | none => exact Rp.no
        | some h' =>
          obtain ⟨t', rfl, e2⟩ := cAstB_r (L2 := L2) (x2 := x2) e
          rw [e2]
          exact Rp.nx
      · exact Rp.no
    · exact Rp.no
  case lastore =>
    simp only [mx]
    split
    · split
      · cases e : cAstL (k5 n0 f0 :: k6 L1 x1 :: t) _ _ _ with
        | none => exact Rp.no
        | some h' =>
          obtain ⟨t', rfl, e2⟩ := cAstL_r (L2 := L2) (x2 := x2) e
          rw [e2]
          exact Rp.nx
      · exact Rp.no
    · exact Rp.no
  case aastore =>
    simp only [mx]
    split
    · split
      · cases e : cAstR (k5 n0 f0 :: k6 L1 x1 :: t) _ _ _ with
        | none => exact Rp.no
        | some h' =>
          obtain ⟨t', rfl, e2⟩ := cAstR_r (L2 := L2) (x2 := x2) e
          rw [e2]
          exact Rp.nx
      · exact Rp.no
    · exact Rp.no
  case iaload =>
    simp only [mx, hl]
    split
    · split
      · rw [cAldI_r (L1 := L1) (x1 := x1) (L2 := L2) (x2 := x2)]
        split
        · exact Rp.nx
        · exact Rp.no
      · exact Rp.no
    · exact Rp.no
  case baload =>
    simp only [mx]
    split
    · split
      · rw [cAldB_r (L1 := L1) (x1 := x1) (L2 := L2) (x2 := x2)]
        split
        · exact Rp.nx
        · exact Rp.no
      · exact Rp.no
    · exact Rp.no
  case laload =>
    simp only [mx]
    split
    · split
      · rw [cAldL_r (L1 := L1) (x1 := x1) (L2 := L2) (x2 := x2)]
        split
        · exact Rp.nx
        · exact Rp.no
      · exact Rp.no
    · exact Rp.no
  case aaload =>
    simp only [mx]
    split
    · split
      · rw [cAldR_r (L1 := L1) (x1 := x1) (L2 := L2) (x2 := x2)]
        split
        · exact Rp.nx
        · exact Rp.no
      · exact Rp.no
    · exact Rp.no
  case arraylength =>
    simp only [mx, hl]
    split
    · split
      · rw [cLen_r (L1 := L1) (x1 := x1) (L2 := L2) (x2 := x2)]
        split
        · exact Rp.nx
        · exact Rp.no
      · exact Rp.no
    · exact Rp.no
  case newarray a =>
    simp only [mx]
    split
    · split
      · split
        · exact Rp.no
        · split
          · exact Rp.new
          · exact Rp.no
      · exact Rp.no
    · exact Rp.no
  case anewarray a =>
    simp only [mx]
    split
    · split
      · split
        · exact Rp.no
        · exact Rp.new
      · exact Rp.no
    · exact Rp.no
  case new a =>
    simp only [mx]
    split
    · split
      · split
        · exact Rp.new
        · exact Rp.no
      · exact Rp.no
    · exact Rp.no
  case ireturn =>
    simp only [mx, mRet]
    split
    · split
      · exact Rp.out
      · split
        · exact Rp.out
        · exact Rp.no
      · exact Rp.no
    · exact Rp.no
  case lreturn =>
    simp only [mx]
    split
    · split
      · exact Rp.out
      · exact Rp.no
    · exact Rp.no
  case return_ =>
    simp only [mx]
    split
    · split
      · exact Rp.out
      · exact Rp.no
    · exact Rp.no
  all_goals (simp only [mx, mload, mstore, mpush, mbi, mbl, mbs, mui])
  all_goals (repeat' split)
  all_goals first | exact Rp.nx | exact Rp.no
theorem run_r : ∀ (n : Nat) {j pc : Nat} {ls : mLoc} {st : List Value} {t : mHeap} {cu su : Nat} {r : Option Value} {h' : mHeap}, j ≠ mLaw → run n j pc ls st (k5 n0 f0 :: k6 L1 x1 :: t) cu su = some (r, h') → ∃ t', h' = k5 n0 f0 :: k6 L1 x1 :: t' ∧ run n j pc ls st (k5 n0 f0 :: k6 L2 x2 :: t) cu su = some (r, k5 n0 f0 :: k6 L2 x2 :: t') := by
  intro n
  induction n with
  | zero => intro j pc ls st t cu su r h' hj hr; cases hr
  | succ n IH =>
    intro j pc ls st t cu su r h' hj hr
    unfold run at hr
    rw [run.eq_def]
    split at hr
    · rename_i i len hd
      have hrp := rp_mx (n0 := n0) (L1 := L1) (L2 := L2) (f0 := f0) (x1 := x1) (x2 := x2) (t := t) (i := i) (len := len) (pc := pc) (ls := ls) (st := st) (cu := cu) (su := su) hj
      split at hr
      · rename_i hx
        rcases hrp _ hx with ⟨pc', ls', st', t', cu', su', e1, e2⟩ | ⟨⟨x, e1⟩, e2⟩
        · cases e1
          simp only [hd, e2]
          exact IH hj hr
        · cases e1
      · rename_i v hx
        rcases hrp _ hx with ⟨pc', ls', st', t', cu', su', e1, e2⟩ | ⟨⟨x, e1⟩, e2⟩
        · cases e1
        · cases hr
          exact ⟨t, rfl, by simp only [hd, e2]⟩
      · rename_i j' as rest hx
        rcases hrp _ hx with ⟨pc', ls', st', t', cu', su', e1, e2⟩ | ⟨⟨x, e1⟩, e2⟩
        · cases e1
        · obtain ⟨kd, idx, -, hm⟩ := mx_call hx
          have hjl : j' ≠ mLaw := by
            obtain ⟨-, ne, -, -, -, hc, -⟩ := mCall_call hm
            exact hc.2.2.2.2.1
          split at hr
          · rename_i hlen
            split at hr
            · rename_i v h1 hr1
              obtain ⟨t1, rfl, e3⟩ := IH hjl hr1
              obtain ⟨t2, rfl, e4⟩ := IH hj hr
              refine ⟨t2, rfl, ?_⟩
              simp only [hd, e2, if_pos hlen, e3]
              exact e4
            · cases hr
          · cases hr
      · cases hr
    · cases hr
end RP3
