section SND
variable {j : Nat} {i : Instr} {len pc : Nat} {ls : mLoc} {st : List Value} {h : mHeap} {cu su : Nat}
set_option maxHeartbeats 4000000 in
theorem mCall_len {kd idx : Nat} {F : mFr} (hx : mCall j kd idx len pc ls st h cu su = some (.inl F)) : h.length ≤ F.2.2.2.1.length := by
  unfold mCall mnx at hx
  split at hx
  · split at hx
    · split at hx
      · split at hx
        · split at hx
          · cases hx; exact Nat.le_refl _
          · cases hx
        · cases hx
      · split at hx
        · split at hx
          · split at hx
            · split at hx
              · rename_i hc; cases hx; exact Nat.le_of_eq (cCpy_len hc).symm
              · cases hx
            · cases hx
          · cases hx
        · split at hx
          · split at hx
            · split at hx <;> cases hx
            · split at hx
              · split at hx
                · split at hx <;> cases hx
                · cases hx
              · cases hx
          · cases hx
    · cases hx
  · cases hx
set_option maxHeartbeats 4000000 in
theorem mx_len {F : mFr} (hx : mx j i len pc ls st h cu su = some (.inl F)) : h.length ≤ F.2.2.2.1.length := by
  cases i
  case putfield k =>
    simp only [mx] at hx
    obtain ⟨-, ci, k1, a, r, v, h', -, -, -, hc, rfl⟩ := mPutF_inv hx
    exact Nat.le_of_eq (cPut_len hc).symm
  case getfield k =>
    simp only [mx] at hx
    obtain ⟨-, ci, k1, a, r, v, -, -, -, rfl⟩ := mGetF_inv hx
    exact Nat.le_refl _
  case invokestatic k => exact mCall_len hx
  case invokevirtual k => exact mCall_len (pc := pc) hx
  case invokespecial k => exact mCall_len hx
  case tableswitch d lo hi offs =>
    simp only [mx] at hx
    obtain ⟨_, _, _, _, -, -, -, rfl⟩ := mTab_inv hx
    exact Nat.le_refl _
  case ifCond cd o =>
    cases cd <;> (simp only [mx] at hx; obtain ⟨-, _, _, _, -, -, rfl⟩ := mif1_inv hx; exact Nat.le_refl _)
  case if_icmp cd o =>
    cases cd <;> (simp only [mx] at hx; obtain ⟨-, _, _, _, _, -, -, rfl⟩ := mif2_inv hx; exact Nat.le_refl _)
  case iastore =>
    simp only [mx, mnx] at hx
    repeat' split at hx
    all_goals first | (cases hx; done) | (rename_i hc; cases hx; exact Nat.le_of_eq (cAstI_len hc).symm)
  case bastore =>
    simp only [mx, mnx] at hx
    repeat' split at hx
    all_goals first | (cases hx; done) | (rename_i hc; cases hx; exact Nat.le_of_eq (cAstB_len hc).symm)
  case lastore =>
    simp only [mx, mnx] at hx
    repeat' split at hx
    all_goals first | (cases hx; done) | (rename_i hc; cases hx; exact Nat.le_of_eq (cAstL_len hc).symm)
  case aastore =>
    simp only [mx, mnx] at hx
    repeat' split at hx
    all_goals first | (cases hx; done) | (rename_i hc; cases hx; exact Nat.le_of_eq (cAstR_len hc).symm)
  case newarray a =>
    simp only [mx] at hx
    repeat' split at hx
    all_goals first | (cases hx; done) | (obtain ⟨-, rfl⟩ := mNew_inv hx; simp)
  case anewarray a =>
    simp only [mx] at hx
    split at hx
    · split at hx
      · split at hx
        · cases hx
        · obtain ⟨-, rfl⟩ := mNew_inv hx; simp
      · cases hx
    · cases hx
  case new a =>
    simp only [mx] at hx
    repeat' split at hx
    all_goals first | (cases hx; done) | (obtain ⟨-, rfl⟩ := mNew_inv hx; simp)
  case ireturn =>
    simp only [mx, mRet] at hx
    repeat' split at hx
    all_goals (cases hx)
  all_goals (simp only [mx, mload, mstore, mpush, mbi, mbl, mbs, mui, mnx] at hx)
  all_goals (repeat' split at hx)
  all_goals first | (cases hx; done) | (cases hx; exact Nat.le_refl _)
/-- how a method ends -/
def mRe (j pc : Nat) (r : Option Value) : Prop := match r with
  | some (.int v) => decode (mB j) pc = .ok (.ireturn, 1) ∧ (mRt j = some .int ∨ (mRt j = some .boolean ∧ narrow .boolean (.int v) = .int v))
  | some (.long _) => decode (mB j) pc = .ok (.lreturn, 1) ∧ mRt j = some .long
  | none => decode (mB j) pc = .ok (.return_, 1) ∧ mRt j = none
  | _ => False
set_option maxHeartbeats 4000000 in
theorem mCall_ret {kd idx : Nat} {r : Option Value} (hx : mCall j kd idx len pc ls st h cu su = some (.inr (.inl r))) : False := by
  unfold mCall mnx at hx
  split at hx
  · split at hx
    · split at hx
      · split at hx
        · split at hx <;> cases hx
        · cases hx
      · split at hx
        · split at hx
          · split at hx
            · split at hx <;> cases hx
            · cases hx
          · cases hx
        · split at hx
          · split at hx
            · split at hx <;> cases hx
            · split at hx
              · split at hx
                · split at hx <;> cases hx
                · cases hx
              · cases hx
          · cases hx
    · cases hx
  · cases hx
set_option maxHeartbeats 4000000 in
theorem mx_ret {r : Option Value} (hd : decode (mB j) pc = .ok (i, len)) (hx : mx j i len pc ls st h cu su = some (.inr (.inl r))) : mRe j pc r ∧ st = r.toList := by
  cases i
  case ireturn =>
    simp only [mx, mRet] at hx
    split at hx
    · rename_i e; subst e
      split at hx
      · rename_i hr; cases hx; exact ⟨⟨hd, Or.inl hr⟩, rfl⟩
      · rename_i hr
        split at hx
        · rename_i hn; cases hx; exact ⟨⟨hd, Or.inr ⟨hr, hn⟩⟩, rfl⟩
        · cases hx
      · cases hx
    · cases hx
  case lreturn =>
    simp only [mx] at hx
    split at hx
    · rename_i e; subst e
      split at hx
      · rename_i hr; cases hx; exact ⟨⟨hd, hr⟩, rfl⟩
      · cases hx
    · cases hx
  case return_ =>
    simp only [mx] at hx
    split at hx
    · rename_i e; subst e
      split at hx
      · rename_i hr; cases hx; exact ⟨⟨hd, hr⟩, rfl⟩
      · cases hx
    · cases hx
  case invokestatic k => exact (mCall_ret hx).elim
  case invokevirtual k => exact (mCall_ret (pc := pc) hx).elim
  case invokespecial k => exact (mCall_ret hx).elim
  case ifCond cd o =>
    cases cd
    all_goals (simp only [mx, mif1, mnx] at hx)
    all_goals (split at hx)
    all_goals first | (cases hx; done) | (split at hx)
    all_goals first | (cases hx; done) | (split at hx)
    all_goals cases hx
  case if_icmp cd o =>
    cases cd
    all_goals (simp only [mx, mif2, mnx] at hx)
    all_goals (split at hx)
    all_goals first | (cases hx; done) | (split at hx)
    all_goals first | (cases hx; done) | (split at hx)
    all_goals cases hx
  case tableswitch d lo hi offs =>
    simp only [mx, mTab, mnx] at hx
    split at hx
    · split at hx
      · split at hx <;> cases hx
      · cases hx
    · cases hx
  all_goals (simp only [mx, mload, mstore, mpush, mbi, mbl, mbs, mui, mnx, mGetF, mPutF, mNew] at hx)
  all_goals (repeat' split at hx)
  all_goals (cases hx)
set_option maxHeartbeats 4000000 in
theorem mCall_call {kd idx j' : Nat} {as rest : List Value} (hx : mCall j kd idx len pc ls st h cu su = some (.inr (.inr (j', as, rest)))) : len = 3 ∧ ∃ ne, mM (mO j) idx = some (j', ne) ∧ j' ≠ 1000 ∧ j' ≠ 1001 ∧ (mKd j' = kd ∧ mNp j' ≤ st.length ∧ mRoomOk j j' cu su = true ∧ j' < mN ∧ j' ≠ mLaw ∧ ((mRm j').cells = 0 ∨ wLS h.length ls (st.drop (mNp j')) = true)) ∧ mCat rest ≤ 8 ∧ ((kd = 0 ∧ as = (st.take (mNp j')).reverse ∧ rest = st.drop (mNp j')) ∨ (kd ≠ 0 ∧ ∃ b fs, st.drop (mNp j') = .ref b :: rest ∧ h[b]? = some (.inr (mO j', fs)) ∧ as = .ref b :: (st.take (mNp j')).reverse)) := by
  unfold mCall mnx at hx
  split at hx
  · rename_i e1
    split at hx
    · rename_i j1 ne hm
      split at hx
      · split at hx
        · split at hx <;> cases hx
        · cases hx
      · rename_i n1
        split at hx
        · split at hx
          · split at hx
            · split at hx <;> cases hx
            · cases hx
          · cases hx
        · rename_i n2
          split at hx
          · rename_i hc
            split at hx
            · split at hx
              · rename_i h8
                cases hx
                exact ⟨e1, ne, hm, n1, n2, hc, h8, Or.inl ⟨rfl, rfl, rfl⟩⟩
              · cases hx
            · rename_i hk0
              split at hx
              · rename_i b r hdr
                split at hx
                · rename_i c fs hb
                  split at hx
                  · rename_i h8
                    cases hx
                    obtain ⟨h8, h9⟩ := h8
                    subst h8
                    exact ⟨e1, ne, hm, n1, n2, hc, h9, Or.inr ⟨fun z => hk0 z, b, fs, hdr, hb, rfl⟩⟩
                  · cases hx
                · cases hx
              · cases hx
          · cases hx
    · cases hx
  · cases hx
set_option maxHeartbeats 4000000 in
theorem mx_call {j' : Nat} {as rest : List Value} (hx : mx j i len pc ls st h cu su = some (.inr (.inr (j', as, rest)))) : ∃ kd idx, ((kd = 0 ∧ i = .invokestatic idx) ∨ (kd = 1 ∧ i = .invokevirtual idx) ∨ (kd = 2 ∧ i = .invokespecial idx)) ∧ mCall j kd idx len pc ls st h cu su = some (.inr (.inr (j', as, rest))) := by
  cases i
  case invokestatic k => exact ⟨0, k, Or.inl ⟨rfl, rfl⟩, hx⟩
  case invokevirtual k => exact ⟨1, k, Or.inr (Or.inl ⟨rfl, rfl⟩), hx⟩
  case invokespecial k => exact ⟨2, k, Or.inr (Or.inr ⟨rfl, rfl⟩), hx⟩
  case ifCond cd o =>
    cases cd
    all_goals (simp only [mx, mif1, mnx] at hx)
    all_goals (split at hx)
    all_goals first | (cases hx; done) | (split at hx)
    all_goals first | (cases hx; done) | (split at hx)
    all_goals cases hx
  case if_icmp cd o =>
    cases cd
    all_goals (simp only [mx, mif2, mnx] at hx)
    all_goals (split at hx)
    all_goals first | (cases hx; done) | (split at hx)
    all_goals first | (cases hx; done) | (split at hx)
    all_goals cases hx
  case tableswitch d lo hi offs =>
    simp only [mx, mTab, mnx] at hx
    split at hx
    · split at hx
      · split at hx <;> cases hx
      · cases hx
    · cases hx
  all_goals (simp only [mx, mload, mstore, mpush, mbi, mbl, mbs, mui, mnx, mGetF, mPutF, mNew, mRet] at hx)
  all_goals (repeat' split at hx)
  all_goals (cases hx)
end SND
