theorem run_len : ∀ (n : Nat) {j pc : Nat} {ls : mLoc} {st : List Value} {h : mHeap} {cu su : Nat} {r : Option Value} {h' : mHeap}, run n j pc ls st h cu su = some (r, h') → h.length ≤ h'.length := by
  intro n
  induction n with
  | zero => intro j pc ls st h cu su r h' hr; cases hr
  | succ n IH =>
    intro j pc ls st h cu su r h' hr
    unfold run at hr
    split at hr
    · split at hr
      · rename_i hx
        exact Nat.le_trans (mx_len hx) (IH hr)
      · cases hr; exact Nat.le_refl _
      · split at hr
        · split at hr
          · rename_i hr1
            exact Nat.le_trans (IH hr1) (IH hr)
          · cases hr
        · cases hr
      · cases hr
    · cases hr
theorem run_noref : ∀ (n : Nat) {j pc : Nat} {ls : mLoc} {st : List Value} {h : mHeap} {cu su k : Nat} {h' : mHeap}, run n j pc ls st h cu su ≠ some (some (.ref k), h') := by
  intro n
  induction n with
  | zero => intro j pc ls st h cu su r h' hr; cases hr
  | succ n IH =>
    intro j pc ls st h cu su r h' hr
    unfold run at hr
    split at hr
    · rename_i hd
      split at hr
      · exact IH hr
      · rename_i hx
        cases hr
        exact (mx_ret hd hx).1
      · split at hr
        · split at hr
          · exact IH hr
          · cases hr
        · cases hr
      · cases hr
    · cases hr
theorem mR_vw {o : Nat} {q : vw_C} (h : vwCl[o]? = some q) : q.1 = mR o := by
  match o, h with
  | 0, h => cases h; rfl
  | 1, h => cases h; rfl
  | 2, h => cases h; rfl
  | 3, h => cases h; rfl
  | 4, h => cases h; rfl
  | 5, h => cases h; rfl
  | 6, h => cases h; rfl
  | 7, h => cases h; rfl
  | 8, h => cases h; rfl
  | n + 9, h => simp [vwCl] at h
