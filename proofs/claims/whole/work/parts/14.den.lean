/-! what a frame of the small machine comes to, without fuel -/
theorem run_succ : ∀ (n : Nat) {j pc : Nat} {ls : mLoc} {st : List Value} {h : mHeap} {cu su : Nat} {r : Option Value × mHeap}, run n j pc ls st h cu su = some r → run (n + 1) j pc ls st h cu su = some r := by
  intro n
  induction n with
  | zero => intro j pc ls st h cu su r hr; cases hr
  | succ n IH =>
    intro j pc ls st h cu su r hr
    unfold run at hr
    rw [run.eq_def]
    split at hr
    · rename_i hd
      split at hr
      · rename_i hx
        simp only [hd, hx]
        exact IH hr
      · rename_i hx
        simp only [hd, hx]
        exact hr
      · rename_i hx
        simp only [hd, hx]
        split at hr
        · rename_i hl
          rw [if_pos hl]
          split at hr
          · rename_i h1
            simp only [IH h1]
            exact IH hr
          · cases hr
        · cases hr
      · cases hr
    · cases hr
theorem run_le {n m : Nat} (h : n ≤ m) {j pc : Nat} {ls : mLoc} {st : List Value} {hp : mHeap} {cu su : Nat} {r : Option Value × mHeap} (hr : run n j pc ls st hp cu su = some r) : run m j pc ls st hp cu su = some r := by
  induction h with
  | refl => exact hr
  | step _ ih => exact run_succ _ ih
abbrev mR' : Type := Option (Option Value × mHeap)
noncomputable def D (j pc : Nat) (ls : mLoc) (st : List Value) (h : mHeap) (cu su : Nat) : mR' :=
  @dite mR' (∃ (r : Option Value × mHeap) (n : Nat), run n j pc ls st h cu su = some r) (Classical.propDecidable _) (fun hx => some (Classical.choose hx)) (fun _ => none)
section DEN
variable {j pc : Nat} {ls : mLoc} {st : List Value} {h : mHeap} {cu su : Nat}
theorem D_iff {r : Option Value × mHeap} : D j pc ls st h cu su = some r ↔ ∃ n, run n j pc ls st h cu su = some r := by
  unfold D
  by_cases hx : ∃ (r : Option Value × mHeap) (n : Nat), run n j pc ls st h cu su = some r
  · rw [dif_pos hx]
    obtain ⟨n1, h1⟩ := Classical.choose_spec hx
    constructor
    · intro hr
      cases hr
      exact ⟨n1, h1⟩
    · rintro ⟨n, hn⟩
      have a := run_le (Nat.le_max_left n n1) hn
      have b := run_le (Nat.le_max_right n n1) h1
      exact congrArg some (Option.some.inj (b.symm.trans a))
  · rw [dif_neg hx]
    constructor
    · intro hr; cases hr
    · rintro ⟨n, hn⟩
      exact absurd ⟨r, n, hn⟩ hx
theorem D_ext {j' pc' : Nat} {ls' : mLoc} {st' : List Value} {h' : mHeap} {cu' su' : Nat} {o : mR'} (hd : ∀ r, D j pc ls st h cu su = some r ↔ o = some r) : D j pc ls st h cu su = o := by
  cases ho : o with
  | none =>
    cases hD : D j pc ls st h cu su with
    | none => rfl
    | some r => have := (hd r).mp hD; rw [ho] at this; cases this
  | some r => exact (hd r).mpr ho
/-- one step -/
theorem D_next {i : Instr} {len : Nat} (hd : decode (mB j) pc = .ok (i, len)) {pc' : Nat} {ls' : mLoc} {st' : List Value} {h' : mHeap} {cu' su' : Nat} (hx : mx j i len pc ls st h cu su = some (.inl (pc', ls', st', h', cu', su'))) : D j pc ls st h cu su = D j pc' ls' st' h' cu' su' := by
  refine D_ext (j' := 0) (pc' := 0) (ls' := []) (st' := []) (h' := []) (cu' := 0) (su' := 0) (fun r => ?_)
  rw [D_iff, D_iff]
  have e : ∀ n, run (n + 1) j pc ls st h cu su = run n j pc' ls' st' h' cu' su' := by
    intro n
    rw [run.eq_def]
    simp only [hd, hx]
  constructor
  · rintro ⟨n, hn⟩
    cases n with
    | zero => cases hn
    | succ n => exact ⟨n, by rw [← e]; exact hn⟩
  · rintro ⟨n, hn⟩
    exact ⟨n + 1, by rw [e]; exact hn⟩
theorem D_none {i : Instr} {len : Nat} (hd : decode (mB j) pc = .ok (i, len)) (hx : mx j i len pc ls st h cu su = none) : D j pc ls st h cu su = none := by
  refine D_ext (j' := 0) (pc' := 0) (ls' := []) (st' := []) (h' := []) (cu' := 0) (su' := 0) (fun r => ?_)
  rw [D_iff]
  constructor
  · rintro ⟨n, hn⟩
    cases n with
    | zero => cases hn
    | succ n =>
      rw [run.eq_def] at hn
      simp only [hd, hx] at hn
      cases hn
  · intro hr; cases hr
theorem D_ret {i : Instr} {len : Nat} {v : Option Value} (hd : decode (mB j) pc = .ok (i, len)) (hx : mx j i len pc ls st h cu su = some (.inr (.inl v))) : D j pc ls st h cu su = some (v, h) := by
  rw [D_iff]
  refine ⟨1, ?_⟩
  rw [run.eq_def]
  simp only [hd, hx]
theorem D_call {i : Instr} {len j' : Nat} {as rest : List Value} (hd : decode (mB j) pc = .ok (i, len)) (hx : mx j i len pc ls st h cu su = some (.inr (.inr (j', as, rest)))) (hl : (mArg as).length ≤ mL j') : D j pc ls st h cu su = (D j' 0 (mEnt j' as) [] h 0 0).bind (fun q => D j (pc + 3) ls (mAns q.1 rest) q.2 (cu + (mRm j').cells) (su + (mRm j').slots)) := by
  refine D_ext (j' := 0) (pc' := 0) (ls' := []) (st' := []) (h' := []) (cu' := 0) (su' := 0) (fun r => ?_)
  rw [D_iff, Option.bind_eq_some_iff]
  have e : ∀ n, run (n + 1) j pc ls st h cu su = (run n j' 0 (mEnt j' as) [] h 0 0).bind (fun q => run n j (pc + 3) ls (mAns q.1 rest) q.2 (cu + (mRm j').cells) (su + (mRm j').slots)) := by
    intro n
    rw [run.eq_def]
    simp only [hd, hx, if_pos hl]
    cases run n j' 0 (mEnt j' as) [] h 0 0 with
    | none => rfl
    | some q => rfl
  constructor
  · rintro ⟨n, hn⟩
    cases n with
    | zero => cases hn
    | succ n =>
      rw [e, Option.bind_eq_some_iff] at hn
      obtain ⟨q, h1, h2⟩ := hn
      exact ⟨q, D_iff.mpr ⟨n, h1⟩, D_iff.mpr ⟨n, h2⟩⟩
  · rintro ⟨q, h1, h2⟩
    obtain ⟨n1, h1⟩ := D_iff.mp h1
    obtain ⟨n2, h2⟩ := D_iff.mp h2
    refine ⟨max n1 n2 + 1, ?_⟩
    rw [e, Option.bind_eq_some_iff]
    exact ⟨q, run_le (Nat.le_max_left n1 n2) h1, run_le (Nat.le_max_right n1 n2) h2⟩
end DEN
