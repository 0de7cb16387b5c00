/-! each instruction of the small machine is the machine's -/
def mTyl (cT : Nat → ClassId) : List (ClassId × FieldType) := [(cT 0, .int), (cT 1, .byte), (cT 2, .long), (cT 3, .object RX6), (cT 4, .object RX3)]
def mPart : Nat → Int32 := fun k => ([0, 840, 420, 280, 210, 168, 140, 120, 105] : List Int32).getD k 0
def mE (cT dC : Nat → ClassId) (dI : Nat → Nat → Nat) (t : Nat) (A : Nat → Prop) (U : State) : Prop :=
  va_K (dC, dI) vwCl (mTyl cT) U ∧ (∀ w ∈ mNest, va_Nw w U) ∧ (va_AO RX6 U ∧ va_AO RX3 U) ∧ va_Z "SquareGrounds" "PART_OF_WHOLE" "[I" (.ref t) A U U.heap ∧ va_T .int t 9 (fun k => .int (mPart k)) A U U.heap
def mCx (cT dC : Nat → ClassId) (dI : Nat → Nat → Nat) (t b L : Nat) (xs : Nat → Int32) (A : Nat → Prop) (j : Nat) (p : Program) (s : State) (m : MethodId) (meth : Method) (c : Code) (args : Array Value) : Prop :=
  p.tables.exec = Jvm.exec ∧ c.code = mB j ∧ c.maxLocals = mL j ∧ s.vm.findClass (mR (mO j)) = some m.cls ∧ (∀ w ∈ mG, w.before args s = true) ∧ mE cT dC dI t A s ∧ (∀ q, s.heap.size ≤ q → A q) ∧ (mKd j = 2 → meth.name = "<init>") ∧ (j = mLaw → va_X b L xs s s.heap ∧ b < s.heap.size ∧ ¬ A b)
def mI (cT dC : Nat → ClassId) (dI : Nat → Nat → Nat) (t b L : Nat) (xs : Nat → Int32) (A : Nat → Prop) (s : State) (ad : Nat → Nat) (h : mHeap) (H : Heap) (locs : List Loc) : Prop :=
  ad 0 = t ∧ ad 1 = b ∧ h[0]? = some (.inl (5, 9, .inl mPart)) ∧ h[1]? = some (.inl (6, L, .inl xs)) ∧ va_P (dC, dI) vwCl (mW ad cT h) H ∧ va_D A (mW ad cT h) ∧ va_S A s.heap H locs
theorem mok_0 {v : Value} (h : mok 0 v = true) : ∃ x, v = .int x := by cases v <;> first | exact ⟨_, rfl⟩ | (simp [mok] at h)
theorem mok_1 {v : Value} (h : mok 1 v = true) : ∃ x, v = .long x := by cases v <;> first | exact ⟨_, rfl⟩ | (simp [mok] at h)
theorem mok_2 {v : Value} (h : mok 2 v = true) : ∃ x, v = .ref x := by cases v <;> first | exact ⟨_, rfl⟩ | (simp [mok] at h)
theorem mtg_ok {pc t : Nat} {off : Int} (h : mtg pc off = some t) : (pc : Int) + off = (t : Int) := by
  unfold mtg at h
  split at h
  · cases h; omega
  · cases h
section INV
variable {len pc : Nat} {ls : mLoc} {st : List Value} {h : mHeap} {cu su : Nat} {F : mFr}
theorem mload_inv {kd k l : Nat} (hx : mload kd k l len pc ls st h cu su = some (.inl F)) : len = l ∧ ∃ v, mget ls k = some v ∧ mok kd v = true ∧ F = (pc + l, ls, v :: st, h, cu, su) := by
  unfold mload mnx at hx
  repeat' split at hx
  all_goals first | (cases hx; done) | (cases hx; exact ⟨by assumption, _, by assumption, by assumption, rfl⟩)
theorem mstore_inv {kd k l : Nat} (hx : mstore kd k l len pc ls st h cu su = some (.inl F)) : len = l ∧ ∃ v r ls', st = v :: r ∧ mok kd v = true ∧ mst ls k v = some ls' ∧ F = (pc + l, ls', r, h, cu, su) := by
  unfold mstore mnx at hx
  repeat' split at hx
  all_goals first | (cases hx; done) | (cases hx; exact ⟨by assumption, _, _, _, rfl, by assumption, by assumption, rfl⟩)
theorem mpush_inv {v : Value} {l : Nat} (hx : mpush v l len pc ls st h cu su = some (.inl F)) : len = l ∧ F = (pc + l, ls, v :: st, h, cu, su) := by
  unfold mpush mnx at hx
  repeat' split at hx
  all_goals first | (cases hx; done) | (cases hx; exact ⟨by assumption, rfl⟩)
theorem mbi_inv {f : Int32 → Int32 → Option Int32} (hx : mbi f len pc ls st h cu su = some (.inl F)) : len = 1 ∧ ∃ x y r z, st = .int y :: .int x :: r ∧ f x y = some z ∧ F = (pc + 1, ls, .int z :: r, h, cu, su) := by
  unfold mbi mnx at hx
  repeat' split at hx
  all_goals first | (cases hx; done) | (cases hx; exact ⟨by assumption, _, _, _, _, rfl, by assumption, rfl⟩)
theorem mbl_inv {f : Int64 → Int64 → Option Int64} (hx : mbl f len pc ls st h cu su = some (.inl F)) : len = 1 ∧ ∃ x y r z, st = .long y :: .long x :: r ∧ f x y = some z ∧ F = (pc + 1, ls, .long z :: r, h, cu, su) := by
  unfold mbl mnx at hx
  repeat' split at hx
  all_goals first | (cases hx; done) | (cases hx; exact ⟨by assumption, _, _, _, _, rfl, by assumption, rfl⟩)
theorem mbs_inv {f : Int64 → Int32 → Int64} (hx : mbs f len pc ls st h cu su = some (.inl F)) : len = 1 ∧ ∃ x y r, st = .int y :: .long x :: r ∧ F = (pc + 1, ls, .long (f x y) :: r, h, cu, su) := by
  unfold mbs mnx at hx
  repeat' split at hx
  all_goals first | (cases hx; done) | (cases hx; exact ⟨by assumption, _, _, _, rfl, rfl⟩)
theorem mui_inv {f : Int32 → Value} (hx : mui f len pc ls st h cu su = some (.inl F)) : len = 1 ∧ ∃ x r, st = .int x :: r ∧ F = (pc + 1, ls, f x :: r, h, cu, su) := by
  unfold mui mnx at hx
  repeat' split at hx
  all_goals first | (cases hx; done) | (cases hx; exact ⟨by assumption, _, _, rfl, rfl⟩)
theorem mif1_inv {f : Int32 → Bool} {off : Int} (hx : mif1 f off len pc ls st h cu su = some (.inl F)) : len = 3 ∧ ∃ x r t, st = .int x :: r ∧ mtg pc off = some t ∧ F = (if f x = true then t else pc + 3, ls, r, h, cu, su) := by
  unfold mif1 mnx at hx
  split at hx
  · split at hx
    · split at hx
      · simp only [Option.some.injEq, Sum.inl.injEq] at hx
        exact ⟨by assumption, _, _, _, rfl, by assumption, hx.symm⟩
      · cases hx
    · cases hx
  · cases hx
theorem mif2_inv {f : Int32 → Int32 → Bool} {off : Int} (hx : mif2 f off len pc ls st h cu su = some (.inl F)) : len = 3 ∧ ∃ x y r t, st = .int y :: .int x :: r ∧ mtg pc off = some t ∧ F = (if f x y = true then t else pc + 3, ls, r, h, cu, su) := by
  unfold mif2 mnx at hx
  split at hx
  · split at hx
    · split at hx
      · simp only [Option.some.injEq, Sum.inl.injEq] at hx
        exact ⟨by assumption, _, _, _, _, rfl, by assumption, hx.symm⟩
      · cases hx
    · cases hx
  · cases hx
theorem mGetF_inv {j idx : Nat} (hx : mGetF j idx len pc ls st h cu su = some (.inl F)) : len = 3 ∧ ∃ ci k a r v, mF (mO j) idx = some (ci, k) ∧ st = .ref a :: r ∧ cFld h a ci k = some v ∧ F = (pc + 3, ls, v :: r, h, cu, su) := by
  unfold mGetF mnx at hx
  split at hx
  · split at hx
    · split at hx
      · generalize (if mKi _ _ = 3 then 0 else mKi _ _) = z at hx
        split at hx
        · cases hx
          exact ⟨by assumption, _, _, _, _, _, by assumption, rfl, by assumption, rfl⟩
        · cases hx
      · cases hx
    · cases hx
  · cases hx
theorem cFld_inv {a ci k : Nat} {v : Value} (hx : cFld h a ci k = some v) : ∃ fs, h[a]? = some (.inr (ci, fs)) ∧ fs[k]? = some v := by
  unfold cFld at hx
  split at hx
  · split at hx
    · rename_i e; subst e; exact ⟨_, by assumption, hx⟩
    · cases hx
  · cases hx
theorem cPut_inv {a ci k : Nat} {v : Value} {h' : mHeap} (hx : cPut h a ci k v = some h') : ∃ fs, h[a]? = some (.inr (ci, fs)) ∧ k < fs.length ∧ h' = h.set a (.inr (ci, fs.set k v)) := by
  unfold cPut at hx
  split at hx
  · split at hx
    · rename_i e; obtain ⟨e, e2⟩ := e; subst e; cases hx; exact ⟨_, by assumption, e2, rfl⟩
    · cases hx
  · cases hx
theorem mPutF_inv {j idx : Nat} (hx : mPutF j idx len pc ls st h cu su = some (.inl F)) : len = 3 ∧ ∃ ci k a r v h', mF (mO j) idx = some (ci, k) ∧ st = v :: .ref a :: r ∧ (((mKi ci k = 3 ∧ mok 0 v = true ∧ narrow .boolean v = v ∧ fits .boolean v = true) ∨ (mKi ci k < 3 ∧ mok (mKi ci k) v = true)) ∧ mFin j ci k = true) ∧ cPut h a ci k v = some h' ∧ F = (pc + 3, ls, r, h', cu, su) := by
  unfold mPutF mnx at hx
  split at hx
  · split at hx
    · split at hx
      · split at hx
        · cases hx
          exact ⟨by assumption, _, _, _, _, _, _, by assumption, rfl, by assumption, by assumption, rfl⟩
        · cases hx
      · cases hx
    · cases hx
  · cases hx
theorem mTab_inv {d lo hi : Int} {offs : Array Int} (hx : mTab d lo hi offs pc ls st h cu su = some (.inl F)) : ∃ x r o t, st = .int x :: r ∧ (if x.toInt < lo ∨ hi < x.toInt then some d else offs[(x.toInt - lo).toNat]?) = some o ∧ mtg pc o = some t ∧ F = (t, ls, r, h, cu, su) := by
  unfold mTab mnx at hx
  split at hx
  · split at hx
    · split at hx
      · cases hx
        exact ⟨_, _, _, _, rfl, by assumption, by assumption, rfl⟩
      · cases hx
    · cases hx
  · cases hx
theorem mNew_inv {j n l : Nat} {c : mCell} (hx : mNew j c n l pc ls st h cu su = some (.inl F)) : (cu + 1 ≤ (mRm j).cells ∧ su + n ≤ (mRm j).slots ∧ wLS h.length ls st = true ∧ wH h = true ∧ 2 ≤ h.length) ∧ F = (pc + l, ls, .ref h.length :: st, h ++ [c], cu + 1, su + n) := by
  unfold mNew at hx
  split at hx
  · cases hx; exact ⟨by assumption, rfl⟩
  · cases hx
end INV
theorem find_ok {α : Type} {P : α → Bool} {l : List α} {x : α} (h : l.find? P = some x) : x ∈ l ∧ P x = true := ⟨List.mem_of_find?_eq_some h, List.find?_some h⟩
theorem mF_ok {o i ci k : Nat} (h : mF o i = some (ci, k)) : ∃ C T N, vwCl[ci]? = some (C, T, N) ∧ k < N ∧ Cond.fieldLink (mR o) i (T k).1 (T k).2.1 (T k).2.2.1 ∈ mG := by
  unfold mF at h
  cases hf : mFl.find? (fun e => e.1 == o && e.2.1 == i) with
  | none => rw [hf] at h; cases h
  | some e =>
    rw [hf] at h
    obtain ⟨h1, h2⟩ := find_ok hf
    simp only [Option.map_some, Option.some.injEq] at h
    simp only [Bool.and_eq_true, beq_iff_eq] at h2
    have h3 := List.all_eq_true.mp mChF_ok e h1
    unfold mChF at h3
    rw [h2.1, h2.2, h] at h3
    dsimp only at h3
    cases hv : vwCl[ci]? with
    | none => rw [hv] at h3; cases h3
    | some q =>
      obtain ⟨C, T, N⟩ := q
      rw [hv] at h3
      simp only [Bool.and_eq_true, decide_eq_true_eq] at h3
      exact ⟨C, T, N, rfl, h3.1, h3.2⟩
theorem mK_ok {o i : Nat} {v : Int64} (h : mK o i = some v) : Cond.constantLong (mR o) i v ∈ mG := by
  unfold mK at h
  cases hf : mKl.find? (fun e => e.1 == o && e.2.1 == i) with
  | none => rw [hf] at h; cases h
  | some e =>
    rw [hf] at h
    obtain ⟨h1, h2⟩ := find_ok hf
    simp only [Option.map_some, Option.some.injEq] at h
    simp only [Bool.and_eq_true, beq_iff_eq] at h2
    have h3 := List.all_eq_true.mp mChK_ok e h1
    rw [h2.1, h2.2, h] at h3
    exact of_decide_eq_true h3
theorem mC_ok {o i ci : Nat} (h : mC o i = some ci) : ∃ C T N, vwCl[ci]? = some (C, T, N) ∧ Cond.classLink (mR o) i C ∈ mG ∧ Cond.instantiable C N ∈ mG ∧ Cond.initialized C ∈ mG := by
  unfold mC at h
  cases hf : mCl.find? (fun e => e.1 == o && e.2.1 == i) with
  | none => rw [hf] at h; cases h
  | some e =>
    rw [hf] at h
    obtain ⟨h1, h2⟩ := find_ok hf
    simp only [Option.map_some, Option.some.injEq] at h
    simp only [Bool.and_eq_true, beq_iff_eq] at h2
    have h3 := List.all_eq_true.mp mChC_ok e h1
    rw [h2.1, h2.2, h] at h3
    cases hv : vwCl[ci]? with
    | none => rw [hv] at h3; cases h3
    | some q =>
      obtain ⟨C, T, N⟩ := q
      rw [hv] at h3
      simp only [Bool.and_eq_true, decide_eq_true_eq] at h3
      exact ⟨C, T, N, rfl, h3.1.1, h3.1.2, h3.2⟩
theorem mU_ok {ci : Nat} {C : String} {T : u_T} {N : Nat} (h : vwCl[ci]? = some (C, T, N)) : (∀ w ∈ u_ws C T N, w ∈ mG) ∧ (∀ k, k < N → parseFieldDescriptor (T k).2.2.1 = some (mTy ci k)) ∧ (∀ a, a < N → ∀ b, b < N → a ≠ b → (T a).2.1 ≠ (T b).2.1) := by
  have key : ∀ {C : String} {T : u_T} {N : Nat}, (u_ws C T N).all (fun w => decide (w ∈ mG)) = true → ∀ w ∈ u_ws C T N, w ∈ mG := fun h w hw => of_decide_eq_true (List.all_eq_true.mp h w hw)
  match ci, h with
  | 0, h => cases h; exact ⟨key mChU_0, tyX0_ok, nmX0⟩
  | 1, h => cases h; exact ⟨key mChU_1, tyX1_ok, nmX1⟩
  | 2, h => cases h; exact ⟨key mChU_2, tyX2_ok, nmX2⟩
  | 3, h => cases h; exact ⟨key mChU_3, tyX3_ok, nmX3⟩
  | 4, h => cases h; exact ⟨key mChU_4, tyX4_ok, nmX4⟩
  | 5, h => cases h; exact ⟨key mChU_5, tyX5_ok, nmX5⟩
  | 6, h => cases h; exact ⟨key mChU_6, tyX6_ok, nmX6⟩
  | 7, h => cases h; exact ⟨key mChU_7, tyX7_ok, nmX7⟩
  | 8, h => cases h; exact ⟨key mChU_8, tyX8_ok, nmX8⟩
  | n + 9, h => simp [vwCl] at h
theorem put_ok {ad : Nat → Nat} {ci k : Nat} {v : Value} (h : (mKi ci k = 3 ∧ mok 0 v = true ∧ narrow .boolean v = v ∧ fits .boolean v = true) ∨ (mKi ci k < 3 ∧ mok (mKi ci k) v = true)) : narrow (mTy ci k) (trV ad v) = trV ad v ∧ fits (mTy ci k) (trV ad v) = true := by
  rcases h with ⟨h1, h2, h3, h4⟩ | ⟨h1, h2⟩
  · obtain ⟨x, rfl⟩ := mok_0 h2
    unfold mKi at h1
    cases ht : mTy ci k with
    | boolean => exact ⟨h3, h4⟩
    | _ => rw [ht] at h1; simp at h1
  · unfold mKi at h1 h2
    cases ht : mTy ci k with
    | int =>
      rw [ht] at h2
      obtain ⟨x, rfl⟩ := mok_0 h2
      exact ⟨rfl, rfl⟩
    | long =>
      rw [ht] at h2
      obtain ⟨x, rfl⟩ := mok_1 h2
      exact ⟨rfl, rfl⟩
    | object C =>
      rw [ht] at h2
      obtain ⟨x, rfl⟩ := mok_2 h2
      exact ⟨rfl, rfl⟩
    | array C =>
      rw [ht] at h2
      obtain ⟨x, rfl⟩ := mok_2 h2
      exact ⟨rfl, rfl⟩
    | _ => rw [ht] at h1; simp at h1
theorem mT_own {ci k : Nat} {C : String} {T : u_T} {N : Nat} (h : vwCl[ci]? = some (C, T, N)) (hk : k < N) : (T k).1 = mR ci := by
  have a0 : ∀ k, k < 7 → (TX0 k).1 = mR 0 := by decide +kernel
  have a1 : ∀ k, k < 7 → (TX1 k).1 = mR 1 := by decide +kernel
  have a2 : ∀ k, k < 2 → (TX2 k).1 = mR 2 := by decide +kernel
  have a3 : ∀ k, k < 6 → (TX3 k).1 = mR 3 := by decide +kernel
  have a4 : ∀ k, k < 5 → (TX4 k).1 = mR 4 := by decide +kernel
  have a5 : ∀ k, k < 8 → (TX5 k).1 = mR 5 := by decide +kernel
  have a6 : ∀ k, k < 2 → (TX6 k).1 = mR 6 := by decide +kernel
  have a7 : ∀ k, k < 10 → (TX7 k).1 = mR 7 := by decide +kernel
  have a8 : ∀ k, k < 30 → (TX8 k).1 = mR 8 := by decide +kernel
  match ci, h with
  | 0, h => cases h; exact a0 k hk
  | 1, h => cases h; exact a1 k hk
  | 2, h => cases h; exact a2 k hk
  | 3, h => cases h; exact a3 k hk
  | 4, h => cases h; exact a4 k hk
  | 5, h => cases h; exact a5 k hk
  | 6, h => cases h; exact a6 k hk
  | 7, h => cases h; exact a7 k hk
  | 8, h => cases h; exact a8 k hk
  | n + 9, h => simp [vwCl] at h
theorem arrI_in : Cond.arrayClass .int ∈ mG := by decide +kernel
theorem arrB_in : Cond.arrayClass .byte ∈ mG := by decide +kernel
theorem arrL_in : Cond.arrayClass .long ∈ mG := by decide +kernel
theorem cpyN_in : Cond.native arraycopyName ∈ mG := by decide +kernel
theorem cpyS_in : Cond.static arraycopyName ∈ mG := by decide +kernel
theorem cpyI_in : Cond.initialized "java/lang/System" ∈ mG := by decide +kernel
theorem objI_in : Cond.instanceMethod objectInit ∈ mG := by decide +kernel
theorem objC_in : Cond.code objectInit ⟨#[0xb1]⟩ 1 none ∈ mG := by decide +kernel
theorem zero_ok {ci : Nat} {C : String} {T : u_T} {N : Nat} (h : vwCl[ci]? = some (C, T, N)) (ad : Nat → Nat) : ∀ k, k < N → defaultValue (mTy ci k) = vp_V ((mZero ci).map (trV ad)) k := by
  intro k hk
  unfold vp_V mZero
  rw [h]
  simp only [List.map_map, List.getD_eq_getElem?_getD, List.getElem?_map, List.getElem?_range hk, Option.map_some, Option.getD_some, Function.comp]
  cases mTy ci k <;> rfl
theorem mM_ok {o i j' ne : Nat} (h : mM o i = some (j', ne)) : (j' = 1000 → Cond.methodLink (mR o) i objectInit ∈ mG) ∧ (j' = 1001 → Cond.methodLink (mR o) i arraycopyName ∈ mG) ∧ (j' ≠ 1000 → j' ≠ 1001 → (ne = 0 → Cond.methodLink (mR o) i (mY j') ∈ mG) ∧ (ne ≠ 0 → Cond.methodLinkNest (mR o) i (mY j') "SquareGrounds" ∈ mNest)) := by
  unfold mM at h
  cases hf : mMl.find? (fun e => e.1 == o && e.2.1 == i) with
  | none => rw [hf] at h; cases h
  | some e =>
    rw [hf] at h
    obtain ⟨h1, h2⟩ := find_ok hf
    simp only [Option.map_some, Option.some.injEq, Prod.mk.injEq] at h
    simp only [Bool.and_eq_true, beq_iff_eq] at h2
    have h3 := List.all_eq_true.mp mChM_ok e h1
    unfold mChM at h3
    rw [h2.1, h2.2, h.1, h.2] at h3
    refine ⟨fun q => ?_, fun q => ?_, fun q1 q2 => ⟨fun q => ?_, fun q => ?_⟩⟩
    · rw [if_pos q] at h3
      simp only [Bool.and_eq_true] at h3
      exact mIs_G h3.2 rfl
    · rw [if_neg (by omega), if_pos q] at h3
      simp only [Bool.and_eq_true] at h3
      exact mIs_G h3.2 rfl
    · rw [if_neg q1, if_neg q2, if_pos q] at h3
      simp only [Bool.and_eq_true] at h3
      exact mIs_G h3.2 rfl
    · rw [if_neg q1, if_neg q2, if_neg q] at h3
      simp only [Bool.and_eq_true] at h3
      exact List.mem_filter.mpr ⟨mIs_in h3.2, rfl⟩
