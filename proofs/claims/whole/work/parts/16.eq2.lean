section EQ2
variable {j pc pc' t : Nat} {ls ls' : mLoc} {st : List Value} {h : mHeap} {R1 R2 : mR'}
theorem e_ifeq {x : Int32} {o : Int} (hd : decode (mB j) pc = .ok (.ifCond .eq o, 3)) (hp : pc + 3 = pc') (ht : (pc : Int) + o = (t : Int)) (k1 : x = 0 → E j t ls st h = R1) (k2 : ¬ (x = 0) → E j pc' ls st h = R2) : E j pc ls (.int x :: st) h = if x = 0 then R1 else R2 := by
  subst hp
  by_cases hc : x = 0
  · rw [if_pos hc]; exact e_next hd (by simp only [mx, mif1, mnx, mtg_of ht, decide_eq_true_eq, if_pos hc, if_true]) (k1 hc)
  · rw [if_neg hc]; exact e_next hd (by simp only [mx, mif1, mnx, mtg_of ht, decide_eq_true_eq, if_neg hc, if_true]) (k2 hc)
theorem e_icmpeq {x y : Int32} {o : Int} (hd : decode (mB j) pc = .ok (.if_icmp .eq o, 3)) (hp : pc + 3 = pc') (ht : (pc : Int) + o = (t : Int)) (k1 : x = y → E j t ls st h = R1) (k2 : ¬ (x = y) → E j pc' ls st h = R2) : E j pc ls (.int y :: .int x :: st) h = if x = y then R1 else R2 := by
  subst hp
  by_cases hc : x = y
  · rw [if_pos hc]; exact e_next hd (by simp only [mx, mif2, mnx, mtg_of ht, decide_eq_true_eq, if_pos hc, if_true]) (k1 hc)
  · rw [if_neg hc]; exact e_next hd (by simp only [mx, mif2, mnx, mtg_of ht, decide_eq_true_eq, if_neg hc, if_true]) (k2 hc)
theorem e_ifne {x : Int32} {o : Int} (hd : decode (mB j) pc = .ok (.ifCond .ne o, 3)) (hp : pc + 3 = pc') (ht : (pc : Int) + o = (t : Int)) (k1 : ¬ x = 0 → E j t ls st h = R1) (k2 : ¬ (¬ x = 0) → E j pc' ls st h = R2) : E j pc ls (.int x :: st) h = if ¬ x = 0 then R1 else R2 := by
  subst hp
  by_cases hc : ¬ x = 0
  · rw [if_pos hc]; exact e_next hd (by simp only [mx, mif1, mnx, mtg_of ht, decide_eq_true_eq, if_pos hc, if_true]) (k1 hc)
  · rw [if_neg hc]; exact e_next hd (by simp only [mx, mif1, mnx, mtg_of ht, decide_eq_true_eq, if_neg hc, if_true]) (k2 hc)
theorem e_icmpne {x y : Int32} {o : Int} (hd : decode (mB j) pc = .ok (.if_icmp .ne o, 3)) (hp : pc + 3 = pc') (ht : (pc : Int) + o = (t : Int)) (k1 : ¬ x = y → E j t ls st h = R1) (k2 : ¬ (¬ x = y) → E j pc' ls st h = R2) : E j pc ls (.int y :: .int x :: st) h = if ¬ x = y then R1 else R2 := by
  subst hp
  by_cases hc : ¬ x = y
  · rw [if_pos hc]; exact e_next hd (by simp only [mx, mif2, mnx, mtg_of ht, decide_eq_true_eq, if_pos hc, if_true]) (k1 hc)
  · rw [if_neg hc]; exact e_next hd (by simp only [mx, mif2, mnx, mtg_of ht, decide_eq_true_eq, if_neg hc, if_true]) (k2 hc)
theorem e_iflt {x : Int32} {o : Int} (hd : decode (mB j) pc = .ok (.ifCond .lt o, 3)) (hp : pc + 3 = pc') (ht : (pc : Int) + o = (t : Int)) (k1 : x < 0 → E j t ls st h = R1) (k2 : ¬ (x < 0) → E j pc' ls st h = R2) : E j pc ls (.int x :: st) h = if x < 0 then R1 else R2 := by
  subst hp
  by_cases hc : x < 0
  · rw [if_pos hc]; exact e_next hd (by simp only [mx, mif1, mnx, mtg_of ht, decide_eq_true_eq, if_pos hc, if_true]) (k1 hc)
  · rw [if_neg hc]; exact e_next hd (by simp only [mx, mif1, mnx, mtg_of ht, decide_eq_true_eq, if_neg hc, if_true]) (k2 hc)
theorem e_icmplt {x y : Int32} {o : Int} (hd : decode (mB j) pc = .ok (.if_icmp .lt o, 3)) (hp : pc + 3 = pc') (ht : (pc : Int) + o = (t : Int)) (k1 : x < y → E j t ls st h = R1) (k2 : ¬ (x < y) → E j pc' ls st h = R2) : E j pc ls (.int y :: .int x :: st) h = if x < y then R1 else R2 := by
  subst hp
  by_cases hc : x < y
  · rw [if_pos hc]; exact e_next hd (by simp only [mx, mif2, mnx, mtg_of ht, decide_eq_true_eq, if_pos hc, if_true]) (k1 hc)
  · rw [if_neg hc]; exact e_next hd (by simp only [mx, mif2, mnx, mtg_of ht, decide_eq_true_eq, if_neg hc, if_true]) (k2 hc)
theorem e_ifge {x : Int32} {o : Int} (hd : decode (mB j) pc = .ok (.ifCond .ge o, 3)) (hp : pc + 3 = pc') (ht : (pc : Int) + o = (t : Int)) (k1 : 0 ≤ x → E j t ls st h = R1) (k2 : ¬ (0 ≤ x) → E j pc' ls st h = R2) : E j pc ls (.int x :: st) h = if 0 ≤ x then R1 else R2 := by
  subst hp
  by_cases hc : 0 ≤ x
  · rw [if_pos hc]; exact e_next hd (by simp only [mx, mif1, mnx, mtg_of ht, decide_eq_true_eq, if_pos hc, if_true]) (k1 hc)
  · rw [if_neg hc]; exact e_next hd (by simp only [mx, mif1, mnx, mtg_of ht, decide_eq_true_eq, if_neg hc, if_true]) (k2 hc)
theorem e_icmpge {x y : Int32} {o : Int} (hd : decode (mB j) pc = .ok (.if_icmp .ge o, 3)) (hp : pc + 3 = pc') (ht : (pc : Int) + o = (t : Int)) (k1 : y ≤ x → E j t ls st h = R1) (k2 : ¬ (y ≤ x) → E j pc' ls st h = R2) : E j pc ls (.int y :: .int x :: st) h = if y ≤ x then R1 else R2 := by
  subst hp
  by_cases hc : y ≤ x
  · rw [if_pos hc]; exact e_next hd (by simp only [mx, mif2, mnx, mtg_of ht, decide_eq_true_eq, if_pos hc, if_true]) (k1 hc)
  · rw [if_neg hc]; exact e_next hd (by simp only [mx, mif2, mnx, mtg_of ht, decide_eq_true_eq, if_neg hc, if_true]) (k2 hc)
theorem e_ifgt {x : Int32} {o : Int} (hd : decode (mB j) pc = .ok (.ifCond .gt o, 3)) (hp : pc + 3 = pc') (ht : (pc : Int) + o = (t : Int)) (k1 : 0 < x → E j t ls st h = R1) (k2 : ¬ (0 < x) → E j pc' ls st h = R2) : E j pc ls (.int x :: st) h = if 0 < x then R1 else R2 := by
  subst hp
  by_cases hc : 0 < x
  · rw [if_pos hc]; exact e_next hd (by simp only [mx, mif1, mnx, mtg_of ht, decide_eq_true_eq, if_pos hc, if_true]) (k1 hc)
  · rw [if_neg hc]; exact e_next hd (by simp only [mx, mif1, mnx, mtg_of ht, decide_eq_true_eq, if_neg hc, if_true]) (k2 hc)
theorem e_icmpgt {x y : Int32} {o : Int} (hd : decode (mB j) pc = .ok (.if_icmp .gt o, 3)) (hp : pc + 3 = pc') (ht : (pc : Int) + o = (t : Int)) (k1 : y < x → E j t ls st h = R1) (k2 : ¬ (y < x) → E j pc' ls st h = R2) : E j pc ls (.int y :: .int x :: st) h = if y < x then R1 else R2 := by
  subst hp
  by_cases hc : y < x
  · rw [if_pos hc]; exact e_next hd (by simp only [mx, mif2, mnx, mtg_of ht, decide_eq_true_eq, if_pos hc, if_true]) (k1 hc)
  · rw [if_neg hc]; exact e_next hd (by simp only [mx, mif2, mnx, mtg_of ht, decide_eq_true_eq, if_neg hc, if_true]) (k2 hc)
theorem e_ifle {x : Int32} {o : Int} (hd : decode (mB j) pc = .ok (.ifCond .le o, 3)) (hp : pc + 3 = pc') (ht : (pc : Int) + o = (t : Int)) (k1 : x ≤ 0 → E j t ls st h = R1) (k2 : ¬ (x ≤ 0) → E j pc' ls st h = R2) : E j pc ls (.int x :: st) h = if x ≤ 0 then R1 else R2 := by
  subst hp
  by_cases hc : x ≤ 0
  · rw [if_pos hc]; exact e_next hd (by simp only [mx, mif1, mnx, mtg_of ht, decide_eq_true_eq, if_pos hc, if_true]) (k1 hc)
  · rw [if_neg hc]; exact e_next hd (by simp only [mx, mif1, mnx, mtg_of ht, decide_eq_true_eq, if_neg hc, if_true]) (k2 hc)
theorem e_icmple {x y : Int32} {o : Int} (hd : decode (mB j) pc = .ok (.if_icmp .le o, 3)) (hp : pc + 3 = pc') (ht : (pc : Int) + o = (t : Int)) (k1 : x ≤ y → E j t ls st h = R1) (k2 : ¬ (x ≤ y) → E j pc' ls st h = R2) : E j pc ls (.int y :: .int x :: st) h = if x ≤ y then R1 else R2 := by
  subst hp
  by_cases hc : x ≤ y
  · rw [if_pos hc]; exact e_next hd (by simp only [mx, mif2, mnx, mtg_of ht, decide_eq_true_eq, if_pos hc, if_true]) (k1 hc)
  · rw [if_neg hc]; exact e_next hd (by simp only [mx, mif2, mnx, mtg_of ht, decide_eq_true_eq, if_neg hc, if_true]) (k2 hc)
/-- a read or a write that goes on where there is something -/
theorem e_bind {α : Type} {i : Instr} {len : Nat} (hd : decode (mB j) pc = .ok (i, len)) {q : Option α} {f : α → mFr} {R : α → mR'} (h1 : ∀ x, q = some x → mx j i len pc ls st h 0 0 = some (.inl (f x))) (h2 : q = none → mx j i len pc ls st h 0 0 = none) (h3 : ∀ x, (f x).2.2.2.2 = (0, 0)) (k : ∀ x, E j (f x).1 (f x).2.1 (f x).2.2.1 (f x).2.2.2.1 = R x) : E j pc ls st h = q.bind R := by
  cases hq : q with
  | none => exact D_none hd (h2 hq)
  | some x =>
    have e := h1 x hq
    have e3 := h3 x
    have kx := k x
    rcases hf : f x with ⟨a1, a2, a3, a4, a5, a6⟩
    rw [hf] at e e3 kx
    cases e3
    exact (D_next hd e).trans kx
theorem e_getI {idx a ci k : Nat} {R : Int32 → mR'} (hd : decode (mB j) pc = .ok (.getfield idx, 3)) (hp : pc + 3 = pc') (hf : mF (mO j) idx = some (ci, k)) (hk : (if mKi ci k = 3 then 0 else mKi ci k) = 0) (kk : ∀ x, E j pc' ls (.int x :: st) h = R x) : E j pc ls (.ref a :: st) h = (gI h a ci k).bind R := by
  subst hp
  refine e_bind (f := fun x => (pc + 3, ls, .int x :: st, h, 0, 0)) hd (fun x hq => ?_) (fun hq => ?_) (fun _ => rfl) kk
  · unfold gI at hq
    split at hq
    · rename_i hc; cases hq; simp only [mx, mGetF, mnx, hf, hc, hk, mok, if_true]
    · cases hq
  · unfold gI at hq
    simp only [mx, mGetF, mnx, hf, hk, if_true]
    cases hc : cFld h a ci k with
    | none => rfl
    | some v => cases v <;> first | (rw [hc] at hq; cases hq; done) | simp [mok]
theorem e_getL {idx a ci k : Nat} {R : Int64 → mR'} (hd : decode (mB j) pc = .ok (.getfield idx, 3)) (hp : pc + 3 = pc') (hf : mF (mO j) idx = some (ci, k)) (hk : (if mKi ci k = 3 then 0 else mKi ci k) = 1) (kk : ∀ x, E j pc' ls (.long x :: st) h = R x) : E j pc ls (.ref a :: st) h = (gL h a ci k).bind R := by
  subst hp
  refine e_bind (f := fun x => (pc + 3, ls, .long x :: st, h, 0, 0)) hd (fun x hq => ?_) (fun hq => ?_) (fun _ => rfl) kk
  · unfold gL at hq
    split at hq
    · rename_i hc; cases hq; simp only [mx, mGetF, mnx, hf, hc, hk, mok, if_true]
    · cases hq
  · unfold gL at hq
    simp only [mx, mGetF, mnx, hf, hk, if_true]
    cases hc : cFld h a ci k with
    | none => rfl
    | some v => cases v <;> first | (rw [hc] at hq; cases hq; done) | simp [mok]
theorem e_getR {idx a ci k : Nat} {R : Nat → mR'} (hd : decode (mB j) pc = .ok (.getfield idx, 3)) (hp : pc + 3 = pc') (hf : mF (mO j) idx = some (ci, k)) (hk : (if mKi ci k = 3 then 0 else mKi ci k) = 2) (kk : ∀ x, E j pc' ls (.ref x :: st) h = R x) : E j pc ls (.ref a :: st) h = (gR h a ci k).bind R := by
  subst hp
  refine e_bind (f := fun x => (pc + 3, ls, .ref x :: st, h, 0, 0)) hd (fun x hq => ?_) (fun hq => ?_) (fun _ => rfl) kk
  · unfold gR at hq
    split at hq
    · rename_i hc; cases hq; simp only [mx, mGetF, mnx, hf, hc, hk, mok, if_true]
    · cases hq
  · unfold gR at hq
    simp only [mx, mGetF, mnx, hf, hk, if_true]
    cases hc : cFld h a ci k with
    | none => rfl
    | some v => cases v <;> first | (rw [hc] at hq; cases hq; done) | simp [mok]
theorem e_put {idx a ci k : Nat} {v : Value} {R : mHeap → mR'} (hd : decode (mB j) pc = .ok (.putfield idx, 3)) (hp : pc + 3 = pc') (hf : mF (mO j) idx = some (ci, k)) (hk : mKi ci k < 3 ∧ mFin j ci k = true) (hv : mok (mKi ci k) v = true) (kk : ∀ h', E j pc' ls st h' = R h') : E j pc ls (v :: .ref a :: st) h = (cPut h a ci k v).bind R := by
  subst hp
  refine e_bind (f := fun h' => (pc + 3, ls, st, h', 0, 0)) hd (fun x hq => ?_) (fun hq => ?_) (fun _ => rfl) kk
  · simp only [mx, mPutF, mnx, hf, hq]
    rw [if_pos trivial, if_pos ⟨Or.inr ⟨hk.1, hv⟩, hk.2⟩]
  · simp only [mx, mPutF, mnx, hf, hq]
    rw [if_pos trivial]
    split <;> rfl
theorem e_putZ {idx a ci k : Nat} {x : Int32} {R : mHeap → mR'} (hd : decode (mB j) pc = .ok (.putfield idx, 3)) (hp : pc + 3 = pc') (hf : mF (mO j) idx = some (ci, k)) (hk : mKi ci k = 3 ∧ mFin j ci k = true) (hv : narrow .boolean (.int x) = .int x ∧ fits .boolean (.int x) = true) (kk : ∀ h', E j pc' ls st h' = R h') : E j pc ls (.int x :: .ref a :: st) h = (cPut h a ci k (.int x)).bind R := by
  subst hp
  refine e_bind (f := fun h' => (pc + 3, ls, st, h', 0, 0)) hd (fun y hq => ?_) (fun hq => ?_) (fun _ => rfl) kk
  · simp only [mx, mPutF, mnx, hf, hq]
    rw [if_pos trivial, if_pos ⟨Or.inl ⟨hk.1, rfl, hv.1, hv.2⟩, hk.2⟩]
  · simp only [mx, mPutF, mnx, hf, hq]
    rw [if_pos trivial]
    split <;> rfl
theorem e_iald {a : Nat} {i : Int32} {R : Int32 → mR'} {lw : Bool} (hd : decode (mB j) pc = .ok (.iaload, 1)) (hp : pc + 1 = pc') (hl : (j == mLaw) = lw) (kk : ∀ x, E j pc' ls (.int x :: st) h = R x) : E j pc ls (.int i :: .ref a :: st) h = (cAldI lw h a i).bind R := by
  subst hp
  refine e_bind (f := fun x => (pc + 1, ls, .int x :: st, h, 0, 0)) hd (fun x hq => ?_) (fun hq => ?_) (fun _ => rfl) kk
  · simp only [mx, mnx, hl, hq, if_true]
  · simp only [mx, mnx, hl, hq, if_true]
theorem e_bald {a : Nat} {i : Int32} {R : Int32 → mR'} (hd : decode (mB j) pc = .ok (.baload, 1)) (hp : pc + 1 = pc') (kk : ∀ x, E j pc' ls (.int x :: st) h = R x) : E j pc ls (.int i :: .ref a :: st) h = (cAldB h a i).bind R := by
  subst hp
  refine e_bind (f := fun x => (pc + 1, ls, .int x :: st, h, 0, 0)) hd (fun x hq => ?_) (fun hq => ?_) (fun _ => rfl) kk
  · simp only [mx, mnx, hq, if_true]
  · simp only [mx, mnx, hq, if_true]
theorem e_lald {a : Nat} {i : Int32} {R : Int64 → mR'} (hd : decode (mB j) pc = .ok (.laload, 1)) (hp : pc + 1 = pc') (kk : ∀ x, E j pc' ls (.long x :: st) h = R x) : E j pc ls (.int i :: .ref a :: st) h = (cAldL h a i).bind R := by
  subst hp
  refine e_bind (f := fun x => (pc + 1, ls, .long x :: st, h, 0, 0)) hd (fun x hq => ?_) (fun hq => ?_) (fun _ => rfl) kk
  · simp only [mx, mnx, hq, if_true]
  · simp only [mx, mnx, hq, if_true]
theorem e_aald {a : Nat} {i : Int32} {R : Nat → mR'} (hd : decode (mB j) pc = .ok (.aaload, 1)) (hp : pc + 1 = pc') (kk : ∀ x, E j pc' ls (.ref x :: st) h = R x) : E j pc ls (.int i :: .ref a :: st) h = (cAldR h a i).bind R := by
  subst hp
  refine e_bind (f := fun x => (pc + 1, ls, .ref x :: st, h, 0, 0)) hd (fun x hq => ?_) (fun hq => ?_) (fun _ => rfl) kk
  · simp only [mx, mnx, hq, if_true]
  · simp only [mx, mnx, hq, if_true]
theorem e_iast {a : Nat} {i : Int32} {x : Int32} {R : mHeap → mR'} (hd : decode (mB j) pc = .ok (.iastore, 1)) (hp : pc + 1 = pc') (kk : ∀ h', E j pc' ls st h' = R h') : E j pc ls (.int x :: .int i :: .ref a :: st) h = (cAstI h a i x).bind R := by
  subst hp
  refine e_bind (f := fun h' => (pc + 1, ls, st, h', 0, 0)) hd (fun y hq => ?_) (fun hq => ?_) (fun _ => rfl) kk
  · simp only [mx, mnx, hq, if_true]
  · simp only [mx, mnx, hq, if_true]
theorem e_bast {a : Nat} {i : Int32} {x : Int32} {R : mHeap → mR'} (hd : decode (mB j) pc = .ok (.bastore, 1)) (hp : pc + 1 = pc') (kk : ∀ h', E j pc' ls st h' = R h') : E j pc ls (.int x :: .int i :: .ref a :: st) h = (cAstB h a i x).bind R := by
  subst hp
  refine e_bind (f := fun h' => (pc + 1, ls, st, h', 0, 0)) hd (fun y hq => ?_) (fun hq => ?_) (fun _ => rfl) kk
  · simp only [mx, mnx, hq, if_true]
  · simp only [mx, mnx, hq, if_true]
theorem e_last {a : Nat} {i : Int32} {x : Int64} {R : mHeap → mR'} (hd : decode (mB j) pc = .ok (.lastore, 1)) (hp : pc + 1 = pc') (kk : ∀ h', E j pc' ls st h' = R h') : E j pc ls (.long x :: .int i :: .ref a :: st) h = (cAstL h a i x).bind R := by
  subst hp
  refine e_bind (f := fun h' => (pc + 1, ls, st, h', 0, 0)) hd (fun y hq => ?_) (fun hq => ?_) (fun _ => rfl) kk
  · simp only [mx, mnx, hq, if_true]
  · simp only [mx, mnx, hq, if_true]
theorem e_alen {a : Nat} {lw : Bool} {R : Int32 → mR'} (hd : decode (mB j) pc = .ok (.arraylength, 1)) (hp : pc + 1 = pc') (hl : (j == mLaw) = lw) (kk : ∀ x, E j pc' ls (.int x :: st) h = R x) : E j pc ls (.ref a :: st) h = (cLen lw h a).bind R := by
  subst hp
  refine e_bind (f := fun x => (pc + 1, ls, .int x :: st, h, 0, 0)) hd (fun x hq => ?_) (fun hq => ?_) (fun _ => rfl) kk
  · simp only [mx, mnx, hl, hq, if_true]
  · simp only [mx, mnx, hl, hq, if_true]
theorem e_cpy {idx a b ne : Nat} {sp dp n : Int32} {R : mHeap → mR'} (hd : decode (mB j) pc = .ok (.invokestatic idx, 3)) (hp : pc + 3 = pc') (hm : mM (mO j) idx = some (1001, ne)) (hr : 1 ≤ (mRm j).frames ∧ mCat st + (nativeFrameWords "java/lang/System" "arraycopy" 5 + 11) ≤ (mRm j).locals) (kk : ∀ h', E j pc' ls st h' = R h') : E j pc ls (.int n :: .int dp :: .ref b :: .int sp :: .ref a :: st) h = (cCpy h a b sp dp n).bind R := by
  subst hp
  refine e_bind (f := fun h' => (pc + 3, ls, st, h', 0, 0)) hd (fun y hq => ?_) (fun hq => ?_) (fun _ => rfl) kk
  · simp only [mx, mCall, mnx, hm, hq]
    rw [if_pos trivial, if_neg (by decide), if_pos trivial, if_pos hr]
  · simp only [mx, mCall, mnx, hm, hq]
    rw [if_pos trivial, if_neg (by decide), if_pos trivial]
    split <;> rfl
theorem e_iret {v : Int32} (hd : decode (mB j) pc = .ok (.ireturn, 1)) (hr : mRt j = some .int) : E j pc ls [.int v] h = some (some (.int v), h) := D_ret hd (by simp only [mx, mRet, hr, if_true])
theorem e_zret {v : Int32} (hd : decode (mB j) pc = .ok (.ireturn, 1)) (hr : mRt j = some .boolean) : E j pc ls [.int v] h = if narrow .boolean (.int v) = .int v then some (some (.int v), h) else none := by
  by_cases hc : narrow .boolean (.int v) = .int v
  · rw [if_pos hc]; exact D_ret hd (by simp only [mx, mRet, hr]; rw [if_pos trivial, if_pos hc])
  · rw [if_neg hc]; exact D_none hd (by simp only [mx, mRet, hr]; rw [if_pos trivial, if_neg hc])
theorem e_lret {v : Int64} (hd : decode (mB j) pc = .ok (.lreturn, 1)) (hr : mRt j = some .long) : E j pc ls [.long v] h = some (some (.long v), h) := D_ret hd (by simp only [mx, hr, if_true])
theorem e_vret (hd : decode (mB j) pc = .ok (.return_, 1)) (hr : mRt j = none) : E j pc ls [] h = some (none, h) := D_ret hd (by simp only [mx, hr, if_true])
/-- what can be asked of a call beforehand -/
def mCk (j kd idx j' np : Nat) : Bool := (match mM (mO j) idx with
  | some (q, _) => q == j'
  | none => false) && decide (j' ≠ 1000) && decide (j' ≠ 1001) && decide (mKd j' = kd) && decide (mNp j' = np) && mRoomOk j j' 0 0 && decide (j' < mN) && decide (j' ≠ mLaw) && decide ((mRm j').cells = 0) && decide ((mRm j').slots = 0)
theorem mCk_ok {kd idx j' np : Nat} (h : mCk j kd idx j' np = true) : (∃ ne, mM (mO j) idx = some (j', ne)) ∧ j' ≠ 1000 ∧ j' ≠ 1001 ∧ mKd j' = kd ∧ mNp j' = np ∧ mRoomOk j j' 0 0 = true ∧ j' < mN ∧ j' ≠ mLaw ∧ (mRm j').cells = 0 ∧ (mRm j').slots = 0 := by
  unfold mCk at h
  simp only [Bool.and_eq_true, decide_eq_true_eq] at h
  obtain ⟨⟨⟨⟨⟨⟨⟨⟨⟨h1, h2⟩, h3⟩, h4⟩, h5⟩, h6⟩, h7⟩, h8⟩, h9⟩, h10⟩ := h
  refine ⟨?_, h2, h3, h4, h5, h6, h7, h8, h9, h10⟩
  cases hm : mM (mO j) idx with
  | none => rw [hm] at h1; cases h1
  | some q =>
    obtain ⟨a, b⟩ := q
    rw [hm] at h1
    exact ⟨b, by rw [beq_iff_eq.mp h1]⟩
theorem mx_s {idx j' : Nat} {as rest : List Value} (hc : mCk j 0 idx j' as.length = true) (h8 : mCat rest ≤ 8) : mx j (.invokestatic idx) 3 pc ls (as.reverse ++ rest) h 0 0 = some (.inr (.inr (j', as, rest))) := by
  obtain ⟨⟨ne, hm⟩, h2, h3, h4, h5, h6, h7, h9, h10, -⟩ := mCk_ok hc
  have e1 : (as.reverse ++ rest).take (mNp j') = as.reverse := by rw [h5]; simp
  have e2 : (as.reverse ++ rest).drop (mNp j') = rest := by rw [h5]; simp
  simp only [mx, mCall, hm, e1, e2]
  rw [if_pos trivial, if_neg h2, if_neg h3, if_pos ⟨h4, by rw [h5]; simp, h6, h7, h9, Or.inl h10⟩, if_pos h8, List.reverse_reverse]
theorem mx_v {i : Instr} {kd idx j' b : Nat} {as rest : List Value} (hi : (i = .invokevirtual idx ∧ kd = 1) ∨ (i = .invokespecial idx ∧ kd = 2)) (hc : mCk j kd idx j' as.length = true) (h8 : mCat rest ≤ 8) : mx j i 3 pc ls (as.reverse ++ .ref b :: rest) h 0 0 = (gO h b (mO j')).bind (fun _ => some (.inr (.inr (j', .ref b :: as, rest)))) := by
  obtain ⟨⟨ne, hm⟩, h2, h3, h4, h5, h6, h7, h9, h10, -⟩ := mCk_ok hc
  have e1 : (as.reverse ++ .ref b :: rest).take (mNp j') = as.reverse := by rw [h5]; simp
  have e2 : (as.reverse ++ .ref b :: rest).drop (mNp j') = .ref b :: rest := by rw [h5]; simp
  have key : mCall j kd idx 3 pc ls (as.reverse ++ .ref b :: rest) h 0 0 = (gO h b (mO j')).bind (fun _ => some (.inr (.inr (j', .ref b :: as, rest)))) := by
    simp only [mCall, hm, e1, e2]
    rw [if_pos trivial, if_neg h2, if_neg h3, if_pos ⟨h4, by rw [h5]; simp, h6, h7, h9, Or.inl h10⟩]
    rcases hi with ⟨-, rfl⟩ | ⟨-, rfl⟩
    all_goals
      unfold gO
      change (match h[b]? with
        | some (.inr (c, _)) => if c = mO j' ∧ mCat rest ≤ 8 then (some (Sum.inr (Sum.inr (j', Value.ref b :: as.reverse.reverse, rest))) : Option mOut) else none
        | _ => none) = _
      cases hb : h[b]? with
      | none => rfl
      | some x =>
        cases x with
        | inl y => rfl
        | inr y =>
          obtain ⟨c, fs⟩ := y
          dsimp only
          by_cases hcc : c = mO j'
          · rw [if_pos ⟨hcc, h8⟩, if_pos hcc, List.reverse_reverse]; rfl
          · rw [if_neg (fun z => hcc z.1), if_neg hcc]; rfl
  rcases hi with ⟨rfl, rfl⟩ | ⟨rfl, rfl⟩
  · exact key
  · exact key
theorem D_kind {j pc : Nat} {ls : mLoc} {st : List Value} {h : mHeap} {cu su : Nat} {r : Option Value} {h' : mHeap} (hr : D j pc ls st h cu su = some (r, h')) : mRk j r := by
  obtain ⟨n, hn⟩ := D_iff.mp hr
  exact run_kind n hn
theorem e_sI {idx j' : Nat} {as rest : List Value} {R : Int32 × mHeap → mR'} (hd : decode (mB j) pc = .ok (.invokestatic idx, 3)) (hp : pc + 3 = pc') (hc : mCk j 0 idx j' as.length = true) (hk : mRt j' = some .int ∨ mRt j' = some .boolean) (hs : st = as.reverse ++ rest) (h8 : mCat rest ≤ 8) (hl : (mArg as).length ≤ mL j') (kk : ∀ q, E j pc' ls (.int q.1 :: rest) q.2 = R q) : E j pc ls st h = (sI j' as h).bind R := by
  subst hp
  subst hs
  obtain ⟨-, -, -, -, -, -, -, -, h10, h11⟩ := mCk_ok hc
  refine (D_call hd (mx_s hc h8) hl).trans ?_
  cases hq : D j' 0 (mEnt j' as) [] h 0 0 with
  | none => simp only [sI, F, hq, Option.bind_none]
  | some q =>
    obtain ⟨v, h'⟩ := q
    · simp only [sI, F, hq, Option.bind_some]
      have hkd := D_kind hq
      have hkd : ∃ x, v = some (.int x) := by
        unfold mRk at hkd
        rcases hk with hk | hk <;> rw [hk] at hkd <;> exact hkd
      obtain ⟨x, rfl⟩ := hkd
      have kx := kk (x, h')
      simpa [mAns, h10, h11] using kx
theorem e_vI {idx j' b : Nat} {as rest : List Value} {R : Int32 × mHeap → mR'} (hd : decode (mB j) pc = .ok (.invokevirtual idx, 3)) (hp : pc + 3 = pc') (hc : mCk j 1 idx j' as.length = true) (hk : mRt j' = some .int ∨ mRt j' = some .boolean) (hs : st = as.reverse ++ .ref b :: rest) (h8 : mCat rest ≤ 8) (hl : (mArg (.ref b :: as)).length ≤ mL j') (kk : ∀ q, E j pc' ls (.int q.1 :: rest) q.2 = R q) : E j pc ls st h = (vI j' b as h).bind R := by
  subst hp
  subst hs
  obtain ⟨-, -, -, -, -, -, -, -, h10, h11⟩ := mCk_ok hc
  have hx := mx_v (pc := pc) (ls := ls) (h := h) (b := b) (i := .invokevirtual idx) (by simp) hc h8
  unfold vI
  cases ho : gO h b (mO j') with
  | none =>
    rw [ho] at hx
    exact D_none hd hx
  | some u =>
    rw [ho] at hx
    refine (D_call hd hx hl).trans ?_
    simp only [Option.bind_some]
    cases hq : D j' 0 (mEnt j' (.ref b :: as)) [] h 0 0 with
    | none => simp only [sI, F, hq, Option.bind_none]
    | some q =>
      obtain ⟨v, h'⟩ := q
      simp only [sI, F, hq, Option.bind_some]
      have hkd := D_kind hq
      have hkd : ∃ x, v = some (.int x) := by
        unfold mRk at hkd
        rcases hk with hk | hk <;> rw [hk] at hkd <;> exact hkd
      obtain ⟨x, rfl⟩ := hkd
      have kx := kk (x, h')
      simpa [mAns, h10, h11] using kx
theorem e_cI {idx j' b : Nat} {as rest : List Value} {R : Int32 × mHeap → mR'} (hd : decode (mB j) pc = .ok (.invokespecial idx, 3)) (hp : pc + 3 = pc') (hc : mCk j 2 idx j' as.length = true) (hk : mRt j' = some .int ∨ mRt j' = some .boolean) (hs : st = as.reverse ++ .ref b :: rest) (h8 : mCat rest ≤ 8) (hl : (mArg (.ref b :: as)).length ≤ mL j') (kk : ∀ q, E j pc' ls (.int q.1 :: rest) q.2 = R q) : E j pc ls st h = (vI j' b as h).bind R := by
  subst hp
  subst hs
  obtain ⟨-, -, -, -, -, -, -, -, h10, h11⟩ := mCk_ok hc
  have hx := mx_v (pc := pc) (ls := ls) (h := h) (b := b) (i := .invokespecial idx) (by simp) hc h8
  unfold vI
  cases ho : gO h b (mO j') with
  | none =>
    rw [ho] at hx
    exact D_none hd hx
  | some u =>
    rw [ho] at hx
    refine (D_call hd hx hl).trans ?_
    simp only [Option.bind_some]
    cases hq : D j' 0 (mEnt j' (.ref b :: as)) [] h 0 0 with
    | none => simp only [sI, F, hq, Option.bind_none]
    | some q =>
      obtain ⟨v, h'⟩ := q
      simp only [sI, F, hq, Option.bind_some]
      have hkd := D_kind hq
      have hkd : ∃ x, v = some (.int x) := by
        unfold mRk at hkd
        rcases hk with hk | hk <;> rw [hk] at hkd <;> exact hkd
      obtain ⟨x, rfl⟩ := hkd
      have kx := kk (x, h')
      simpa [mAns, h10, h11] using kx
theorem e_sL {idx j' : Nat} {as rest : List Value} {R : Int64 × mHeap → mR'} (hd : decode (mB j) pc = .ok (.invokestatic idx, 3)) (hp : pc + 3 = pc') (hc : mCk j 0 idx j' as.length = true) (hk : mRt j' = some .long) (hs : st = as.reverse ++ rest) (h8 : mCat rest ≤ 8) (hl : (mArg as).length ≤ mL j') (kk : ∀ q, E j pc' ls (.long q.1 :: rest) q.2 = R q) : E j pc ls st h = (sL j' as h).bind R := by
  subst hp
  subst hs
  obtain ⟨-, -, -, -, -, -, -, -, h10, h11⟩ := mCk_ok hc
  refine (D_call hd (mx_s hc h8) hl).trans ?_
  cases hq : D j' 0 (mEnt j' as) [] h 0 0 with
  | none => simp only [sL, F, hq, Option.bind_none]
  | some q =>
    obtain ⟨v, h'⟩ := q
    · simp only [sL, F, hq, Option.bind_some]
      have hkd := D_kind hq
      unfold mRk at hkd
      rw [hk] at hkd
      obtain ⟨x, rfl⟩ := hkd
      have kx := kk (x, h')
      simpa [mAns, h10, h11] using kx
theorem e_vL {idx j' b : Nat} {as rest : List Value} {R : Int64 × mHeap → mR'} (hd : decode (mB j) pc = .ok (.invokevirtual idx, 3)) (hp : pc + 3 = pc') (hc : mCk j 1 idx j' as.length = true) (hk : mRt j' = some .long) (hs : st = as.reverse ++ .ref b :: rest) (h8 : mCat rest ≤ 8) (hl : (mArg (.ref b :: as)).length ≤ mL j') (kk : ∀ q, E j pc' ls (.long q.1 :: rest) q.2 = R q) : E j pc ls st h = (vL j' b as h).bind R := by
  subst hp
  subst hs
  obtain ⟨-, -, -, -, -, -, -, -, h10, h11⟩ := mCk_ok hc
  have hx := mx_v (pc := pc) (ls := ls) (h := h) (b := b) (i := .invokevirtual idx) (by simp) hc h8
  unfold vL
  cases ho : gO h b (mO j') with
  | none =>
    rw [ho] at hx
    exact D_none hd hx
  | some u =>
    rw [ho] at hx
    refine (D_call hd hx hl).trans ?_
    simp only [Option.bind_some]
    cases hq : D j' 0 (mEnt j' (.ref b :: as)) [] h 0 0 with
    | none => simp only [sL, F, hq, Option.bind_none]
    | some q =>
      obtain ⟨v, h'⟩ := q
      simp only [sL, F, hq, Option.bind_some]
      have hkd := D_kind hq
      unfold mRk at hkd
      rw [hk] at hkd
      obtain ⟨x, rfl⟩ := hkd
      have kx := kk (x, h')
      simpa [mAns, h10, h11] using kx
theorem e_cL {idx j' b : Nat} {as rest : List Value} {R : Int64 × mHeap → mR'} (hd : decode (mB j) pc = .ok (.invokespecial idx, 3)) (hp : pc + 3 = pc') (hc : mCk j 2 idx j' as.length = true) (hk : mRt j' = some .long) (hs : st = as.reverse ++ .ref b :: rest) (h8 : mCat rest ≤ 8) (hl : (mArg (.ref b :: as)).length ≤ mL j') (kk : ∀ q, E j pc' ls (.long q.1 :: rest) q.2 = R q) : E j pc ls st h = (vL j' b as h).bind R := by
  subst hp
  subst hs
  obtain ⟨-, -, -, -, -, -, -, -, h10, h11⟩ := mCk_ok hc
  have hx := mx_v (pc := pc) (ls := ls) (h := h) (b := b) (i := .invokespecial idx) (by simp) hc h8
  unfold vL
  cases ho : gO h b (mO j') with
  | none =>
    rw [ho] at hx
    exact D_none hd hx
  | some u =>
    rw [ho] at hx
    refine (D_call hd hx hl).trans ?_
    simp only [Option.bind_some]
    cases hq : D j' 0 (mEnt j' (.ref b :: as)) [] h 0 0 with
    | none => simp only [sL, F, hq, Option.bind_none]
    | some q =>
      obtain ⟨v, h'⟩ := q
      simp only [sL, F, hq, Option.bind_some]
      have hkd := D_kind hq
      unfold mRk at hkd
      rw [hk] at hkd
      obtain ⟨x, rfl⟩ := hkd
      have kx := kk (x, h')
      simpa [mAns, h10, h11] using kx
theorem e_sV {idx j' : Nat} {as rest : List Value} {R : mHeap → mR'} (hd : decode (mB j) pc = .ok (.invokestatic idx, 3)) (hp : pc + 3 = pc') (hc : mCk j 0 idx j' as.length = true) (hk : mRt j' = none) (hs : st = as.reverse ++ rest) (h8 : mCat rest ≤ 8) (hl : (mArg as).length ≤ mL j') (kk : ∀ h', E j pc' ls (rest) h' = R h') : E j pc ls st h = (sV j' as h).bind R := by
  subst hp
  subst hs
  obtain ⟨-, -, -, -, -, -, -, -, h10, h11⟩ := mCk_ok hc
  refine (D_call hd (mx_s hc h8) hl).trans ?_
  cases hq : D j' 0 (mEnt j' as) [] h 0 0 with
  | none => simp only [sV, F, hq, Option.bind_none]
  | some q =>
    obtain ⟨v, h'⟩ := q
    · simp only [sV, F, hq, Option.bind_some]
      have hkd := D_kind hq
      unfold mRk at hkd
      rw [hk] at hkd
      dsimp only at hkd
      subst hkd
      have kx := kk h'
      simpa [mAns, h10, h11] using kx
theorem e_vV {idx j' b : Nat} {as rest : List Value} {R : mHeap → mR'} (hd : decode (mB j) pc = .ok (.invokevirtual idx, 3)) (hp : pc + 3 = pc') (hc : mCk j 1 idx j' as.length = true) (hk : mRt j' = none) (hs : st = as.reverse ++ .ref b :: rest) (h8 : mCat rest ≤ 8) (hl : (mArg (.ref b :: as)).length ≤ mL j') (kk : ∀ h', E j pc' ls (rest) h' = R h') : E j pc ls st h = (vV j' b as h).bind R := by
  subst hp
  subst hs
  obtain ⟨-, -, -, -, -, -, -, -, h10, h11⟩ := mCk_ok hc
  have hx := mx_v (pc := pc) (ls := ls) (h := h) (b := b) (i := .invokevirtual idx) (by simp) hc h8
  unfold vV
  cases ho : gO h b (mO j') with
  | none =>
    rw [ho] at hx
    exact D_none hd hx
  | some u =>
    rw [ho] at hx
    refine (D_call hd hx hl).trans ?_
    simp only [Option.bind_some]
    cases hq : D j' 0 (mEnt j' (.ref b :: as)) [] h 0 0 with
    | none => simp only [sV, F, hq, Option.bind_none]
    | some q =>
      obtain ⟨v, h'⟩ := q
      simp only [sV, F, hq, Option.bind_some]
      have hkd := D_kind hq
      unfold mRk at hkd
      rw [hk] at hkd
      dsimp only at hkd
      subst hkd
      have kx := kk h'
      simpa [mAns, h10, h11] using kx
theorem e_cV {idx j' b : Nat} {as rest : List Value} {R : mHeap → mR'} (hd : decode (mB j) pc = .ok (.invokespecial idx, 3)) (hp : pc + 3 = pc') (hc : mCk j 2 idx j' as.length = true) (hk : mRt j' = none) (hs : st = as.reverse ++ .ref b :: rest) (h8 : mCat rest ≤ 8) (hl : (mArg (.ref b :: as)).length ≤ mL j') (kk : ∀ h', E j pc' ls (rest) h' = R h') : E j pc ls st h = (vV j' b as h).bind R := by
  subst hp
  subst hs
  obtain ⟨-, -, -, -, -, -, -, -, h10, h11⟩ := mCk_ok hc
  have hx := mx_v (pc := pc) (ls := ls) (h := h) (b := b) (i := .invokespecial idx) (by simp) hc h8
  unfold vV
  cases ho : gO h b (mO j') with
  | none =>
    rw [ho] at hx
    exact D_none hd hx
  | some u =>
    rw [ho] at hx
    refine (D_call hd hx hl).trans ?_
    simp only [Option.bind_some]
    cases hq : D j' 0 (mEnt j' (.ref b :: as)) [] h 0 0 with
    | none => simp only [sV, F, hq, Option.bind_none]
    | some q =>
      obtain ⟨v, h'⟩ := q
      simp only [sV, F, hq, Option.bind_some]
      have hkd := D_kind hq
      unfold mRk at hkd
      rw [hk] at hkd
      dsimp only at hkd
      subst hkd
      have kx := kk h'
      simpa [mAns, h10, h11] using kx
theorem e_tsw {d lo hi : Int} {offs : Array Int} {len : Nat} {x : Int32} {o : Int} {R : mR'} (hd : decode (mB j) pc = .ok (.tableswitch d lo hi offs, len)) (ho : (if x.toInt < lo ∨ hi < x.toInt then some d else offs[(x.toInt - lo).toNat]?) = some o) (ht : (pc : Int) + o = (t : Int)) (k : E j t ls st h = R) : E j pc ls (.int x :: st) h = R :=
  e_next hd (by simp only [mx, mTab, mnx]; rw [ho]; simp only [mtg_of ht]) k
end EQ2
