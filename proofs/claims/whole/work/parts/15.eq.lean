/-! equations of the denotation, an instruction each; methods that make no cells -/
noncomputable abbrev E (j pc : Nat) (ls : mLoc) (st : List Value) (h : mHeap) : mR' := D j pc ls st h 0 0
noncomputable def F (j : Nat) (as : List Value) (h : mHeap) : mR' := D j 0 (mEnt j as) [] h 0 0
def gI (h : mHeap) (a ci k : Nat) : Option Int32 := match cFld h a ci k with
  | some (.int x) => some x
  | _ => none
def gL (h : mHeap) (a ci k : Nat) : Option Int64 := match cFld h a ci k with
  | some (.long x) => some x
  | _ => none
def gR (h : mHeap) (a ci k : Nat) : Option Nat := match cFld h a ci k with
  | some (.ref x) => some x
  | _ => none
def gO (h : mHeap) (b ci : Nat) : Option Unit := match h[b]? with
  | some (.inr (c, _)) => if c = ci then some () else none
  | _ => none
/-- what a method answers fits its head -/
def mRk (j : Nat) (r : Option Value) : Prop := match mRt j with
  | some .long => ∃ x, r = some (.long x)
  | none => r = none
  | _ => ∃ x, r = some (.int x)
theorem run_kind : ∀ (n : Nat) {j pc : Nat} {ls : mLoc} {st : List Value} {h : mHeap} {cu su : Nat} {r : Option Value} {h' : mHeap}, run n j pc ls st h cu su = some (r, h') → mRk j r := by
  intro n
  induction n with
  | zero => intro j pc ls st h cu su r h' hr; cases hr
  | succ n IH =>
    intro j pc ls st h cu su r h' hr
    unfold run at hr
    split at hr
    · rename_i hd
      split at hr
      · exact IH hr
      · rename_i hx
        cases hr
        have hre := (mx_ret hd hx).1
        unfold mRe at hre
        unfold mRk
        split at hre
        · rcases hre.2 with q | ⟨q, -⟩ <;> rw [q] <;> exact ⟨_, rfl⟩
        · rw [hre.2]; exact ⟨_, rfl⟩
        · rw [hre.2]
        · exact hre.elim
      · split at hr
        · split at hr
          · exact IH hr
          · cases hr
        · cases hr
      · cases hr
    · cases hr
noncomputable def sI (j : Nat) (as : List Value) (h : mHeap) : Option (Int32 × mHeap) := (F j as h).bind fun q => match q.1 with
  | some (.int x) => some (x, q.2)
  | _ => none
noncomputable def sL (j : Nat) (as : List Value) (h : mHeap) : Option (Int64 × mHeap) := (F j as h).bind fun q => match q.1 with
  | some (.long x) => some (x, q.2)
  | _ => none
noncomputable def sV (j : Nat) (as : List Value) (h : mHeap) : Option mHeap := (F j as h).bind fun q => match q.1 with
  | none => some q.2
  | _ => none
noncomputable def vI (j b : Nat) (as : List Value) (h : mHeap) : Option (Int32 × mHeap) := (gO h b (mO j)).bind fun _ => sI j (.ref b :: as) h
noncomputable def vL (j b : Nat) (as : List Value) (h : mHeap) : Option (Int64 × mHeap) := (gO h b (mO j)).bind fun _ => sL j (.ref b :: as) h
noncomputable def vV (j b : Nat) (as : List Value) (h : mHeap) : Option mHeap := (gO h b (mO j)).bind fun _ => sV j (.ref b :: as) h
section EQ
variable {j pc pc' : Nat} {ls ls' : mLoc} {st : List Value} {h : mHeap} {R : mR'}
theorem e_next {i : Instr} {len : Nat} (hd : decode (mB j) pc = .ok (i, len)) {st' : List Value} {h' : mHeap} (hx : mx j i len pc ls st h 0 0 = some (.inl (pc', ls', st', h', 0, 0))) (k : E j pc' ls' st' h' = R) : E j pc ls st h = R := (D_next hd hx).trans k
theorem e_iload {i : Nat} {x : Int32} (hd : decode (mB j) pc = .ok (.iload i, 2)) (hp : pc + 2 = pc') (hg : mget ls i = some (.int x)) (k : E j pc' ls (.int x :: st) h = R) : E j pc ls st h = R := by
  subst hp; exact e_next hd (by simp only [mx, mload, mnx, hg, mok, if_true]) k
theorem e_iload_n {i : Fin 4} {x : Int32} (hd : decode (mB j) pc = .ok (.iload_n i, 1)) (hp : pc + 1 = pc') (hg : mget ls i = some (.int x)) (k : E j pc' ls (.int x :: st) h = R) : E j pc ls st h = R := by
  subst hp; exact e_next hd (by simp only [mx, mload, mnx, hg, mok, if_true]) k
theorem e_lload {i : Nat} {x : Int64} (hd : decode (mB j) pc = .ok (.lload i, 2)) (hp : pc + 2 = pc') (hg : mget ls i = some (.long x)) (k : E j pc' ls (.long x :: st) h = R) : E j pc ls st h = R := by
  subst hp; exact e_next hd (by simp only [mx, mload, mnx, hg, mok, if_true]) k
theorem e_lload_n {i : Fin 4} {x : Int64} (hd : decode (mB j) pc = .ok (.lload_n i, 1)) (hp : pc + 1 = pc') (hg : mget ls i = some (.long x)) (k : E j pc' ls (.long x :: st) h = R) : E j pc ls st h = R := by
  subst hp; exact e_next hd (by simp only [mx, mload, mnx, hg, mok, if_true]) k
theorem e_aload {i : Nat} {x : Nat} (hd : decode (mB j) pc = .ok (.aload i, 2)) (hp : pc + 2 = pc') (hg : mget ls i = some (.ref x)) (k : E j pc' ls (.ref x :: st) h = R) : E j pc ls st h = R := by
  subst hp; exact e_next hd (by simp only [mx, mload, mnx, hg, mok, if_true]) k
theorem e_aload_n {i : Fin 4} {x : Nat} (hd : decode (mB j) pc = .ok (.aload_n i, 1)) (hp : pc + 1 = pc') (hg : mget ls i = some (.ref x)) (k : E j pc' ls (.ref x :: st) h = R) : E j pc ls st h = R := by
  subst hp; exact e_next hd (by simp only [mx, mload, mnx, hg, mok, if_true]) k
theorem e_istore {i : Nat} {x : Int32} (hd : decode (mB j) pc = .ok (.istore i, 2)) (hp : pc + 2 = pc') (hm : mst ls i (.int x) = some ls') (k : E j pc' ls' st h = R) : E j pc ls (.int x :: st) h = R := by
  subst hp; exact e_next hd (by simp only [mx, mstore, mnx, hm, mok, if_true]) k
theorem e_istore_n {i : Fin 4} {x : Int32} (hd : decode (mB j) pc = .ok (.istore_n i, 1)) (hp : pc + 1 = pc') (hm : mst ls i (.int x) = some ls') (k : E j pc' ls' st h = R) : E j pc ls (.int x :: st) h = R := by
  subst hp; exact e_next hd (by simp only [mx, mstore, mnx, hm, mok, if_true]) k
theorem e_lstore {i : Nat} {x : Int64} (hd : decode (mB j) pc = .ok (.lstore i, 2)) (hp : pc + 2 = pc') (hm : mst ls i (.long x) = some ls') (k : E j pc' ls' st h = R) : E j pc ls (.long x :: st) h = R := by
  subst hp; exact e_next hd (by simp only [mx, mstore, mnx, hm, mok, if_true]) k
theorem e_lstore_n {i : Fin 4} {x : Int64} (hd : decode (mB j) pc = .ok (.lstore_n i, 1)) (hp : pc + 1 = pc') (hm : mst ls i (.long x) = some ls') (k : E j pc' ls' st h = R) : E j pc ls (.long x :: st) h = R := by
  subst hp; exact e_next hd (by simp only [mx, mstore, mnx, hm, mok, if_true]) k
theorem e_astore {i : Nat} {x : Nat} (hd : decode (mB j) pc = .ok (.astore i, 2)) (hp : pc + 2 = pc') (hm : mst ls i (.ref x) = some ls') (k : E j pc' ls' st h = R) : E j pc ls (.ref x :: st) h = R := by
  subst hp; exact e_next hd (by simp only [mx, mstore, mnx, hm, mok, if_true]) k
theorem e_astore_n {i : Fin 4} {x : Nat} (hd : decode (mB j) pc = .ok (.astore_n i, 1)) (hp : pc + 1 = pc') (hm : mst ls i (.ref x) = some ls') (k : E j pc' ls' st h = R) : E j pc ls (.ref x :: st) h = R := by
  subst hp; exact e_next hd (by simp only [mx, mstore, mnx, hm, mok, if_true]) k
theorem e_iconst {n : Int} {v : Int32} (hd : decode (mB j) pc = .ok (.iconst n, 1)) (hp : pc + 1 = pc') (hv : Int32.ofInt n = v) (k : E j pc' ls (.int v :: st) h = R) : E j pc ls st h = R := by
  subst hp; subst hv; exact e_next hd (by simp only [mx, mpush, mnx, if_true]) k
theorem e_bipush {n : Int} {v : Int32} (hd : decode (mB j) pc = .ok (.bipush n, 2)) (hp : pc + 2 = pc') (hv : (Int8.ofInt n).toInt32 = v) (k : E j pc' ls (.int v :: st) h = R) : E j pc ls st h = R := by
  subst hp; subst hv; exact e_next hd (by simp only [mx, mpush, mnx, if_true]) k
theorem e_sipush {n : Int} {v : Int32} (hd : decode (mB j) pc = .ok (.sipush n, 3)) (hp : pc + 3 = pc') (hv : (Int16.ofInt n).toInt32 = v) (k : E j pc' ls (.int v :: st) h = R) : E j pc ls st h = R := by
  subst hp; subst hv; exact e_next hd (by simp only [mx, mpush, mnx, if_true]) k
theorem e_lconst {n : Fin 2} {v : Int64} (hd : decode (mB j) pc = .ok (.lconst n, 1)) (hp : pc + 1 = pc') (hv : Int64.ofNat (n : Nat) = v) (k : E j pc' ls (.long v :: st) h = R) : E j pc ls st h = R := by
  subst hp; subst hv; exact e_next hd (by simp only [mx, mpush, mnx, if_true]) k
theorem e_ldc2 {n : Nat} {v : Int64} (hd : decode (mB j) pc = .ok (.ldc2_w n, 3)) (hp : pc + 3 = pc') (hv : mK (mO j) n = some v) (k : E j pc' ls (.long v :: st) h = R) : E j pc ls st h = R := by
  subst hp; exact e_next hd (by simp only [mx, hv, mpush, mnx, if_true]) k
theorem e_gets {n : Nat} (hd : decode (mB j) pc = .ok (.getstatic n, 3)) (hp : pc + 3 = pc') (hv : mGl.contains (mO j, n) = true) (k : E j pc' ls (.ref 0 :: st) h = R) : E j pc ls st h = R := by
  subst hp; exact e_next hd (by simp only [mx, hv, mpush, mnx, if_true]) k
theorem e_iadd {x y : Int32} (hd : decode (mB j) pc = .ok (.iadd, 1)) (hp : pc + 1 = pc') (k : E j pc' ls (.int (x + y) :: st) h = R) : E j pc ls (.int y :: .int x :: st) h = R := by
  subst hp; exact e_next hd (by simp only [mx, mbi, mnx, if_true]) k
theorem e_isub {x y : Int32} (hd : decode (mB j) pc = .ok (.isub, 1)) (hp : pc + 1 = pc') (k : E j pc' ls (.int (x - y) :: st) h = R) : E j pc ls (.int y :: .int x :: st) h = R := by
  subst hp; exact e_next hd (by simp only [mx, mbi, mnx, if_true]) k
theorem e_imul {x y : Int32} (hd : decode (mB j) pc = .ok (.imul, 1)) (hp : pc + 1 = pc') (k : E j pc' ls (.int (x * y) :: st) h = R) : E j pc ls (.int y :: .int x :: st) h = R := by
  subst hp; exact e_next hd (by simp only [mx, mbi, mnx, if_true]) k
theorem e_iand {x y : Int32} (hd : decode (mB j) pc = .ok (.iand, 1)) (hp : pc + 1 = pc') (k : E j pc' ls (.int (x &&& y) :: st) h = R) : E j pc ls (.int y :: .int x :: st) h = R := by
  subst hp; exact e_next hd (by simp only [mx, mbi, mnx, if_true]) k
theorem e_ior {x y : Int32} (hd : decode (mB j) pc = .ok (.ior, 1)) (hp : pc + 1 = pc') (k : E j pc' ls (.int (x ||| y) :: st) h = R) : E j pc ls (.int y :: .int x :: st) h = R := by
  subst hp; exact e_next hd (by simp only [mx, mbi, mnx, if_true]) k
theorem e_ixor {x y : Int32} (hd : decode (mB j) pc = .ok (.ixor, 1)) (hp : pc + 1 = pc') (k : E j pc' ls (.int (x ^^^ y) :: st) h = R) : E j pc ls (.int y :: .int x :: st) h = R := by
  subst hp; exact e_next hd (by simp only [mx, mbi, mnx, if_true]) k
theorem e_ishl {x y : Int32} (hd : decode (mB j) pc = .ok (.ishl, 1)) (hp : pc + 1 = pc') (k : E j pc' ls (.int (x <<< (y &&& 31)) :: st) h = R) : E j pc ls (.int y :: .int x :: st) h = R := by
  subst hp; exact e_next hd (by simp only [mx, mbi, mnx, if_true]) k
theorem e_ishr {x y : Int32} (hd : decode (mB j) pc = .ok (.ishr, 1)) (hp : pc + 1 = pc') (k : E j pc' ls (.int (x >>> (y &&& 31)) :: st) h = R) : E j pc ls (.int y :: .int x :: st) h = R := by
  subst hp; exact e_next hd (by simp only [mx, mbi, mnx, if_true]) k
theorem e_idiv {x y : Int32} (hd : decode (mB j) pc = .ok (.idiv, 1)) (hp : pc + 1 = pc') (k : E j pc' ls (.int (x / y) :: st) h = R) : E j pc ls (.int y :: .int x :: st) h = if y = 0 then none else R := by
  subst hp
  by_cases hy : y = 0
  · rw [if_pos hy]; exact D_none hd (by simp only [mx, mbi, hy, if_true])
  · rw [if_neg hy]; exact e_next hd (by simp only [mx, mbi, mnx, if_neg hy, if_true]) k
theorem e_irem {x y : Int32} (hd : decode (mB j) pc = .ok (.irem, 1)) (hp : pc + 1 = pc') (k : E j pc' ls (.int (x - x / y * y) :: st) h = R) : E j pc ls (.int y :: .int x :: st) h = if y = 0 then none else R := by
  subst hp
  by_cases hy : y = 0
  · rw [if_pos hy]; exact D_none hd (by simp only [mx, mbi, hy, if_true])
  · rw [if_neg hy]; exact e_next hd (by simp only [mx, mbi, mnx, if_neg hy, if_true]) k
theorem e_ladd {x y : Int64} (hd : decode (mB j) pc = .ok (.ladd, 1)) (hp : pc + 1 = pc') (k : E j pc' ls (.long (x + y) :: st) h = R) : E j pc ls (.long y :: .long x :: st) h = R := by
  subst hp; exact e_next hd (by simp only [mx, mbl, mnx, if_true]) k
theorem e_lmul {x y : Int64} (hd : decode (mB j) pc = .ok (.lmul, 1)) (hp : pc + 1 = pc') (k : E j pc' ls (.long (x * y) :: st) h = R) : E j pc ls (.long y :: .long x :: st) h = R := by
  subst hp; exact e_next hd (by simp only [mx, mbl, mnx, if_true]) k
theorem e_lor {x y : Int64} (hd : decode (mB j) pc = .ok (.lor, 1)) (hp : pc + 1 = pc') (k : E j pc' ls (.long (x ||| y) :: st) h = R) : E j pc ls (.long y :: .long x :: st) h = R := by
  subst hp; exact e_next hd (by simp only [mx, mbl, mnx, if_true]) k
theorem e_ldiv {x y : Int64} (hd : decode (mB j) pc = .ok (.ldiv, 1)) (hp : pc + 1 = pc') (k : E j pc' ls (.long (x / y) :: st) h = R) : E j pc ls (.long y :: .long x :: st) h = if y = 0 then none else R := by
  subst hp
  by_cases hy : y = 0
  · rw [if_pos hy]; exact D_none hd (by simp only [mx, mbl, hy, if_true])
  · rw [if_neg hy]; exact e_next hd (by simp only [mx, mbl, mnx, if_neg hy, if_true]) k
theorem e_lrem {x y : Int64} (hd : decode (mB j) pc = .ok (.lrem, 1)) (hp : pc + 1 = pc') (k : E j pc' ls (.long (x - x / y * y) :: st) h = R) : E j pc ls (.long y :: .long x :: st) h = if y = 0 then none else R := by
  subst hp
  by_cases hy : y = 0
  · rw [if_pos hy]; exact D_none hd (by simp only [mx, mbl, hy, if_true])
  · rw [if_neg hy]; exact e_next hd (by simp only [mx, mbl, mnx, if_neg hy, if_true]) k
theorem e_lshl {x : Int64} {y : Int32} (hd : decode (mB j) pc = .ok (.lshl, 1)) (hp : pc + 1 = pc') (k : E j pc' ls (.long (x <<< (y.toInt64 &&& 63)) :: st) h = R) : E j pc ls (.int y :: .long x :: st) h = R := by
  subst hp; exact e_next hd (by simp only [mx, mbs, mnx, if_true]) k
theorem e_lshr {x : Int64} {y : Int32} (hd : decode (mB j) pc = .ok (.lshr, 1)) (hp : pc + 1 = pc') (k : E j pc' ls (.long (x >>> (y.toInt64 &&& 63)) :: st) h = R) : E j pc ls (.int y :: .long x :: st) h = R := by
  subst hp; exact e_next hd (by simp only [mx, mbs, mnx, if_true]) k
theorem e_ineg {x : Int32} (hd : decode (mB j) pc = .ok (.ineg, 1)) (hp : pc + 1 = pc') (k : E j pc' ls (.int (-x) :: st) h = R) : E j pc ls (.int x :: st) h = R := by
  subst hp; exact e_next hd (by simp only [mx, mui, mnx, if_true]) k
theorem e_i2b {x : Int32} (hd : decode (mB j) pc = .ok (.i2b, 1)) (hp : pc + 1 = pc') (k : E j pc' ls (.int x.toInt8.toInt32 :: st) h = R) : E j pc ls (.int x :: st) h = R := by
  subst hp; exact e_next hd (by simp only [mx, mui, mnx, if_true]) k
theorem e_i2l {x : Int32} (hd : decode (mB j) pc = .ok (.i2l, 1)) (hp : pc + 1 = pc') (k : E j pc' ls (.long x.toInt64 :: st) h = R) : E j pc ls (.int x :: st) h = R := by
  subst hp; exact e_next hd (by simp only [mx, mui, mnx, if_true]) k
theorem e_l2i {x : Int64} (hd : decode (mB j) pc = .ok (.l2i, 1)) (hp : pc + 1 = pc') (k : E j pc' ls (.int x.toInt32 :: st) h = R) : E j pc ls (.long x :: st) h = R := by
  subst hp; exact e_next hd (by simp only [mx, mnx, if_true]) k
theorem e_lcmp {x y : Int64} (hd : decode (mB j) pc = .ok (.lcmp, 1)) (hp : pc + 1 = pc') (k : E j pc' ls (.int (lg_cmp x y) :: st) h = R) : E j pc ls (.long y :: .long x :: st) h = R := by
  subst hp; exact e_next hd (by simp only [mx, mnx, if_true]) k
theorem e_iinc {i : Nat} {n : Int} {x c : Int32} (hd : decode (mB j) pc = .ok (.iinc i n, 3)) (hp : pc + 3 = pc') (hc : Int32.ofInt n = c) (hg : mget ls i = some (.int x)) (hm : mst ls i (.int (x + c)) = some ls') (k : E j pc' ls' st h = R) : E j pc ls st h = R := by
  subst hp; subst hc; exact e_next hd (by simp only [mx, mnx, hg, hm, if_true]) k
theorem mtg_of {pc t : Nat} {off : Int} (h : (pc : Int) + off = (t : Int)) : mtg pc off = some t := by
  unfold mtg
  rw [h, if_pos (by omega)]
  rfl
theorem e_goto {o : Int} (hd : decode (mB j) pc = .ok (.goto o, 3)) (ht : (pc : Int) + o = (pc' : Int)) (k : E j pc' ls st h = R) : E j pc ls st h = R :=
  e_next hd (by simp only [mx, mnx, mtg_of ht, if_true]) k
theorem e_dup {v : Value} (hd : decode (mB j) pc = .ok (.dup, 1)) (hp : pc + 1 = pc') (hc : v.category = 1) (k : E j pc' ls (v :: v :: st) h = R) : E j pc ls (v :: st) h = R := by
  subst hp; exact e_next hd (by simp only [mx, mnx, hc, if_true]) k
theorem e_dup2 {v w : Value} (hd : decode (mB j) pc = .ok (.dup2, 1)) (hp : pc + 1 = pc') (hc : v.category = 1 ∧ w.category = 1) (k : E j pc' ls (v :: w :: v :: w :: st) h = R) : E j pc ls (v :: w :: st) h = R := by
  subst hp; exact e_next hd (by simp only [mx, mnx, hc, and_self, if_true]) k
end EQ
