/-! a small machine: cells by number (0 the table of parts, 1 the script, then the world's), locals by place -/
abbrev mCell : Type := (Nat × vp_A) ⊕ (Nat × List Value)
abbrev mHeap : Type := List mCell
abbrev mLoc : Type := List (Option Value)
abbrev mFr : Type := Nat × mLoc × List Value × mHeap × Nat × Nat
abbrev mOut : Type := mFr ⊕ (Option Value ⊕ (Nat × List Value × List Value))
def mget (ls : mLoc) (i : Nat) : Option Value := (ls[i]?).getD none
def mkil (ls : mLoc) (i : Nat) : mLoc := match i with
  | 0 => ls
  | k + 1 => match ls[k]? with
    | some (some v) => if v.category = 2 then ls.set k none else ls
    | _ => ls
def mst (ls : mLoc) (i : Nat) (v : Value) : Option mLoc := if v.category = 2 then (if i + 1 < ls.length then some (((mkil ls i).set i (some v)).set (i + 1) none) else none) else (if i < ls.length then some ((mkil ls i).set i (some v)) else none)
def mok (k : Nat) (v : Value) : Bool := match k, v with
  | 0, .int _ => true
  | 1, .long _ => true
  | 2, .ref _ => true
  | _, _ => false
def mtg (pc : Nat) (off : Int) : Option Nat := if 0 ≤ (pc : Int) + off then some ((pc : Int) + off).toNat else none
def mnx (pc : Nat) (ls : mLoc) (st : List Value) (h : mHeap) (cu su : Nat) : Option mOut := some (.inl (pc, ls, st, h, cu, su))
def mload (kd k l len pc : Nat) (ls : mLoc) (st : List Value) (h : mHeap) (cu su : Nat) : Option mOut :=
  if len = l then (match mget ls k with
    | some v => if mok kd v = true then mnx (pc + l) ls (v :: st) h cu su else none
    | none => none) else none
def mstore (kd k l len pc : Nat) (ls : mLoc) (st : List Value) (h : mHeap) (cu su : Nat) : Option mOut :=
  if len = l then (match st with
    | v :: r => if mok kd v = true then (match mst ls k v with
        | some ls' => mnx (pc + l) ls' r h cu su
        | none => none) else none
    | [] => none) else none
def mpush (v : Value) (l len pc : Nat) (ls : mLoc) (st : List Value) (h : mHeap) (cu su : Nat) : Option mOut :=
  if len = l then mnx (pc + l) ls (v :: st) h cu su else none
def mbi (f : Int32 → Int32 → Option Int32) (len pc : Nat) (ls : mLoc) (st : List Value) (h : mHeap) (cu su : Nat) : Option mOut :=
  if len = 1 then (match st with
    | .int y :: .int x :: r => (match f x y with
      | some z => mnx (pc + 1) ls (.int z :: r) h cu su
      | none => none)
    | _ => none) else none
def mbl (f : Int64 → Int64 → Option Int64) (len pc : Nat) (ls : mLoc) (st : List Value) (h : mHeap) (cu su : Nat) : Option mOut :=
  if len = 1 then (match st with
    | .long y :: .long x :: r => (match f x y with
      | some z => mnx (pc + 1) ls (.long z :: r) h cu su
      | none => none)
    | _ => none) else none
def mbs (f : Int64 → Int32 → Int64) (len pc : Nat) (ls : mLoc) (st : List Value) (h : mHeap) (cu su : Nat) : Option mOut :=
  if len = 1 then (match st with
    | .int y :: .long x :: r => mnx (pc + 1) ls (.long (f x y) :: r) h cu su
    | _ => none) else none
def mui (f : Int32 → Value) (len pc : Nat) (ls : mLoc) (st : List Value) (h : mHeap) (cu su : Nat) : Option mOut :=
  if len = 1 then (match st with
    | .int x :: r => mnx (pc + 1) ls (f x :: r) h cu su
    | _ => none) else none
def mif1 (f : Int32 → Bool) (off : Int) (len pc : Nat) (ls : mLoc) (st : List Value) (h : mHeap) (cu su : Nat) : Option mOut :=
  if len = 3 then (match st with
    | .int x :: r => (match mtg pc off with
      | some t => mnx (if f x = true then t else pc + 3) ls r h cu su
      | none => none)
    | _ => none) else none
def mif2 (f : Int32 → Int32 → Bool) (off : Int) (len pc : Nat) (ls : mLoc) (st : List Value) (h : mHeap) (cu su : Nat) : Option mOut :=
  if len = 3 then (match st with
    | .int y :: .int x :: r => (match mtg pc off with
      | some t => mnx (if f x y = true then t else pc + 3) ls r h cu su
      | none => none)
    | _ => none) else none
/-- reads and writes of cells -/
def cFld (h : mHeap) (a ci k : Nat) : Option Value := match h[a]? with
  | some (.inr (c, fs)) => if c = ci then fs[k]? else none
  | _ => none
def cPut (h : mHeap) (a ci k : Nat) (v : Value) : Option mHeap := match h[a]? with
  | some (.inr (c, fs)) => if c = ci ∧ k < fs.length then some (h.set a (.inr (c, fs.set k v))) else none
  | _ => none
def cAldI (law : Bool) (h : mHeap) (a : Nat) (i : Int32) : Option Int32 := match h[a]? with
  | some (.inl (t, n, .inl f)) => if (i < 0 ∨ n ≤ i.toNatClampNeg) then none else if t = 0 ∨ (t = 5 ∧ a = 0) ∨ (t = 6 ∧ a = 1 ∧ law = true) then some (f i.toNatClampNeg) else none
  | _ => none
def cAstI (h : mHeap) (a : Nat) (i x : Int32) : Option mHeap := match h[a]? with
  | some (.inl (t, n, .inl f)) => if (i < 0 ∨ n ≤ i.toNatClampNeg) then none else if t = 0 then some (h.set a (.inl (0, n, .inl (upd f i.toNatClampNeg x)))) else none
  | _ => none
def cAldB (h : mHeap) (a : Nat) (i : Int32) : Option Int32 := match h[a]? with
  | some (.inl (t, n, .inl f)) => if (i < 0 ∨ n ≤ i.toNatClampNeg) then none else if t = 1 then some (f i.toNatClampNeg) else none
  | _ => none
def cAstB (h : mHeap) (a : Nat) (i x : Int32) : Option mHeap := match h[a]? with
  | some (.inl (t, n, .inl f)) => if (i < 0 ∨ n ≤ i.toNatClampNeg) then none else if t = 1 then some (h.set a (.inl (1, n, .inl (upd f i.toNatClampNeg (vp_nar .byte x))))) else none
  | _ => none
def cAldL (h : mHeap) (a : Nat) (i : Int32) : Option Int64 := match h[a]? with
  | some (.inl (t, n, .inr (.inl f))) => if (i < 0 ∨ n ≤ i.toNatClampNeg) then none else if t = 2 then some (f i.toNatClampNeg) else none
  | _ => none
def cAstL (h : mHeap) (a : Nat) (i : Int32) (x : Int64) : Option mHeap := match h[a]? with
  | some (.inl (t, n, .inr (.inl f))) => if (i < 0 ∨ n ≤ i.toNatClampNeg) then none else if t = 2 then some (h.set a (.inl (2, n, .inr (.inl (vp_updL f i.toNatClampNeg x))))) else none
  | _ => none
def cAldR (h : mHeap) (a : Nat) (i : Int32) : Option Nat := match h[a]? with
  | some (.inl (t, n, .inr (.inr (.inr (.inr f))))) => if (i < 0 ∨ n ≤ i.toNatClampNeg) then none else if t = 3 ∨ t = 4 then f i.toNatClampNeg else none
  | _ => none
/-- class number of what an array of references holds -/
def cElt (t : Nat) : Nat := if t = 3 then 6 else 3
def cAstR (h : mHeap) (a : Nat) (i : Int32) (b : Nat) : Option mHeap := match h[a]?, h[b]? with
  | some (.inl (t, n, .inr (.inr (.inr (.inr f))))), some (.inr (c, _)) => if (i < 0 ∨ n ≤ i.toNatClampNeg) then none else if (t = 3 ∨ t = 4) ∧ c = cElt t then some (h.set a (.inl (t, n, .inr (.inr (.inr (.inr (va_up f i.toNatClampNeg (some b)))))))) else none
  | _, _ => none
def cLen (law : Bool) (h : mHeap) (a : Nat) : Option Int32 := match h[a]? with
  | some (.inl (t, n, _)) => if t = 6 ∧ a = 1 ∧ law = true then some (Int32.ofNat n) else none
  | _ => none
def cCpy (h : mHeap) (a b : Nat) (sp dp n : Int32) : Option mHeap := match h[a]?, h[b]? with
  | some (.inl (t0, n0, .inl f)), some (.inl (t1, n1, .inl g)) =>
    if t0 = 1 ∧ t1 = 1 ∧ ¬ sp < 0 ∧ ¬ dp < 0 ∧ ¬ n < 0 ∧ sp.toNatClampNeg + n.toNatClampNeg ≤ n0 ∧ dp.toNatClampNeg + n.toNatClampNeg ≤ n1 ∧ (∀ i, i < n.toNatClampNeg → fits .byte (.int (f (sp.toNatClampNeg + i))) = true)
    then some (h.set b (.inl (1, n1, .inl (va_cpy f g sp.toNatClampNeg dp.toNatClampNeg n.toNatClampNeg)))) else none
  | _, _ => none
/-- every number of a cell that stands in a value, a cell, the locals, the stack is below n -/
def wV (n : Nat) : Value → Bool
  | .ref k => decide (k < n)
  | _ => true
def wC (n : Nat) : mCell → Bool
  | .inl (_, m, .inr (.inr (.inr (.inr f)))) => (List.range m).all (fun i => match f i with
    | some k => decide (k < n)
    | none => true)
  | .inl _ => true
  | .inr (_, fs) => fs.all (wV n)
def wLS (n : Nat) (ls : mLoc) (st : List Value) : Bool := ls.all (fun v => match v with
  | some v => wV n v
  | none => true) && st.all (wV n)
def wH (h : mHeap) : Bool := h.all (wC h.length)
def mZero (ci : Nat) : List Value := match vwCl[ci]? with
  | some (_, _, N) => (List.range N).map (fun k => defaultValue (mTy ci k))
  | none => []
def mNew (j : Nat) (c : mCell) (n l pc : Nat) (ls : mLoc) (st : List Value) (h : mHeap) (cu su : Nat) : Option mOut :=
  if cu + 1 ≤ (mRm j).cells ∧ su + n ≤ (mRm j).slots ∧ wLS h.length ls st = true ∧ wH h = true ∧ 2 ≤ h.length then some (.inl (pc + l, ls, .ref h.length :: st, h ++ [c], cu + 1, su + n)) else none
def mArr (a : ArrayType) (n : Nat) : Option mCell := match a with
  | .int => some (.inl (0, n, .inl (fun _ => 0)))
  | .byte => some (.inl (1, n, .inl (fun _ => 0)))
  | .long => some (.inl (2, n, .inr (.inl (fun _ => 0))))
  | _ => none
def mCat (st : List Value) : Nat := (st.map fun v => v.category).sum
/-- what a call asks of the two methods' rooms -/
def mRoomOk (j j' cu su : Nat) : Bool := decide ((mRm j').frames + 1 ≤ (mRm j).frames ∧ 8 + (mL j' + 11) + (mRm j').locals ≤ (mRm j).locals ∧ cu + (mRm j').cells ≤ (mRm j).cells ∧ su + (mRm j').slots ≤ (mRm j).slots)
def mCall (j kd idx len pc : Nat) (ls : mLoc) (st : List Value) (h : mHeap) (cu su : Nat) : Option mOut :=
  if len = 3 then (match mM (mO j) idx with
    | some (j', _) =>
      if j' = 1000 then (match kd, st with
        | 2, .ref _ :: r => if 1 ≤ (mRm j).frames ∧ mCat r + 12 ≤ (mRm j).locals then mnx (pc + 3) ls r h cu su else none
        | _, _ => none)
      else if j' = 1001 then (match kd, st with
        | 0, .int n :: .int dp :: .ref b :: .int sp :: .ref a :: r => if 1 ≤ (mRm j).frames ∧ mCat r + (nativeFrameWords "java/lang/System" "arraycopy" 5 + 11) ≤ (mRm j).locals then (match cCpy h a b sp dp n with
            | some h' => mnx (pc + 3) ls r h' cu su
            | none => none) else none
        | _, _ => none)
      else if mKd j' = kd ∧ mNp j' ≤ st.length ∧ mRoomOk j j' cu su = true ∧ j' < mN ∧ j' ≠ mLaw ∧ ((mRm j').cells = 0 ∨ wLS h.length ls (st.drop (mNp j')) = true) then
        (match kd with
          | 0 => if mCat (st.drop (mNp j')) ≤ 8 then some (.inr (.inr (j', (st.take (mNp j')).reverse, st.drop (mNp j')))) else none
          | _ => (match st.drop (mNp j') with
            | .ref b :: r => (match h[b]? with
              | some (.inr (c, _)) => if c = mO j' ∧ mCat r ≤ 8 then some (.inr (.inr (j', .ref b :: (st.take (mNp j')).reverse, r))) else none
              | _ => none)
            | _ => none))
      else none
    | none => none) else none
def mFin (j ci k : Nat) : Bool := match vwCl[ci]? with
  | some (_, T, _) => !(T k).2.2.2 || (decide (mKd j = 2) && decide (mO j = ci))
  | none => false
def mPutF (j idx len pc : Nat) (ls : mLoc) (st : List Value) (h : mHeap) (cu su : Nat) : Option mOut :=
  if len = 3 then (match mF (mO j) idx, st with
    | some (ci, k), v :: .ref a :: r =>
      if ((mKi ci k = 3 ∧ mok 0 v = true ∧ narrow .boolean v = v ∧ fits .boolean v = true) ∨ (mKi ci k < 3 ∧ mok (mKi ci k) v = true)) ∧ mFin j ci k = true then
        (match cPut h a ci k v with
            | some h' => mnx (pc + 3) ls r h' cu su
            | none => none) else none
    | _, _ => none) else none
def mGetF (j idx len pc : Nat) (ls : mLoc) (st : List Value) (h : mHeap) (cu su : Nat) : Option mOut :=
  if len = 3 then (match mF (mO j) idx, st with
    | some (ci, k), .ref a :: r => (match cFld h a ci k with
      | some v => if mok (if mKi ci k = 3 then 0 else mKi ci k) v = true then mnx (pc + 3) ls (v :: r) h cu su else none
      | none => none)
    | _, _ => none) else none
def mTab (d lo hi : Int) (offs : Array Int) (pc : Nat) (ls : mLoc) (st : List Value) (h : mHeap) (cu su : Nat) : Option mOut := match st with
  | .int x :: r => (match (if x.toInt < lo ∨ hi < x.toInt then some d else offs[(x.toInt - lo).toNat]?) with
    | some o => (match mtg pc o with
      | some t => mnx t ls r h cu su
      | none => none)
    | none => none)
  | _ => none
def mRet (j len : Nat) (st : List Value) : Option mOut :=
  if len = 1 then (match mRt j, st with
    | some .int, [.int v] => some (.inr (.inl (some (.int v))))
    | some .boolean, [.int v] => if narrow .boolean (.int v) = .int v then some (.inr (.inl (some (.int v)))) else none
    | _, _ => none) else none
def mx (j : Nat) (i : Instr) (len pc : Nat) (ls : mLoc) (st : List Value) (h : mHeap) (cu su : Nat) : Option mOut := match i with
  | .aload k => mload 2 k 2 len pc ls st h cu su
  | .aload_n k => mload 2 k 1 len pc ls st h cu su
  | .iload k => mload 0 k 2 len pc ls st h cu su
  | .iload_n k => mload 0 k 1 len pc ls st h cu su
  | .lload k => mload 1 k 2 len pc ls st h cu su
  | .lload_n k => mload 1 k 1 len pc ls st h cu su
  | .astore k => mstore 2 k 2 len pc ls st h cu su
  | .astore_n k => mstore 2 k 1 len pc ls st h cu su
  | .istore k => mstore 0 k 2 len pc ls st h cu su
  | .istore_n k => mstore 0 k 1 len pc ls st h cu su
  | .lstore k => mstore 1 k 2 len pc ls st h cu su
  | .lstore_n k => mstore 1 k 1 len pc ls st h cu su
  | .iconst n => mpush (.int (Int32.ofInt n)) 1 len pc ls st h cu su
  | .bipush n => mpush (.int (Int8.ofInt n).toInt32) 2 len pc ls st h cu su
  | .sipush n => mpush (.int (Int16.ofInt n).toInt32) 3 len pc ls st h cu su
  | .lconst n => mpush (.long (Int64.ofNat (n : Nat))) 1 len pc ls st h cu su
  | .ldc2_w k => (match mK (mO j) k with
    | some v => mpush (.long v) 3 len pc ls st h cu su
    | none => none)
  | .getstatic k => if mGl.contains (mO j, k) = true then mpush (.ref 0) 3 len pc ls st h cu su else none
  | .iadd => mbi (fun x y => some (x + y)) len pc ls st h cu su
  | .isub => mbi (fun x y => some (x - y)) len pc ls st h cu su
  | .imul => mbi (fun x y => some (x * y)) len pc ls st h cu su
  | .idiv => mbi (fun x y => if y = 0 then none else some (x / y)) len pc ls st h cu su
  | .irem => mbi (fun x y => if y = 0 then none else some (x - x / y * y)) len pc ls st h cu su
  | .iand => mbi (fun x y => some (x &&& y)) len pc ls st h cu su
  | .ior => mbi (fun x y => some (x ||| y)) len pc ls st h cu su
  | .ixor => mbi (fun x y => some (x ^^^ y)) len pc ls st h cu su
  | .ishl => mbi (fun x y => some (x <<< (y &&& 31))) len pc ls st h cu su
  | .ishr => mbi (fun x y => some (x >>> (y &&& 31))) len pc ls st h cu su
  | .ladd => mbl (fun x y => some (x + y)) len pc ls st h cu su
  | .lmul => mbl (fun x y => some (x * y)) len pc ls st h cu su
  | .ldiv => mbl (fun x y => if y = 0 then none else some (x / y)) len pc ls st h cu su
  | .lrem => mbl (fun x y => if y = 0 then none else some (x - x / y * y)) len pc ls st h cu su
  | .lor => mbl (fun x y => some (x ||| y)) len pc ls st h cu su
  | .lshl => mbs (fun x y => x <<< (y.toInt64 &&& 63)) len pc ls st h cu su
  | .lshr => mbs (fun x y => x >>> (y.toInt64 &&& 63)) len pc ls st h cu su
  | .ineg => mui (fun x => .int (-x)) len pc ls st h cu su
  | .i2b => mui (fun x => .int x.toInt8.toInt32) len pc ls st h cu su
  | .i2l => mui (fun x => .long x.toInt64) len pc ls st h cu su
  | .l2i => if len = 1 then (match st with
    | .long x :: r => mnx (pc + 1) ls (.int x.toInt32 :: r) h cu su
    | _ => none) else none
  | .lcmp => if len = 1 then (match st with
    | .long y :: .long x :: r => mnx (pc + 1) ls (.int (lg_cmp x y) :: r) h cu su
    | _ => none) else none
  | .iinc k n => if len = 3 then (match mget ls k with
    | some (.int x) => (match mst ls k (.int (x + Int32.ofInt n)) with
      | some ls' => mnx (pc + 3) ls' st h cu su
      | none => none)
    | _ => none) else none
  | .goto o => if len = 3 then (match mtg pc o with
    | some t => mnx t ls st h cu su
    | none => none) else none
  | .ifCond .eq o => mif1 (fun x => decide (x = 0)) o len pc ls st h cu su
  | .ifCond .ne o => mif1 (fun x => decide (¬ x = 0)) o len pc ls st h cu su
  | .ifCond .lt o => mif1 (fun x => decide (x < 0)) o len pc ls st h cu su
  | .ifCond .ge o => mif1 (fun x => decide (0 ≤ x)) o len pc ls st h cu su
  | .ifCond .gt o => mif1 (fun x => decide (0 < x)) o len pc ls st h cu su
  | .ifCond .le o => mif1 (fun x => decide (x ≤ 0)) o len pc ls st h cu su
  | .if_icmp .eq o => mif2 (fun x y => decide (x = y)) o len pc ls st h cu su
  | .if_icmp .ne o => mif2 (fun x y => decide (¬ x = y)) o len pc ls st h cu su
  | .if_icmp .lt o => mif2 (fun x y => decide (x < y)) o len pc ls st h cu su
  | .if_icmp .ge o => mif2 (fun x y => decide (y ≤ x)) o len pc ls st h cu su
  | .if_icmp .gt o => mif2 (fun x y => decide (y < x)) o len pc ls st h cu su
  | .if_icmp .le o => mif2 (fun x y => decide (x ≤ y)) o len pc ls st h cu su
  | .dup => if len = 1 then (match st with
    | v :: r => if v.category = 1 then mnx (pc + 1) ls (v :: v :: r) h cu su else none
    | _ => none) else none
  | .dup2 => if len = 1 then (match st with
    | v :: w :: r => if v.category = 1 ∧ w.category = 1 then mnx (pc + 1) ls (v :: w :: v :: w :: r) h cu su else none
    | _ => none) else none
  | .getfield k => mGetF j k len pc ls st h cu su
  | .putfield k => mPutF j k len pc ls st h cu su
  | .iaload => if len = 1 then (match st with
    | .int i :: .ref a :: r => (match cAldI (j == mLaw) h a i with
      | some x => mnx (pc + 1) ls (.int x :: r) h cu su
      | none => none)
    | _ => none) else none
  | .iastore => if len = 1 then (match st with
    | .int x :: .int i :: .ref a :: r => (match cAstI h a i x with
      | some h' => mnx (pc + 1) ls r h' cu su
      | none => none)
    | _ => none) else none
  | .baload => if len = 1 then (match st with
    | .int i :: .ref a :: r => (match cAldB h a i with
      | some x => mnx (pc + 1) ls (.int x :: r) h cu su
      | none => none)
    | _ => none) else none
  | .bastore => if len = 1 then (match st with
    | .int x :: .int i :: .ref a :: r => (match cAstB h a i x with
      | some h' => mnx (pc + 1) ls r h' cu su
      | none => none)
    | _ => none) else none
  | .laload => if len = 1 then (match st with
    | .int i :: .ref a :: r => (match cAldL h a i with
      | some x => mnx (pc + 1) ls (.long x :: r) h cu su
      | none => none)
    | _ => none) else none
  | .lastore => if len = 1 then (match st with
    | .long x :: .int i :: .ref a :: r => (match cAstL h a i x with
      | some h' => mnx (pc + 1) ls r h' cu su
      | none => none)
    | _ => none) else none
  | .aaload => if len = 1 then (match st with
    | .int i :: .ref a :: r => (match cAldR h a i with
      | some x => mnx (pc + 1) ls (.ref x :: r) h cu su
      | none => none)
    | _ => none) else none
  | .aastore => if len = 1 then (match st with
    | .ref x :: .int i :: .ref a :: r => (match cAstR h a i x with
      | some h' => mnx (pc + 1) ls r h' cu su
      | none => none)
    | _ => none) else none
  | .arraylength => if len = 1 then (match st with
    | .ref a :: r => (match cLen (j == mLaw) h a with
      | some x => mnx (pc + 1) ls (.int x :: r) h cu su
      | none => none)
    | _ => none) else none
  | .newarray a => if len = 2 then (match st with
    | .int n :: r => if n < 0 ∨ 600000 < n.toNatClampNeg then none else (match mArr a n.toNatClampNeg with
      | some c => mNew j c n.toNatClampNeg 2 pc ls r h cu su
      | none => none)
    | _ => none) else none
  | .anewarray k => if len = 3 then (match mC (mO j) k, st with
    | some ci, .int n :: r => if n < 0 ∨ 600000 < n.toNatClampNeg ∨ ¬ (ci = 6 ∨ ci = 3) then none else mNew j (.inl (if ci = 6 then 3 else 4, n.toNatClampNeg, .inr (.inr (.inr (.inr (fun _ => none)))))) n.toNatClampNeg 3 pc ls r h cu su
    | _, _ => none) else none
  | .new k => if len = 3 then (match mC (mO j) k with
    | some ci => (match vwCl[ci]? with
      | some (_, _, N) => mNew j (.inr (ci, mZero ci)) N 3 pc ls st h cu su
      | none => none)
    | none => none) else none
  | .invokestatic k => mCall j 0 k len pc ls st h cu su
  | .invokevirtual k => mCall j 1 k len pc ls st h cu su
  | .invokespecial k => mCall j 2 k len pc ls st h cu su
  | .tableswitch d lo hi offs => mTab d lo hi offs pc ls st h cu su
  | .ireturn => mRet j len st
  | .lreturn => if len = 1 then (match mRt j, st with
    | some .long, [.long v] => some (.inr (.inl (some (.long v))))
    | _, _ => none) else none
  | .return_ => if len = 1 then (match mRt j, st with
    | none, [] => some (.inr (.inl none))
    | _, _ => none) else none
  | _ => none
/-- a method's locals at its entry -/
def mArg : List Value → mLoc
  | [] => []
  | v :: r => if v.category = 2 then some v :: none :: mArg r else some v :: mArg r
def mEnt (j : Nat) (vs : List Value) : mLoc := mArg vs ++ List.replicate (mL j - (mArg vs).length) none
def mAns (r : Option Value) (rest : List Value) : List Value := r.toList ++ rest
def run : Nat → Nat → Nat → mLoc → List Value → mHeap → Nat → Nat → Option (Option Value × mHeap)
  | 0, _, _, _, _, _, _, _ => none
  | n + 1, j, pc, ls, st, h, cu, su => match decode (mB j) pc with
    | .ok (i, len) => (match mx j i len pc ls st h cu su with
      | some (.inl (pc', ls', st', h', cu', su')) => run n j pc' ls' st' h' cu' su'
      | some (.inr (.inl v)) => some (v, h)
      | some (.inr (.inr (j', as, rest))) => if (mArg as).length ≤ mL j' then (match run n j' 0 (mEnt j' as) [] h 0 0 with
        | some (v, h') => run n j (pc + 3) ls (mAns v rest) h' (cu + (mRm j').cells) (su + (mRm j').slots)
        | none => none) else none
      | none => none)
    | _ => none
