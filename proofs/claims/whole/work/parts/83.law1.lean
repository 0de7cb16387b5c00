/-! the law's own steps -/
def cuA : Nat := 0 + 1 + (mRm 51).cells + 1 + (mRm 99).cells
def suA : Nat := 0 + 10 + (mRm 51).slots + 30 + (mRm 99).slots
def lv (i : Nat) : mLoc := [some (.ref 1), some (.ref 2), some (.ref 107), some (.int (nI i))]
noncomputable def Lw (pc : Nat) (i : Nat) (st : List Value) (h : mHeap) : mR' := D 176 pc (lv i) st h cuA suA
theorem vI_inv {j b : Nat} {as : List Value} {h h' : mHeap} {r : Int32} (hv : vI j b as h = some (r, h')) : gO h b (mO j) = some () ∧ D j 0 (mEnt j (.ref b :: as)) [] h 0 0 = some (some (.int r), h') := by
  unfold vI at hv
  rw [Option.bind_eq_some_iff] at hv
  obtain ⟨u, ho, hs⟩ := hv
  unfold sI at hs
  rw [Option.bind_eq_some_iff] at hs
  obtain ⟨q, hq, hm⟩ := hs
  refine ⟨ho, ?_⟩
  obtain ⟨v, h1⟩ := q
  simp only at hm
  split at hm
  · cases hm
    exact hq
  · cases hm
theorem vL_inv {j b : Nat} {as : List Value} {h h' : mHeap} {r : Int64} (hv : vL j b as h = some (r, h')) : gO h b (mO j) = some () ∧ D j 0 (mEnt j (.ref b :: as)) [] h 0 0 = some (some (.long r), h') := by
  unfold vL at hv
  rw [Option.bind_eq_some_iff] at hv
  obtain ⟨u, ho, hs⟩ := hv
  unfold sL at hs
  rw [Option.bind_eq_some_iff] at hs
  obtain ⟨q, hq, hm⟩ := hs
  refine ⟨ho, ?_⟩
  obtain ⟨v, h1⟩ := q
  simp only at hm
  split at hm
  · cases hm
    exact hq
  · cases hm
def ckA (idx j' m : Nat) : Bool := mCk 176 1 idx j' m && mRoomOk 176 j' cuA suA && decide (m + 1 ≤ mL j')
theorem mx_w {idx j' b pc : Nat} {ls : mLoc} {h : mHeap} {as rest : List Value} (hc : ckA idx j' as.length = true) (h8 : mCat rest ≤ 8) (hg : gO h b (mO j') = some ()) : mx 176 (.invokevirtual idx) 3 pc ls (as.reverse ++ .ref b :: rest) h cuA suA = some (.inr (.inr (j', .ref b :: as, rest))) := by
  unfold ckA at hc
  rw [Bool.and_eq_true, Bool.and_eq_true] at hc
  obtain ⟨⟨ne, hm⟩, h2, h3, h4, h5, h6, h7, h9, h10, -⟩ := mCk_ok hc.1.1
  have e1 : (as.reverse ++ .ref b :: rest).take (mNp j') = as.reverse := by rw [h5]; simp
  have e2 : (as.reverse ++ .ref b :: rest).drop (mNp j') = .ref b :: rest := by rw [h5]; simp
  show mCall 176 1 idx 3 pc ls (as.reverse ++ .ref b :: rest) h cuA suA = _
  simp only [mCall, hm, e1, e2]
  rw [if_pos trivial, if_neg h2, if_neg h3, if_pos ⟨h4, by rw [h5]; simp, hc.1.2, h7, h9, Or.inl h10⟩]
  unfold gO at hg
  split at hg
  · rename_i c fs hb
    split at hg
    · rename_i hcc
      simp only [hb]
      rw [if_pos ⟨hcc, h8⟩, List.reverse_reverse]
    · cases hg
  · cases hg
theorem mArg_i : ∀ (as : List Value), (∀ v ∈ as, v.category ≠ 2) → (mArg as).length = as.length
  | [], _ => rfl
  | v :: r, h => by
    have ih := mArg_i r (fun w hw => h w (List.mem_cons_of_mem _ hw))
    show (if v.category = 2 then some v :: none :: mArg r else some v :: mArg r).length = _
    rw [if_neg (h v List.mem_cons_self)]
    simp [ih]
theorem Lw_vI {idx j' b pc i : Nat} {h h' : mHeap} {as rest : List Value} {r : Int32} (hd : decode (mB 176) pc = .ok (.invokevirtual idx, 3)) (hc : ckA idx j' as.length = true) (ha : ∀ v ∈ as, v.category ≠ 2) (h8 : mCat rest ≤ 8) (hv : vI j' b as h = some (r, h')) : Lw pc i (as.reverse ++ .ref b :: rest) h = Lw (pc + 3) i (.int r :: rest) h' := by
  obtain ⟨hg, hF⟩ := vI_inv hv
  have hc' := hc
  unfold ckA at hc'
  rw [Bool.and_eq_true, Bool.and_eq_true] at hc'
  obtain ⟨-, -, -, -, -, -, -, -, h10, h11⟩ := mCk_ok hc'.1.1
  have hl := of_decide_eq_true hc'.2
  have hla : (mArg (.ref b :: as)).length ≤ mL j' := by
    rw [mArg_i (.ref b :: as) (fun v hv => (List.mem_cons.1 hv).elim (fun e => by
      rw [e]
      show (1 : Nat) ≠ 2
      decide) (fun e => ha v e))]
    exact hl
  unfold Lw
  rw [D_call hd (mx_w hc h8 hg) hla, hF]
  simp only [Option.bind_some]
  rw [h10, h11]
  rfl
theorem Lw_vL {idx j' b pc i : Nat} {h h' : mHeap} {rest : List Value} {r : Int64} (hd : decode (mB 176) pc = .ok (.invokevirtual idx, 3)) (hc : ckA idx j' 0 = true) (h8 : mCat rest ≤ 8) (hv : vL j' b [] h = some (r, h')) : Lw pc i (.ref b :: rest) h = Lw (pc + 3) i (.long r :: rest) h' := by
  obtain ⟨hg, hF⟩ := vL_inv hv
  have hc' := hc
  unfold ckA at hc'
  rw [Bool.and_eq_true, Bool.and_eq_true] at hc'
  obtain ⟨-, -, -, -, -, -, -, -, h10, h11⟩ := mCk_ok hc'.1.1
  have hl := of_decide_eq_true hc'.2
  have hx : mx 176 (.invokevirtual idx) 3 pc (lv i) (.ref b :: rest) h cuA suA = some (.inr (.inr (j', [.ref b], rest))) := mx_w (as := []) hc h8 hg
  unfold Lw
  rw [D_call hd hx hl, hF]
  simp only [Option.bind_some]
  rw [h10, h11]
  rfl
def isA (pc : Nat) (k : Fin 4) : Bool := decide (decode (mB 176) pc = .ok (.aload_n k, 1))
theorem Lw_a {pc i : Nat} {k : Fin 4} {x : Nat} {st : List Value} {h : mHeap} (hd : isA pc k = true) (hg : mget (lv i) k = some (.ref x)) : Lw pc i st h = Lw (pc + 1) i (.ref x :: st) h := by
  unfold Lw
  exact D_next (of_decide_eq_true hd) (by simp only [mx, mload, mnx, hg, mok, if_true])
def argAt (pc c : Nat) : Bool := isA pc 0 && decide (decode (mB 176) (pc + 1) = .ok (.iload_n 3, 1)) && decide (decode (mB 176) (pc + 2) = .ok (.iconst c, 1)) && decide (decode (mB 176) (pc + 3) = .ok (.iadd, 1)) && decide (decode (mB 176) (pc + 4) = .ok (.iaload, 1))
theorem cI : ∀ c, c < 6 → Int32.ofInt (c : Nat) = nI c := by decide +kernel
section LW
variable {L i : Nat} {xs : Nat → Int32} {h : mHeap} {st : List Value}
theorem cAld_law {q : Nat} (h1 : h[1]? = some (k6 L xs)) (hL : L ≤ 3072) (hq : q < L) : cAldI (176 == mLaw) h 1 (nI q) = some (xs q) := by
  have hn : ¬ (nI q < 0 ∨ L ≤ (nI q).toNatClampNeg) := by
    rw [nI_cl (by omega)]
    rintro (z | z)
    · rw [l0, iLT (by omega) (by omega)] at z
      omega
    · omega
  unfold cAldI
  rw [h1]
  simp only
  rw [if_neg hn, if_pos (by decide), nI_cl (by omega)]
theorem Lw_arg {pc c : Nat} (hc : c < 6) (ha : argAt pc c = true) (h1 : h[1]? = some (k6 L xs)) (hL : L ≤ 3072) (hi : i + c < L) : Lw pc i st h = Lw (pc + 5) i (.int (xs (i + c)) :: st) h := by
  unfold argAt at ha
  rw [Bool.and_eq_true, Bool.and_eq_true, Bool.and_eq_true, Bool.and_eq_true] at ha
  obtain ⟨⟨⟨⟨a0, a1⟩, a2⟩, a3⟩, a4⟩ := ha
  rw [Lw_a a0 rfl]
  unfold Lw
  rw [D_next (pc := pc + 1) (of_decide_eq_true a1) (show mx 176 (.iload_n 3) 1 (pc + 1) (lv i) (.ref 1 :: st) h cuA suA = some (.inl (pc + 1 + 1, lv i, .int (nI i) :: .ref 1 :: st, h, cuA, suA)) from rfl)]
  rw [D_next (pc := pc + 1 + 1) (of_decide_eq_true a2) (show mx 176 (.iconst c) 1 (pc + 1 + 1) (lv i) (.int (nI i) :: .ref 1 :: st) h cuA suA = some (.inl (pc + 1 + 1 + 1, lv i, .int (Int32.ofInt (c : Nat)) :: .int (nI i) :: .ref 1 :: st, h, cuA, suA)) from rfl)]
  rw [cI c hc]
  rw [D_next (pc := pc + 1 + 1 + 1) (of_decide_eq_true a3) (show mx 176 .iadd 1 (pc + 1 + 1 + 1) (lv i) (.int (nI c) :: .int (nI i) :: .ref 1 :: st) h cuA suA = some (.inl (pc + 1 + 1 + 1 + 1, lv i, .int (nI i + nI c) :: .ref 1 :: st, h, cuA, suA)) from rfl)]
  rw [iAdd]
  exact D_next (pc := pc + 1 + 1 + 1 + 1) (of_decide_eq_true a4) (by simp only [mx, mnx, cAld_law h1 hL hi, if_true])
def stk (xs : Nat → Int32) (i : Nat) : Nat → List Value → List Value
  | 0, st => st
  | m + 1, st => .int (xs (i + (m + 1))) :: stk xs i m st
def argsAt (pc : Nat) : Nat → Bool
  | 0 => true
  | m + 1 => argsAt pc m && argAt (pc + 5 * m) (m + 1)
theorem Lw_args {pc : Nat} (h1 : h[1]? = some (k6 L xs)) (hL : L ≤ 3072) : ∀ m, m < 6 → argsAt pc m = true → i + m < L → Lw pc i st h = Lw (pc + 5 * m) i (stk xs i m st) h
  | 0, _, _, _ => rfl
  | m + 1, hm, ha, hi => by
    have ha : (argsAt pc m && argAt (pc + 5 * m) (m + 1)) = true := ha
    rw [Bool.and_eq_true] at ha
    rw [Lw_args h1 hL m (by omega) ha.1 (by omega), Lw_arg (c := m + 1) (by omega) ha.2 h1 hL (by omega), show pc + 5 * m + 5 = pc + 5 * (m + 1) by omega]
    rfl
def asl (xs : Nat → Int32) (i m : Nat) : List Value := (stk xs i m []).reverse
theorem stk_app (xs : Nat → Int32) (i : Nat) (st : List Value) : ∀ m, stk xs i m st = stk xs i m [] ++ st
  | 0 => rfl
  | m + 1 => by
    show Value.int _ :: stk xs i m st = Value.int _ :: stk xs i m [] ++ st
    rw [stk_app xs i st m]
    rfl
theorem stk_len (xs : Nat → Int32) (i : Nat) : ∀ m, (stk xs i m []).length = m
  | 0 => rfl
  | m + 1 => congrArg (· + 1) (stk_len xs i m)
theorem stk_cat (xs : Nat → Int32) (i : Nat) : ∀ m, ∀ v ∈ stk xs i m [], v.category ≠ 2
  | 0, v, hv => by cases hv
  | m + 1, v, hv => by
    rcases List.mem_cons.1 hv with rfl | hv
    · show (1 : Nat) ≠ 2
      decide
    · exact stk_cat xs i m v hv
def isI (pc idx : Nat) : Bool := decide (decode (mB 176) pc = .ok (.invokevirtual idx, 3))
theorem Lw_meth {pc m idx j' b : Nat} {h' : mHeap} {r : Int32} (h1 : h[1]? = some (k6 L xs)) (hL : L ≤ 3072) (hm : m < 6) (ha : argsAt pc m = true) (hd : isI (pc + 5 * m) idx = true) (hc : ckA idx j' m = true) (hi : i + m < L) (h8 : mCat st ≤ 8) (hv : vI j' b (asl xs i m) h = some (r, h')) : Lw pc i (.ref b :: st) h = Lw (pc + 5 * m + 3) i (.int r :: st) h' := by
  rw [Lw_args h1 hL m hm ha hi, stk_app, ← List.reverse_reverse (stk xs i m [])]
  refine Lw_vI (j' := j') (as := asl xs i m) (of_decide_eq_true hd) ?_ ?_ h8 hv
  · unfold asl
    rw [List.length_reverse, stk_len]
    exact hc
  · intro v hv
    unfold asl at hv
    exact stk_cat xs i m v (List.mem_reverse.1 hv)
def caseA (p m j1 j2 idx1 idx2 : Nat) (o : Int) : Bool := isA p 1 && argsAt (p + 1) m && isI (p + 1 + 5 * m) idx1 && ckA idx1 j1 m && isA (p + 1 + 5 * m + 3) 2 && argsAt (p + 1 + 5 * m + 3 + 1) m && isI (p + 1 + 5 * m + 3 + 1 + 5 * m) idx2 && ckA idx2 j2 m && decide (decode (mB 176) (p + 1 + 5 * m + 3 + 1 + 5 * m + 3) = .ok (.if_icmp .eq o, 3)) && decide (((p + 1 + 5 * m + 3 + 1 + 5 * m + 3 : Nat) : Int) + o = ((1198 : Nat) : Int))
theorem Lw_case {p m j1 j2 idx1 idx2 : Nat} {o : Int} {h1 h2 : mHeap} {r : Int32} (hm : m < 6) (hc : caseA p m j1 j2 idx1 idx2 o = true) (e0 : h[1]? = some (k6 L xs)) (e1 : h1[1]? = some (k6 L xs)) (hL : L ≤ 3072) (hi : i + m < L) (v1 : vI j1 2 (asl xs i m) h = some (r, h1)) (v2 : vI j2 107 (asl xs i m) h1 = some (r, h2)) : Lw p i [] h = Lw 1198 i [] h2 := by
  unfold caseA at hc
  simp only [Bool.and_eq_true] at hc
  obtain ⟨⟨⟨⟨⟨⟨⟨⟨⟨c0, c1⟩, c2⟩, c3⟩, c4⟩, c5⟩, c6⟩, c7⟩, c8⟩, c9⟩ := hc
  rw [Lw_a c0 (show mget (lv i) 1 = some (.ref 2) from rfl), Lw_meth e0 hL hm c1 c2 c3 hi (by show (0 : Nat) ≤ 8; decide) v1, Lw_a c4 (show mget (lv i) 2 = some (.ref 107) from rfl), Lw_meth (st := [.int r]) e1 hL hm c5 c6 c7 hi (by show (1 : Nat) ≤ 8; decide) v2]
  unfold Lw
  exact D_next (of_decide_eq_true c8) (by simp only [mx, mif2, mnx, mtg_of (of_decide_eq_true c9), decide_true, if_true])
def caseL (p j1 j2 idx1 idx2 : Nat) (o : Int) : Bool := isA p 1 && isI (p + 1) idx1 && ckA idx1 j1 0 && isA (p + 4) 2 && isI (p + 5) idx2 && ckA idx2 j2 0 && decide (decode (mB 176) (p + 8) = .ok (.lcmp, 1)) && decide (decode (mB 176) (p + 9) = .ok (.ifCond .eq o, 3)) && decide (((p + 9 : Nat) : Int) + o = ((1198 : Nat) : Int))
theorem Lw_caseL {p j1 j2 idx1 idx2 : Nat} {o : Int} {h1 h2 : mHeap} {r : Int64} (hc : caseL p j1 j2 idx1 idx2 o = true) (v1 : vL j1 2 [] h = some (r, h1)) (v2 : vL j2 107 [] h1 = some (r, h2)) : Lw p i [] h = Lw 1198 i [] h2 := by
  unfold caseL at hc
  simp only [Bool.and_eq_true] at hc
  obtain ⟨⟨⟨⟨⟨⟨⟨⟨c0, c1⟩, c2⟩, c3⟩, c4⟩, c5⟩, c6⟩, c7⟩, c8⟩ := hc
  rw [Lw_a c0 (show mget (lv i) 1 = some (.ref 2) from rfl), Lw_vL (of_decide_eq_true c1) c2 (by show (0 : Nat) ≤ 8; decide) v1, Lw_a c3 (show mget (lv i) 2 = some (.ref 107) from rfl), Lw_vL (pc := p + 5) (of_decide_eq_true c4) c5 (by show (2 : Nat) ≤ 8; decide) v2]
  unfold Lw
  rw [D_next (pc := p + 8) (of_decide_eq_true c6) (show mx 176 .lcmp 1 (p + 8) (lv i) [.long r, .long r] h2 cuA suA = some (.inl (p + 8 + 1, lv i, [.int (lg_cmp r r)], h2, cuA, suA)) from rfl), (lg_cmp_eq r r).2 rfl]
  exact D_next (pc := p + 9) (of_decide_eq_true c7) (by simp only [mx, mif1, mnx, mtg_of (of_decide_eq_true c8), decide_true, if_true])
end LW
