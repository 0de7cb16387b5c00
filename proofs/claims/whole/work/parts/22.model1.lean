theorem k100_0 : decode (mB 100) 0 = .ok (.iload_n 0, 1) := by decide +kernel
theorem k100_1 : decode (mB 100) 1 = .ok (.iload_n 1, 1) := by decide +kernel
theorem k100_2 : decode (mB 100) 2 = .ok (.if_icmp .lt 12, 3) := by decide +kernel
theorem k100_5 : decode (mB 100) 5 = .ok (.iload_n 0, 1) := by decide +kernel
theorem k100_6 : decode (mB 100) 6 = .ok (.iload_n 2, 1) := by decide +kernel
theorem k100_7 : decode (mB 100) 7 = .ok (.if_icmp .gt 7, 3) := by decide +kernel
theorem k100_10 : decode (mB 100) 10 = .ok (.iconst 1, 1) := by decide +kernel
theorem k100_11 : decode (mB 100) 11 = .ok (.goto 4, 3) := by decide +kernel
theorem k100_14 : decode (mB 100) 14 = .ok (.iconst 0, 1) := by decide +kernel
theorem k100_15 : decode (mB 100) 15 = .ok (.ireturn, 1) := by decide +kernel
/-- SquareGroundsModel.in(III)Z -/
theorem F100_eq (v0 : Int32) (v1 : Int32) (v2 : Int32) (h : mHeap) : F 100 [.int v0, .int v1, .int v2] h = if (v0 : Int32) < v1 then (if narrow .boolean (.int 0) = .int 0 then some (some (.int 0), h) else none) else (if v2 < (v0 : Int32) then (if narrow .boolean (.int 0) = .int 0 then some (some (.int 0), h) else none) else (if narrow .boolean (.int 1) = .int 1 then some (some (.int 1), h) else none)) := by
  show D 100 0 (mEnt 100 [.int v0, .int v1, .int v2]) [] h 0 0 = _
  rw [show mEnt 100 [.int v0, .int v1, .int v2] = [some (.int v0), some (.int v1), some (.int v2)] from rfl]
  refine e_iload_n (pc' := 1) k100_0 rfl rfl ?_
  refine e_iload_n (pc' := 2) k100_1 rfl rfl ?_
  refine e_icmplt (t := 14) (pc' := 5) k100_2 rfl (by decide) (fun _ => ?_) (fun _ => ?_)
  · refine e_iconst (v := 0) (pc' := 15) k100_14 rfl rfl ?_
    exact e_zret k100_15 (by decide +kernel)
  · refine e_iload_n (pc' := 6) k100_5 rfl rfl ?_
    refine e_iload_n (pc' := 7) k100_6 rfl rfl ?_
    refine e_icmpgt (t := 14) (pc' := 10) k100_7 rfl (by decide) (fun _ => ?_) (fun _ => ?_)
    · refine e_iconst (v := 0) (pc' := 15) k100_14 rfl rfl ?_
      exact e_zret k100_15 (by decide +kernel)
    · refine e_iconst (v := 1) (pc' := 11) k100_10 rfl rfl ?_
      refine e_goto (pc' := 15) k100_11 (by decide) ?_
      exact e_zret k100_15 (by decide +kernel)
theorem k101_0 : decode (mB 101) 0 = .ok (.aload_n 0, 1) := by decide +kernel
theorem k101_1 : decode (mB 101) 1 = .ok (.iload_n 1, 1) := by decide +kernel
theorem k101_2 : decode (mB 101) 2 = .ok (.putfield 86, 3) := by decide +kernel
theorem k101_5 : decode (mB 101) 5 = .ok (.aload_n 0, 1) := by decide +kernel
theorem k101_6 : decode (mB 101) 6 = .ok (.getfield 7, 3) := by decide +kernel
theorem k101_9 : decode (mB 101) 9 = .ok (.iload_n 1, 1) := by decide +kernel
theorem k101_10 : decode (mB 101) 10 = .ok (.dup2, 1) := by decide +kernel
theorem k101_11 : decode (mB 101) 11 = .ok (.iaload, 1) := by decide +kernel
theorem k101_12 : decode (mB 101) 12 = .ok (.iconst 1, 1) := by decide +kernel
theorem k101_13 : decode (mB 101) 13 = .ok (.iadd, 1) := by decide +kernel
theorem k101_14 : decode (mB 101) 14 = .ok (.iastore, 1) := by decide +kernel
theorem k101_15 : decode (mB 101) 15 = .ok (.bipush (-3), 2) := by decide +kernel
theorem k101_17 : decode (mB 101) 17 = .ok (.ireturn, 1) := by decide +kernel
/-- SquareGroundsModel.meets(I)I -/
theorem F101_eq (v0 : Nat) (v1 : Int32) (h : mHeap) : F 101 [.ref v0, .int v1] h = (cPut h v0 8 0 (.int v1)).bind fun h1 => (gR h1 v0 8 1).bind fun x2 => (cAldI false h1 x2 v1).bind fun x3 => (cAstI h1 x2 v1 (x3 + 1)).bind fun h4 => some (some (.int (-3)), h4) := by
  show D 101 0 (mEnt 101 [.ref v0, .int v1]) [] h 0 0 = _
  rw [show mEnt 101 [.ref v0, .int v1] = [some (.ref v0), some (.int v1)] from rfl]
  refine e_aload_n (pc' := 1) k101_0 rfl rfl ?_
  refine e_iload_n (pc' := 2) k101_1 rfl rfl ?_
  refine e_put (pc' := 5) k101_2 rfl (ci := 8) (k := 0) (by decide +kernel) (by decide +kernel) rfl (fun h1 => ?_)
  refine e_aload_n (pc' := 6) k101_5 rfl rfl ?_
  refine e_getR (pc' := 9) k101_6 rfl (ci := 8) (k := 1) (by decide +kernel) (by decide +kernel) (fun x2 => ?_)
  refine e_iload_n (pc' := 10) k101_9 rfl rfl ?_
  refine e_dup2 (pc' := 11) k101_10 rfl ⟨rfl, rfl⟩ ?_
  refine e_iald (pc' := 12) k101_11 rfl (lw := false) rfl (fun x3 => ?_)
  refine e_iconst (v := 1) (pc' := 13) k101_12 rfl rfl ?_
  refine e_iadd (pc' := 14) k101_13 rfl ?_
  refine e_iast (pc' := 15) k101_14 rfl (fun h4 => ?_)
  refine e_bipush (v := -3) (pc' := 17) k101_15 rfl rfl ?_
  exact e_iret k101_17 (by decide +kernel)
theorem k102_0 : decode (mB 102) 0 = .ok (.iload_n 0, 1) := by decide +kernel
theorem k102_1 : decode (mB 102) 1 = .ok (.iconst 0, 1) := by decide +kernel
theorem k102_2 : decode (mB 102) 2 = .ok (.iconst 3, 1) := by decide +kernel
theorem k102_3 : decode (mB 102) 3 = .ok (.invokestatic 90, 3) := by decide +kernel
theorem k102_6 : decode (mB 102) 6 = .ok (.ireturn, 1) := by decide +kernel
/-- SquareGroundsModel.isSheet(I)Z -/
theorem F102_eq (v0 : Int32) (h : mHeap) : F 102 [.int v0] h = (sI 100 [.int v0, .int 0, .int 3] h).bind fun q1 => if narrow .boolean (.int q1.1) = .int q1.1 then some (some (.int q1.1), q1.2) else none := by
  show D 102 0 (mEnt 102 [.int v0]) [] h 0 0 = _
  rw [show mEnt 102 [.int v0] = [some (.int v0)] from rfl]
  refine e_iload_n (pc' := 1) k102_0 rfl rfl ?_
  refine e_iconst (v := 0) (pc' := 2) k102_1 rfl rfl ?_
  refine e_iconst (v := 3) (pc' := 3) k102_2 rfl rfl ?_
  refine e_sI (j' := 100) (as := [.int v0, .int 0, .int 3]) (rest := []) (pc' := 6) k102_3 rfl (show mCk 102 0 90 100 3 = true by decide +kernel) (Or.inr (by decide +kernel)) rfl (Nat.le_of_ble_eq_true rfl) (show 3 ≤ mL 100 by decide +kernel) (fun q1 => ?_)
  exact e_zret k102_6 (by decide +kernel)
theorem k103_0 : decode (mB 103) 0 = .ok (.iload_n 1, 1) := by decide +kernel
theorem k103_1 : decode (mB 103) 1 = .ok (.invokestatic 94, 3) := by decide +kernel
theorem k103_4 : decode (mB 103) 4 = .ok (.ifCond .ne 7, 3) := by decide +kernel
theorem k103_7 : decode (mB 103) 7 = .ok (.iconst (-1), 1) := by decide +kernel
theorem k103_8 : decode (mB 103) 8 = .ok (.goto 21, 3) := by decide +kernel
theorem k103_11 : decode (mB 103) 11 = .ok (.aload_n 0, 1) := by decide +kernel
theorem k103_12 : decode (mB 103) 12 = .ok (.getfield 13, 3) := by decide +kernel
theorem k103_15 : decode (mB 103) 15 = .ok (.iload_n 1, 1) := by decide +kernel
theorem k103_16 : decode (mB 103) 16 = .ok (.iaload, 1) := by decide +kernel
theorem k103_17 : decode (mB 103) 17 = .ok (.ifCond .ge 11, 3) := by decide +kernel
theorem k103_20 : decode (mB 103) 20 = .ok (.aload_n 0, 1) := by decide +kernel
theorem k103_21 : decode (mB 103) 21 = .ok (.iconst 1, 1) := by decide +kernel
theorem k103_22 : decode (mB 103) 22 = .ok (.invokevirtual 98, 3) := by decide +kernel
theorem k103_25 : decode (mB 103) 25 = .ok (.goto 4, 3) := by decide +kernel
theorem k103_28 : decode (mB 103) 28 = .ok (.iconst 0, 1) := by decide +kernel
theorem k103_29 : decode (mB 103) 29 = .ok (.ireturn, 1) := by decide +kernel
/-- SquareGroundsModel.looked(I)I -/
theorem F103_eq (v0 : Nat) (v1 : Int32) (h : mHeap) : F 103 [.ref v0, .int v1] h = (sI 102 [.int v1] h).bind fun q1 => if ¬ (q1.1 : Int32) = 0 then ((gR q1.2 v0 8 2).bind fun x2 => (cAldI false q1.2 x2 v1).bind fun x3 => if 0 ≤ (x3 : Int32) then (some (some (.int 0), q1.2)) else ((vI 101 v0 [.int 1] q1.2).bind fun q4 => some (some (.int q4.1), q4.2))) else (some (some (.int (-1)), q1.2)) := by
  show D 103 0 (mEnt 103 [.ref v0, .int v1]) [] h 0 0 = _
  rw [show mEnt 103 [.ref v0, .int v1] = [some (.ref v0), some (.int v1)] from rfl]
  refine e_iload_n (pc' := 1) k103_0 rfl rfl ?_
  refine e_sI (j' := 102) (as := [.int v1]) (rest := []) (pc' := 4) k103_1 rfl (show mCk 103 0 94 102 1 = true by decide +kernel) (Or.inr (by decide +kernel)) rfl (Nat.le_of_ble_eq_true rfl) (show 1 ≤ mL 102 by decide +kernel) (fun q1 => ?_)
  refine e_ifne (t := 11) (pc' := 7) k103_4 rfl (by decide) (fun _ => ?_) (fun _ => ?_)
  · refine e_aload_n (pc' := 12) k103_11 rfl rfl ?_
    refine e_getR (pc' := 15) k103_12 rfl (ci := 8) (k := 2) (by decide +kernel) (by decide +kernel) (fun x2 => ?_)
    refine e_iload_n (pc' := 16) k103_15 rfl rfl ?_
    refine e_iald (pc' := 17) k103_16 rfl (lw := false) rfl (fun x3 => ?_)
    refine e_ifge (t := 28) (pc' := 20) k103_17 rfl (by decide) (fun _ => ?_) (fun _ => ?_)
    · refine e_iconst (v := 0) (pc' := 29) k103_28 rfl rfl ?_
      exact e_iret k103_29 (by decide +kernel)
    · refine e_aload_n (pc' := 21) k103_20 rfl rfl ?_
      refine e_iconst (v := 1) (pc' := 22) k103_21 rfl rfl ?_
      refine e_vI (j' := 101) (as := [.int 1]) (rest := []) (pc' := 25) k103_22 rfl (show mCk 103 1 98 101 1 = true by decide +kernel) (Or.inl (by decide +kernel)) rfl (Nat.le_of_ble_eq_true rfl) (show 2 ≤ mL 101 by decide +kernel) (fun q4 => ?_)
      refine e_goto (pc' := 29) k103_25 (by decide) ?_
      exact e_iret k103_29 (by decide +kernel)
  · refine e_iconst (v := -1) (pc' := 8) k103_7 rfl rfl ?_
    refine e_goto (pc' := 29) k103_8 (by decide) ?_
    exact e_iret k103_29 (by decide +kernel)
theorem k104_0 : decode (mB 104) 0 = .ok (.iload_n 1, 1) := by decide +kernel
theorem k104_1 : decode (mB 104) 1 = .ok (.invokestatic 94, 3) := by decide +kernel
theorem k104_4 : decode (mB 104) 4 = .ok (.ifCond .eq 9, 3) := by decide +kernel
theorem k104_7 : decode (mB 104) 7 = .ok (.iload_n 2, 1) := by decide +kernel
theorem k104_8 : decode (mB 104) 8 = .ok (.bipush 8, 2) := by decide +kernel
theorem k104_10 : decode (mB 104) 10 = .ok (.if_icmp .le 5, 3) := by decide +kernel
theorem k104_13 : decode (mB 104) 13 = .ok (.iconst (-1), 1) := by decide +kernel
theorem k104_14 : decode (mB 104) 14 = .ok (.ireturn, 1) := by decide +kernel
theorem k104_15 : decode (mB 104) 15 = .ok (.iload_n 2, 1) := by decide +kernel
theorem k104_16 : decode (mB 104) 16 = .ok (.ifCond .ge 9, 3) := by decide +kernel
theorem k104_19 : decode (mB 104) 19 = .ok (.aload_n 0, 1) := by decide +kernel
theorem k104_20 : decode (mB 104) 20 = .ok (.iconst 5, 1) := by decide +kernel
theorem k104_21 : decode (mB 104) 21 = .ok (.invokevirtual 98, 3) := by decide +kernel
theorem k104_24 : decode (mB 104) 24 = .ok (.ireturn, 1) := by decide +kernel
theorem k104_25 : decode (mB 104) 25 = .ok (.aload_n 0, 1) := by decide +kernel
theorem k104_26 : decode (mB 104) 26 = .ok (.getfield 13, 3) := by decide +kernel
theorem k104_29 : decode (mB 104) 29 = .ok (.iload_n 1, 1) := by decide +kernel
theorem k104_30 : decode (mB 104) 30 = .ok (.iload_n 2, 1) := by decide +kernel
theorem k104_31 : decode (mB 104) 31 = .ok (.iastore, 1) := by decide +kernel
theorem k104_32 : decode (mB 104) 32 = .ok (.iconst 0, 1) := by decide +kernel
theorem k104_33 : decode (mB 104) 33 = .ok (.istore_n 3, 1) := by decide +kernel
theorem k104_34 : decode (mB 104) 34 = .ok (.iload_n 3, 1) := by decide +kernel
theorem k104_35 : decode (mB 104) 35 = .ok (.bipush 8, 2) := by decide +kernel
theorem k104_37 : decode (mB 104) 37 = .ok (.if_icmp .ge 21, 3) := by decide +kernel
theorem k104_40 : decode (mB 104) 40 = .ok (.aload_n 0, 1) := by decide +kernel
theorem k104_41 : decode (mB 104) 41 = .ok (.getfield 16, 3) := by decide +kernel
theorem k104_44 : decode (mB 104) 44 = .ok (.bipush 8, 2) := by decide +kernel
theorem k104_46 : decode (mB 104) 46 = .ok (.iload_n 1, 1) := by decide +kernel
theorem k104_47 : decode (mB 104) 47 = .ok (.imul, 1) := by decide +kernel
theorem k104_48 : decode (mB 104) 48 = .ok (.iload_n 3, 1) := by decide +kernel
theorem k104_49 : decode (mB 104) 49 = .ok (.iadd, 1) := by decide +kernel
theorem k104_50 : decode (mB 104) 50 = .ok (.iconst 0, 1) := by decide +kernel
theorem k104_51 : decode (mB 104) 51 = .ok (.iastore, 1) := by decide +kernel
theorem k104_52 : decode (mB 104) 52 = .ok (.iinc 3 1, 3) := by decide +kernel
theorem k104_55 : decode (mB 104) 55 = .ok (.goto (-21), 3) := by decide +kernel
theorem k104_58 : decode (mB 104) 58 = .ok (.iload_n 2, 1) := by decide +kernel
theorem k104_59 : decode (mB 104) 59 = .ok (.ireturn, 1) := by decide +kernel
/-- SquareGroundsModel.sheet, loop at 34 -/
noncomputable def q104_34 (v0 : Nat) (v1 : Int32) (v2 : Int32) (v3 : Int32) (h : mHeap) : mR' := E 104 34 [some (.ref v0), some (.int v1), some (.int v2), some (.int v3)] [] h
theorem q104_34_eq (v0 : Nat) (v1 : Int32) (v2 : Int32) (v3 : Int32) (h : mHeap) : q104_34 v0 v1 v2 v3 h = if 8 ≤ (v3 : Int32) then (some (some (.int v2), h)) else ((gR h v0 8 3).bind fun x1 => (cAstI h x1 ((8 * v1) + v3) 0).bind fun h2 => q104_34 v0 v1 v2 (v3 + 1) h2) := by
  unfold q104_34
  refine e_iload_n (pc' := 35) k104_34 rfl rfl ?_
  refine e_bipush (v := 8) (pc' := 37) k104_35 rfl rfl ?_
  refine e_icmpge (t := 58) (pc' := 40) k104_37 rfl (by decide) (fun _ => ?_) (fun _ => ?_)
  · refine e_iload_n (pc' := 59) k104_58 rfl rfl ?_
    exact e_iret k104_59 (by decide +kernel)
  · refine e_aload_n (pc' := 41) k104_40 rfl rfl ?_
    refine e_getR (pc' := 44) k104_41 rfl (ci := 8) (k := 3) (by decide +kernel) (by decide +kernel) (fun x1 => ?_)
    refine e_bipush (v := 8) (pc' := 46) k104_44 rfl rfl ?_
    refine e_iload_n (pc' := 47) k104_46 rfl rfl ?_
    refine e_imul (pc' := 48) k104_47 rfl ?_
    refine e_iload_n (pc' := 49) k104_48 rfl rfl ?_
    refine e_iadd (pc' := 50) k104_49 rfl ?_
    refine e_iconst (v := 0) (pc' := 51) k104_50 rfl rfl ?_
    refine e_iast (pc' := 52) k104_51 rfl (fun h2 => ?_)
    refine e_iinc (c := 1) (pc' := 55) k104_52 rfl rfl rfl rfl ?_
    refine e_goto (pc' := 34) k104_55 (by decide) ?_
    rfl
/-- SquareGroundsModel.sheet(II)I -/
theorem F104_eq (v0 : Nat) (v1 : Int32) (v2 : Int32) (h : mHeap) : F 104 [.ref v0, .int v1, .int v2] h = (sI 102 [.int v1] h).bind fun q1 => if (q1.1 : Int32) = 0 then (some (some (.int (-1)), q1.2)) else (if (v2 : Int32) ≤ 8 then (if 0 ≤ (v2 : Int32) then ((gR q1.2 v0 8 2).bind fun x2 => (cAstI q1.2 x2 v1 v2).bind fun h3 => q104_34 v0 v1 v2 0 h3) else ((vI 101 v0 [.int 5] q1.2).bind fun q4 => some (some (.int q4.1), q4.2))) else (some (some (.int (-1)), q1.2))) := by
  show D 104 0 (mEnt 104 [.ref v0, .int v1, .int v2]) [] h 0 0 = _
  rw [show mEnt 104 [.ref v0, .int v1, .int v2] = [some (.ref v0), some (.int v1), some (.int v2), none] from rfl]
  refine e_iload_n (pc' := 1) k104_0 rfl rfl ?_
  refine e_sI (j' := 102) (as := [.int v1]) (rest := []) (pc' := 4) k104_1 rfl (show mCk 104 0 94 102 1 = true by decide +kernel) (Or.inr (by decide +kernel)) rfl (Nat.le_of_ble_eq_true rfl) (show 1 ≤ mL 102 by decide +kernel) (fun q1 => ?_)
  refine e_ifeq (t := 13) (pc' := 7) k104_4 rfl (by decide) (fun _ => ?_) (fun _ => ?_)
  · refine e_iconst (v := -1) (pc' := 14) k104_13 rfl rfl ?_
    exact e_iret k104_14 (by decide +kernel)
  · refine e_iload_n (pc' := 8) k104_7 rfl rfl ?_
    refine e_bipush (v := 8) (pc' := 10) k104_8 rfl rfl ?_
    refine e_icmple (t := 15) (pc' := 13) k104_10 rfl (by decide) (fun _ => ?_) (fun _ => ?_)
    · refine e_iload_n (pc' := 16) k104_15 rfl rfl ?_
      refine e_ifge (t := 25) (pc' := 19) k104_16 rfl (by decide) (fun _ => ?_) (fun _ => ?_)
      · refine e_aload_n (pc' := 26) k104_25 rfl rfl ?_
        refine e_getR (pc' := 29) k104_26 rfl (ci := 8) (k := 2) (by decide +kernel) (by decide +kernel) (fun x2 => ?_)
        refine e_iload_n (pc' := 30) k104_29 rfl rfl ?_
        refine e_iload_n (pc' := 31) k104_30 rfl rfl ?_
        refine e_iast (pc' := 32) k104_31 rfl (fun h3 => ?_)
        refine e_iconst (v := 0) (pc' := 33) k104_32 rfl rfl ?_
        refine e_istore_n (pc' := 34) k104_33 rfl rfl ?_
        rfl
      · refine e_aload_n (pc' := 20) k104_19 rfl rfl ?_
        refine e_iconst (v := 5) (pc' := 21) k104_20 rfl rfl ?_
        refine e_vI (j' := 101) (as := [.int 5]) (rest := []) (pc' := 24) k104_21 rfl (show mCk 104 1 98 101 1 = true by decide +kernel) (Or.inl (by decide +kernel)) rfl (Nat.le_of_ble_eq_true rfl) (show 2 ≤ mL 101 by decide +kernel) (fun q4 => ?_)
        exact e_iret k104_24 (by decide +kernel)
    · refine e_iconst (v := -1) (pc' := 14) k104_13 rfl rfl ?_
      exact e_iret k104_14 (by decide +kernel)
theorem k105_0 : decode (mB 105) 0 = .ok (.aload_n 0, 1) := by decide +kernel
theorem k105_1 : decode (mB 105) 1 = .ok (.iload_n 1, 1) := by decide +kernel
theorem k105_2 : decode (mB 105) 2 = .ok (.invokevirtual 102, 3) := by decide +kernel
theorem k105_5 : decode (mB 105) 5 = .ok (.istore 4, 2) := by decide +kernel
theorem k105_7 : decode (mB 105) 7 = .ok (.iload 4, 2) := by decide +kernel
theorem k105_9 : decode (mB 105) 9 = .ok (.ifCond .ge 6, 3) := by decide +kernel
theorem k105_12 : decode (mB 105) 12 = .ok (.iload 4, 2) := by decide +kernel
theorem k105_14 : decode (mB 105) 14 = .ok (.ireturn, 1) := by decide +kernel
theorem k105_15 : decode (mB 105) 15 = .ok (.iload_n 2, 1) := by decide +kernel
theorem k105_16 : decode (mB 105) 16 = .ok (.iconst 0, 1) := by decide +kernel
theorem k105_17 : decode (mB 105) 17 = .ok (.aload_n 0, 1) := by decide +kernel
theorem k105_18 : decode (mB 105) 18 = .ok (.getfield 13, 3) := by decide +kernel
theorem k105_21 : decode (mB 105) 21 = .ok (.iload_n 1, 1) := by decide +kernel
theorem k105_22 : decode (mB 105) 22 = .ok (.iaload, 1) := by decide +kernel
theorem k105_23 : decode (mB 105) 23 = .ok (.iconst 1, 1) := by decide +kernel
theorem k105_24 : decode (mB 105) 24 = .ok (.isub, 1) := by decide +kernel
theorem k105_25 : decode (mB 105) 25 = .ok (.invokestatic 90, 3) := by decide +kernel
theorem k105_28 : decode (mB 105) 28 = .ok (.ifCond .ne 9, 3) := by decide +kernel
theorem k105_31 : decode (mB 105) 31 = .ok (.aload_n 0, 1) := by decide +kernel
theorem k105_32 : decode (mB 105) 32 = .ok (.iconst 2, 1) := by decide +kernel
theorem k105_33 : decode (mB 105) 33 = .ok (.invokevirtual 98, 3) := by decide +kernel
theorem k105_36 : decode (mB 105) 36 = .ok (.ireturn, 1) := by decide +kernel
theorem k105_37 : decode (mB 105) 37 = .ok (.aload_n 0, 1) := by decide +kernel
theorem k105_38 : decode (mB 105) 38 = .ok (.getfield 16, 3) := by decide +kernel
theorem k105_41 : decode (mB 105) 41 = .ok (.bipush 8, 2) := by decide +kernel
theorem k105_43 : decode (mB 105) 43 = .ok (.iload_n 1, 1) := by decide +kernel
theorem k105_44 : decode (mB 105) 44 = .ok (.imul, 1) := by decide +kernel
theorem k105_45 : decode (mB 105) 45 = .ok (.iload_n 2, 1) := by decide +kernel
theorem k105_46 : decode (mB 105) 46 = .ok (.iadd, 1) := by decide +kernel
theorem k105_47 : decode (mB 105) 47 = .ok (.iaload, 1) := by decide +kernel
theorem k105_48 : decode (mB 105) 48 = .ok (.istore 5, 2) := by decide +kernel
theorem k105_50 : decode (mB 105) 50 = .ok (.aload_n 0, 1) := by decide +kernel
theorem k105_51 : decode (mB 105) 51 = .ok (.getfield 16, 3) := by decide +kernel
theorem k105_54 : decode (mB 105) 54 = .ok (.bipush 8, 2) := by decide +kernel
theorem k105_56 : decode (mB 105) 56 = .ok (.iload_n 1, 1) := by decide +kernel
theorem k105_57 : decode (mB 105) 57 = .ok (.imul, 1) := by decide +kernel
theorem k105_58 : decode (mB 105) 58 = .ok (.iload_n 2, 1) := by decide +kernel
theorem k105_59 : decode (mB 105) 59 = .ok (.iadd, 1) := by decide +kernel
theorem k105_60 : decode (mB 105) 60 = .ok (.iload_n 3, 1) := by decide +kernel
theorem k105_61 : decode (mB 105) 61 = .ok (.i2b, 1) := by decide +kernel
theorem k105_62 : decode (mB 105) 62 = .ok (.iastore, 1) := by decide +kernel
theorem k105_63 : decode (mB 105) 63 = .ok (.iload 5, 2) := by decide +kernel
theorem k105_65 : decode (mB 105) 65 = .ok (.sipush 1000, 3) := by decide +kernel
theorem k105_68 : decode (mB 105) 68 = .ok (.iadd, 1) := by decide +kernel
theorem k105_69 : decode (mB 105) 69 = .ok (.ireturn, 1) := by decide +kernel
/-- SquareGroundsModel.lay(III)I -/
theorem F105_eq (v0 : Nat) (v1 : Int32) (v2 : Int32) (v3 : Int32) (h : mHeap) : F 105 [.ref v0, .int v1, .int v2, .int v3] h = (vI 103 v0 [.int v1] h).bind fun q1 => if 0 ≤ (q1.1 : Int32) then ((gR q1.2 v0 8 2).bind fun x2 => (cAldI false q1.2 x2 v1).bind fun x3 => (sI 100 [.int v2, .int 0, .int (x3 - 1)] q1.2).bind fun q4 => if ¬ (q4.1 : Int32) = 0 then ((gR q4.2 v0 8 3).bind fun x5 => (cAldI false q4.2 x5 ((8 * v1) + v2)).bind fun x6 => (gR q4.2 v0 8 3).bind fun x7 => (cAstI q4.2 x7 ((8 * v1) + v2) (Int8.toInt32 (Int32.toInt8 v3))).bind fun h8 => some (some (.int (x6 + 1000)), h8)) else ((vI 101 v0 [.int 2] q4.2).bind fun q9 => some (some (.int q9.1), q9.2))) else (some (some (.int q1.1), q1.2)) := by
  show D 105 0 (mEnt 105 [.ref v0, .int v1, .int v2, .int v3]) [] h 0 0 = _
  rw [show mEnt 105 [.ref v0, .int v1, .int v2, .int v3] = [some (.ref v0), some (.int v1), some (.int v2), some (.int v3), none, none] from rfl]
  refine e_aload_n (pc' := 1) k105_0 rfl rfl ?_
  refine e_iload_n (pc' := 2) k105_1 rfl rfl ?_
  refine e_vI (j' := 103) (as := [.int v1]) (rest := []) (pc' := 5) k105_2 rfl (show mCk 105 1 102 103 1 = true by decide +kernel) (Or.inl (by decide +kernel)) rfl (Nat.le_of_ble_eq_true rfl) (show 2 ≤ mL 103 by decide +kernel) (fun q1 => ?_)
  refine e_istore (pc' := 7) k105_5 rfl rfl ?_
  refine e_iload (pc' := 9) k105_7 rfl rfl ?_
  refine e_ifge (t := 15) (pc' := 12) k105_9 rfl (by decide) (fun _ => ?_) (fun _ => ?_)
  · refine e_iload_n (pc' := 16) k105_15 rfl rfl ?_
    refine e_iconst (v := 0) (pc' := 17) k105_16 rfl rfl ?_
    refine e_aload_n (pc' := 18) k105_17 rfl rfl ?_
    refine e_getR (pc' := 21) k105_18 rfl (ci := 8) (k := 2) (by decide +kernel) (by decide +kernel) (fun x2 => ?_)
    refine e_iload_n (pc' := 22) k105_21 rfl rfl ?_
    refine e_iald (pc' := 23) k105_22 rfl (lw := false) rfl (fun x3 => ?_)
    refine e_iconst (v := 1) (pc' := 24) k105_23 rfl rfl ?_
    refine e_isub (pc' := 25) k105_24 rfl ?_
    refine e_sI (j' := 100) (as := [.int v2, .int 0, .int (x3 - 1)]) (rest := []) (pc' := 28) k105_25 rfl (show mCk 105 0 90 100 3 = true by decide +kernel) (Or.inr (by decide +kernel)) rfl (Nat.le_of_ble_eq_true rfl) (show 3 ≤ mL 100 by decide +kernel) (fun q4 => ?_)
    refine e_ifne (t := 37) (pc' := 31) k105_28 rfl (by decide) (fun _ => ?_) (fun _ => ?_)
    · refine e_aload_n (pc' := 38) k105_37 rfl rfl ?_
      refine e_getR (pc' := 41) k105_38 rfl (ci := 8) (k := 3) (by decide +kernel) (by decide +kernel) (fun x5 => ?_)
      refine e_bipush (v := 8) (pc' := 43) k105_41 rfl rfl ?_
      refine e_iload_n (pc' := 44) k105_43 rfl rfl ?_
      refine e_imul (pc' := 45) k105_44 rfl ?_
      refine e_iload_n (pc' := 46) k105_45 rfl rfl ?_
      refine e_iadd (pc' := 47) k105_46 rfl ?_
      refine e_iald (pc' := 48) k105_47 rfl (lw := false) rfl (fun x6 => ?_)
      refine e_istore (pc' := 50) k105_48 rfl rfl ?_
      refine e_aload_n (pc' := 51) k105_50 rfl rfl ?_
      refine e_getR (pc' := 54) k105_51 rfl (ci := 8) (k := 3) (by decide +kernel) (by decide +kernel) (fun x7 => ?_)
      refine e_bipush (v := 8) (pc' := 56) k105_54 rfl rfl ?_
      refine e_iload_n (pc' := 57) k105_56 rfl rfl ?_
      refine e_imul (pc' := 58) k105_57 rfl ?_
      refine e_iload_n (pc' := 59) k105_58 rfl rfl ?_
      refine e_iadd (pc' := 60) k105_59 rfl ?_
      refine e_iload_n (pc' := 61) k105_60 rfl rfl ?_
      refine e_i2b (pc' := 62) k105_61 rfl ?_
      refine e_iast (pc' := 63) k105_62 rfl (fun h8 => ?_)
      refine e_iload (pc' := 65) k105_63 rfl rfl ?_
      refine e_sipush (v := 1000) (pc' := 68) k105_65 rfl rfl ?_
      refine e_iadd (pc' := 69) k105_68 rfl ?_
      exact e_iret k105_69 (by decide +kernel)
    · refine e_aload_n (pc' := 32) k105_31 rfl rfl ?_
      refine e_iconst (v := 2) (pc' := 33) k105_32 rfl rfl ?_
      refine e_vI (j' := 101) (as := [.int 2]) (rest := []) (pc' := 36) k105_33 rfl (show mCk 105 1 98 101 1 = true by decide +kernel) (Or.inl (by decide +kernel)) rfl (Nat.le_of_ble_eq_true rfl) (show 2 ≤ mL 101 by decide +kernel) (fun q9 => ?_)
      exact e_iret k105_36 (by decide +kernel)
  · refine e_iload (pc' := 14) k105_12 rfl rfl ?_
    exact e_iret k105_14 (by decide +kernel)
theorem k106_0 : decode (mB 106) 0 = .ok (.aload_n 0, 1) := by decide +kernel
theorem k106_1 : decode (mB 106) 1 = .ok (.iload_n 1, 1) := by decide +kernel
theorem k106_2 : decode (mB 106) 2 = .ok (.invokevirtual 102, 3) := by decide +kernel
theorem k106_5 : decode (mB 106) 5 = .ok (.istore_n 2, 1) := by decide +kernel
theorem k106_6 : decode (mB 106) 6 = .ok (.iload_n 2, 1) := by decide +kernel
theorem k106_7 : decode (mB 106) 7 = .ok (.ifCond .ge 5, 3) := by decide +kernel
theorem k106_10 : decode (mB 106) 10 = .ok (.iload_n 2, 1) := by decide +kernel
theorem k106_11 : decode (mB 106) 11 = .ok (.ireturn, 1) := by decide +kernel
theorem k106_12 : decode (mB 106) 12 = .ok (.aload_n 0, 1) := by decide +kernel
theorem k106_13 : decode (mB 106) 13 = .ok (.getfield 13, 3) := by decide +kernel
theorem k106_16 : decode (mB 106) 16 = .ok (.iload_n 1, 1) := by decide +kernel
theorem k106_17 : decode (mB 106) 17 = .ok (.bipush (-9), 2) := by decide +kernel
theorem k106_19 : decode (mB 106) 19 = .ok (.iastore, 1) := by decide +kernel
theorem k106_20 : decode (mB 106) 20 = .ok (.iconst 1, 1) := by decide +kernel
theorem k106_21 : decode (mB 106) 21 = .ok (.ireturn, 1) := by decide +kernel
/-- SquareGroundsModel.tear(I)I -/
theorem F106_eq (v0 : Nat) (v1 : Int32) (h : mHeap) : F 106 [.ref v0, .int v1] h = (vI 103 v0 [.int v1] h).bind fun q1 => if 0 ≤ (q1.1 : Int32) then ((gR q1.2 v0 8 2).bind fun x2 => (cAstI q1.2 x2 v1 (-9)).bind fun h3 => some (some (.int 1), h3)) else (some (some (.int q1.1), q1.2)) := by
  show D 106 0 (mEnt 106 [.ref v0, .int v1]) [] h 0 0 = _
  rw [show mEnt 106 [.ref v0, .int v1] = [some (.ref v0), some (.int v1), none] from rfl]
  refine e_aload_n (pc' := 1) k106_0 rfl rfl ?_
  refine e_iload_n (pc' := 2) k106_1 rfl rfl ?_
  refine e_vI (j' := 103) (as := [.int v1]) (rest := []) (pc' := 5) k106_2 rfl (show mCk 106 1 102 103 1 = true by decide +kernel) (Or.inl (by decide +kernel)) rfl (Nat.le_of_ble_eq_true rfl) (show 2 ≤ mL 103 by decide +kernel) (fun q1 => ?_)
  refine e_istore_n (pc' := 6) k106_5 rfl rfl ?_
  refine e_iload_n (pc' := 7) k106_6 rfl rfl ?_
  refine e_ifge (t := 12) (pc' := 10) k106_7 rfl (by decide) (fun _ => ?_) (fun _ => ?_)
  · refine e_aload_n (pc' := 13) k106_12 rfl rfl ?_
    refine e_getR (pc' := 16) k106_13 rfl (ci := 8) (k := 2) (by decide +kernel) (by decide +kernel) (fun x2 => ?_)
    refine e_iload_n (pc' := 17) k106_16 rfl rfl ?_
    refine e_bipush (v := -9) (pc' := 19) k106_17 rfl rfl ?_
    refine e_iast (pc' := 20) k106_19 rfl (fun h3 => ?_)
    refine e_iconst (v := 1) (pc' := 21) k106_20 rfl rfl ?_
    exact e_iret k106_21 (by decide +kernel)
  · refine e_iload_n (pc' := 11) k106_10 rfl rfl ?_
    exact e_iret k106_11 (by decide +kernel)
theorem k107_0 : decode (mB 107) 0 = .ok (.iload_n 1, 1) := by decide +kernel
theorem k107_1 : decode (mB 107) 1 = .ok (.invokestatic 94, 3) := by decide +kernel
theorem k107_4 : decode (mB 107) 4 = .ok (.ifCond .eq 10, 3) := by decide +kernel
theorem k107_7 : decode (mB 107) 7 = .ok (.iload_n 3, 1) := by decide +kernel
theorem k107_8 : decode (mB 107) 8 = .ok (.invokestatic 94, 3) := by decide +kernel
theorem k107_11 : decode (mB 107) 11 = .ok (.ifCond .ne 5, 3) := by decide +kernel
theorem k107_14 : decode (mB 107) 14 = .ok (.iconst (-1), 1) := by decide +kernel
theorem k107_15 : decode (mB 107) 15 = .ok (.ireturn, 1) := by decide +kernel
theorem k107_16 : decode (mB 107) 16 = .ok (.iload 5, 2) := by decide +kernel
theorem k107_18 : decode (mB 107) 18 = .ok (.ifCond .ge 9, 3) := by decide +kernel
theorem k107_21 : decode (mB 107) 21 = .ok (.aload_n 0, 1) := by decide +kernel
theorem k107_22 : decode (mB 107) 22 = .ok (.iconst 5, 1) := by decide +kernel
theorem k107_23 : decode (mB 107) 23 = .ok (.invokevirtual 98, 3) := by decide +kernel
theorem k107_26 : decode (mB 107) 26 = .ok (.ireturn, 1) := by decide +kernel
theorem k107_27 : decode (mB 107) 27 = .ok (.aload_n 0, 1) := by decide +kernel
theorem k107_28 : decode (mB 107) 28 = .ok (.getfield 13, 3) := by decide +kernel
theorem k107_31 : decode (mB 107) 31 = .ok (.iload_n 1, 1) := by decide +kernel
theorem k107_32 : decode (mB 107) 32 = .ok (.iaload, 1) := by decide +kernel
theorem k107_33 : decode (mB 107) 33 = .ok (.ifCond .lt 12, 3) := by decide +kernel
theorem k107_36 : decode (mB 107) 36 = .ok (.aload_n 0, 1) := by decide +kernel
theorem k107_37 : decode (mB 107) 37 = .ok (.getfield 13, 3) := by decide +kernel
theorem k107_40 : decode (mB 107) 40 = .ok (.iload_n 3, 1) := by decide +kernel
theorem k107_41 : decode (mB 107) 41 = .ok (.iaload, 1) := by decide +kernel
theorem k107_42 : decode (mB 107) 42 = .ok (.ifCond .ge 9, 3) := by decide +kernel
theorem k107_45 : decode (mB 107) 45 = .ok (.aload_n 0, 1) := by decide +kernel
theorem k107_46 : decode (mB 107) 46 = .ok (.iconst 1, 1) := by decide +kernel
theorem k107_47 : decode (mB 107) 47 = .ok (.invokevirtual 98, 3) := by decide +kernel
theorem k107_50 : decode (mB 107) 50 = .ok (.ireturn, 1) := by decide +kernel
theorem k107_51 : decode (mB 107) 51 = .ok (.iload_n 2, 1) := by decide +kernel
theorem k107_52 : decode (mB 107) 52 = .ok (.ifCond .lt 43, 3) := by decide +kernel
theorem k107_55 : decode (mB 107) 55 = .ok (.iload 4, 2) := by decide +kernel
theorem k107_57 : decode (mB 107) 57 = .ok (.ifCond .lt 38, 3) := by decide +kernel
theorem k107_60 : decode (mB 107) 60 = .ok (.iload_n 2, 1) := by decide +kernel
theorem k107_61 : decode (mB 107) 61 = .ok (.i2l, 1) := by decide +kernel
theorem k107_62 : decode (mB 107) 62 = .ok (.iload 5, 2) := by decide +kernel
theorem k107_64 : decode (mB 107) 64 = .ok (.i2l, 1) := by decide +kernel
theorem k107_65 : decode (mB 107) 65 = .ok (.ladd, 1) := by decide +kernel
theorem k107_66 : decode (mB 107) 66 = .ok (.aload_n 0, 1) := by decide +kernel
theorem k107_67 : decode (mB 107) 67 = .ok (.getfield 13, 3) := by decide +kernel
theorem k107_70 : decode (mB 107) 70 = .ok (.iload_n 1, 1) := by decide +kernel
theorem k107_71 : decode (mB 107) 71 = .ok (.iaload, 1) := by decide +kernel
theorem k107_72 : decode (mB 107) 72 = .ok (.i2l, 1) := by decide +kernel
theorem k107_73 : decode (mB 107) 73 = .ok (.lcmp, 1) := by decide +kernel
theorem k107_74 : decode (mB 107) 74 = .ok (.ifCond .gt 21, 3) := by decide +kernel
theorem k107_77 : decode (mB 107) 77 = .ok (.iload 4, 2) := by decide +kernel
theorem k107_79 : decode (mB 107) 79 = .ok (.i2l, 1) := by decide +kernel
theorem k107_80 : decode (mB 107) 80 = .ok (.iload 5, 2) := by decide +kernel
theorem k107_82 : decode (mB 107) 82 = .ok (.i2l, 1) := by decide +kernel
theorem k107_83 : decode (mB 107) 83 = .ok (.ladd, 1) := by decide +kernel
theorem k107_84 : decode (mB 107) 84 = .ok (.aload_n 0, 1) := by decide +kernel
theorem k107_85 : decode (mB 107) 85 = .ok (.getfield 13, 3) := by decide +kernel
theorem k107_88 : decode (mB 107) 88 = .ok (.iload_n 3, 1) := by decide +kernel
theorem k107_89 : decode (mB 107) 89 = .ok (.iaload, 1) := by decide +kernel
theorem k107_90 : decode (mB 107) 90 = .ok (.i2l, 1) := by decide +kernel
theorem k107_91 : decode (mB 107) 91 = .ok (.lcmp, 1) := by decide +kernel
theorem k107_92 : decode (mB 107) 92 = .ok (.ifCond .le 9, 3) := by decide +kernel
theorem k107_95 : decode (mB 107) 95 = .ok (.aload_n 0, 1) := by decide +kernel
theorem k107_96 : decode (mB 107) 96 = .ok (.iconst 2, 1) := by decide +kernel
theorem k107_97 : decode (mB 107) 97 = .ok (.invokevirtual 98, 3) := by decide +kernel
theorem k107_100 : decode (mB 107) 100 = .ok (.ireturn, 1) := by decide +kernel
theorem k107_101 : decode (mB 107) 101 = .ok (.iconst 0, 1) := by decide +kernel
theorem k107_102 : decode (mB 107) 102 = .ok (.istore 6, 2) := by decide +kernel
theorem k107_104 : decode (mB 107) 104 = .ok (.iload 6, 2) := by decide +kernel
theorem k107_106 : decode (mB 107) 106 = .ok (.iload 5, 2) := by decide +kernel
theorem k107_108 : decode (mB 107) 108 = .ok (.if_icmp .ge 30, 3) := by decide +kernel
theorem k107_111 : decode (mB 107) 111 = .ok (.aload_n 0, 1) := by decide +kernel
theorem k107_112 : decode (mB 107) 112 = .ok (.getfield 19, 3) := by decide +kernel
theorem k107_115 : decode (mB 107) 115 = .ok (.iload 6, 2) := by decide +kernel
theorem k107_117 : decode (mB 107) 117 = .ok (.aload_n 0, 1) := by decide +kernel
theorem k107_118 : decode (mB 107) 118 = .ok (.getfield 16, 3) := by decide +kernel
theorem k107_121 : decode (mB 107) 121 = .ok (.bipush 8, 2) := by decide +kernel
theorem k107_123 : decode (mB 107) 123 = .ok (.iload_n 1, 1) := by decide +kernel
theorem k107_124 : decode (mB 107) 124 = .ok (.imul, 1) := by decide +kernel
theorem k107_125 : decode (mB 107) 125 = .ok (.iload_n 2, 1) := by decide +kernel
theorem k107_126 : decode (mB 107) 126 = .ok (.iadd, 1) := by decide +kernel
theorem k107_127 : decode (mB 107) 127 = .ok (.iload 6, 2) := by decide +kernel
theorem k107_129 : decode (mB 107) 129 = .ok (.iadd, 1) := by decide +kernel
theorem k107_130 : decode (mB 107) 130 = .ok (.iaload, 1) := by decide +kernel
theorem k107_131 : decode (mB 107) 131 = .ok (.iastore, 1) := by decide +kernel
theorem k107_132 : decode (mB 107) 132 = .ok (.iinc 6 1, 3) := by decide +kernel
theorem k107_135 : decode (mB 107) 135 = .ok (.goto (-31), 3) := by decide +kernel
theorem k107_138 : decode (mB 107) 138 = .ok (.iconst 0, 1) := by decide +kernel
theorem k107_139 : decode (mB 107) 139 = .ok (.istore 6, 2) := by decide +kernel
theorem k107_141 : decode (mB 107) 141 = .ok (.iload 6, 2) := by decide +kernel
theorem k107_143 : decode (mB 107) 143 = .ok (.iload 5, 2) := by decide +kernel
theorem k107_145 : decode (mB 107) 145 = .ok (.if_icmp .ge 31, 3) := by decide +kernel
theorem k107_148 : decode (mB 107) 148 = .ok (.aload_n 0, 1) := by decide +kernel
theorem k107_149 : decode (mB 107) 149 = .ok (.getfield 16, 3) := by decide +kernel
theorem k107_152 : decode (mB 107) 152 = .ok (.bipush 8, 2) := by decide +kernel
theorem k107_154 : decode (mB 107) 154 = .ok (.iload_n 3, 1) := by decide +kernel
theorem k107_155 : decode (mB 107) 155 = .ok (.imul, 1) := by decide +kernel
theorem k107_156 : decode (mB 107) 156 = .ok (.iload 4, 2) := by decide +kernel
theorem k107_158 : decode (mB 107) 158 = .ok (.iadd, 1) := by decide +kernel
theorem k107_159 : decode (mB 107) 159 = .ok (.iload 6, 2) := by decide +kernel
theorem k107_161 : decode (mB 107) 161 = .ok (.iadd, 1) := by decide +kernel
theorem k107_162 : decode (mB 107) 162 = .ok (.aload_n 0, 1) := by decide +kernel
theorem k107_163 : decode (mB 107) 163 = .ok (.getfield 19, 3) := by decide +kernel
theorem k107_166 : decode (mB 107) 166 = .ok (.iload 6, 2) := by decide +kernel
theorem k107_168 : decode (mB 107) 168 = .ok (.iaload, 1) := by decide +kernel
theorem k107_169 : decode (mB 107) 169 = .ok (.iastore, 1) := by decide +kernel
theorem k107_170 : decode (mB 107) 170 = .ok (.iinc 6 1, 3) := by decide +kernel
theorem k107_173 : decode (mB 107) 173 = .ok (.goto (-32), 3) := by decide +kernel
theorem k107_176 : decode (mB 107) 176 = .ok (.iconst 1, 1) := by decide +kernel
theorem k107_177 : decode (mB 107) 177 = .ok (.ireturn, 1) := by decide +kernel
/-- SquareGroundsModel.copy, loop at 104 -/
noncomputable def q107_104 (v0 : Nat) (v1 : Int32) (v2 : Int32) (v3 : Int32) (v4 : Int32) (v5 : Int32) (v6 : Int32) (h : mHeap) : mR' := E 107 104 [some (.ref v0), some (.int v1), some (.int v2), some (.int v3), some (.int v4), some (.int v5), some (.int v6)] [] h
/-- SquareGroundsModel.copy, loop at 141 -/
noncomputable def q107_141 (v0 : Nat) (v1 : Int32) (v2 : Int32) (v3 : Int32) (v4 : Int32) (v5 : Int32) (v6 : Int32) (h : mHeap) : mR' := E 107 141 [some (.ref v0), some (.int v1), some (.int v2), some (.int v3), some (.int v4), some (.int v5), some (.int v6)] [] h
theorem q107_104_eq (v0 : Nat) (v1 : Int32) (v2 : Int32) (v3 : Int32) (v4 : Int32) (v5 : Int32) (v6 : Int32) (h : mHeap) : q107_104 v0 v1 v2 v3 v4 v5 v6 h = if v5 ≤ (v6 : Int32) then (q107_141 v0 v1 v2 v3 v4 v5 0 h) else ((gR h v0 8 4).bind fun x1 => (gR h v0 8 3).bind fun x2 => (cAldI false h x2 (((8 * v1) + v2) + v6)).bind fun x3 => (cAstI h x1 v6 x3).bind fun h4 => q107_104 v0 v1 v2 v3 v4 v5 (v6 + 1) h4) := by
  unfold q107_104
  refine e_iload (pc' := 106) k107_104 rfl rfl ?_
  refine e_iload (pc' := 108) k107_106 rfl rfl ?_
  refine e_icmpge (t := 138) (pc' := 111) k107_108 rfl (by decide) (fun _ => ?_) (fun _ => ?_)
  · refine e_iconst (v := 0) (pc' := 139) k107_138 rfl rfl ?_
    refine e_istore (pc' := 141) k107_139 rfl rfl ?_
    rfl
  · refine e_aload_n (pc' := 112) k107_111 rfl rfl ?_
    refine e_getR (pc' := 115) k107_112 rfl (ci := 8) (k := 4) (by decide +kernel) (by decide +kernel) (fun x1 => ?_)
    refine e_iload (pc' := 117) k107_115 rfl rfl ?_
    refine e_aload_n (pc' := 118) k107_117 rfl rfl ?_
    refine e_getR (pc' := 121) k107_118 rfl (ci := 8) (k := 3) (by decide +kernel) (by decide +kernel) (fun x2 => ?_)
    refine e_bipush (v := 8) (pc' := 123) k107_121 rfl rfl ?_
    refine e_iload_n (pc' := 124) k107_123 rfl rfl ?_
    refine e_imul (pc' := 125) k107_124 rfl ?_
    refine e_iload_n (pc' := 126) k107_125 rfl rfl ?_
    refine e_iadd (pc' := 127) k107_126 rfl ?_
    refine e_iload (pc' := 129) k107_127 rfl rfl ?_
    refine e_iadd (pc' := 130) k107_129 rfl ?_
    refine e_iald (pc' := 131) k107_130 rfl (lw := false) rfl (fun x3 => ?_)
    refine e_iast (pc' := 132) k107_131 rfl (fun h4 => ?_)
    refine e_iinc (c := 1) (pc' := 135) k107_132 rfl rfl rfl rfl ?_
    refine e_goto (pc' := 104) k107_135 (by decide) ?_
    rfl
theorem q107_141_eq (v0 : Nat) (v1 : Int32) (v2 : Int32) (v3 : Int32) (v4 : Int32) (v5 : Int32) (v6 : Int32) (h : mHeap) : q107_141 v0 v1 v2 v3 v4 v5 v6 h = if v5 ≤ (v6 : Int32) then (some (some (.int 1), h)) else ((gR h v0 8 3).bind fun x1 => (gR h v0 8 4).bind fun x2 => (cAldI false h x2 v6).bind fun x3 => (cAstI h x1 (((8 * v3) + v4) + v6) x3).bind fun h4 => q107_141 v0 v1 v2 v3 v4 v5 (v6 + 1) h4) := by
  unfold q107_141
  refine e_iload (pc' := 143) k107_141 rfl rfl ?_
  refine e_iload (pc' := 145) k107_143 rfl rfl ?_
  refine e_icmpge (t := 176) (pc' := 148) k107_145 rfl (by decide) (fun _ => ?_) (fun _ => ?_)
  · refine e_iconst (v := 1) (pc' := 177) k107_176 rfl rfl ?_
    exact e_iret k107_177 (by decide +kernel)
  · refine e_aload_n (pc' := 149) k107_148 rfl rfl ?_
    refine e_getR (pc' := 152) k107_149 rfl (ci := 8) (k := 3) (by decide +kernel) (by decide +kernel) (fun x1 => ?_)
    refine e_bipush (v := 8) (pc' := 154) k107_152 rfl rfl ?_
    refine e_iload_n (pc' := 155) k107_154 rfl rfl ?_
    refine e_imul (pc' := 156) k107_155 rfl ?_
    refine e_iload (pc' := 158) k107_156 rfl rfl ?_
    refine e_iadd (pc' := 159) k107_158 rfl ?_
    refine e_iload (pc' := 161) k107_159 rfl rfl ?_
    refine e_iadd (pc' := 162) k107_161 rfl ?_
    refine e_aload_n (pc' := 163) k107_162 rfl rfl ?_
    refine e_getR (pc' := 166) k107_163 rfl (ci := 8) (k := 4) (by decide +kernel) (by decide +kernel) (fun x2 => ?_)
    refine e_iload (pc' := 168) k107_166 rfl rfl ?_
    refine e_iald (pc' := 169) k107_168 rfl (lw := false) rfl (fun x3 => ?_)
    refine e_iast (pc' := 170) k107_169 rfl (fun h4 => ?_)
    refine e_iinc (c := 1) (pc' := 173) k107_170 rfl rfl rfl rfl ?_
    refine e_goto (pc' := 141) k107_173 (by decide) ?_
    rfl
/-- SquareGroundsModel.copy(IIIII)I -/
theorem F107_eq (v0 : Nat) (v1 : Int32) (v2 : Int32) (v3 : Int32) (v4 : Int32) (v5 : Int32) (h : mHeap) : F 107 [.ref v0, .int v1, .int v2, .int v3, .int v4, .int v5] h = (sI 102 [.int v1] h).bind fun q1 => if (q1.1 : Int32) = 0 then (some (some (.int (-1)), q1.2)) else ((sI 102 [.int v3] q1.2).bind fun q2 => if ¬ (q2.1 : Int32) = 0 then (if 0 ≤ (v5 : Int32) then ((gR q2.2 v0 8 2).bind fun x3 => (cAldI false q2.2 x3 v1).bind fun x4 => if (x4 : Int32) < 0 then ((vI 101 v0 [.int 1] q2.2).bind fun q5 => some (some (.int q5.1), q5.2)) else ((gR q2.2 v0 8 2).bind fun x6 => (cAldI false q2.2 x6 v3).bind fun x7 => if 0 ≤ (x7 : Int32) then (if (v2 : Int32) < 0 then ((vI 101 v0 [.int 2] q2.2).bind fun q8 => some (some (.int q8.1), q8.2)) else (if (v4 : Int32) < 0 then ((vI 101 v0 [.int 2] q2.2).bind fun q9 => some (some (.int q9.1), q9.2)) else ((gR q2.2 v0 8 2).bind fun x10 => (cAldI false q2.2 x10 v1).bind fun x11 => if 0 < ((lg_cmp ((Int32.toInt64 v2) + (Int32.toInt64 v5)) (Int32.toInt64 x11)) : Int32) then ((vI 101 v0 [.int 2] q2.2).bind fun q12 => some (some (.int q12.1), q12.2)) else ((gR q2.2 v0 8 2).bind fun x13 => (cAldI false q2.2 x13 v3).bind fun x14 => if ((lg_cmp ((Int32.toInt64 v4) + (Int32.toInt64 v5)) (Int32.toInt64 x14)) : Int32) ≤ 0 then (q107_104 v0 v1 v2 v3 v4 v5 0 q2.2) else ((vI 101 v0 [.int 2] q2.2).bind fun q15 => some (some (.int q15.1), q15.2)))))) else ((vI 101 v0 [.int 1] q2.2).bind fun q16 => some (some (.int q16.1), q16.2)))) else ((vI 101 v0 [.int 5] q2.2).bind fun q17 => some (some (.int q17.1), q17.2))) else (some (some (.int (-1)), q2.2))) := by
  show D 107 0 (mEnt 107 [.ref v0, .int v1, .int v2, .int v3, .int v4, .int v5]) [] h 0 0 = _
  rw [show mEnt 107 [.ref v0, .int v1, .int v2, .int v3, .int v4, .int v5] = [some (.ref v0), some (.int v1), some (.int v2), some (.int v3), some (.int v4), some (.int v5), none] from rfl]
  refine e_iload_n (pc' := 1) k107_0 rfl rfl ?_
  refine e_sI (j' := 102) (as := [.int v1]) (rest := []) (pc' := 4) k107_1 rfl (show mCk 107 0 94 102 1 = true by decide +kernel) (Or.inr (by decide +kernel)) rfl (Nat.le_of_ble_eq_true rfl) (show 1 ≤ mL 102 by decide +kernel) (fun q1 => ?_)
  refine e_ifeq (t := 14) (pc' := 7) k107_4 rfl (by decide) (fun _ => ?_) (fun _ => ?_)
  · refine e_iconst (v := -1) (pc' := 15) k107_14 rfl rfl ?_
    exact e_iret k107_15 (by decide +kernel)
  · refine e_iload_n (pc' := 8) k107_7 rfl rfl ?_
    refine e_sI (j' := 102) (as := [.int v3]) (rest := []) (pc' := 11) k107_8 rfl (show mCk 107 0 94 102 1 = true by decide +kernel) (Or.inr (by decide +kernel)) rfl (Nat.le_of_ble_eq_true rfl) (show 1 ≤ mL 102 by decide +kernel) (fun q2 => ?_)
    refine e_ifne (t := 16) (pc' := 14) k107_11 rfl (by decide) (fun _ => ?_) (fun _ => ?_)
    · refine e_iload (pc' := 18) k107_16 rfl rfl ?_
      refine e_ifge (t := 27) (pc' := 21) k107_18 rfl (by decide) (fun _ => ?_) (fun _ => ?_)
      · refine e_aload_n (pc' := 28) k107_27 rfl rfl ?_
        refine e_getR (pc' := 31) k107_28 rfl (ci := 8) (k := 2) (by decide +kernel) (by decide +kernel) (fun x3 => ?_)
        refine e_iload_n (pc' := 32) k107_31 rfl rfl ?_
        refine e_iald (pc' := 33) k107_32 rfl (lw := false) rfl (fun x4 => ?_)
        refine e_iflt (t := 45) (pc' := 36) k107_33 rfl (by decide) (fun _ => ?_) (fun _ => ?_)
        · refine e_aload_n (pc' := 46) k107_45 rfl rfl ?_
          refine e_iconst (v := 1) (pc' := 47) k107_46 rfl rfl ?_
          refine e_vI (j' := 101) (as := [.int 1]) (rest := []) (pc' := 50) k107_47 rfl (show mCk 107 1 98 101 1 = true by decide +kernel) (Or.inl (by decide +kernel)) rfl (Nat.le_of_ble_eq_true rfl) (show 2 ≤ mL 101 by decide +kernel) (fun q5 => ?_)
          exact e_iret k107_50 (by decide +kernel)
        · refine e_aload_n (pc' := 37) k107_36 rfl rfl ?_
          refine e_getR (pc' := 40) k107_37 rfl (ci := 8) (k := 2) (by decide +kernel) (by decide +kernel) (fun x6 => ?_)
          refine e_iload_n (pc' := 41) k107_40 rfl rfl ?_
          refine e_iald (pc' := 42) k107_41 rfl (lw := false) rfl (fun x7 => ?_)
          refine e_ifge (t := 51) (pc' := 45) k107_42 rfl (by decide) (fun _ => ?_) (fun _ => ?_)
          · refine e_iload_n (pc' := 52) k107_51 rfl rfl ?_
            refine e_iflt (t := 95) (pc' := 55) k107_52 rfl (by decide) (fun _ => ?_) (fun _ => ?_)
            · refine e_aload_n (pc' := 96) k107_95 rfl rfl ?_
              refine e_iconst (v := 2) (pc' := 97) k107_96 rfl rfl ?_
              refine e_vI (j' := 101) (as := [.int 2]) (rest := []) (pc' := 100) k107_97 rfl (show mCk 107 1 98 101 1 = true by decide +kernel) (Or.inl (by decide +kernel)) rfl (Nat.le_of_ble_eq_true rfl) (show 2 ≤ mL 101 by decide +kernel) (fun q8 => ?_)
              exact e_iret k107_100 (by decide +kernel)
            · refine e_iload (pc' := 57) k107_55 rfl rfl ?_
              refine e_iflt (t := 95) (pc' := 60) k107_57 rfl (by decide) (fun _ => ?_) (fun _ => ?_)
              · refine e_aload_n (pc' := 96) k107_95 rfl rfl ?_
                refine e_iconst (v := 2) (pc' := 97) k107_96 rfl rfl ?_
                refine e_vI (j' := 101) (as := [.int 2]) (rest := []) (pc' := 100) k107_97 rfl (show mCk 107 1 98 101 1 = true by decide +kernel) (Or.inl (by decide +kernel)) rfl (Nat.le_of_ble_eq_true rfl) (show 2 ≤ mL 101 by decide +kernel) (fun q9 => ?_)
                exact e_iret k107_100 (by decide +kernel)
              · refine e_iload_n (pc' := 61) k107_60 rfl rfl ?_
                refine e_i2l (pc' := 62) k107_61 rfl ?_
                refine e_iload (pc' := 64) k107_62 rfl rfl ?_
                refine e_i2l (pc' := 65) k107_64 rfl ?_
                refine e_ladd (pc' := 66) k107_65 rfl ?_
                refine e_aload_n (pc' := 67) k107_66 rfl rfl ?_
                refine e_getR (pc' := 70) k107_67 rfl (ci := 8) (k := 2) (by decide +kernel) (by decide +kernel) (fun x10 => ?_)
                refine e_iload_n (pc' := 71) k107_70 rfl rfl ?_
                refine e_iald (pc' := 72) k107_71 rfl (lw := false) rfl (fun x11 => ?_)
                refine e_i2l (pc' := 73) k107_72 rfl ?_
                refine e_lcmp (pc' := 74) k107_73 rfl ?_
                refine e_ifgt (t := 95) (pc' := 77) k107_74 rfl (by decide) (fun _ => ?_) (fun _ => ?_)
                · refine e_aload_n (pc' := 96) k107_95 rfl rfl ?_
                  refine e_iconst (v := 2) (pc' := 97) k107_96 rfl rfl ?_
                  refine e_vI (j' := 101) (as := [.int 2]) (rest := []) (pc' := 100) k107_97 rfl (show mCk 107 1 98 101 1 = true by decide +kernel) (Or.inl (by decide +kernel)) rfl (Nat.le_of_ble_eq_true rfl) (show 2 ≤ mL 101 by decide +kernel) (fun q12 => ?_)
                  exact e_iret k107_100 (by decide +kernel)
                · refine e_iload (pc' := 79) k107_77 rfl rfl ?_
                  refine e_i2l (pc' := 80) k107_79 rfl ?_
                  refine e_iload (pc' := 82) k107_80 rfl rfl ?_
                  refine e_i2l (pc' := 83) k107_82 rfl ?_
                  refine e_ladd (pc' := 84) k107_83 rfl ?_
                  refine e_aload_n (pc' := 85) k107_84 rfl rfl ?_
                  refine e_getR (pc' := 88) k107_85 rfl (ci := 8) (k := 2) (by decide +kernel) (by decide +kernel) (fun x13 => ?_)
                  refine e_iload_n (pc' := 89) k107_88 rfl rfl ?_
                  refine e_iald (pc' := 90) k107_89 rfl (lw := false) rfl (fun x14 => ?_)
                  refine e_i2l (pc' := 91) k107_90 rfl ?_
                  refine e_lcmp (pc' := 92) k107_91 rfl ?_
                  refine e_ifle (t := 101) (pc' := 95) k107_92 rfl (by decide) (fun _ => ?_) (fun _ => ?_)
                  · refine e_iconst (v := 0) (pc' := 102) k107_101 rfl rfl ?_
                    refine e_istore (pc' := 104) k107_102 rfl rfl ?_
                    rfl
                  · refine e_aload_n (pc' := 96) k107_95 rfl rfl ?_
                    refine e_iconst (v := 2) (pc' := 97) k107_96 rfl rfl ?_
                    refine e_vI (j' := 101) (as := [.int 2]) (rest := []) (pc' := 100) k107_97 rfl (show mCk 107 1 98 101 1 = true by decide +kernel) (Or.inl (by decide +kernel)) rfl (Nat.le_of_ble_eq_true rfl) (show 2 ≤ mL 101 by decide +kernel) (fun q15 => ?_)
                    exact e_iret k107_100 (by decide +kernel)
          · refine e_aload_n (pc' := 46) k107_45 rfl rfl ?_
            refine e_iconst (v := 1) (pc' := 47) k107_46 rfl rfl ?_
            refine e_vI (j' := 101) (as := [.int 1]) (rest := []) (pc' := 50) k107_47 rfl (show mCk 107 1 98 101 1 = true by decide +kernel) (Or.inl (by decide +kernel)) rfl (Nat.le_of_ble_eq_true rfl) (show 2 ≤ mL 101 by decide +kernel) (fun q16 => ?_)
            exact e_iret k107_50 (by decide +kernel)
      · refine e_aload_n (pc' := 22) k107_21 rfl rfl ?_
        refine e_iconst (v := 5) (pc' := 23) k107_22 rfl rfl ?_
        refine e_vI (j' := 101) (as := [.int 5]) (rest := []) (pc' := 26) k107_23 rfl (show mCk 107 1 98 101 1 = true by decide +kernel) (Or.inl (by decide +kernel)) rfl (Nat.le_of_ble_eq_true rfl) (show 2 ≤ mL 101 by decide +kernel) (fun q17 => ?_)
        exact e_iret k107_26 (by decide +kernel)
    · refine e_iconst (v := -1) (pc' := 15) k107_14 rfl rfl ?_
      exact e_iret k107_15 (by decide +kernel)
theorem k108_0 : decode (mB 108) 0 = .ok (.iconst 0, 1) := by decide +kernel
theorem k108_1 : decode (mB 108) 1 = .ok (.istore_n 1, 1) := by decide +kernel
theorem k108_2 : decode (mB 108) 2 = .ok (.iload_n 1, 1) := by decide +kernel
theorem k108_3 : decode (mB 108) 3 = .ok (.aload_n 0, 1) := by decide +kernel
theorem k108_4 : decode (mB 108) 4 = .ok (.getfield 105, 3) := by decide +kernel
theorem k108_7 : decode (mB 108) 7 = .ok (.if_icmp .ge 33, 3) := by decide +kernel
theorem k108_10 : decode (mB 108) 10 = .ok (.aload_n 0, 1) := by decide +kernel
theorem k108_11 : decode (mB 108) 11 = .ok (.getfield 28, 3) := by decide +kernel
theorem k108_14 : decode (mB 108) 14 = .ok (.aload_n 0, 1) := by decide +kernel
theorem k108_15 : decode (mB 108) 15 = .ok (.getfield 22, 3) := by decide +kernel
theorem k108_18 : decode (mB 108) 18 = .ok (.iload_n 1, 1) := by decide +kernel
theorem k108_19 : decode (mB 108) 19 = .ok (.iaload, 1) := by decide +kernel
theorem k108_20 : decode (mB 108) 20 = .ok (.iload_n 1, 1) := by decide +kernel
theorem k108_21 : decode (mB 108) 21 = .ok (.iastore, 1) := by decide +kernel
theorem k108_22 : decode (mB 108) 22 = .ok (.aload_n 0, 1) := by decide +kernel
theorem k108_23 : decode (mB 108) 23 = .ok (.getfield 31, 3) := by decide +kernel
theorem k108_26 : decode (mB 108) 26 = .ok (.aload_n 0, 1) := by decide +kernel
theorem k108_27 : decode (mB 108) 27 = .ok (.getfield 25, 3) := by decide +kernel
theorem k108_30 : decode (mB 108) 30 = .ok (.iload_n 1, 1) := by decide +kernel
theorem k108_31 : decode (mB 108) 31 = .ok (.iaload, 1) := by decide +kernel
theorem k108_32 : decode (mB 108) 32 = .ok (.iload_n 1, 1) := by decide +kernel
theorem k108_33 : decode (mB 108) 33 = .ok (.iastore, 1) := by decide +kernel
theorem k108_34 : decode (mB 108) 34 = .ok (.iinc 1 1, 3) := by decide +kernel
theorem k108_37 : decode (mB 108) 37 = .ok (.goto (-35), 3) := by decide +kernel
theorem k108_40 : decode (mB 108) 40 = .ok (.return_, 1) := by decide +kernel
/-- SquareGroundsModel.setBack, loop at 2 -/
noncomputable def q108_2 (v0 : Nat) (v1 : Int32) (h : mHeap) : mR' := E 108 2 [some (.ref v0), some (.int v1)] [] h
theorem q108_2_eq (v0 : Nat) (v1 : Int32) (h : mHeap) : q108_2 v0 v1 h = (gI h v0 8 5).bind fun x1 => if x1 ≤ (v1 : Int32) then (some (none, h)) else ((gR h v0 8 8).bind fun x2 => (gR h v0 8 6).bind fun x3 => (cAldI false h x3 v1).bind fun x4 => (cAstI h x2 x4 v1).bind fun h5 => (gR h5 v0 8 9).bind fun x6 => (gR h5 v0 8 7).bind fun x7 => (cAldI false h5 x7 v1).bind fun x8 => (cAstI h5 x6 x8 v1).bind fun h9 => q108_2 v0 (v1 + 1) h9) := by
  unfold q108_2
  refine e_iload_n (pc' := 3) k108_2 rfl rfl ?_
  refine e_aload_n (pc' := 4) k108_3 rfl rfl ?_
  refine e_getI (pc' := 7) k108_4 rfl (ci := 8) (k := 5) (by decide +kernel) (by decide +kernel) (fun x1 => ?_)
  refine e_icmpge (t := 40) (pc' := 10) k108_7 rfl (by decide) (fun _ => ?_) (fun _ => ?_)
  · exact e_vret k108_40 (by decide +kernel)
  · refine e_aload_n (pc' := 11) k108_10 rfl rfl ?_
    refine e_getR (pc' := 14) k108_11 rfl (ci := 8) (k := 8) (by decide +kernel) (by decide +kernel) (fun x2 => ?_)
    refine e_aload_n (pc' := 15) k108_14 rfl rfl ?_
    refine e_getR (pc' := 18) k108_15 rfl (ci := 8) (k := 6) (by decide +kernel) (by decide +kernel) (fun x3 => ?_)
    refine e_iload_n (pc' := 19) k108_18 rfl rfl ?_
    refine e_iald (pc' := 20) k108_19 rfl (lw := false) rfl (fun x4 => ?_)
    refine e_iload_n (pc' := 21) k108_20 rfl rfl ?_
    refine e_iast (pc' := 22) k108_21 rfl (fun h5 => ?_)
    refine e_aload_n (pc' := 23) k108_22 rfl rfl ?_
    refine e_getR (pc' := 26) k108_23 rfl (ci := 8) (k := 9) (by decide +kernel) (by decide +kernel) (fun x6 => ?_)
    refine e_aload_n (pc' := 27) k108_26 rfl rfl ?_
    refine e_getR (pc' := 30) k108_27 rfl (ci := 8) (k := 7) (by decide +kernel) (by decide +kernel) (fun x7 => ?_)
    refine e_iload_n (pc' := 31) k108_30 rfl rfl ?_
    refine e_iald (pc' := 32) k108_31 rfl (lw := false) rfl (fun x8 => ?_)
    refine e_iload_n (pc' := 33) k108_32 rfl rfl ?_
    refine e_iast (pc' := 34) k108_33 rfl (fun h9 => ?_)
    refine e_iinc (c := 1) (pc' := 37) k108_34 rfl rfl rfl rfl ?_
    refine e_goto (pc' := 2) k108_37 (by decide) ?_
    rfl
/-- SquareGroundsModel.setBack()V -/
theorem F108_eq (v0 : Nat) (h : mHeap) : F 108 [.ref v0] h = q108_2 v0 0 h := by
  show D 108 0 (mEnt 108 [.ref v0]) [] h 0 0 = _
  rw [show mEnt 108 [.ref v0] = [some (.ref v0), none] from rfl]
  refine e_iconst (v := 0) (pc' := 1) k108_0 rfl rfl ?_
  refine e_istore_n (pc' := 2) k108_1 rfl rfl ?_
  rfl
theorem k109_0 : decode (mB 109) 0 = .ok (.iload_n 0, 1) := by decide +kernel
theorem k109_1 : decode (mB 109) 1 = .ok (.iconst 0, 1) := by decide +kernel
theorem k109_2 : decode (mB 109) 2 = .ok (.bipush 9, 2) := by decide +kernel
theorem k109_4 : decode (mB 109) 4 = .ok (.invokestatic 90, 3) := by decide +kernel
theorem k109_7 : decode (mB 109) 7 = .ok (.ireturn, 1) := by decide +kernel
/-- SquareGroundsModel.isNumber(I)Z -/
theorem F109_eq (v0 : Int32) (h : mHeap) : F 109 [.int v0] h = (sI 100 [.int v0, .int 0, .int 9] h).bind fun q1 => if narrow .boolean (.int q1.1) = .int q1.1 then some (some (.int q1.1), q1.2) else none := by
  show D 109 0 (mEnt 109 [.int v0]) [] h 0 0 = _
  rw [show mEnt 109 [.int v0] = [some (.int v0)] from rfl]
  refine e_iload_n (pc' := 1) k109_0 rfl rfl ?_
  refine e_iconst (v := 0) (pc' := 2) k109_1 rfl rfl ?_
  refine e_bipush (v := 9) (pc' := 4) k109_2 rfl rfl ?_
  refine e_sI (j' := 100) (as := [.int v0, .int 0, .int 9]) (rest := []) (pc' := 7) k109_4 rfl (show mCk 109 0 90 100 3 = true by decide +kernel) (Or.inr (by decide +kernel)) rfl (Nat.le_of_ble_eq_true rfl) (show 3 ≤ mL 100 by decide +kernel) (fun q1 => ?_)
  exact e_zret k109_7 (by decide +kernel)
theorem k110_0 : decode (mB 110) 0 = .ok (.iload_n 1, 1) := by decide +kernel
theorem k110_1 : decode (mB 110) 1 = .ok (.invokestatic 108, 3) := by decide +kernel
theorem k110_4 : decode (mB 110) 4 = .ok (.ifCond .ne 5, 3) := by decide +kernel
theorem k110_7 : decode (mB 110) 7 = .ok (.iconst (-1), 1) := by decide +kernel
theorem k110_8 : decode (mB 110) 8 = .ok (.ireturn, 1) := by decide +kernel
theorem k110_9 : decode (mB 110) 9 = .ok (.aload_n 0, 1) := by decide +kernel
theorem k110_10 : decode (mB 110) 10 = .ok (.getfield 34, 3) := by decide +kernel
theorem k110_13 : decode (mB 110) 13 = .ok (.iload_n 1, 1) := by decide +kernel
theorem k110_14 : decode (mB 110) 14 = .ok (.iaload, 1) := by decide +kernel
theorem k110_15 : decode (mB 110) 15 = .ok (.ifCond .ne 9, 3) := by decide +kernel
theorem k110_18 : decode (mB 110) 18 = .ok (.aload_n 0, 1) := by decide +kernel
theorem k110_19 : decode (mB 110) 19 = .ok (.iconst 1, 1) := by decide +kernel
theorem k110_20 : decode (mB 110) 20 = .ok (.invokevirtual 98, 3) := by decide +kernel
theorem k110_23 : decode (mB 110) 23 = .ok (.ireturn, 1) := by decide +kernel
theorem k110_24 : decode (mB 110) 24 = .ok (.aload_n 0, 1) := by decide +kernel
theorem k110_25 : decode (mB 110) 25 = .ok (.iload_n 1, 1) := by decide +kernel
theorem k110_26 : decode (mB 110) 26 = .ok (.invokevirtual 111, 3) := by decide +kernel
theorem k110_29 : decode (mB 110) 29 = .ok (.iconst 0, 1) := by decide +kernel
theorem k110_30 : decode (mB 110) 30 = .ok (.ireturn, 1) := by decide +kernel
/-- SquareGroundsModel.askedFor(I)I -/
theorem F110_eq (v0 : Nat) (v1 : Int32) (h : mHeap) : F 110 [.ref v0, .int v1] h = (sI 109 [.int v1] h).bind fun q1 => if ¬ (q1.1 : Int32) = 0 then ((gR q1.2 v0 8 10).bind fun x2 => (cAldI false q1.2 x2 v1).bind fun x3 => if ¬ (x3 : Int32) = 0 then ((vV 111 v0 [.int v1] q1.2).bind fun h4 => some (some (.int 0), h4)) else ((vI 101 v0 [.int 1] q1.2).bind fun q5 => some (some (.int q5.1), q5.2))) else (some (some (.int (-1)), q1.2)) := by
  show D 110 0 (mEnt 110 [.ref v0, .int v1]) [] h 0 0 = _
  rw [show mEnt 110 [.ref v0, .int v1] = [some (.ref v0), some (.int v1)] from rfl]
  refine e_iload_n (pc' := 1) k110_0 rfl rfl ?_
  refine e_sI (j' := 109) (as := [.int v1]) (rest := []) (pc' := 4) k110_1 rfl (show mCk 110 0 108 109 1 = true by decide +kernel) (Or.inr (by decide +kernel)) rfl (Nat.le_of_ble_eq_true rfl) (show 1 ≤ mL 109 by decide +kernel) (fun q1 => ?_)
  refine e_ifne (t := 9) (pc' := 7) k110_4 rfl (by decide) (fun _ => ?_) (fun _ => ?_)
  · refine e_aload_n (pc' := 10) k110_9 rfl rfl ?_
    refine e_getR (pc' := 13) k110_10 rfl (ci := 8) (k := 10) (by decide +kernel) (by decide +kernel) (fun x2 => ?_)
    refine e_iload_n (pc' := 14) k110_13 rfl rfl ?_
    refine e_iald (pc' := 15) k110_14 rfl (lw := false) rfl (fun x3 => ?_)
    refine e_ifne (t := 24) (pc' := 18) k110_15 rfl (by decide) (fun _ => ?_) (fun _ => ?_)
    · refine e_aload_n (pc' := 25) k110_24 rfl rfl ?_
      refine e_iload_n (pc' := 26) k110_25 rfl rfl ?_
      refine e_vV (j' := 111) (as := [.int v1]) (rest := []) (pc' := 29) k110_26 rfl (show mCk 110 1 111 111 1 = true by decide +kernel) (by decide +kernel) rfl (Nat.le_of_ble_eq_true rfl) (show 2 ≤ mL 111 by decide +kernel) (fun h4 => ?_)
      refine e_iconst (v := 0) (pc' := 30) k110_29 rfl rfl ?_
      exact e_iret k110_30 (by decide +kernel)
    · refine e_aload_n (pc' := 19) k110_18 rfl rfl ?_
      refine e_iconst (v := 1) (pc' := 20) k110_19 rfl rfl ?_
      refine e_vI (j' := 101) (as := [.int 1]) (rest := []) (pc' := 23) k110_20 rfl (show mCk 110 1 98 101 1 = true by decide +kernel) (Or.inl (by decide +kernel)) rfl (Nat.le_of_ble_eq_true rfl) (show 2 ≤ mL 101 by decide +kernel) (fun q5 => ?_)
      exact e_iret k110_23 (by decide +kernel)
  · refine e_iconst (v := -1) (pc' := 8) k110_7 rfl rfl ?_
    exact e_iret k110_8 (by decide +kernel)
theorem k111_0 : decode (mB 111) 0 = .ok (.aload_n 0, 1) := by decide +kernel
theorem k111_1 : decode (mB 111) 1 = .ok (.aload_n 0, 1) := by decide +kernel
theorem k111_2 : decode (mB 111) 2 = .ok (.getfield 34, 3) := by decide +kernel
theorem k111_5 : decode (mB 111) 5 = .ok (.iload_n 1, 1) := by decide +kernel
theorem k111_6 : decode (mB 111) 6 = .ok (.iaload, 1) := by decide +kernel
theorem k111_7 : decode (mB 111) 7 = .ok (.putfield 105, 3) := by decide +kernel
theorem k111_10 : decode (mB 111) 10 = .ok (.iconst 0, 1) := by decide +kernel
theorem k111_11 : decode (mB 111) 11 = .ok (.istore_n 2, 1) := by decide +kernel
theorem k111_12 : decode (mB 111) 12 = .ok (.iload_n 2, 1) := by decide +kernel
theorem k111_13 : decode (mB 111) 13 = .ok (.aload_n 0, 1) := by decide +kernel
theorem k111_14 : decode (mB 111) 14 = .ok (.getfield 105, 3) := by decide +kernel
theorem k111_17 : decode (mB 111) 17 = .ok (.if_icmp .ge 43, 3) := by decide +kernel
theorem k111_20 : decode (mB 111) 20 = .ok (.aload_n 0, 1) := by decide +kernel
theorem k111_21 : decode (mB 111) 21 = .ok (.getfield 22, 3) := by decide +kernel
theorem k111_24 : decode (mB 111) 24 = .ok (.iload_n 2, 1) := by decide +kernel
theorem k111_25 : decode (mB 111) 25 = .ok (.aload_n 0, 1) := by decide +kernel
theorem k111_26 : decode (mB 111) 26 = .ok (.getfield 37, 3) := by decide +kernel
theorem k111_29 : decode (mB 111) 29 = .ok (.bipush 8, 2) := by decide +kernel
theorem k111_31 : decode (mB 111) 31 = .ok (.iload_n 1, 1) := by decide +kernel
theorem k111_32 : decode (mB 111) 32 = .ok (.imul, 1) := by decide +kernel
theorem k111_33 : decode (mB 111) 33 = .ok (.iload_n 2, 1) := by decide +kernel
theorem k111_34 : decode (mB 111) 34 = .ok (.iadd, 1) := by decide +kernel
theorem k111_35 : decode (mB 111) 35 = .ok (.iaload, 1) := by decide +kernel
theorem k111_36 : decode (mB 111) 36 = .ok (.iastore, 1) := by decide +kernel
theorem k111_37 : decode (mB 111) 37 = .ok (.aload_n 0, 1) := by decide +kernel
theorem k111_38 : decode (mB 111) 38 = .ok (.getfield 25, 3) := by decide +kernel
theorem k111_41 : decode (mB 111) 41 = .ok (.iload_n 2, 1) := by decide +kernel
theorem k111_42 : decode (mB 111) 42 = .ok (.aload_n 0, 1) := by decide +kernel
theorem k111_43 : decode (mB 111) 43 = .ok (.getfield 40, 3) := by decide +kernel
theorem k111_46 : decode (mB 111) 46 = .ok (.bipush 8, 2) := by decide +kernel
theorem k111_48 : decode (mB 111) 48 = .ok (.iload_n 1, 1) := by decide +kernel
theorem k111_49 : decode (mB 111) 49 = .ok (.imul, 1) := by decide +kernel
theorem k111_50 : decode (mB 111) 50 = .ok (.iload_n 2, 1) := by decide +kernel
theorem k111_51 : decode (mB 111) 51 = .ok (.iadd, 1) := by decide +kernel
theorem k111_52 : decode (mB 111) 52 = .ok (.iaload, 1) := by decide +kernel
theorem k111_53 : decode (mB 111) 53 = .ok (.iastore, 1) := by decide +kernel
theorem k111_54 : decode (mB 111) 54 = .ok (.iinc 2 1, 3) := by decide +kernel
theorem k111_57 : decode (mB 111) 57 = .ok (.goto (-45), 3) := by decide +kernel
theorem k111_60 : decode (mB 111) 60 = .ok (.aload_n 0, 1) := by decide +kernel
theorem k111_61 : decode (mB 111) 61 = .ok (.invokevirtual 115, 3) := by decide +kernel
theorem k111_64 : decode (mB 111) 64 = .ok (.return_, 1) := by decide +kernel
/-- SquareGroundsModel.load, loop at 12 -/
noncomputable def q111_12 (v0 : Nat) (v1 : Int32) (v2 : Int32) (h : mHeap) : mR' := E 111 12 [some (.ref v0), some (.int v1), some (.int v2)] [] h
theorem q111_12_eq (v0 : Nat) (v1 : Int32) (v2 : Int32) (h : mHeap) : q111_12 v0 v1 v2 h = (gI h v0 8 5).bind fun x1 => if x1 ≤ (v2 : Int32) then ((vV 108 v0 [] h).bind fun h2 => some (none, h2)) else ((gR h v0 8 6).bind fun x3 => (gR h v0 8 11).bind fun x4 => (cAldI false h x4 ((8 * v1) + v2)).bind fun x5 => (cAstI h x3 v2 x5).bind fun h6 => (gR h6 v0 8 7).bind fun x7 => (gR h6 v0 8 12).bind fun x8 => (cAldI false h6 x8 ((8 * v1) + v2)).bind fun x9 => (cAstI h6 x7 v2 x9).bind fun h10 => q111_12 v0 v1 (v2 + 1) h10) := by
  unfold q111_12
  refine e_iload_n (pc' := 13) k111_12 rfl rfl ?_
  refine e_aload_n (pc' := 14) k111_13 rfl rfl ?_
  refine e_getI (pc' := 17) k111_14 rfl (ci := 8) (k := 5) (by decide +kernel) (by decide +kernel) (fun x1 => ?_)
  refine e_icmpge (t := 60) (pc' := 20) k111_17 rfl (by decide) (fun _ => ?_) (fun _ => ?_)
  · refine e_aload_n (pc' := 61) k111_60 rfl rfl ?_
    refine e_vV (j' := 108) (as := []) (rest := []) (pc' := 64) k111_61 rfl (show mCk 111 1 115 108 0 = true by decide +kernel) (by decide +kernel) rfl (Nat.le_of_ble_eq_true rfl) (show 1 ≤ mL 108 by decide +kernel) (fun h2 => ?_)
    exact e_vret k111_64 (by decide +kernel)
  · refine e_aload_n (pc' := 21) k111_20 rfl rfl ?_
    refine e_getR (pc' := 24) k111_21 rfl (ci := 8) (k := 6) (by decide +kernel) (by decide +kernel) (fun x3 => ?_)
    refine e_iload_n (pc' := 25) k111_24 rfl rfl ?_
    refine e_aload_n (pc' := 26) k111_25 rfl rfl ?_
    refine e_getR (pc' := 29) k111_26 rfl (ci := 8) (k := 11) (by decide +kernel) (by decide +kernel) (fun x4 => ?_)
    refine e_bipush (v := 8) (pc' := 31) k111_29 rfl rfl ?_
    refine e_iload_n (pc' := 32) k111_31 rfl rfl ?_
    refine e_imul (pc' := 33) k111_32 rfl ?_
    refine e_iload_n (pc' := 34) k111_33 rfl rfl ?_
    refine e_iadd (pc' := 35) k111_34 rfl ?_
    refine e_iald (pc' := 36) k111_35 rfl (lw := false) rfl (fun x5 => ?_)
    refine e_iast (pc' := 37) k111_36 rfl (fun h6 => ?_)
    refine e_aload_n (pc' := 38) k111_37 rfl rfl ?_
    refine e_getR (pc' := 41) k111_38 rfl (ci := 8) (k := 7) (by decide +kernel) (by decide +kernel) (fun x7 => ?_)
    refine e_iload_n (pc' := 42) k111_41 rfl rfl ?_
    refine e_aload_n (pc' := 43) k111_42 rfl rfl ?_
    refine e_getR (pc' := 46) k111_43 rfl (ci := 8) (k := 12) (by decide +kernel) (by decide +kernel) (fun x8 => ?_)
    refine e_bipush (v := 8) (pc' := 48) k111_46 rfl rfl ?_
    refine e_iload_n (pc' := 49) k111_48 rfl rfl ?_
    refine e_imul (pc' := 50) k111_49 rfl ?_
    refine e_iload_n (pc' := 51) k111_50 rfl rfl ?_
    refine e_iadd (pc' := 52) k111_51 rfl ?_
    refine e_iald (pc' := 53) k111_52 rfl (lw := false) rfl (fun x9 => ?_)
    refine e_iast (pc' := 54) k111_53 rfl (fun h10 => ?_)
    refine e_iinc (c := 1) (pc' := 57) k111_54 rfl rfl rfl rfl ?_
    refine e_goto (pc' := 12) k111_57 (by decide) ?_
    rfl
/-- SquareGroundsModel.load(I)V -/
theorem F111_eq (v0 : Nat) (v1 : Int32) (h : mHeap) : F 111 [.ref v0, .int v1] h = (gR h v0 8 10).bind fun x1 => (cAldI false h x1 v1).bind fun x2 => (cPut h v0 8 5 (.int x2)).bind fun h3 => q111_12 v0 v1 0 h3 := by
  show D 111 0 (mEnt 111 [.ref v0, .int v1]) [] h 0 0 = _
  rw [show mEnt 111 [.ref v0, .int v1] = [some (.ref v0), some (.int v1), none] from rfl]
  refine e_aload_n (pc' := 1) k111_0 rfl rfl ?_
  refine e_aload_n (pc' := 2) k111_1 rfl rfl ?_
  refine e_getR (pc' := 5) k111_2 rfl (ci := 8) (k := 10) (by decide +kernel) (by decide +kernel) (fun x1 => ?_)
  refine e_iload_n (pc' := 6) k111_5 rfl rfl ?_
  refine e_iald (pc' := 7) k111_6 rfl (lw := false) rfl (fun x2 => ?_)
  refine e_put (pc' := 10) k111_7 rfl (ci := 8) (k := 5) (by decide +kernel) (by decide +kernel) rfl (fun h3 => ?_)
  refine e_iconst (v := 0) (pc' := 11) k111_10 rfl rfl ?_
  refine e_istore_n (pc' := 12) k111_11 rfl rfl ?_
  rfl
theorem k112_0 : decode (mB 112) 0 = .ok (.aload_n 0, 1) := by decide +kernel
theorem k112_1 : decode (mB 112) 1 = .ok (.getfield 34, 3) := by decide +kernel
theorem k112_4 : decode (mB 112) 4 = .ok (.iload_n 1, 1) := by decide +kernel
theorem k112_5 : decode (mB 112) 5 = .ok (.aload_n 0, 1) := by decide +kernel
theorem k112_6 : decode (mB 112) 6 = .ok (.getfield 105, 3) := by decide +kernel
theorem k112_9 : decode (mB 112) 9 = .ok (.iastore, 1) := by decide +kernel
theorem k112_10 : decode (mB 112) 10 = .ok (.iconst 0, 1) := by decide +kernel
theorem k112_11 : decode (mB 112) 11 = .ok (.istore_n 2, 1) := by decide +kernel
theorem k112_12 : decode (mB 112) 12 = .ok (.iload_n 2, 1) := by decide +kernel
theorem k112_13 : decode (mB 112) 13 = .ok (.aload_n 0, 1) := by decide +kernel
theorem k112_14 : decode (mB 112) 14 = .ok (.getfield 105, 3) := by decide +kernel
theorem k112_17 : decode (mB 112) 17 = .ok (.if_icmp .ge 43, 3) := by decide +kernel
theorem k112_20 : decode (mB 112) 20 = .ok (.aload_n 0, 1) := by decide +kernel
theorem k112_21 : decode (mB 112) 21 = .ok (.getfield 37, 3) := by decide +kernel
theorem k112_24 : decode (mB 112) 24 = .ok (.bipush 8, 2) := by decide +kernel
theorem k112_26 : decode (mB 112) 26 = .ok (.iload_n 1, 1) := by decide +kernel
theorem k112_27 : decode (mB 112) 27 = .ok (.imul, 1) := by decide +kernel
theorem k112_28 : decode (mB 112) 28 = .ok (.iload_n 2, 1) := by decide +kernel
theorem k112_29 : decode (mB 112) 29 = .ok (.iadd, 1) := by decide +kernel
theorem k112_30 : decode (mB 112) 30 = .ok (.aload_n 0, 1) := by decide +kernel
theorem k112_31 : decode (mB 112) 31 = .ok (.getfield 22, 3) := by decide +kernel
theorem k112_34 : decode (mB 112) 34 = .ok (.iload_n 2, 1) := by decide +kernel
theorem k112_35 : decode (mB 112) 35 = .ok (.iaload, 1) := by decide +kernel
theorem k112_36 : decode (mB 112) 36 = .ok (.iastore, 1) := by decide +kernel
theorem k112_37 : decode (mB 112) 37 = .ok (.aload_n 0, 1) := by decide +kernel
theorem k112_38 : decode (mB 112) 38 = .ok (.getfield 40, 3) := by decide +kernel
theorem k112_41 : decode (mB 112) 41 = .ok (.bipush 8, 2) := by decide +kernel
theorem k112_43 : decode (mB 112) 43 = .ok (.iload_n 1, 1) := by decide +kernel
theorem k112_44 : decode (mB 112) 44 = .ok (.imul, 1) := by decide +kernel
theorem k112_45 : decode (mB 112) 45 = .ok (.iload_n 2, 1) := by decide +kernel
theorem k112_46 : decode (mB 112) 46 = .ok (.iadd, 1) := by decide +kernel
theorem k112_47 : decode (mB 112) 47 = .ok (.aload_n 0, 1) := by decide +kernel
theorem k112_48 : decode (mB 112) 48 = .ok (.getfield 25, 3) := by decide +kernel
theorem k112_51 : decode (mB 112) 51 = .ok (.iload_n 2, 1) := by decide +kernel
theorem k112_52 : decode (mB 112) 52 = .ok (.iaload, 1) := by decide +kernel
theorem k112_53 : decode (mB 112) 53 = .ok (.iastore, 1) := by decide +kernel
theorem k112_54 : decode (mB 112) 54 = .ok (.iinc 2 1, 3) := by decide +kernel
theorem k112_57 : decode (mB 112) 57 = .ok (.goto (-45), 3) := by decide +kernel
theorem k112_60 : decode (mB 112) 60 = .ok (.aload_n 0, 1) := by decide +kernel
theorem k112_61 : decode (mB 112) 61 = .ok (.getfield 105, 3) := by decide +kernel
theorem k112_64 : decode (mB 112) 64 = .ok (.ireturn, 1) := by decide +kernel
/-- SquareGroundsModel.keep, loop at 12 -/
noncomputable def q112_12 (v0 : Nat) (v1 : Int32) (v2 : Int32) (h : mHeap) : mR' := E 112 12 [some (.ref v0), some (.int v1), some (.int v2)] [] h
theorem q112_12_eq (v0 : Nat) (v1 : Int32) (v2 : Int32) (h : mHeap) : q112_12 v0 v1 v2 h = (gI h v0 8 5).bind fun x1 => if x1 ≤ (v2 : Int32) then ((gI h v0 8 5).bind fun x2 => some (some (.int x2), h)) else ((gR h v0 8 11).bind fun x3 => (gR h v0 8 6).bind fun x4 => (cAldI false h x4 v2).bind fun x5 => (cAstI h x3 ((8 * v1) + v2) x5).bind fun h6 => (gR h6 v0 8 12).bind fun x7 => (gR h6 v0 8 7).bind fun x8 => (cAldI false h6 x8 v2).bind fun x9 => (cAstI h6 x7 ((8 * v1) + v2) x9).bind fun h10 => q112_12 v0 v1 (v2 + 1) h10) := by
  unfold q112_12
  refine e_iload_n (pc' := 13) k112_12 rfl rfl ?_
  refine e_aload_n (pc' := 14) k112_13 rfl rfl ?_
  refine e_getI (pc' := 17) k112_14 rfl (ci := 8) (k := 5) (by decide +kernel) (by decide +kernel) (fun x1 => ?_)
  refine e_icmpge (t := 60) (pc' := 20) k112_17 rfl (by decide) (fun _ => ?_) (fun _ => ?_)
  · refine e_aload_n (pc' := 61) k112_60 rfl rfl ?_
    refine e_getI (pc' := 64) k112_61 rfl (ci := 8) (k := 5) (by decide +kernel) (by decide +kernel) (fun x2 => ?_)
    exact e_iret k112_64 (by decide +kernel)
  · refine e_aload_n (pc' := 21) k112_20 rfl rfl ?_
    refine e_getR (pc' := 24) k112_21 rfl (ci := 8) (k := 11) (by decide +kernel) (by decide +kernel) (fun x3 => ?_)
    refine e_bipush (v := 8) (pc' := 26) k112_24 rfl rfl ?_
    refine e_iload_n (pc' := 27) k112_26 rfl rfl ?_
    refine e_imul (pc' := 28) k112_27 rfl ?_
    refine e_iload_n (pc' := 29) k112_28 rfl rfl ?_
    refine e_iadd (pc' := 30) k112_29 rfl ?_
    refine e_aload_n (pc' := 31) k112_30 rfl rfl ?_
    refine e_getR (pc' := 34) k112_31 rfl (ci := 8) (k := 6) (by decide +kernel) (by decide +kernel) (fun x4 => ?_)
    refine e_iload_n (pc' := 35) k112_34 rfl rfl ?_
    refine e_iald (pc' := 36) k112_35 rfl (lw := false) rfl (fun x5 => ?_)
    refine e_iast (pc' := 37) k112_36 rfl (fun h6 => ?_)
    refine e_aload_n (pc' := 38) k112_37 rfl rfl ?_
    refine e_getR (pc' := 41) k112_38 rfl (ci := 8) (k := 12) (by decide +kernel) (by decide +kernel) (fun x7 => ?_)
    refine e_bipush (v := 8) (pc' := 43) k112_41 rfl rfl ?_
    refine e_iload_n (pc' := 44) k112_43 rfl rfl ?_
    refine e_imul (pc' := 45) k112_44 rfl ?_
    refine e_iload_n (pc' := 46) k112_45 rfl rfl ?_
    refine e_iadd (pc' := 47) k112_46 rfl ?_
    refine e_aload_n (pc' := 48) k112_47 rfl rfl ?_
    refine e_getR (pc' := 51) k112_48 rfl (ci := 8) (k := 7) (by decide +kernel) (by decide +kernel) (fun x8 => ?_)
    refine e_iload_n (pc' := 52) k112_51 rfl rfl ?_
    refine e_iald (pc' := 53) k112_52 rfl (lw := false) rfl (fun x9 => ?_)
    refine e_iast (pc' := 54) k112_53 rfl (fun h10 => ?_)
    refine e_iinc (c := 1) (pc' := 57) k112_54 rfl rfl rfl rfl ?_
    refine e_goto (pc' := 12) k112_57 (by decide) ?_
    rfl
/-- SquareGroundsModel.keep(I)I -/
theorem F112_eq (v0 : Nat) (v1 : Int32) (h : mHeap) : F 112 [.ref v0, .int v1] h = (gR h v0 8 10).bind fun x1 => (gI h v0 8 5).bind fun x2 => (cAstI h x1 v1 x2).bind fun h3 => q112_12 v0 v1 0 h3 := by
  show D 112 0 (mEnt 112 [.ref v0, .int v1]) [] h 0 0 = _
  rw [show mEnt 112 [.ref v0, .int v1] = [some (.ref v0), some (.int v1), none] from rfl]
  refine e_aload_n (pc' := 1) k112_0 rfl rfl ?_
  refine e_getR (pc' := 4) k112_1 rfl (ci := 8) (k := 10) (by decide +kernel) (by decide +kernel) (fun x1 => ?_)
  refine e_iload_n (pc' := 5) k112_4 rfl rfl ?_
  refine e_aload_n (pc' := 6) k112_5 rfl rfl ?_
  refine e_getI (pc' := 9) k112_6 rfl (ci := 8) (k := 5) (by decide +kernel) (by decide +kernel) (fun x2 => ?_)
  refine e_iast (pc' := 10) k112_9 rfl (fun h3 => ?_)
  refine e_iconst (v := 0) (pc' := 11) k112_10 rfl rfl ?_
  refine e_istore_n (pc' := 12) k112_11 rfl rfl ?_
  rfl
theorem k113_0 : decode (mB 113) 0 = .ok (.iconst 0, 1) := by decide +kernel
theorem k113_1 : decode (mB 113) 1 = .ok (.istore_n 3, 1) := by decide +kernel
theorem k113_2 : decode (mB 113) 2 = .ok (.iconst 0, 1) := by decide +kernel
theorem k113_3 : decode (mB 113) 3 = .ok (.istore 4, 2) := by decide +kernel
theorem k113_5 : decode (mB 113) 5 = .ok (.iload 4, 2) := by decide +kernel
theorem k113_7 : decode (mB 113) 7 = .ok (.iload_n 2, 1) := by decide +kernel
theorem k113_8 : decode (mB 113) 8 = .ok (.if_icmp .ge 46, 3) := by decide +kernel
theorem k113_11 : decode (mB 113) 11 = .ok (.aload_n 0, 1) := by decide +kernel
theorem k113_12 : decode (mB 113) 12 = .ok (.getfield 16, 3) := by decide +kernel
theorem k113_15 : decode (mB 113) 15 = .ok (.bipush 8, 2) := by decide +kernel
theorem k113_17 : decode (mB 113) 17 = .ok (.iload_n 1, 1) := by decide +kernel
theorem k113_18 : decode (mB 113) 18 = .ok (.imul, 1) := by decide +kernel
theorem k113_19 : decode (mB 113) 19 = .ok (.iload 4, 2) := by decide +kernel
theorem k113_21 : decode (mB 113) 21 = .ok (.iadd, 1) := by decide +kernel
theorem k113_22 : decode (mB 113) 22 = .ok (.iaload, 1) := by decide +kernel
theorem k113_23 : decode (mB 113) 23 = .ok (.istore 5, 2) := by decide +kernel
theorem k113_25 : decode (mB 113) 25 = .ok (.iload_n 3, 1) := by decide +kernel
theorem k113_26 : decode (mB 113) 26 = .ok (.iload 5, 2) := by decide +kernel
theorem k113_28 : decode (mB 113) 28 = .ok (.iconst 0, 1) := by decide +kernel
theorem k113_29 : decode (mB 113) 29 = .ok (.iload_n 2, 1) := by decide +kernel
theorem k113_30 : decode (mB 113) 30 = .ok (.iconst 1, 1) := by decide +kernel
theorem k113_31 : decode (mB 113) 31 = .ok (.isub, 1) := by decide +kernel
theorem k113_32 : decode (mB 113) 32 = .ok (.invokestatic 90, 3) := by decide +kernel
theorem k113_35 : decode (mB 113) 35 = .ok (.ifCond .eq 10, 3) := by decide +kernel
theorem k113_38 : decode (mB 113) 38 = .ok (.iconst 1, 1) := by decide +kernel
theorem k113_39 : decode (mB 113) 39 = .ok (.iload 5, 2) := by decide +kernel
theorem k113_41 : decode (mB 113) 41 = .ok (.ishl, 1) := by decide +kernel
theorem k113_42 : decode (mB 113) 42 = .ok (.goto 4, 3) := by decide +kernel
theorem k113_45 : decode (mB 113) 45 = .ok (.iconst 0, 1) := by decide +kernel
theorem k113_46 : decode (mB 113) 46 = .ok (.ior, 1) := by decide +kernel
theorem k113_47 : decode (mB 113) 47 = .ok (.istore_n 3, 1) := by decide +kernel
theorem k113_48 : decode (mB 113) 48 = .ok (.iinc 4 1, 3) := by decide +kernel
theorem k113_51 : decode (mB 113) 51 = .ok (.goto (-46), 3) := by decide +kernel
theorem k113_54 : decode (mB 113) 54 = .ok (.iload_n 3, 1) := by decide +kernel
theorem k113_55 : decode (mB 113) 55 = .ok (.iconst 1, 1) := by decide +kernel
theorem k113_56 : decode (mB 113) 56 = .ok (.iload_n 2, 1) := by decide +kernel
theorem k113_57 : decode (mB 113) 57 = .ok (.ishl, 1) := by decide +kernel
theorem k113_58 : decode (mB 113) 58 = .ok (.iconst 1, 1) := by decide +kernel
theorem k113_59 : decode (mB 113) 59 = .ok (.isub, 1) := by decide +kernel
theorem k113_60 : decode (mB 113) 60 = .ok (.if_icmp .ne 7, 3) := by decide +kernel
theorem k113_63 : decode (mB 113) 63 = .ok (.iconst 1, 1) := by decide +kernel
theorem k113_64 : decode (mB 113) 64 = .ok (.goto 4, 3) := by decide +kernel
theorem k113_67 : decode (mB 113) 67 = .ok (.iconst 0, 1) := by decide +kernel
theorem k113_68 : decode (mB 113) 68 = .ok (.ireturn, 1) := by decide +kernel
/-- SquareGroundsModel.isWhole, loop at 5 -/
noncomputable def q113_5 (v0 : Nat) (v1 : Int32) (v2 : Int32) (v3 : Int32) (v4 : Int32) (d5 : Option Value) (h : mHeap) : mR' := E 113 5 [some (.ref v0), some (.int v1), some (.int v2), some (.int v3), some (.int v4), d5] [] h
theorem q113_5_eq (v0 : Nat) (v1 : Int32) (v2 : Int32) (v3 : Int32) (v4 : Int32) (d5 : Option Value) (h : mHeap) : q113_5 v0 v1 v2 v3 v4 d5 h = if v2 ≤ (v4 : Int32) then (if ¬ (v3 : Int32) = ((1 <<< (v2 &&& 31)) - 1) then (if narrow .boolean (.int 0) = .int 0 then some (some (.int 0), h) else none) else (if narrow .boolean (.int 1) = .int 1 then some (some (.int 1), h) else none)) else ((gR h v0 8 3).bind fun x1 => (cAldI false h x1 ((8 * v1) + v4)).bind fun x2 => (sI 100 [.int x2, .int 0, .int (v2 - 1)] h).bind fun q3 => if (q3.1 : Int32) = 0 then (q113_5 v0 v1 v2 (v3 ||| 0) (v4 + 1) (some (.int x2)) q3.2) else (q113_5 v0 v1 v2 (v3 ||| (1 <<< (x2 &&& 31))) (v4 + 1) (some (.int x2)) q3.2)) := by
  unfold q113_5
  refine e_iload (pc' := 7) k113_5 rfl rfl ?_
  refine e_iload_n (pc' := 8) k113_7 rfl rfl ?_
  refine e_icmpge (t := 54) (pc' := 11) k113_8 rfl (by decide) (fun _ => ?_) (fun _ => ?_)
  · refine e_iload_n (pc' := 55) k113_54 rfl rfl ?_
    refine e_iconst (v := 1) (pc' := 56) k113_55 rfl rfl ?_
    refine e_iload_n (pc' := 57) k113_56 rfl rfl ?_
    refine e_ishl (pc' := 58) k113_57 rfl ?_
    refine e_iconst (v := 1) (pc' := 59) k113_58 rfl rfl ?_
    refine e_isub (pc' := 60) k113_59 rfl ?_
    refine e_icmpne (t := 67) (pc' := 63) k113_60 rfl (by decide) (fun _ => ?_) (fun _ => ?_)
    · refine e_iconst (v := 0) (pc' := 68) k113_67 rfl rfl ?_
      exact e_zret k113_68 (by decide +kernel)
    · refine e_iconst (v := 1) (pc' := 64) k113_63 rfl rfl ?_
      refine e_goto (pc' := 68) k113_64 (by decide) ?_
      exact e_zret k113_68 (by decide +kernel)
  · refine e_aload_n (pc' := 12) k113_11 rfl rfl ?_
    refine e_getR (pc' := 15) k113_12 rfl (ci := 8) (k := 3) (by decide +kernel) (by decide +kernel) (fun x1 => ?_)
    refine e_bipush (v := 8) (pc' := 17) k113_15 rfl rfl ?_
    refine e_iload_n (pc' := 18) k113_17 rfl rfl ?_
    refine e_imul (pc' := 19) k113_18 rfl ?_
    refine e_iload (pc' := 21) k113_19 rfl rfl ?_
    refine e_iadd (pc' := 22) k113_21 rfl ?_
    refine e_iald (pc' := 23) k113_22 rfl (lw := false) rfl (fun x2 => ?_)
    refine e_istore (pc' := 25) k113_23 rfl rfl ?_
    refine e_iload_n (pc' := 26) k113_25 rfl rfl ?_
    refine e_iload (pc' := 28) k113_26 rfl rfl ?_
    refine e_iconst (v := 0) (pc' := 29) k113_28 rfl rfl ?_
    refine e_iload_n (pc' := 30) k113_29 rfl rfl ?_
    refine e_iconst (v := 1) (pc' := 31) k113_30 rfl rfl ?_
    refine e_isub (pc' := 32) k113_31 rfl ?_
    refine e_sI (j' := 100) (as := [.int x2, .int 0, .int (v2 - 1)]) (rest := [.int v3]) (pc' := 35) k113_32 rfl (show mCk 113 0 90 100 3 = true by decide +kernel) (Or.inr (by decide +kernel)) rfl (Nat.le_of_ble_eq_true rfl) (show 3 ≤ mL 100 by decide +kernel) (fun q3 => ?_)
    refine e_ifeq (t := 45) (pc' := 38) k113_35 rfl (by decide) (fun _ => ?_) (fun _ => ?_)
    · refine e_iconst (v := 0) (pc' := 46) k113_45 rfl rfl ?_
      refine e_ior (pc' := 47) k113_46 rfl ?_
      refine e_istore_n (pc' := 48) k113_47 rfl rfl ?_
      refine e_iinc (c := 1) (pc' := 51) k113_48 rfl rfl rfl rfl ?_
      refine e_goto (pc' := 5) k113_51 (by decide) ?_
      rfl
    · refine e_iconst (v := 1) (pc' := 39) k113_38 rfl rfl ?_
      refine e_iload (pc' := 41) k113_39 rfl rfl ?_
      refine e_ishl (pc' := 42) k113_41 rfl ?_
      refine e_goto (pc' := 46) k113_42 (by decide) ?_
      refine e_ior (pc' := 47) k113_46 rfl ?_
      refine e_istore_n (pc' := 48) k113_47 rfl rfl ?_
      refine e_iinc (c := 1) (pc' := 51) k113_48 rfl rfl rfl rfl ?_
      refine e_goto (pc' := 5) k113_51 (by decide) ?_
      rfl
/-- SquareGroundsModel.isWhole(II)Z -/
theorem F113_eq (v0 : Nat) (v1 : Int32) (v2 : Int32) (h : mHeap) : F 113 [.ref v0, .int v1, .int v2] h = q113_5 v0 v1 v2 0 0 none h := by
  show D 113 0 (mEnt 113 [.ref v0, .int v1, .int v2]) [] h 0 0 = _
  rw [show mEnt 113 [.ref v0, .int v1, .int v2] = [some (.ref v0), some (.int v1), some (.int v2), none, none, none] from rfl]
  refine e_iconst (v := 0) (pc' := 1) k113_0 rfl rfl ?_
  refine e_istore_n (pc' := 2) k113_1 rfl rfl ?_
  refine e_iconst (v := 0) (pc' := 3) k113_2 rfl rfl ?_
  refine e_istore (pc' := 5) k113_3 rfl rfl ?_
  rfl
theorem k114_0 : decode (mB 114) 0 = .ok (.iconst 0, 1) := by decide +kernel
theorem k114_1 : decode (mB 114) 1 = .ok (.istore_n 2, 1) := by decide +kernel
theorem k114_2 : decode (mB 114) 2 = .ok (.iload_n 2, 1) := by decide +kernel
theorem k114_3 : decode (mB 114) 3 = .ok (.aload_n 0, 1) := by decide +kernel
theorem k114_4 : decode (mB 114) 4 = .ok (.getfield 105, 3) := by decide +kernel
theorem k114_7 : decode (mB 114) 7 = .ok (.if_icmp .ge 17, 3) := by decide +kernel
theorem k114_10 : decode (mB 114) 10 = .ok (.aload_n 0, 1) := by decide +kernel
theorem k114_11 : decode (mB 114) 11 = .ok (.getfield 43, 3) := by decide +kernel
theorem k114_14 : decode (mB 114) 14 = .ok (.iload_n 2, 1) := by decide +kernel
theorem k114_15 : decode (mB 114) 15 = .ok (.bipush (-9), 2) := by decide +kernel
theorem k114_17 : decode (mB 114) 17 = .ok (.iastore, 1) := by decide +kernel
theorem k114_18 : decode (mB 114) 18 = .ok (.iinc 2 1, 3) := by decide +kernel
theorem k114_21 : decode (mB 114) 21 = .ok (.goto (-19), 3) := by decide +kernel
theorem k114_24 : decode (mB 114) 24 = .ok (.aload_n 0, 1) := by decide +kernel
theorem k114_25 : decode (mB 114) 25 = .ok (.getfield 43, 3) := by decide +kernel
theorem k114_28 : decode (mB 114) 28 = .ok (.iload_n 1, 1) := by decide +kernel
theorem k114_29 : decode (mB 114) 29 = .ok (.iconst 0, 1) := by decide +kernel
theorem k114_30 : decode (mB 114) 30 = .ok (.iastore, 1) := by decide +kernel
theorem k114_31 : decode (mB 114) 31 = .ok (.aload_n 0, 1) := by decide +kernel
theorem k114_32 : decode (mB 114) 32 = .ok (.getfield 46, 3) := by decide +kernel
theorem k114_35 : decode (mB 114) 35 = .ok (.iconst 0, 1) := by decide +kernel
theorem k114_36 : decode (mB 114) 36 = .ok (.iload_n 1, 1) := by decide +kernel
theorem k114_37 : decode (mB 114) 37 = .ok (.iastore, 1) := by decide +kernel
theorem k114_38 : decode (mB 114) 38 = .ok (.iconst 1, 1) := by decide +kernel
theorem k114_39 : decode (mB 114) 39 = .ok (.istore_n 2, 1) := by decide +kernel
theorem k114_40 : decode (mB 114) 40 = .ok (.iconst 0, 1) := by decide +kernel
theorem k114_41 : decode (mB 114) 41 = .ok (.istore_n 3, 1) := by decide +kernel
theorem k114_42 : decode (mB 114) 42 = .ok (.iload_n 3, 1) := by decide +kernel
theorem k114_43 : decode (mB 114) 43 = .ok (.iload_n 2, 1) := by decide +kernel
theorem k114_44 : decode (mB 114) 44 = .ok (.if_icmp .ge 87, 3) := by decide +kernel
theorem k114_47 : decode (mB 114) 47 = .ok (.iconst 0, 1) := by decide +kernel
theorem k114_48 : decode (mB 114) 48 = .ok (.istore 4, 2) := by decide +kernel
theorem k114_50 : decode (mB 114) 50 = .ok (.iload 4, 2) := by decide +kernel
theorem k114_52 : decode (mB 114) 52 = .ok (.iconst 2, 1) := by decide +kernel
theorem k114_53 : decode (mB 114) 53 = .ok (.if_icmp .ge 72, 3) := by decide +kernel
theorem k114_56 : decode (mB 114) 56 = .ok (.iload 4, 2) := by decide +kernel
theorem k114_58 : decode (mB 114) 58 = .ok (.ifCond .ne 17, 3) := by decide +kernel
theorem k114_61 : decode (mB 114) 61 = .ok (.aload_n 0, 1) := by decide +kernel
theorem k114_62 : decode (mB 114) 62 = .ok (.getfield 22, 3) := by decide +kernel
theorem k114_65 : decode (mB 114) 65 = .ok (.aload_n 0, 1) := by decide +kernel
theorem k114_66 : decode (mB 114) 66 = .ok (.getfield 46, 3) := by decide +kernel
theorem k114_69 : decode (mB 114) 69 = .ok (.iload_n 3, 1) := by decide +kernel
theorem k114_70 : decode (mB 114) 70 = .ok (.iaload, 1) := by decide +kernel
theorem k114_71 : decode (mB 114) 71 = .ok (.iaload, 1) := by decide +kernel
theorem k114_72 : decode (mB 114) 72 = .ok (.goto 14, 3) := by decide +kernel
theorem k114_75 : decode (mB 114) 75 = .ok (.aload_n 0, 1) := by decide +kernel
theorem k114_76 : decode (mB 114) 76 = .ok (.getfield 25, 3) := by decide +kernel
theorem k114_79 : decode (mB 114) 79 = .ok (.aload_n 0, 1) := by decide +kernel
theorem k114_80 : decode (mB 114) 80 = .ok (.getfield 46, 3) := by decide +kernel
theorem k114_83 : decode (mB 114) 83 = .ok (.iload_n 3, 1) := by decide +kernel
theorem k114_84 : decode (mB 114) 84 = .ok (.iaload, 1) := by decide +kernel
theorem k114_85 : decode (mB 114) 85 = .ok (.iaload, 1) := by decide +kernel
theorem k114_86 : decode (mB 114) 86 = .ok (.istore 5, 2) := by decide +kernel
theorem k114_88 : decode (mB 114) 88 = .ok (.aload_n 0, 1) := by decide +kernel
theorem k114_89 : decode (mB 114) 89 = .ok (.getfield 43, 3) := by decide +kernel
theorem k114_92 : decode (mB 114) 92 = .ok (.iload 5, 2) := by decide +kernel
theorem k114_94 : decode (mB 114) 94 = .ok (.iaload, 1) := by decide +kernel
theorem k114_95 : decode (mB 114) 95 = .ok (.bipush (-9), 2) := by decide +kernel
theorem k114_97 : decode (mB 114) 97 = .ok (.if_icmp .ne 22, 3) := by decide +kernel
theorem k114_100 : decode (mB 114) 100 = .ok (.aload_n 0, 1) := by decide +kernel
theorem k114_101 : decode (mB 114) 101 = .ok (.getfield 43, 3) := by decide +kernel
theorem k114_104 : decode (mB 114) 104 = .ok (.iload 5, 2) := by decide +kernel
theorem k114_106 : decode (mB 114) 106 = .ok (.iload_n 2, 1) := by decide +kernel
theorem k114_107 : decode (mB 114) 107 = .ok (.iastore, 1) := by decide +kernel
theorem k114_108 : decode (mB 114) 108 = .ok (.aload_n 0, 1) := by decide +kernel
theorem k114_109 : decode (mB 114) 109 = .ok (.getfield 46, 3) := by decide +kernel
theorem k114_112 : decode (mB 114) 112 = .ok (.iload_n 2, 1) := by decide +kernel
theorem k114_113 : decode (mB 114) 113 = .ok (.iload 5, 2) := by decide +kernel
theorem k114_115 : decode (mB 114) 115 = .ok (.iastore, 1) := by decide +kernel
theorem k114_116 : decode (mB 114) 116 = .ok (.iinc 2 1, 3) := by decide +kernel
theorem k114_119 : decode (mB 114) 119 = .ok (.iinc 4 1, 3) := by decide +kernel
theorem k114_122 : decode (mB 114) 122 = .ok (.goto (-72), 3) := by decide +kernel
theorem k114_125 : decode (mB 114) 125 = .ok (.iinc 3 1, 3) := by decide +kernel
theorem k114_128 : decode (mB 114) 128 = .ok (.goto (-86), 3) := by decide +kernel
theorem k114_131 : decode (mB 114) 131 = .ok (.iload_n 2, 1) := by decide +kernel
theorem k114_132 : decode (mB 114) 132 = .ok (.ireturn, 1) := by decide +kernel
/-- SquareGroundsModel.numbered, loop at 2 -/
noncomputable def q114_2 (v0 : Nat) (v1 : Int32) (v2 : Int32) (h : mHeap) : mR' := E 114 2 [some (.ref v0), some (.int v1), some (.int v2), none, none, none] [] h
/-- SquareGroundsModel.numbered, loop at 42 -/
noncomputable def q114_42 (v0 : Nat) (v1 : Int32) (v2 : Int32) (v3 : Int32) (d4 : Option Value) (d5 : Option Value) (h : mHeap) : mR' := E 114 42 [some (.ref v0), some (.int v1), some (.int v2), some (.int v3), d4, d5] [] h
/-- SquareGroundsModel.numbered, loop at 50 -/
noncomputable def q114_50 (v0 : Nat) (v1 : Int32) (v2 : Int32) (v3 : Int32) (v4 : Int32) (d5 : Option Value) (h : mHeap) : mR' := E 114 50 [some (.ref v0), some (.int v1), some (.int v2), some (.int v3), some (.int v4), d5] [] h
theorem q114_2_eq (v0 : Nat) (v1 : Int32) (v2 : Int32) (h : mHeap) : q114_2 v0 v1 v2 h = (gI h v0 8 5).bind fun x1 => if x1 ≤ (v2 : Int32) then ((gR h v0 8 13).bind fun x2 => (cAstI h x2 v1 0).bind fun h3 => (gR h3 v0 8 14).bind fun x4 => (cAstI h3 x4 0 v1).bind fun h5 => q114_42 v0 v1 1 0 none none h5) else ((gR h v0 8 13).bind fun x6 => (cAstI h x6 v2 (-9)).bind fun h7 => q114_2 v0 v1 (v2 + 1) h7) := by
  unfold q114_2
  refine e_iload_n (pc' := 3) k114_2 rfl rfl ?_
  refine e_aload_n (pc' := 4) k114_3 rfl rfl ?_
  refine e_getI (pc' := 7) k114_4 rfl (ci := 8) (k := 5) (by decide +kernel) (by decide +kernel) (fun x1 => ?_)
  refine e_icmpge (t := 24) (pc' := 10) k114_7 rfl (by decide) (fun _ => ?_) (fun _ => ?_)
  · refine e_aload_n (pc' := 25) k114_24 rfl rfl ?_
    refine e_getR (pc' := 28) k114_25 rfl (ci := 8) (k := 13) (by decide +kernel) (by decide +kernel) (fun x2 => ?_)
    refine e_iload_n (pc' := 29) k114_28 rfl rfl ?_
    refine e_iconst (v := 0) (pc' := 30) k114_29 rfl rfl ?_
    refine e_iast (pc' := 31) k114_30 rfl (fun h3 => ?_)
    refine e_aload_n (pc' := 32) k114_31 rfl rfl ?_
    refine e_getR (pc' := 35) k114_32 rfl (ci := 8) (k := 14) (by decide +kernel) (by decide +kernel) (fun x4 => ?_)
    refine e_iconst (v := 0) (pc' := 36) k114_35 rfl rfl ?_
    refine e_iload_n (pc' := 37) k114_36 rfl rfl ?_
    refine e_iast (pc' := 38) k114_37 rfl (fun h5 => ?_)
    refine e_iconst (v := 1) (pc' := 39) k114_38 rfl rfl ?_
    refine e_istore_n (pc' := 40) k114_39 rfl rfl ?_
    refine e_iconst (v := 0) (pc' := 41) k114_40 rfl rfl ?_
    refine e_istore_n (pc' := 42) k114_41 rfl rfl ?_
    rfl
  · refine e_aload_n (pc' := 11) k114_10 rfl rfl ?_
    refine e_getR (pc' := 14) k114_11 rfl (ci := 8) (k := 13) (by decide +kernel) (by decide +kernel) (fun x6 => ?_)
    refine e_iload_n (pc' := 15) k114_14 rfl rfl ?_
    refine e_bipush (v := -9) (pc' := 17) k114_15 rfl rfl ?_
    refine e_iast (pc' := 18) k114_17 rfl (fun h7 => ?_)
    refine e_iinc (c := 1) (pc' := 21) k114_18 rfl rfl rfl rfl ?_
    refine e_goto (pc' := 2) k114_21 (by decide) ?_
    rfl
theorem q114_42_eq (v0 : Nat) (v1 : Int32) (v2 : Int32) (v3 : Int32) (d4 : Option Value) (d5 : Option Value) (h : mHeap) : q114_42 v0 v1 v2 v3 d4 d5 h = if v2 ≤ (v3 : Int32) then (some (some (.int v2), h)) else (q114_50 v0 v1 v2 v3 0 d5 h) := by
  unfold q114_42
  refine e_iload_n (pc' := 43) k114_42 rfl rfl ?_
  refine e_iload_n (pc' := 44) k114_43 rfl rfl ?_
  refine e_icmpge (t := 131) (pc' := 47) k114_44 rfl (by decide) (fun _ => ?_) (fun _ => ?_)
  · refine e_iload_n (pc' := 132) k114_131 rfl rfl ?_
    exact e_iret k114_132 (by decide +kernel)
  · refine e_iconst (v := 0) (pc' := 48) k114_47 rfl rfl ?_
    refine e_istore (pc' := 50) k114_48 rfl rfl ?_
    rfl
theorem q114_50_eq (v0 : Nat) (v1 : Int32) (v2 : Int32) (v3 : Int32) (v4 : Int32) (d5 : Option Value) (h : mHeap) : q114_50 v0 v1 v2 v3 v4 d5 h = if 2 ≤ (v4 : Int32) then (q114_42 v0 v1 v2 (v3 + 1) (some (.int v4)) d5 h) else (if ¬ (v4 : Int32) = 0 then ((gR h v0 8 7).bind fun x1 => (gR h v0 8 14).bind fun x2 => (cAldI false h x2 v3).bind fun x3 => (cAldI false h x1 x3).bind fun x4 => (gR h v0 8 13).bind fun x5 => (cAldI false h x5 x4).bind fun x6 => if ¬ (x6 : Int32) = (-9) then (q114_50 v0 v1 v2 v3 (v4 + 1) (some (.int x4)) h) else ((gR h v0 8 13).bind fun x7 => (cAstI h x7 x4 v2).bind fun h8 => (gR h8 v0 8 14).bind fun x9 => (cAstI h8 x9 v2 x4).bind fun h10 => q114_50 v0 v1 (v2 + 1) v3 (v4 + 1) (some (.int x4)) h10)) else ((gR h v0 8 6).bind fun x11 => (gR h v0 8 14).bind fun x12 => (cAldI false h x12 v3).bind fun x13 => (cAldI false h x11 x13).bind fun x14 => (gR h v0 8 13).bind fun x15 => (cAldI false h x15 x14).bind fun x16 => if ¬ (x16 : Int32) = (-9) then (q114_50 v0 v1 v2 v3 (v4 + 1) (some (.int x14)) h) else ((gR h v0 8 13).bind fun x17 => (cAstI h x17 x14 v2).bind fun h18 => (gR h18 v0 8 14).bind fun x19 => (cAstI h18 x19 v2 x14).bind fun h20 => q114_50 v0 v1 (v2 + 1) v3 (v4 + 1) (some (.int x14)) h20))) := by
  unfold q114_50
  refine e_iload (pc' := 52) k114_50 rfl rfl ?_
  refine e_iconst (v := 2) (pc' := 53) k114_52 rfl rfl ?_
  refine e_icmpge (t := 125) (pc' := 56) k114_53 rfl (by decide) (fun _ => ?_) (fun _ => ?_)
  · refine e_iinc (c := 1) (pc' := 128) k114_125 rfl rfl rfl rfl ?_
    refine e_goto (pc' := 42) k114_128 (by decide) ?_
    rfl
  · refine e_iload (pc' := 58) k114_56 rfl rfl ?_
    refine e_ifne (t := 75) (pc' := 61) k114_58 rfl (by decide) (fun _ => ?_) (fun _ => ?_)
    · refine e_aload_n (pc' := 76) k114_75 rfl rfl ?_
      refine e_getR (pc' := 79) k114_76 rfl (ci := 8) (k := 7) (by decide +kernel) (by decide +kernel) (fun x1 => ?_)
      refine e_aload_n (pc' := 80) k114_79 rfl rfl ?_
      refine e_getR (pc' := 83) k114_80 rfl (ci := 8) (k := 14) (by decide +kernel) (by decide +kernel) (fun x2 => ?_)
      refine e_iload_n (pc' := 84) k114_83 rfl rfl ?_
      refine e_iald (pc' := 85) k114_84 rfl (lw := false) rfl (fun x3 => ?_)
      refine e_iald (pc' := 86) k114_85 rfl (lw := false) rfl (fun x4 => ?_)
      refine e_istore (pc' := 88) k114_86 rfl rfl ?_
      refine e_aload_n (pc' := 89) k114_88 rfl rfl ?_
      refine e_getR (pc' := 92) k114_89 rfl (ci := 8) (k := 13) (by decide +kernel) (by decide +kernel) (fun x5 => ?_)
      refine e_iload (pc' := 94) k114_92 rfl rfl ?_
      refine e_iald (pc' := 95) k114_94 rfl (lw := false) rfl (fun x6 => ?_)
      refine e_bipush (v := -9) (pc' := 97) k114_95 rfl rfl ?_
      refine e_icmpne (t := 119) (pc' := 100) k114_97 rfl (by decide) (fun _ => ?_) (fun _ => ?_)
      · refine e_iinc (c := 1) (pc' := 122) k114_119 rfl rfl rfl rfl ?_
        refine e_goto (pc' := 50) k114_122 (by decide) ?_
        rfl
      · refine e_aload_n (pc' := 101) k114_100 rfl rfl ?_
        refine e_getR (pc' := 104) k114_101 rfl (ci := 8) (k := 13) (by decide +kernel) (by decide +kernel) (fun x7 => ?_)
        refine e_iload (pc' := 106) k114_104 rfl rfl ?_
        refine e_iload_n (pc' := 107) k114_106 rfl rfl ?_
        refine e_iast (pc' := 108) k114_107 rfl (fun h8 => ?_)
        refine e_aload_n (pc' := 109) k114_108 rfl rfl ?_
        refine e_getR (pc' := 112) k114_109 rfl (ci := 8) (k := 14) (by decide +kernel) (by decide +kernel) (fun x9 => ?_)
        refine e_iload_n (pc' := 113) k114_112 rfl rfl ?_
        refine e_iload (pc' := 115) k114_113 rfl rfl ?_
        refine e_iast (pc' := 116) k114_115 rfl (fun h10 => ?_)
        refine e_iinc (c := 1) (pc' := 119) k114_116 rfl rfl rfl rfl ?_
        refine e_iinc (c := 1) (pc' := 122) k114_119 rfl rfl rfl rfl ?_
        refine e_goto (pc' := 50) k114_122 (by decide) ?_
        rfl
    · refine e_aload_n (pc' := 62) k114_61 rfl rfl ?_
      refine e_getR (pc' := 65) k114_62 rfl (ci := 8) (k := 6) (by decide +kernel) (by decide +kernel) (fun x11 => ?_)
      refine e_aload_n (pc' := 66) k114_65 rfl rfl ?_
      refine e_getR (pc' := 69) k114_66 rfl (ci := 8) (k := 14) (by decide +kernel) (by decide +kernel) (fun x12 => ?_)
      refine e_iload_n (pc' := 70) k114_69 rfl rfl ?_
      refine e_iald (pc' := 71) k114_70 rfl (lw := false) rfl (fun x13 => ?_)
      refine e_iald (pc' := 72) k114_71 rfl (lw := false) rfl (fun x14 => ?_)
      refine e_goto (pc' := 86) k114_72 (by decide) ?_
      refine e_istore (pc' := 88) k114_86 rfl rfl ?_
      refine e_aload_n (pc' := 89) k114_88 rfl rfl ?_
      refine e_getR (pc' := 92) k114_89 rfl (ci := 8) (k := 13) (by decide +kernel) (by decide +kernel) (fun x15 => ?_)
      refine e_iload (pc' := 94) k114_92 rfl rfl ?_
      refine e_iald (pc' := 95) k114_94 rfl (lw := false) rfl (fun x16 => ?_)
      refine e_bipush (v := -9) (pc' := 97) k114_95 rfl rfl ?_
      refine e_icmpne (t := 119) (pc' := 100) k114_97 rfl (by decide) (fun _ => ?_) (fun _ => ?_)
      · refine e_iinc (c := 1) (pc' := 122) k114_119 rfl rfl rfl rfl ?_
        refine e_goto (pc' := 50) k114_122 (by decide) ?_
        rfl
      · refine e_aload_n (pc' := 101) k114_100 rfl rfl ?_
        refine e_getR (pc' := 104) k114_101 rfl (ci := 8) (k := 13) (by decide +kernel) (by decide +kernel) (fun x17 => ?_)
        refine e_iload (pc' := 106) k114_104 rfl rfl ?_
        refine e_iload_n (pc' := 107) k114_106 rfl rfl ?_
        refine e_iast (pc' := 108) k114_107 rfl (fun h18 => ?_)
        refine e_aload_n (pc' := 109) k114_108 rfl rfl ?_
        refine e_getR (pc' := 112) k114_109 rfl (ci := 8) (k := 14) (by decide +kernel) (by decide +kernel) (fun x19 => ?_)
        refine e_iload_n (pc' := 113) k114_112 rfl rfl ?_
        refine e_iload (pc' := 115) k114_113 rfl rfl ?_
        refine e_iast (pc' := 116) k114_115 rfl (fun h20 => ?_)
        refine e_iinc (c := 1) (pc' := 119) k114_116 rfl rfl rfl rfl ?_
        refine e_iinc (c := 1) (pc' := 122) k114_119 rfl rfl rfl rfl ?_
        refine e_goto (pc' := 50) k114_122 (by decide) ?_
        rfl
/-- SquareGroundsModel.numbered(I)I -/
theorem F114_eq (v0 : Nat) (v1 : Int32) (h : mHeap) : F 114 [.ref v0, .int v1] h = q114_2 v0 v1 0 h := by
  show D 114 0 (mEnt 114 [.ref v0, .int v1]) [] h 0 0 = _
  rw [show mEnt 114 [.ref v0, .int v1] = [some (.ref v0), some (.int v1), none, none, none, none] from rfl]
  refine e_iconst (v := 0) (pc' := 1) k114_0 rfl rfl ?_
  refine e_istore_n (pc' := 2) k114_1 rfl rfl ?_
  rfl
theorem k115_0 : decode (mB 115) 0 = .ok (.iload_n 1, 1) := by decide +kernel
theorem k115_1 : decode (mB 115) 1 = .ok (.invokestatic 108, 3) := by decide +kernel
theorem k115_4 : decode (mB 115) 4 = .ok (.ifCond .eq 17, 3) := by decide +kernel
theorem k115_7 : decode (mB 115) 7 = .ok (.iload_n 2, 1) := by decide +kernel
theorem k115_8 : decode (mB 115) 8 = .ok (.invokestatic 94, 3) := by decide +kernel
theorem k115_11 : decode (mB 115) 11 = .ok (.ifCond .eq 10, 3) := by decide +kernel
theorem k115_14 : decode (mB 115) 14 = .ok (.iload_n 3, 1) := by decide +kernel
theorem k115_15 : decode (mB 115) 15 = .ok (.invokestatic 94, 3) := by decide +kernel
theorem k115_18 : decode (mB 115) 18 = .ok (.ifCond .ne 5, 3) := by decide +kernel
theorem k115_21 : decode (mB 115) 21 = .ok (.iconst (-1), 1) := by decide +kernel
theorem k115_22 : decode (mB 115) 22 = .ok (.ireturn, 1) := by decide +kernel
theorem k115_23 : decode (mB 115) 23 = .ok (.aload_n 0, 1) := by decide +kernel
theorem k115_24 : decode (mB 115) 24 = .ok (.getfield 13, 3) := by decide +kernel
theorem k115_27 : decode (mB 115) 27 = .ok (.iload_n 2, 1) := by decide +kernel
theorem k115_28 : decode (mB 115) 28 = .ok (.iaload, 1) := by decide +kernel
theorem k115_29 : decode (mB 115) 29 = .ok (.ifCond .lt 12, 3) := by decide +kernel
theorem k115_32 : decode (mB 115) 32 = .ok (.aload_n 0, 1) := by decide +kernel
theorem k115_33 : decode (mB 115) 33 = .ok (.getfield 13, 3) := by decide +kernel
theorem k115_36 : decode (mB 115) 36 = .ok (.iload_n 3, 1) := by decide +kernel
theorem k115_37 : decode (mB 115) 37 = .ok (.iaload, 1) := by decide +kernel
theorem k115_38 : decode (mB 115) 38 = .ok (.ifCond .ge 9, 3) := by decide +kernel
theorem k115_41 : decode (mB 115) 41 = .ok (.aload_n 0, 1) := by decide +kernel
theorem k115_42 : decode (mB 115) 42 = .ok (.iconst 1, 1) := by decide +kernel
theorem k115_43 : decode (mB 115) 43 = .ok (.invokevirtual 98, 3) := by decide +kernel
theorem k115_46 : decode (mB 115) 46 = .ok (.ireturn, 1) := by decide +kernel
theorem k115_47 : decode (mB 115) 47 = .ok (.aload_n 0, 1) := by decide +kernel
theorem k115_48 : decode (mB 115) 48 = .ok (.getfield 13, 3) := by decide +kernel
theorem k115_51 : decode (mB 115) 51 = .ok (.iload_n 2, 1) := by decide +kernel
theorem k115_52 : decode (mB 115) 52 = .ok (.iaload, 1) := by decide +kernel
theorem k115_53 : decode (mB 115) 53 = .ok (.istore 4, 2) := by decide +kernel
theorem k115_55 : decode (mB 115) 55 = .ok (.iload 4, 2) := by decide +kernel
theorem k115_57 : decode (mB 115) 57 = .ok (.aload_n 0, 1) := by decide +kernel
theorem k115_58 : decode (mB 115) 58 = .ok (.getfield 13, 3) := by decide +kernel
theorem k115_61 : decode (mB 115) 61 = .ok (.iload_n 3, 1) := by decide +kernel
theorem k115_62 : decode (mB 115) 62 = .ok (.iaload, 1) := by decide +kernel
theorem k115_63 : decode (mB 115) 63 = .ok (.if_icmp .ne 28, 3) := by decide +kernel
theorem k115_66 : decode (mB 115) 66 = .ok (.iload 4, 2) := by decide +kernel
theorem k115_68 : decode (mB 115) 68 = .ok (.ifCond .eq 23, 3) := by decide +kernel
theorem k115_71 : decode (mB 115) 71 = .ok (.aload_n 0, 1) := by decide +kernel
theorem k115_72 : decode (mB 115) 72 = .ok (.iload_n 2, 1) := by decide +kernel
theorem k115_73 : decode (mB 115) 73 = .ok (.iload 4, 2) := by decide +kernel
theorem k115_75 : decode (mB 115) 75 = .ok (.invokevirtual 118, 3) := by decide +kernel
theorem k115_78 : decode (mB 115) 78 = .ok (.ifCond .eq 13, 3) := by decide +kernel
theorem k115_81 : decode (mB 115) 81 = .ok (.aload_n 0, 1) := by decide +kernel
theorem k115_82 : decode (mB 115) 82 = .ok (.iload_n 3, 1) := by decide +kernel
theorem k115_83 : decode (mB 115) 83 = .ok (.iload 4, 2) := by decide +kernel
theorem k115_85 : decode (mB 115) 85 = .ok (.invokevirtual 118, 3) := by decide +kernel
theorem k115_88 : decode (mB 115) 88 = .ok (.ifCond .ne 6, 3) := by decide +kernel
theorem k115_91 : decode (mB 115) 91 = .ok (.bipush (-4), 2) := by decide +kernel
theorem k115_93 : decode (mB 115) 93 = .ok (.ireturn, 1) := by decide +kernel
theorem k115_94 : decode (mB 115) 94 = .ok (.aload_n 0, 1) := by decide +kernel
theorem k115_95 : decode (mB 115) 95 = .ok (.iload 4, 2) := by decide +kernel
theorem k115_97 : decode (mB 115) 97 = .ok (.putfield 105, 3) := by decide +kernel
theorem k115_100 : decode (mB 115) 100 = .ok (.iconst 0, 1) := by decide +kernel
theorem k115_101 : decode (mB 115) 101 = .ok (.istore 5, 2) := by decide +kernel
theorem k115_103 : decode (mB 115) 103 = .ok (.iload 5, 2) := by decide +kernel
theorem k115_105 : decode (mB 115) 105 = .ok (.iload 4, 2) := by decide +kernel
theorem k115_107 : decode (mB 115) 107 = .ok (.if_icmp .ge 47, 3) := by decide +kernel
theorem k115_110 : decode (mB 115) 110 = .ok (.aload_n 0, 1) := by decide +kernel
theorem k115_111 : decode (mB 115) 111 = .ok (.getfield 22, 3) := by decide +kernel
theorem k115_114 : decode (mB 115) 114 = .ok (.iload 5, 2) := by decide +kernel
theorem k115_116 : decode (mB 115) 116 = .ok (.aload_n 0, 1) := by decide +kernel
theorem k115_117 : decode (mB 115) 117 = .ok (.getfield 16, 3) := by decide +kernel
theorem k115_120 : decode (mB 115) 120 = .ok (.bipush 8, 2) := by decide +kernel
theorem k115_122 : decode (mB 115) 122 = .ok (.iload_n 2, 1) := by decide +kernel
theorem k115_123 : decode (mB 115) 123 = .ok (.imul, 1) := by decide +kernel
theorem k115_124 : decode (mB 115) 124 = .ok (.iload 5, 2) := by decide +kernel
theorem k115_126 : decode (mB 115) 126 = .ok (.iadd, 1) := by decide +kernel
theorem k115_127 : decode (mB 115) 127 = .ok (.iaload, 1) := by decide +kernel
theorem k115_128 : decode (mB 115) 128 = .ok (.iastore, 1) := by decide +kernel
theorem k115_129 : decode (mB 115) 129 = .ok (.aload_n 0, 1) := by decide +kernel
theorem k115_130 : decode (mB 115) 130 = .ok (.getfield 25, 3) := by decide +kernel
theorem k115_133 : decode (mB 115) 133 = .ok (.iload 5, 2) := by decide +kernel
theorem k115_135 : decode (mB 115) 135 = .ok (.aload_n 0, 1) := by decide +kernel
theorem k115_136 : decode (mB 115) 136 = .ok (.getfield 16, 3) := by decide +kernel
theorem k115_139 : decode (mB 115) 139 = .ok (.bipush 8, 2) := by decide +kernel
theorem k115_141 : decode (mB 115) 141 = .ok (.iload_n 3, 1) := by decide +kernel
theorem k115_142 : decode (mB 115) 142 = .ok (.imul, 1) := by decide +kernel
theorem k115_143 : decode (mB 115) 143 = .ok (.iload 5, 2) := by decide +kernel
theorem k115_145 : decode (mB 115) 145 = .ok (.iadd, 1) := by decide +kernel
theorem k115_146 : decode (mB 115) 146 = .ok (.iaload, 1) := by decide +kernel
theorem k115_147 : decode (mB 115) 147 = .ok (.iastore, 1) := by decide +kernel
theorem k115_148 : decode (mB 115) 148 = .ok (.iinc 5 1, 3) := by decide +kernel
theorem k115_151 : decode (mB 115) 151 = .ok (.goto (-48), 3) := by decide +kernel
theorem k115_154 : decode (mB 115) 154 = .ok (.aload_n 0, 1) := by decide +kernel
theorem k115_155 : decode (mB 115) 155 = .ok (.iconst 0, 1) := by decide +kernel
theorem k115_156 : decode (mB 115) 156 = .ok (.invokevirtual 122, 3) := by decide +kernel
theorem k115_159 : decode (mB 115) 159 = .ok (.iload 4, 2) := by decide +kernel
theorem k115_161 : decode (mB 115) 161 = .ok (.if_icmp .ge 8, 3) := by decide +kernel
theorem k115_164 : decode (mB 115) 164 = .ok (.bipush (-4), 2) := by decide +kernel
theorem k115_166 : decode (mB 115) 166 = .ok (.goto 8, 3) := by decide +kernel
theorem k115_169 : decode (mB 115) 169 = .ok (.aload_n 0, 1) := by decide +kernel
theorem k115_170 : decode (mB 115) 170 = .ok (.iload_n 1, 1) := by decide +kernel
theorem k115_171 : decode (mB 115) 171 = .ok (.invokevirtual 125, 3) := by decide +kernel
theorem k115_174 : decode (mB 115) 174 = .ok (.ireturn, 1) := by decide +kernel
/-- SquareGroundsModel.ground, loop at 103 -/
noncomputable def q115_103 (v0 : Nat) (v1 : Int32) (v2 : Int32) (v3 : Int32) (v4 : Int32) (v5 : Int32) (h : mHeap) : mR' := E 115 103 [some (.ref v0), some (.int v1), some (.int v2), some (.int v3), some (.int v4), some (.int v5)] [] h
theorem q115_103_eq (v0 : Nat) (v1 : Int32) (v2 : Int32) (v3 : Int32) (v4 : Int32) (v5 : Int32) (h : mHeap) : q115_103 v0 v1 v2 v3 v4 v5 h = if v4 ≤ (v5 : Int32) then ((vI 114 v0 [.int 0] h).bind fun q1 => if v4 ≤ (q1.1 : Int32) then ((vI 112 v0 [.int v1] q1.2).bind fun q2 => some (some (.int q2.1), q2.2)) else (some (some (.int (-4)), q1.2))) else ((gR h v0 8 6).bind fun x3 => (gR h v0 8 3).bind fun x4 => (cAldI false h x4 ((8 * v2) + v5)).bind fun x5 => (cAstI h x3 v5 x5).bind fun h6 => (gR h6 v0 8 7).bind fun x7 => (gR h6 v0 8 3).bind fun x8 => (cAldI false h6 x8 ((8 * v3) + v5)).bind fun x9 => (cAstI h6 x7 v5 x9).bind fun h10 => q115_103 v0 v1 v2 v3 v4 (v5 + 1) h10) := by
  unfold q115_103
  refine e_iload (pc' := 105) k115_103 rfl rfl ?_
  refine e_iload (pc' := 107) k115_105 rfl rfl ?_
  refine e_icmpge (t := 154) (pc' := 110) k115_107 rfl (by decide) (fun _ => ?_) (fun _ => ?_)
  · refine e_aload_n (pc' := 155) k115_154 rfl rfl ?_
    refine e_iconst (v := 0) (pc' := 156) k115_155 rfl rfl ?_
    refine e_vI (j' := 114) (as := [.int 0]) (rest := []) (pc' := 159) k115_156 rfl (show mCk 115 1 122 114 1 = true by decide +kernel) (Or.inl (by decide +kernel)) rfl (Nat.le_of_ble_eq_true rfl) (show 2 ≤ mL 114 by decide +kernel) (fun q1 => ?_)
    refine e_iload (pc' := 161) k115_159 rfl rfl ?_
    refine e_icmpge (t := 169) (pc' := 164) k115_161 rfl (by decide) (fun _ => ?_) (fun _ => ?_)
    · refine e_aload_n (pc' := 170) k115_169 rfl rfl ?_
      refine e_iload_n (pc' := 171) k115_170 rfl rfl ?_
      refine e_vI (j' := 112) (as := [.int v1]) (rest := []) (pc' := 174) k115_171 rfl (show mCk 115 1 125 112 1 = true by decide +kernel) (Or.inl (by decide +kernel)) rfl (Nat.le_of_ble_eq_true rfl) (show 2 ≤ mL 112 by decide +kernel) (fun q2 => ?_)
      exact e_iret k115_174 (by decide +kernel)
    · refine e_bipush (v := -4) (pc' := 166) k115_164 rfl rfl ?_
      refine e_goto (pc' := 174) k115_166 (by decide) ?_
      exact e_iret k115_174 (by decide +kernel)
  · refine e_aload_n (pc' := 111) k115_110 rfl rfl ?_
    refine e_getR (pc' := 114) k115_111 rfl (ci := 8) (k := 6) (by decide +kernel) (by decide +kernel) (fun x3 => ?_)
    refine e_iload (pc' := 116) k115_114 rfl rfl ?_
    refine e_aload_n (pc' := 117) k115_116 rfl rfl ?_
    refine e_getR (pc' := 120) k115_117 rfl (ci := 8) (k := 3) (by decide +kernel) (by decide +kernel) (fun x4 => ?_)
    refine e_bipush (v := 8) (pc' := 122) k115_120 rfl rfl ?_
    refine e_iload_n (pc' := 123) k115_122 rfl rfl ?_
    refine e_imul (pc' := 124) k115_123 rfl ?_
    refine e_iload (pc' := 126) k115_124 rfl rfl ?_
    refine e_iadd (pc' := 127) k115_126 rfl ?_
    refine e_iald (pc' := 128) k115_127 rfl (lw := false) rfl (fun x5 => ?_)
    refine e_iast (pc' := 129) k115_128 rfl (fun h6 => ?_)
    refine e_aload_n (pc' := 130) k115_129 rfl rfl ?_
    refine e_getR (pc' := 133) k115_130 rfl (ci := 8) (k := 7) (by decide +kernel) (by decide +kernel) (fun x7 => ?_)
    refine e_iload (pc' := 135) k115_133 rfl rfl ?_
    refine e_aload_n (pc' := 136) k115_135 rfl rfl ?_
    refine e_getR (pc' := 139) k115_136 rfl (ci := 8) (k := 3) (by decide +kernel) (by decide +kernel) (fun x8 => ?_)
    refine e_bipush (v := 8) (pc' := 141) k115_139 rfl rfl ?_
    refine e_iload_n (pc' := 142) k115_141 rfl rfl ?_
    refine e_imul (pc' := 143) k115_142 rfl ?_
    refine e_iload (pc' := 145) k115_143 rfl rfl ?_
    refine e_iadd (pc' := 146) k115_145 rfl ?_
    refine e_iald (pc' := 147) k115_146 rfl (lw := false) rfl (fun x9 => ?_)
    refine e_iast (pc' := 148) k115_147 rfl (fun h10 => ?_)
    refine e_iinc (c := 1) (pc' := 151) k115_148 rfl rfl rfl rfl ?_
    refine e_goto (pc' := 103) k115_151 (by decide) ?_
    rfl
/-- SquareGroundsModel.ground(III)I -/
theorem F115_eq (v0 : Nat) (v1 : Int32) (v2 : Int32) (v3 : Int32) (h : mHeap) : F 115 [.ref v0, .int v1, .int v2, .int v3] h = (sI 109 [.int v1] h).bind fun q1 => if (q1.1 : Int32) = 0 then (some (some (.int (-1)), q1.2)) else ((sI 102 [.int v2] q1.2).bind fun q2 => if (q2.1 : Int32) = 0 then (some (some (.int (-1)), q2.2)) else ((sI 102 [.int v3] q2.2).bind fun q3 => if ¬ (q3.1 : Int32) = 0 then ((gR q3.2 v0 8 2).bind fun x4 => (cAldI false q3.2 x4 v2).bind fun x5 => if (x5 : Int32) < 0 then ((vI 101 v0 [.int 1] q3.2).bind fun q6 => some (some (.int q6.1), q6.2)) else ((gR q3.2 v0 8 2).bind fun x7 => (cAldI false q3.2 x7 v3).bind fun x8 => if 0 ≤ (x8 : Int32) then ((gR q3.2 v0 8 2).bind fun x9 => (cAldI false q3.2 x9 v2).bind fun x10 => (gR q3.2 v0 8 2).bind fun x11 => (cAldI false q3.2 x11 v3).bind fun x12 => if ¬ (x10 : Int32) = x12 then (some (some (.int (-4)), q3.2)) else (if (x10 : Int32) = 0 then (some (some (.int (-4)), q3.2)) else ((vI 113 v0 [.int v2, .int x10] q3.2).bind fun q13 => if (q13.1 : Int32) = 0 then (some (some (.int (-4)), q13.2)) else ((vI 113 v0 [.int v3, .int x10] q13.2).bind fun q14 => if ¬ (q14.1 : Int32) = 0 then ((cPut q14.2 v0 8 5 (.int x10)).bind fun h15 => q115_103 v0 v1 v2 v3 x10 0 h15) else (some (some (.int (-4)), q14.2)))))) else ((vI 101 v0 [.int 1] q3.2).bind fun q16 => some (some (.int q16.1), q16.2)))) else (some (some (.int (-1)), q3.2)))) := by
  show D 115 0 (mEnt 115 [.ref v0, .int v1, .int v2, .int v3]) [] h 0 0 = _
  rw [show mEnt 115 [.ref v0, .int v1, .int v2, .int v3] = [some (.ref v0), some (.int v1), some (.int v2), some (.int v3), none, none] from rfl]
  refine e_iload_n (pc' := 1) k115_0 rfl rfl ?_
  refine e_sI (j' := 109) (as := [.int v1]) (rest := []) (pc' := 4) k115_1 rfl (show mCk 115 0 108 109 1 = true by decide +kernel) (Or.inr (by decide +kernel)) rfl (Nat.le_of_ble_eq_true rfl) (show 1 ≤ mL 109 by decide +kernel) (fun q1 => ?_)
  refine e_ifeq (t := 21) (pc' := 7) k115_4 rfl (by decide) (fun _ => ?_) (fun _ => ?_)
  · refine e_iconst (v := -1) (pc' := 22) k115_21 rfl rfl ?_
    exact e_iret k115_22 (by decide +kernel)
  · refine e_iload_n (pc' := 8) k115_7 rfl rfl ?_
    refine e_sI (j' := 102) (as := [.int v2]) (rest := []) (pc' := 11) k115_8 rfl (show mCk 115 0 94 102 1 = true by decide +kernel) (Or.inr (by decide +kernel)) rfl (Nat.le_of_ble_eq_true rfl) (show 1 ≤ mL 102 by decide +kernel) (fun q2 => ?_)
    refine e_ifeq (t := 21) (pc' := 14) k115_11 rfl (by decide) (fun _ => ?_) (fun _ => ?_)
    · refine e_iconst (v := -1) (pc' := 22) k115_21 rfl rfl ?_
      exact e_iret k115_22 (by decide +kernel)
    · refine e_iload_n (pc' := 15) k115_14 rfl rfl ?_
      refine e_sI (j' := 102) (as := [.int v3]) (rest := []) (pc' := 18) k115_15 rfl (show mCk 115 0 94 102 1 = true by decide +kernel) (Or.inr (by decide +kernel)) rfl (Nat.le_of_ble_eq_true rfl) (show 1 ≤ mL 102 by decide +kernel) (fun q3 => ?_)
      refine e_ifne (t := 23) (pc' := 21) k115_18 rfl (by decide) (fun _ => ?_) (fun _ => ?_)
      · refine e_aload_n (pc' := 24) k115_23 rfl rfl ?_
        refine e_getR (pc' := 27) k115_24 rfl (ci := 8) (k := 2) (by decide +kernel) (by decide +kernel) (fun x4 => ?_)
        refine e_iload_n (pc' := 28) k115_27 rfl rfl ?_
        refine e_iald (pc' := 29) k115_28 rfl (lw := false) rfl (fun x5 => ?_)
        refine e_iflt (t := 41) (pc' := 32) k115_29 rfl (by decide) (fun _ => ?_) (fun _ => ?_)
        · refine e_aload_n (pc' := 42) k115_41 rfl rfl ?_
          refine e_iconst (v := 1) (pc' := 43) k115_42 rfl rfl ?_
          refine e_vI (j' := 101) (as := [.int 1]) (rest := []) (pc' := 46) k115_43 rfl (show mCk 115 1 98 101 1 = true by decide +kernel) (Or.inl (by decide +kernel)) rfl (Nat.le_of_ble_eq_true rfl) (show 2 ≤ mL 101 by decide +kernel) (fun q6 => ?_)
          exact e_iret k115_46 (by decide +kernel)
        · refine e_aload_n (pc' := 33) k115_32 rfl rfl ?_
          refine e_getR (pc' := 36) k115_33 rfl (ci := 8) (k := 2) (by decide +kernel) (by decide +kernel) (fun x7 => ?_)
          refine e_iload_n (pc' := 37) k115_36 rfl rfl ?_
          refine e_iald (pc' := 38) k115_37 rfl (lw := false) rfl (fun x8 => ?_)
          refine e_ifge (t := 47) (pc' := 41) k115_38 rfl (by decide) (fun _ => ?_) (fun _ => ?_)
          · refine e_aload_n (pc' := 48) k115_47 rfl rfl ?_
            refine e_getR (pc' := 51) k115_48 rfl (ci := 8) (k := 2) (by decide +kernel) (by decide +kernel) (fun x9 => ?_)
            refine e_iload_n (pc' := 52) k115_51 rfl rfl ?_
            refine e_iald (pc' := 53) k115_52 rfl (lw := false) rfl (fun x10 => ?_)
            refine e_istore (pc' := 55) k115_53 rfl rfl ?_
            refine e_iload (pc' := 57) k115_55 rfl rfl ?_
            refine e_aload_n (pc' := 58) k115_57 rfl rfl ?_
            refine e_getR (pc' := 61) k115_58 rfl (ci := 8) (k := 2) (by decide +kernel) (by decide +kernel) (fun x11 => ?_)
            refine e_iload_n (pc' := 62) k115_61 rfl rfl ?_
            refine e_iald (pc' := 63) k115_62 rfl (lw := false) rfl (fun x12 => ?_)
            refine e_icmpne (t := 91) (pc' := 66) k115_63 rfl (by decide) (fun _ => ?_) (fun _ => ?_)
            · refine e_bipush (v := -4) (pc' := 93) k115_91 rfl rfl ?_
              exact e_iret k115_93 (by decide +kernel)
            · refine e_iload (pc' := 68) k115_66 rfl rfl ?_
              refine e_ifeq (t := 91) (pc' := 71) k115_68 rfl (by decide) (fun _ => ?_) (fun _ => ?_)
              · refine e_bipush (v := -4) (pc' := 93) k115_91 rfl rfl ?_
                exact e_iret k115_93 (by decide +kernel)
              · refine e_aload_n (pc' := 72) k115_71 rfl rfl ?_
                refine e_iload_n (pc' := 73) k115_72 rfl rfl ?_
                refine e_iload (pc' := 75) k115_73 rfl rfl ?_
                refine e_vI (j' := 113) (as := [.int v2, .int x10]) (rest := []) (pc' := 78) k115_75 rfl (show mCk 115 1 118 113 2 = true by decide +kernel) (Or.inr (by decide +kernel)) rfl (Nat.le_of_ble_eq_true rfl) (show 3 ≤ mL 113 by decide +kernel) (fun q13 => ?_)
                refine e_ifeq (t := 91) (pc' := 81) k115_78 rfl (by decide) (fun _ => ?_) (fun _ => ?_)
                · refine e_bipush (v := -4) (pc' := 93) k115_91 rfl rfl ?_
                  exact e_iret k115_93 (by decide +kernel)
                · refine e_aload_n (pc' := 82) k115_81 rfl rfl ?_
                  refine e_iload_n (pc' := 83) k115_82 rfl rfl ?_
                  refine e_iload (pc' := 85) k115_83 rfl rfl ?_
                  refine e_vI (j' := 113) (as := [.int v3, .int x10]) (rest := []) (pc' := 88) k115_85 rfl (show mCk 115 1 118 113 2 = true by decide +kernel) (Or.inr (by decide +kernel)) rfl (Nat.le_of_ble_eq_true rfl) (show 3 ≤ mL 113 by decide +kernel) (fun q14 => ?_)
                  refine e_ifne (t := 94) (pc' := 91) k115_88 rfl (by decide) (fun _ => ?_) (fun _ => ?_)
                  · refine e_aload_n (pc' := 95) k115_94 rfl rfl ?_
                    refine e_iload (pc' := 97) k115_95 rfl rfl ?_
                    refine e_put (pc' := 100) k115_97 rfl (ci := 8) (k := 5) (by decide +kernel) (by decide +kernel) rfl (fun h15 => ?_)
                    refine e_iconst (v := 0) (pc' := 101) k115_100 rfl rfl ?_
                    refine e_istore (pc' := 103) k115_101 rfl rfl ?_
                    rfl
                  · refine e_bipush (v := -4) (pc' := 93) k115_91 rfl rfl ?_
                    exact e_iret k115_93 (by decide +kernel)
          · refine e_aload_n (pc' := 42) k115_41 rfl rfl ?_
            refine e_iconst (v := 1) (pc' := 43) k115_42 rfl rfl ?_
            refine e_vI (j' := 101) (as := [.int 1]) (rest := []) (pc' := 46) k115_43 rfl (show mCk 115 1 98 101 1 = true by decide +kernel) (Or.inl (by decide +kernel)) rfl (Nat.le_of_ble_eq_true rfl) (show 2 ≤ mL 101 by decide +kernel) (fun q16 => ?_)
            exact e_iret k115_46 (by decide +kernel)
      · refine e_iconst (v := -1) (pc' := 22) k115_21 rfl rfl ?_
        exact e_iret k115_22 (by decide +kernel)
theorem k116_0 : decode (mB 116) 0 = .ok (.aload_n 0, 1) := by decide +kernel
theorem k116_1 : decode (mB 116) 1 = .ok (.iload_n 1, 1) := by decide +kernel
theorem k116_2 : decode (mB 116) 2 = .ok (.invokevirtual 128, 3) := by decide +kernel
theorem k116_5 : decode (mB 116) 5 = .ok (.istore_n 2, 1) := by decide +kernel
theorem k116_6 : decode (mB 116) 6 = .ok (.iload_n 2, 1) := by decide +kernel
theorem k116_7 : decode (mB 116) 7 = .ok (.ifCond .ge 5, 3) := by decide +kernel
theorem k116_10 : decode (mB 116) 10 = .ok (.iload_n 2, 1) := by decide +kernel
theorem k116_11 : decode (mB 116) 11 = .ok (.ireturn, 1) := by decide +kernel
theorem k116_12 : decode (mB 116) 12 = .ok (.aload_n 0, 1) := by decide +kernel
theorem k116_13 : decode (mB 116) 13 = .ok (.getfield 34, 3) := by decide +kernel
theorem k116_16 : decode (mB 116) 16 = .ok (.iload_n 1, 1) := by decide +kernel
theorem k116_17 : decode (mB 116) 17 = .ok (.iconst 0, 1) := by decide +kernel
theorem k116_18 : decode (mB 116) 18 = .ok (.iastore, 1) := by decide +kernel
theorem k116_19 : decode (mB 116) 19 = .ok (.iconst 1, 1) := by decide +kernel
theorem k116_20 : decode (mB 116) 20 = .ok (.ireturn, 1) := by decide +kernel
/-- SquareGroundsModel.drop(I)I -/
theorem F116_eq (v0 : Nat) (v1 : Int32) (h : mHeap) : F 116 [.ref v0, .int v1] h = (vI 110 v0 [.int v1] h).bind fun q1 => if 0 ≤ (q1.1 : Int32) then ((gR q1.2 v0 8 10).bind fun x2 => (cAstI q1.2 x2 v1 0).bind fun h3 => some (some (.int 1), h3)) else (some (some (.int q1.1), q1.2)) := by
  show D 116 0 (mEnt 116 [.ref v0, .int v1]) [] h 0 0 = _
  rw [show mEnt 116 [.ref v0, .int v1] = [some (.ref v0), some (.int v1), none] from rfl]
  refine e_aload_n (pc' := 1) k116_0 rfl rfl ?_
  refine e_iload_n (pc' := 2) k116_1 rfl rfl ?_
  refine e_vI (j' := 110) (as := [.int v1]) (rest := []) (pc' := 5) k116_2 rfl (show mCk 116 1 128 110 1 = true by decide +kernel) (Or.inl (by decide +kernel)) rfl (Nat.le_of_ble_eq_true rfl) (show 2 ≤ mL 110 by decide +kernel) (fun q1 => ?_)
  refine e_istore_n (pc' := 6) k116_5 rfl rfl ?_
  refine e_iload_n (pc' := 7) k116_6 rfl rfl ?_
  refine e_ifge (t := 12) (pc' := 10) k116_7 rfl (by decide) (fun _ => ?_) (fun _ => ?_)
  · refine e_aload_n (pc' := 13) k116_12 rfl rfl ?_
    refine e_getR (pc' := 16) k116_13 rfl (ci := 8) (k := 10) (by decide +kernel) (by decide +kernel) (fun x2 => ?_)
    refine e_iload_n (pc' := 17) k116_16 rfl rfl ?_
    refine e_iconst (v := 0) (pc' := 18) k116_17 rfl rfl ?_
    refine e_iast (pc' := 19) k116_18 rfl (fun h3 => ?_)
    refine e_iconst (v := 1) (pc' := 20) k116_19 rfl rfl ?_
    exact e_iret k116_20 (by decide +kernel)
  · refine e_iload_n (pc' := 11) k116_10 rfl rfl ?_
    exact e_iret k116_11 (by decide +kernel)
theorem k117_0 : decode (mB 117) 0 = .ok (.iload_n 2, 1) := by decide +kernel
theorem k117_1 : decode (mB 117) 1 = .ok (.invokestatic 108, 3) := by decide +kernel
theorem k117_4 : decode (mB 117) 4 = .ok (.ifCond .ne 5, 3) := by decide +kernel
theorem k117_7 : decode (mB 117) 7 = .ok (.iconst (-1), 1) := by decide +kernel
theorem k117_8 : decode (mB 117) 8 = .ok (.ireturn, 1) := by decide +kernel
theorem k117_9 : decode (mB 117) 9 = .ok (.aload_n 0, 1) := by decide +kernel
theorem k117_10 : decode (mB 117) 10 = .ok (.iload_n 1, 1) := by decide +kernel
theorem k117_11 : decode (mB 117) 11 = .ok (.invokevirtual 128, 3) := by decide +kernel
theorem k117_14 : decode (mB 117) 14 = .ok (.istore_n 3, 1) := by decide +kernel
theorem k117_15 : decode (mB 117) 15 = .ok (.iload_n 3, 1) := by decide +kernel
theorem k117_16 : decode (mB 117) 16 = .ok (.ifCond .ge 7, 3) := by decide +kernel
theorem k117_19 : decode (mB 117) 19 = .ok (.iload_n 3, 1) := by decide +kernel
theorem k117_20 : decode (mB 117) 20 = .ok (.goto 8, 3) := by decide +kernel
theorem k117_23 : decode (mB 117) 23 = .ok (.aload_n 0, 1) := by decide +kernel
theorem k117_24 : decode (mB 117) 24 = .ok (.iload_n 2, 1) := by decide +kernel
theorem k117_25 : decode (mB 117) 25 = .ok (.invokevirtual 125, 3) := by decide +kernel
theorem k117_28 : decode (mB 117) 28 = .ok (.ireturn, 1) := by decide +kernel
/-- SquareGroundsModel.twin(II)I -/
theorem F117_eq (v0 : Nat) (v1 : Int32) (v2 : Int32) (h : mHeap) : F 117 [.ref v0, .int v1, .int v2] h = (sI 109 [.int v2] h).bind fun q1 => if ¬ (q1.1 : Int32) = 0 then ((vI 110 v0 [.int v1] q1.2).bind fun q2 => if 0 ≤ (q2.1 : Int32) then ((vI 112 v0 [.int v2] q2.2).bind fun q3 => some (some (.int q3.1), q3.2)) else (some (some (.int q2.1), q2.2))) else (some (some (.int (-1)), q1.2)) := by
  show D 117 0 (mEnt 117 [.ref v0, .int v1, .int v2]) [] h 0 0 = _
  rw [show mEnt 117 [.ref v0, .int v1, .int v2] = [some (.ref v0), some (.int v1), some (.int v2), none] from rfl]
  refine e_iload_n (pc' := 1) k117_0 rfl rfl ?_
  refine e_sI (j' := 109) (as := [.int v2]) (rest := []) (pc' := 4) k117_1 rfl (show mCk 117 0 108 109 1 = true by decide +kernel) (Or.inr (by decide +kernel)) rfl (Nat.le_of_ble_eq_true rfl) (show 1 ≤ mL 109 by decide +kernel) (fun q1 => ?_)
  refine e_ifne (t := 9) (pc' := 7) k117_4 rfl (by decide) (fun _ => ?_) (fun _ => ?_)
  · refine e_aload_n (pc' := 10) k117_9 rfl rfl ?_
    refine e_iload_n (pc' := 11) k117_10 rfl rfl ?_
    refine e_vI (j' := 110) (as := [.int v1]) (rest := []) (pc' := 14) k117_11 rfl (show mCk 117 1 128 110 1 = true by decide +kernel) (Or.inl (by decide +kernel)) rfl (Nat.le_of_ble_eq_true rfl) (show 2 ≤ mL 110 by decide +kernel) (fun q2 => ?_)
    refine e_istore_n (pc' := 15) k117_14 rfl rfl ?_
    refine e_iload_n (pc' := 16) k117_15 rfl rfl ?_
    refine e_ifge (t := 23) (pc' := 19) k117_16 rfl (by decide) (fun _ => ?_) (fun _ => ?_)
    · refine e_aload_n (pc' := 24) k117_23 rfl rfl ?_
      refine e_iload_n (pc' := 25) k117_24 rfl rfl ?_
      refine e_vI (j' := 112) (as := [.int v2]) (rest := []) (pc' := 28) k117_25 rfl (show mCk 117 1 125 112 1 = true by decide +kernel) (Or.inl (by decide +kernel)) rfl (Nat.le_of_ble_eq_true rfl) (show 2 ≤ mL 112 by decide +kernel) (fun q3 => ?_)
      exact e_iret k117_28 (by decide +kernel)
    · refine e_iload_n (pc' := 20) k117_19 rfl rfl ?_
      refine e_goto (pc' := 28) k117_20 (by decide) ?_
      exact e_iret k117_28 (by decide +kernel)
  · refine e_iconst (v := -1) (pc' := 8) k117_7 rfl rfl ?_
    exact e_iret k117_8 (by decide +kernel)
theorem k118_0 : decode (mB 118) 0 = .ok (.aload_n 0, 1) := by decide +kernel
theorem k118_1 : decode (mB 118) 1 = .ok (.getfield 31, 3) := by decide +kernel
theorem k118_4 : decode (mB 118) 4 = .ok (.aload_n 0, 1) := by decide +kernel
theorem k118_5 : decode (mB 118) 5 = .ok (.getfield 28, 3) := by decide +kernel
theorem k118_8 : decode (mB 118) 8 = .ok (.aload_n 0, 1) := by decide +kernel
theorem k118_9 : decode (mB 118) 9 = .ok (.getfield 25, 3) := by decide +kernel
theorem k118_12 : decode (mB 118) 12 = .ok (.aload_n 0, 1) := by decide +kernel
theorem k118_13 : decode (mB 118) 13 = .ok (.getfield 22, 3) := by decide +kernel
theorem k118_16 : decode (mB 118) 16 = .ok (.iload_n 1, 1) := by decide +kernel
theorem k118_17 : decode (mB 118) 17 = .ok (.iaload, 1) := by decide +kernel
theorem k118_18 : decode (mB 118) 18 = .ok (.iaload, 1) := by decide +kernel
theorem k118_19 : decode (mB 118) 19 = .ok (.iaload, 1) := by decide +kernel
theorem k118_20 : decode (mB 118) 20 = .ok (.iaload, 1) := by decide +kernel
theorem k118_21 : decode (mB 118) 21 = .ok (.ireturn, 1) := by decide +kernel
/-- SquareGroundsModel.around(I)I -/
theorem F118_eq (v0 : Nat) (v1 : Int32) (h : mHeap) : F 118 [.ref v0, .int v1] h = (gR h v0 8 9).bind fun x1 => (gR h v0 8 8).bind fun x2 => (gR h v0 8 7).bind fun x3 => (gR h v0 8 6).bind fun x4 => (cAldI false h x4 v1).bind fun x5 => (cAldI false h x3 x5).bind fun x6 => (cAldI false h x2 x6).bind fun x7 => (cAldI false h x1 x7).bind fun x8 => some (some (.int x8), h) := by
  show D 118 0 (mEnt 118 [.ref v0, .int v1]) [] h 0 0 = _
  rw [show mEnt 118 [.ref v0, .int v1] = [some (.ref v0), some (.int v1)] from rfl]
  refine e_aload_n (pc' := 1) k118_0 rfl rfl ?_
  refine e_getR (pc' := 4) k118_1 rfl (ci := 8) (k := 9) (by decide +kernel) (by decide +kernel) (fun x1 => ?_)
  refine e_aload_n (pc' := 5) k118_4 rfl rfl ?_
  refine e_getR (pc' := 8) k118_5 rfl (ci := 8) (k := 8) (by decide +kernel) (by decide +kernel) (fun x2 => ?_)
  refine e_aload_n (pc' := 9) k118_8 rfl rfl ?_
  refine e_getR (pc' := 12) k118_9 rfl (ci := 8) (k := 7) (by decide +kernel) (by decide +kernel) (fun x3 => ?_)
  refine e_aload_n (pc' := 13) k118_12 rfl rfl ?_
  refine e_getR (pc' := 16) k118_13 rfl (ci := 8) (k := 6) (by decide +kernel) (by decide +kernel) (fun x4 => ?_)
  refine e_iload_n (pc' := 17) k118_16 rfl rfl ?_
  refine e_iald (pc' := 18) k118_17 rfl (lw := false) rfl (fun x5 => ?_)
  refine e_iald (pc' := 19) k118_18 rfl (lw := false) rfl (fun x6 => ?_)
  refine e_iald (pc' := 20) k118_19 rfl (lw := false) rfl (fun x7 => ?_)
  refine e_iald (pc' := 21) k118_20 rfl (lw := false) rfl (fun x8 => ?_)
  exact e_iret k118_21 (by decide +kernel)
theorem k119_0 : decode (mB 119) 0 = .ok (.iconst 0, 1) := by decide +kernel
theorem k119_1 : decode (mB 119) 1 = .ok (.istore_n 2, 1) := by decide +kernel
theorem k119_2 : decode (mB 119) 2 = .ok (.aload_n 0, 1) := by decide +kernel
theorem k119_3 : decode (mB 119) 3 = .ok (.iload_n 1, 1) := by decide +kernel
theorem k119_4 : decode (mB 119) 4 = .ok (.invokevirtual 131, 3) := by decide +kernel
theorem k119_7 : decode (mB 119) 7 = .ok (.istore_n 3, 1) := by decide +kernel
theorem k119_8 : decode (mB 119) 8 = .ok (.iload_n 3, 1) := by decide +kernel
theorem k119_9 : decode (mB 119) 9 = .ok (.iload_n 1, 1) := by decide +kernel
theorem k119_10 : decode (mB 119) 10 = .ok (.if_icmp .eq 15, 3) := by decide +kernel
theorem k119_13 : decode (mB 119) 13 = .ok (.iinc 2 1, 3) := by decide +kernel
theorem k119_16 : decode (mB 119) 16 = .ok (.aload_n 0, 1) := by decide +kernel
theorem k119_17 : decode (mB 119) 17 = .ok (.iload_n 3, 1) := by decide +kernel
theorem k119_18 : decode (mB 119) 18 = .ok (.invokevirtual 131, 3) := by decide +kernel
theorem k119_21 : decode (mB 119) 21 = .ok (.istore_n 3, 1) := by decide +kernel
theorem k119_22 : decode (mB 119) 22 = .ok (.goto (-14), 3) := by decide +kernel
theorem k119_25 : decode (mB 119) 25 = .ok (.iload_n 2, 1) := by decide +kernel
theorem k119_26 : decode (mB 119) 26 = .ok (.ireturn, 1) := by decide +kernel
/-- SquareGroundsModel.bendAt, loop at 8 -/
noncomputable def q119_8 (v0 : Nat) (v1 : Int32) (v2 : Int32) (v3 : Int32) (h : mHeap) : mR' := E 119 8 [some (.ref v0), some (.int v1), some (.int v2), some (.int v3)] [] h
theorem q119_8_eq (v0 : Nat) (v1 : Int32) (v2 : Int32) (v3 : Int32) (h : mHeap) : q119_8 v0 v1 v2 v3 h = if (v3 : Int32) = v1 then (some (some (.int v2), h)) else ((vI 118 v0 [.int v3] h).bind fun q1 => q119_8 v0 v1 (v2 + 1) q1.1 q1.2) := by
  unfold q119_8
  refine e_iload_n (pc' := 9) k119_8 rfl rfl ?_
  refine e_iload_n (pc' := 10) k119_9 rfl rfl ?_
  refine e_icmpeq (t := 25) (pc' := 13) k119_10 rfl (by decide) (fun _ => ?_) (fun _ => ?_)
  · refine e_iload_n (pc' := 26) k119_25 rfl rfl ?_
    exact e_iret k119_26 (by decide +kernel)
  · refine e_iinc (c := 1) (pc' := 16) k119_13 rfl rfl rfl rfl ?_
    refine e_aload_n (pc' := 17) k119_16 rfl rfl ?_
    refine e_iload_n (pc' := 18) k119_17 rfl rfl ?_
    refine e_vI (j' := 118) (as := [.int v3]) (rest := []) (pc' := 21) k119_18 rfl (show mCk 119 1 131 118 1 = true by decide +kernel) (Or.inl (by decide +kernel)) rfl (Nat.le_of_ble_eq_true rfl) (show 2 ≤ mL 118 by decide +kernel) (fun q1 => ?_)
    refine e_istore_n (pc' := 22) k119_21 rfl rfl ?_
    refine e_goto (pc' := 8) k119_22 (by decide) ?_
    rfl
/-- SquareGroundsModel.bendAt(I)I -/
theorem F119_eq (v0 : Nat) (v1 : Int32) (h : mHeap) : F 119 [.ref v0, .int v1] h = (vI 118 v0 [.int v1] h).bind fun q1 => q119_8 v0 v1 0 q1.1 q1.2 := by
  show D 119 0 (mEnt 119 [.ref v0, .int v1]) [] h 0 0 = _
  rw [show mEnt 119 [.ref v0, .int v1] = [some (.ref v0), some (.int v1), none, none] from rfl]
  refine e_iconst (v := 0) (pc' := 1) k119_0 rfl rfl ?_
  refine e_istore_n (pc' := 2) k119_1 rfl rfl ?_
  refine e_aload_n (pc' := 3) k119_2 rfl rfl ?_
  refine e_iload_n (pc' := 4) k119_3 rfl rfl ?_
  refine e_vI (j' := 118) (as := [.int v1]) (rest := []) (pc' := 7) k119_4 rfl (show mCk 119 1 131 118 1 = true by decide +kernel) (Or.inl (by decide +kernel)) rfl (Nat.le_of_ble_eq_true rfl) (show 2 ≤ mL 118 by decide +kernel) (fun q1 => ?_)
  refine e_istore_n (pc' := 8) k119_7 rfl rfl ?_
  rfl
theorem k120_0 : decode (mB 120) 0 = .ok (.iconst 1, 1) := by decide +kernel
theorem k120_1 : decode (mB 120) 1 = .ok (.istore_n 2, 1) := by decide +kernel
theorem k120_2 : decode (mB 120) 2 = .ok (.aload_n 0, 1) := by decide +kernel
theorem k120_3 : decode (mB 120) 3 = .ok (.iload_n 1, 1) := by decide +kernel
theorem k120_4 : decode (mB 120) 4 = .ok (.invokevirtual 131, 3) := by decide +kernel
theorem k120_7 : decode (mB 120) 7 = .ok (.istore_n 3, 1) := by decide +kernel
theorem k120_8 : decode (mB 120) 8 = .ok (.iload_n 3, 1) := by decide +kernel
theorem k120_9 : decode (mB 120) 9 = .ok (.iload_n 1, 1) := by decide +kernel
theorem k120_10 : decode (mB 120) 10 = .ok (.if_icmp .eq 27, 3) := by decide +kernel
theorem k120_13 : decode (mB 120) 13 = .ok (.iload_n 2, 1) := by decide +kernel
theorem k120_14 : decode (mB 120) 14 = .ok (.ifCond .eq 12, 3) := by decide +kernel
theorem k120_17 : decode (mB 120) 17 = .ok (.iload_n 3, 1) := by decide +kernel
theorem k120_18 : decode (mB 120) 18 = .ok (.iload_n 1, 1) := by decide +kernel
theorem k120_19 : decode (mB 120) 19 = .ok (.if_icmp .le 7, 3) := by decide +kernel
theorem k120_22 : decode (mB 120) 22 = .ok (.iconst 1, 1) := by decide +kernel
theorem k120_23 : decode (mB 120) 23 = .ok (.goto 4, 3) := by decide +kernel
theorem k120_26 : decode (mB 120) 26 = .ok (.iconst 0, 1) := by decide +kernel
theorem k120_27 : decode (mB 120) 27 = .ok (.istore_n 2, 1) := by decide +kernel
theorem k120_28 : decode (mB 120) 28 = .ok (.aload_n 0, 1) := by decide +kernel
theorem k120_29 : decode (mB 120) 29 = .ok (.iload_n 3, 1) := by decide +kernel
theorem k120_30 : decode (mB 120) 30 = .ok (.invokevirtual 131, 3) := by decide +kernel
theorem k120_33 : decode (mB 120) 33 = .ok (.istore_n 3, 1) := by decide +kernel
theorem k120_34 : decode (mB 120) 34 = .ok (.goto (-26), 3) := by decide +kernel
theorem k120_37 : decode (mB 120) 37 = .ok (.iload_n 2, 1) := by decide +kernel
theorem k120_38 : decode (mB 120) 38 = .ok (.ireturn, 1) := by decide +kernel
/-- SquareGroundsModel.isFirst, loop at 8 -/
noncomputable def q120_8 (v0 : Nat) (v1 : Int32) (v2 : Int32) (v3 : Int32) (h : mHeap) : mR' := E 120 8 [some (.ref v0), some (.int v1), some (.int v2), some (.int v3)] [] h
theorem q120_8_eq (v0 : Nat) (v1 : Int32) (v2 : Int32) (v3 : Int32) (h : mHeap) : q120_8 v0 v1 v2 v3 h = if (v3 : Int32) = v1 then (if narrow .boolean (.int v2) = .int v2 then some (some (.int v2), h) else none) else (if (v2 : Int32) = 0 then ((vI 118 v0 [.int v3] h).bind fun q1 => q120_8 v0 v1 0 q1.1 q1.2) else (if (v3 : Int32) ≤ v1 then ((vI 118 v0 [.int v3] h).bind fun q2 => q120_8 v0 v1 0 q2.1 q2.2) else ((vI 118 v0 [.int v3] h).bind fun q3 => q120_8 v0 v1 1 q3.1 q3.2))) := by
  unfold q120_8
  refine e_iload_n (pc' := 9) k120_8 rfl rfl ?_
  refine e_iload_n (pc' := 10) k120_9 rfl rfl ?_
  refine e_icmpeq (t := 37) (pc' := 13) k120_10 rfl (by decide) (fun _ => ?_) (fun _ => ?_)
  · refine e_iload_n (pc' := 38) k120_37 rfl rfl ?_
    exact e_zret k120_38 (by decide +kernel)
  · refine e_iload_n (pc' := 14) k120_13 rfl rfl ?_
    refine e_ifeq (t := 26) (pc' := 17) k120_14 rfl (by decide) (fun _ => ?_) (fun _ => ?_)
    · refine e_iconst (v := 0) (pc' := 27) k120_26 rfl rfl ?_
      refine e_istore_n (pc' := 28) k120_27 rfl rfl ?_
      refine e_aload_n (pc' := 29) k120_28 rfl rfl ?_
      refine e_iload_n (pc' := 30) k120_29 rfl rfl ?_
      refine e_vI (j' := 118) (as := [.int v3]) (rest := []) (pc' := 33) k120_30 rfl (show mCk 120 1 131 118 1 = true by decide +kernel) (Or.inl (by decide +kernel)) rfl (Nat.le_of_ble_eq_true rfl) (show 2 ≤ mL 118 by decide +kernel) (fun q1 => ?_)
      refine e_istore_n (pc' := 34) k120_33 rfl rfl ?_
      refine e_goto (pc' := 8) k120_34 (by decide) ?_
      rfl
    · refine e_iload_n (pc' := 18) k120_17 rfl rfl ?_
      refine e_iload_n (pc' := 19) k120_18 rfl rfl ?_
      refine e_icmple (t := 26) (pc' := 22) k120_19 rfl (by decide) (fun _ => ?_) (fun _ => ?_)
      · refine e_iconst (v := 0) (pc' := 27) k120_26 rfl rfl ?_
        refine e_istore_n (pc' := 28) k120_27 rfl rfl ?_
        refine e_aload_n (pc' := 29) k120_28 rfl rfl ?_
        refine e_iload_n (pc' := 30) k120_29 rfl rfl ?_
        refine e_vI (j' := 118) (as := [.int v3]) (rest := []) (pc' := 33) k120_30 rfl (show mCk 120 1 131 118 1 = true by decide +kernel) (Or.inl (by decide +kernel)) rfl (Nat.le_of_ble_eq_true rfl) (show 2 ≤ mL 118 by decide +kernel) (fun q2 => ?_)
        refine e_istore_n (pc' := 34) k120_33 rfl rfl ?_
        refine e_goto (pc' := 8) k120_34 (by decide) ?_
        rfl
      · refine e_iconst (v := 1) (pc' := 23) k120_22 rfl rfl ?_
        refine e_goto (pc' := 27) k120_23 (by decide) ?_
        refine e_istore_n (pc' := 28) k120_27 rfl rfl ?_
        refine e_aload_n (pc' := 29) k120_28 rfl rfl ?_
        refine e_iload_n (pc' := 30) k120_29 rfl rfl ?_
        refine e_vI (j' := 118) (as := [.int v3]) (rest := []) (pc' := 33) k120_30 rfl (show mCk 120 1 131 118 1 = true by decide +kernel) (Or.inl (by decide +kernel)) rfl (Nat.le_of_ble_eq_true rfl) (show 2 ≤ mL 118 by decide +kernel) (fun q3 => ?_)
        refine e_istore_n (pc' := 34) k120_33 rfl rfl ?_
        refine e_goto (pc' := 8) k120_34 (by decide) ?_
        rfl
/-- SquareGroundsModel.isFirst(I)Z -/
theorem F120_eq (v0 : Nat) (v1 : Int32) (h : mHeap) : F 120 [.ref v0, .int v1] h = (vI 118 v0 [.int v1] h).bind fun q1 => q120_8 v0 v1 1 q1.1 q1.2 := by
  show D 120 0 (mEnt 120 [.ref v0, .int v1]) [] h 0 0 = _
  rw [show mEnt 120 [.ref v0, .int v1] = [some (.ref v0), some (.int v1), none, none] from rfl]
  refine e_iconst (v := 1) (pc' := 1) k120_0 rfl rfl ?_
  refine e_istore_n (pc' := 2) k120_1 rfl rfl ?_
  refine e_aload_n (pc' := 3) k120_2 rfl rfl ?_
  refine e_iload_n (pc' := 4) k120_3 rfl rfl ?_
  refine e_vI (j' := 118) (as := [.int v1]) (rest := []) (pc' := 7) k120_4 rfl (show mCk 120 1 131 118 1 = true by decide +kernel) (Or.inl (by decide +kernel)) rfl (Nat.le_of_ble_eq_true rfl) (show 2 ≤ mL 118 by decide +kernel) (fun q1 => ?_)
  refine e_istore_n (pc' := 8) k120_7 rfl rfl ?_
  rfl
theorem k121_0 : decode (mB 121) 0 = .ok (.iconst 0, 1) := by decide +kernel
theorem k121_1 : decode (mB 121) 1 = .ok (.istore_n 2, 1) := by decide +kernel
theorem k121_2 : decode (mB 121) 2 = .ok (.iconst 0, 1) := by decide +kernel
theorem k121_3 : decode (mB 121) 3 = .ok (.istore_n 3, 1) := by decide +kernel
theorem k121_4 : decode (mB 121) 4 = .ok (.iload_n 3, 1) := by decide +kernel
theorem k121_5 : decode (mB 121) 5 = .ok (.aload_n 0, 1) := by decide +kernel
theorem k121_6 : decode (mB 121) 6 = .ok (.getfield 105, 3) := by decide +kernel
theorem k121_9 : decode (mB 121) 9 = .ok (.if_icmp .ge 94, 3) := by decide +kernel
theorem k121_12 : decode (mB 121) 12 = .ok (.aload_n 0, 1) := by decide +kernel
theorem k121_13 : decode (mB 121) 13 = .ok (.iload_n 3, 1) := by decide +kernel
theorem k121_14 : decode (mB 121) 14 = .ok (.invokevirtual 134, 3) := by decide +kernel
theorem k121_17 : decode (mB 121) 17 = .ok (.ifCond .eq 80, 3) := by decide +kernel
theorem k121_20 : decode (mB 121) 20 = .ok (.aload_n 0, 1) := by decide +kernel
theorem k121_21 : decode (mB 121) 21 = .ok (.iload_n 3, 1) := by decide +kernel
theorem k121_22 : decode (mB 121) 22 = .ok (.invokevirtual 137, 3) := by decide +kernel
theorem k121_25 : decode (mB 121) 25 = .ok (.istore 4, 2) := by decide +kernel
theorem k121_27 : decode (mB 121) 27 = .ok (.iload 4, 2) := by decide +kernel
theorem k121_29 : decode (mB 121) 29 = .ok (.ifCond .le 7, 3) := by decide +kernel
theorem k121_32 : decode (mB 121) 32 = .ok (.iconst 1, 1) := by decide +kernel
theorem k121_33 : decode (mB 121) 33 = .ok (.goto 4, 3) := by decide +kernel
theorem k121_36 : decode (mB 121) 36 = .ok (.iconst 0, 1) := by decide +kernel
theorem k121_37 : decode (mB 121) 37 = .ok (.istore 5, 2) := by decide +kernel
theorem k121_39 : decode (mB 121) 39 = .ok (.iload_n 1, 1) := by decide +kernel
theorem k121_40 : decode (mB 121) 40 = .ok (.iconst 3, 1) := by decide +kernel
theorem k121_41 : decode (mB 121) 41 = .ok (.if_icmp .ne 18, 3) := by decide +kernel
theorem k121_44 : decode (mB 121) 44 = .ok (.iload 4, 2) := by decide +kernel
theorem k121_46 : decode (mB 121) 46 = .ok (.iload_n 2, 1) := by decide +kernel
theorem k121_47 : decode (mB 121) 47 = .ok (.if_icmp .le 8, 3) := by decide +kernel
theorem k121_50 : decode (mB 121) 50 = .ok (.iload 4, 2) := by decide +kernel
theorem k121_52 : decode (mB 121) 52 = .ok (.goto 44, 3) := by decide +kernel
theorem k121_55 : decode (mB 121) 55 = .ok (.iload_n 2, 1) := by decide +kernel
theorem k121_56 : decode (mB 121) 56 = .ok (.goto 40, 3) := by decide +kernel
theorem k121_59 : decode (mB 121) 59 = .ok (.iload_n 2, 1) := by decide +kernel
theorem k121_60 : decode (mB 121) 60 = .ok (.iload_n 1, 1) := by decide +kernel
theorem k121_61 : decode (mB 121) 61 = .ok (.ifCond .ne 7, 3) := by decide +kernel
theorem k121_64 : decode (mB 121) 64 = .ok (.iconst 1, 1) := by decide +kernel
theorem k121_65 : decode (mB 121) 65 = .ok (.goto 30, 3) := by decide +kernel
theorem k121_68 : decode (mB 121) 68 = .ok (.iload_n 1, 1) := by decide +kernel
theorem k121_69 : decode (mB 121) 69 = .ok (.iconst 1, 1) := by decide +kernel
theorem k121_70 : decode (mB 121) 70 = .ok (.if_icmp .ne 8, 3) := by decide +kernel
theorem k121_73 : decode (mB 121) 73 = .ok (.iload 5, 2) := by decide +kernel
theorem k121_75 : decode (mB 121) 75 = .ok (.goto 20, 3) := by decide +kernel
theorem k121_78 : decode (mB 121) 78 = .ok (.iload_n 1, 1) := by decide +kernel
theorem k121_79 : decode (mB 121) 79 = .ok (.iconst 2, 1) := by decide +kernel
theorem k121_80 : decode (mB 121) 80 = .ok (.if_icmp .ne 8, 3) := by decide +kernel
theorem k121_83 : decode (mB 121) 83 = .ok (.iload 4, 2) := by decide +kernel
theorem k121_85 : decode (mB 121) 85 = .ok (.goto 10, 3) := by decide +kernel
theorem k121_88 : decode (mB 121) 88 = .ok (.iload 5, 2) := by decide +kernel
theorem k121_90 : decode (mB 121) 90 = .ok (.iload 4, 2) := by decide +kernel
theorem k121_92 : decode (mB 121) 92 = .ok (.iconst 1, 1) := by decide +kernel
theorem k121_93 : decode (mB 121) 93 = .ok (.iadd, 1) := by decide +kernel
theorem k121_94 : decode (mB 121) 94 = .ok (.imul, 1) := by decide +kernel
theorem k121_95 : decode (mB 121) 95 = .ok (.iadd, 1) := by decide +kernel
theorem k121_96 : decode (mB 121) 96 = .ok (.istore_n 2, 1) := by decide +kernel
theorem k121_97 : decode (mB 121) 97 = .ok (.iinc 3 1, 3) := by decide +kernel
theorem k121_100 : decode (mB 121) 100 = .ok (.goto (-96), 3) := by decide +kernel
theorem k121_103 : decode (mB 121) 103 = .ok (.iload_n 2, 1) := by decide +kernel
theorem k121_104 : decode (mB 121) 104 = .ok (.ireturn, 1) := by decide +kernel
/-- SquareGroundsModel.corners, loop at 4 -/
noncomputable def q121_4 (v0 : Nat) (v1 : Int32) (v2 : Int32) (v3 : Int32) (d4 : Option Value) (d5 : Option Value) (h : mHeap) : mR' := E 121 4 [some (.ref v0), some (.int v1), some (.int v2), some (.int v3), d4, d5] [] h
theorem q121_4_eq (v0 : Nat) (v1 : Int32) (v2 : Int32) (v3 : Int32) (d4 : Option Value) (d5 : Option Value) (h : mHeap) : q121_4 v0 v1 v2 v3 d4 d5 h = (gI h v0 8 5).bind fun x1 => if x1 ≤ (v3 : Int32) then (some (some (.int v2), h)) else ((vI 120 v0 [.int v3] h).bind fun q2 => if (q2.1 : Int32) = 0 then (q121_4 v0 v1 v2 (v3 + 1) d4 d5 q2.2) else ((vI 119 v0 [.int v3] q2.2).bind fun q3 => if (q3.1 : Int32) ≤ 0 then (if ¬ (v1 : Int32) = 3 then (if ¬ (v1 : Int32) = 0 then (if ¬ (v1 : Int32) = 1 then (if ¬ (v1 : Int32) = 2 then (q121_4 v0 v1 (v2 + (0 * (q3.1 + 1))) (v3 + 1) (some (.int q3.1)) (some (.int 0)) q3.2) else (q121_4 v0 v1 (v2 + q3.1) (v3 + 1) (some (.int q3.1)) (some (.int 0)) q3.2)) else (q121_4 v0 v1 (v2 + 0) (v3 + 1) (some (.int q3.1)) (some (.int 0)) q3.2)) else (q121_4 v0 v1 (v2 + 1) (v3 + 1) (some (.int q3.1)) (some (.int 0)) q3.2)) else (if (q3.1 : Int32) ≤ v2 then (q121_4 v0 v1 v2 (v3 + 1) (some (.int q3.1)) (some (.int 0)) q3.2) else (q121_4 v0 v1 q3.1 (v3 + 1) (some (.int q3.1)) (some (.int 0)) q3.2))) else (if ¬ (v1 : Int32) = 3 then (if ¬ (v1 : Int32) = 0 then (if ¬ (v1 : Int32) = 1 then (if ¬ (v1 : Int32) = 2 then (q121_4 v0 v1 (v2 + (1 * (q3.1 + 1))) (v3 + 1) (some (.int q3.1)) (some (.int 1)) q3.2) else (q121_4 v0 v1 (v2 + q3.1) (v3 + 1) (some (.int q3.1)) (some (.int 1)) q3.2)) else (q121_4 v0 v1 (v2 + 1) (v3 + 1) (some (.int q3.1)) (some (.int 1)) q3.2)) else (q121_4 v0 v1 (v2 + 1) (v3 + 1) (some (.int q3.1)) (some (.int 1)) q3.2)) else (if (q3.1 : Int32) ≤ v2 then (q121_4 v0 v1 v2 (v3 + 1) (some (.int q3.1)) (some (.int 1)) q3.2) else (q121_4 v0 v1 q3.1 (v3 + 1) (some (.int q3.1)) (some (.int 1)) q3.2))))) := by
  unfold q121_4
  refine e_iload_n (pc' := 5) k121_4 rfl rfl ?_
  refine e_aload_n (pc' := 6) k121_5 rfl rfl ?_
  refine e_getI (pc' := 9) k121_6 rfl (ci := 8) (k := 5) (by decide +kernel) (by decide +kernel) (fun x1 => ?_)
  refine e_icmpge (t := 103) (pc' := 12) k121_9 rfl (by decide) (fun _ => ?_) (fun _ => ?_)
  · refine e_iload_n (pc' := 104) k121_103 rfl rfl ?_
    exact e_iret k121_104 (by decide +kernel)
  · refine e_aload_n (pc' := 13) k121_12 rfl rfl ?_
    refine e_iload_n (pc' := 14) k121_13 rfl rfl ?_
    refine e_vI (j' := 120) (as := [.int v3]) (rest := []) (pc' := 17) k121_14 rfl (show mCk 121 1 134 120 1 = true by decide +kernel) (Or.inr (by decide +kernel)) rfl (Nat.le_of_ble_eq_true rfl) (show 2 ≤ mL 120 by decide +kernel) (fun q2 => ?_)
    refine e_ifeq (t := 97) (pc' := 20) k121_17 rfl (by decide) (fun _ => ?_) (fun _ => ?_)
    · refine e_iinc (c := 1) (pc' := 100) k121_97 rfl rfl rfl rfl ?_
      refine e_goto (pc' := 4) k121_100 (by decide) ?_
      rfl
    · refine e_aload_n (pc' := 21) k121_20 rfl rfl ?_
      refine e_iload_n (pc' := 22) k121_21 rfl rfl ?_
      refine e_vI (j' := 119) (as := [.int v3]) (rest := []) (pc' := 25) k121_22 rfl (show mCk 121 1 137 119 1 = true by decide +kernel) (Or.inl (by decide +kernel)) rfl (Nat.le_of_ble_eq_true rfl) (show 2 ≤ mL 119 by decide +kernel) (fun q3 => ?_)
      refine e_istore (pc' := 27) k121_25 rfl rfl ?_
      refine e_iload (pc' := 29) k121_27 rfl rfl ?_
      refine e_ifle (t := 36) (pc' := 32) k121_29 rfl (by decide) (fun _ => ?_) (fun _ => ?_)
      · refine e_iconst (v := 0) (pc' := 37) k121_36 rfl rfl ?_
        refine e_istore (pc' := 39) k121_37 rfl rfl ?_
        refine e_iload_n (pc' := 40) k121_39 rfl rfl ?_
        refine e_iconst (v := 3) (pc' := 41) k121_40 rfl rfl ?_
        refine e_icmpne (t := 59) (pc' := 44) k121_41 rfl (by decide) (fun _ => ?_) (fun _ => ?_)
        · refine e_iload_n (pc' := 60) k121_59 rfl rfl ?_
          refine e_iload_n (pc' := 61) k121_60 rfl rfl ?_
          refine e_ifne (t := 68) (pc' := 64) k121_61 rfl (by decide) (fun _ => ?_) (fun _ => ?_)
          · refine e_iload_n (pc' := 69) k121_68 rfl rfl ?_
            refine e_iconst (v := 1) (pc' := 70) k121_69 rfl rfl ?_
            refine e_icmpne (t := 78) (pc' := 73) k121_70 rfl (by decide) (fun _ => ?_) (fun _ => ?_)
            · refine e_iload_n (pc' := 79) k121_78 rfl rfl ?_
              refine e_iconst (v := 2) (pc' := 80) k121_79 rfl rfl ?_
              refine e_icmpne (t := 88) (pc' := 83) k121_80 rfl (by decide) (fun _ => ?_) (fun _ => ?_)
              · refine e_iload (pc' := 90) k121_88 rfl rfl ?_
                refine e_iload (pc' := 92) k121_90 rfl rfl ?_
                refine e_iconst (v := 1) (pc' := 93) k121_92 rfl rfl ?_
                refine e_iadd (pc' := 94) k121_93 rfl ?_
                refine e_imul (pc' := 95) k121_94 rfl ?_
                refine e_iadd (pc' := 96) k121_95 rfl ?_
                refine e_istore_n (pc' := 97) k121_96 rfl rfl ?_
                refine e_iinc (c := 1) (pc' := 100) k121_97 rfl rfl rfl rfl ?_
                refine e_goto (pc' := 4) k121_100 (by decide) ?_
                rfl
              · refine e_iload (pc' := 85) k121_83 rfl rfl ?_
                refine e_goto (pc' := 95) k121_85 (by decide) ?_
                refine e_iadd (pc' := 96) k121_95 rfl ?_
                refine e_istore_n (pc' := 97) k121_96 rfl rfl ?_
                refine e_iinc (c := 1) (pc' := 100) k121_97 rfl rfl rfl rfl ?_
                refine e_goto (pc' := 4) k121_100 (by decide) ?_
                rfl
            · refine e_iload (pc' := 75) k121_73 rfl rfl ?_
              refine e_goto (pc' := 95) k121_75 (by decide) ?_
              refine e_iadd (pc' := 96) k121_95 rfl ?_
              refine e_istore_n (pc' := 97) k121_96 rfl rfl ?_
              refine e_iinc (c := 1) (pc' := 100) k121_97 rfl rfl rfl rfl ?_
              refine e_goto (pc' := 4) k121_100 (by decide) ?_
              rfl
          · refine e_iconst (v := 1) (pc' := 65) k121_64 rfl rfl ?_
            refine e_goto (pc' := 95) k121_65 (by decide) ?_
            refine e_iadd (pc' := 96) k121_95 rfl ?_
            refine e_istore_n (pc' := 97) k121_96 rfl rfl ?_
            refine e_iinc (c := 1) (pc' := 100) k121_97 rfl rfl rfl rfl ?_
            refine e_goto (pc' := 4) k121_100 (by decide) ?_
            rfl
        · refine e_iload (pc' := 46) k121_44 rfl rfl ?_
          refine e_iload_n (pc' := 47) k121_46 rfl rfl ?_
          refine e_icmple (t := 55) (pc' := 50) k121_47 rfl (by decide) (fun _ => ?_) (fun _ => ?_)
          · refine e_iload_n (pc' := 56) k121_55 rfl rfl ?_
            refine e_goto (pc' := 96) k121_56 (by decide) ?_
            refine e_istore_n (pc' := 97) k121_96 rfl rfl ?_
            refine e_iinc (c := 1) (pc' := 100) k121_97 rfl rfl rfl rfl ?_
            refine e_goto (pc' := 4) k121_100 (by decide) ?_
            rfl
          · refine e_iload (pc' := 52) k121_50 rfl rfl ?_
            refine e_goto (pc' := 96) k121_52 (by decide) ?_
            refine e_istore_n (pc' := 97) k121_96 rfl rfl ?_
            refine e_iinc (c := 1) (pc' := 100) k121_97 rfl rfl rfl rfl ?_
            refine e_goto (pc' := 4) k121_100 (by decide) ?_
            rfl
      · refine e_iconst (v := 1) (pc' := 33) k121_32 rfl rfl ?_
        refine e_goto (pc' := 37) k121_33 (by decide) ?_
        refine e_istore (pc' := 39) k121_37 rfl rfl ?_
        refine e_iload_n (pc' := 40) k121_39 rfl rfl ?_
        refine e_iconst (v := 3) (pc' := 41) k121_40 rfl rfl ?_
        refine e_icmpne (t := 59) (pc' := 44) k121_41 rfl (by decide) (fun _ => ?_) (fun _ => ?_)
        · refine e_iload_n (pc' := 60) k121_59 rfl rfl ?_
          refine e_iload_n (pc' := 61) k121_60 rfl rfl ?_
          refine e_ifne (t := 68) (pc' := 64) k121_61 rfl (by decide) (fun _ => ?_) (fun _ => ?_)
          · refine e_iload_n (pc' := 69) k121_68 rfl rfl ?_
            refine e_iconst (v := 1) (pc' := 70) k121_69 rfl rfl ?_
            refine e_icmpne (t := 78) (pc' := 73) k121_70 rfl (by decide) (fun _ => ?_) (fun _ => ?_)
            · refine e_iload_n (pc' := 79) k121_78 rfl rfl ?_
              refine e_iconst (v := 2) (pc' := 80) k121_79 rfl rfl ?_
              refine e_icmpne (t := 88) (pc' := 83) k121_80 rfl (by decide) (fun _ => ?_) (fun _ => ?_)
              · refine e_iload (pc' := 90) k121_88 rfl rfl ?_
                refine e_iload (pc' := 92) k121_90 rfl rfl ?_
                refine e_iconst (v := 1) (pc' := 93) k121_92 rfl rfl ?_
                refine e_iadd (pc' := 94) k121_93 rfl ?_
                refine e_imul (pc' := 95) k121_94 rfl ?_
                refine e_iadd (pc' := 96) k121_95 rfl ?_
                refine e_istore_n (pc' := 97) k121_96 rfl rfl ?_
                refine e_iinc (c := 1) (pc' := 100) k121_97 rfl rfl rfl rfl ?_
                refine e_goto (pc' := 4) k121_100 (by decide) ?_
                rfl
              · refine e_iload (pc' := 85) k121_83 rfl rfl ?_
                refine e_goto (pc' := 95) k121_85 (by decide) ?_
                refine e_iadd (pc' := 96) k121_95 rfl ?_
                refine e_istore_n (pc' := 97) k121_96 rfl rfl ?_
                refine e_iinc (c := 1) (pc' := 100) k121_97 rfl rfl rfl rfl ?_
                refine e_goto (pc' := 4) k121_100 (by decide) ?_
                rfl
            · refine e_iload (pc' := 75) k121_73 rfl rfl ?_
              refine e_goto (pc' := 95) k121_75 (by decide) ?_
              refine e_iadd (pc' := 96) k121_95 rfl ?_
              refine e_istore_n (pc' := 97) k121_96 rfl rfl ?_
              refine e_iinc (c := 1) (pc' := 100) k121_97 rfl rfl rfl rfl ?_
              refine e_goto (pc' := 4) k121_100 (by decide) ?_
              rfl
          · refine e_iconst (v := 1) (pc' := 65) k121_64 rfl rfl ?_
            refine e_goto (pc' := 95) k121_65 (by decide) ?_
            refine e_iadd (pc' := 96) k121_95 rfl ?_
            refine e_istore_n (pc' := 97) k121_96 rfl rfl ?_
            refine e_iinc (c := 1) (pc' := 100) k121_97 rfl rfl rfl rfl ?_
            refine e_goto (pc' := 4) k121_100 (by decide) ?_
            rfl
        · refine e_iload (pc' := 46) k121_44 rfl rfl ?_
          refine e_iload_n (pc' := 47) k121_46 rfl rfl ?_
          refine e_icmple (t := 55) (pc' := 50) k121_47 rfl (by decide) (fun _ => ?_) (fun _ => ?_)
          · refine e_iload_n (pc' := 56) k121_55 rfl rfl ?_
            refine e_goto (pc' := 96) k121_56 (by decide) ?_
            refine e_istore_n (pc' := 97) k121_96 rfl rfl ?_
            refine e_iinc (c := 1) (pc' := 100) k121_97 rfl rfl rfl rfl ?_
            refine e_goto (pc' := 4) k121_100 (by decide) ?_
            rfl
          · refine e_iload (pc' := 52) k121_50 rfl rfl ?_
            refine e_goto (pc' := 96) k121_52 (by decide) ?_
            refine e_istore_n (pc' := 97) k121_96 rfl rfl ?_
            refine e_iinc (c := 1) (pc' := 100) k121_97 rfl rfl rfl rfl ?_
            refine e_goto (pc' := 4) k121_100 (by decide) ?_
            rfl
/-- SquareGroundsModel.corners(I)I -/
theorem F121_eq (v0 : Nat) (v1 : Int32) (h : mHeap) : F 121 [.ref v0, .int v1] h = q121_4 v0 v1 0 0 none none h := by
  show D 121 0 (mEnt 121 [.ref v0, .int v1]) [] h 0 0 = _
  rw [show mEnt 121 [.ref v0, .int v1] = [some (.ref v0), some (.int v1), none, none, none, none] from rfl]
  refine e_iconst (v := 0) (pc' := 1) k121_0 rfl rfl ?_
  refine e_istore_n (pc' := 2) k121_1 rfl rfl ?_
  refine e_iconst (v := 0) (pc' := 3) k121_2 rfl rfl ?_
  refine e_istore_n (pc' := 4) k121_3 rfl rfl ?_
  rfl
theorem k122_0 : decode (mB 122) 0 = .ok (.aload_n 0, 1) := by decide +kernel
theorem k122_1 : decode (mB 122) 1 = .ok (.iconst 1, 1) := by decide +kernel
theorem k122_2 : decode (mB 122) 2 = .ok (.invokevirtual 140, 3) := by decide +kernel
theorem k122_5 : decode (mB 122) 5 = .ok (.istore_n 1, 1) := by decide +kernel
theorem k122_6 : decode (mB 122) 6 = .ok (.iload_n 1, 1) := by decide +kernel
theorem k122_7 : decode (mB 122) 7 = .ok (.ifCond .ne 7, 3) := by decide +kernel
theorem k122_10 : decode (mB 122) 10 = .ok (.iconst 1, 1) := by decide +kernel
theorem k122_11 : decode (mB 122) 11 = .ok (.goto 37, 3) := by decide +kernel
theorem k122_14 : decode (mB 122) 14 = .ok (.iload_n 1, 1) := by decide +kernel
theorem k122_15 : decode (mB 122) 15 = .ok (.iconst 1, 1) := by decide +kernel
theorem k122_16 : decode (mB 122) 16 = .ok (.if_icmp .ne 7, 3) := by decide +kernel
theorem k122_19 : decode (mB 122) 19 = .ok (.iconst 2, 1) := by decide +kernel
theorem k122_20 : decode (mB 122) 20 = .ok (.goto 28, 3) := by decide +kernel
theorem k122_23 : decode (mB 122) 23 = .ok (.iload_n 1, 1) := by decide +kernel
theorem k122_24 : decode (mB 122) 24 = .ok (.iconst 2, 1) := by decide +kernel
theorem k122_25 : decode (mB 122) 25 = .ok (.if_icmp .ne 22, 3) := by decide +kernel
theorem k122_28 : decode (mB 122) 28 = .ok (.aload_n 0, 1) := by decide +kernel
theorem k122_29 : decode (mB 122) 29 = .ok (.iconst 2, 1) := by decide +kernel
theorem k122_30 : decode (mB 122) 30 = .ok (.invokevirtual 140, 3) := by decide +kernel
theorem k122_33 : decode (mB 122) 33 = .ok (.iconst 2, 1) := by decide +kernel
theorem k122_34 : decode (mB 122) 34 = .ok (.aload_n 0, 1) := by decide +kernel
theorem k122_35 : decode (mB 122) 35 = .ok (.iconst 3, 1) := by decide +kernel
theorem k122_36 : decode (mB 122) 36 = .ok (.invokevirtual 140, 3) := by decide +kernel
theorem k122_39 : decode (mB 122) 39 = .ok (.imul, 1) := by decide +kernel
theorem k122_40 : decode (mB 122) 40 = .ok (.if_icmp .ne 7, 3) := by decide +kernel
theorem k122_43 : decode (mB 122) 43 = .ok (.iconst 3, 1) := by decide +kernel
theorem k122_44 : decode (mB 122) 44 = .ok (.goto 4, 3) := by decide +kernel
theorem k122_47 : decode (mB 122) 47 = .ok (.iconst 0, 1) := by decide +kernel
theorem k122_48 : decode (mB 122) 48 = .ok (.ireturn, 1) := by decide +kernel
/-- SquareGroundsModel.kindOf()I -/
theorem F122_eq (v0 : Nat) (h : mHeap) : F 122 [.ref v0] h = (vI 121 v0 [.int 1] h).bind fun q1 => if ¬ (q1.1 : Int32) = 0 then (if ¬ (q1.1 : Int32) = 1 then (if ¬ (q1.1 : Int32) = 2 then (some (some (.int 0), q1.2)) else ((vI 121 v0 [.int 2] q1.2).bind fun q2 => (vI 121 v0 [.int 3] q2.2).bind fun q3 => if ¬ (q2.1 : Int32) = (2 * q3.1) then (some (some (.int 0), q3.2)) else (some (some (.int 3), q3.2)))) else (some (some (.int 2), q1.2))) else (some (some (.int 1), q1.2)) := by
  show D 122 0 (mEnt 122 [.ref v0]) [] h 0 0 = _
  rw [show mEnt 122 [.ref v0] = [some (.ref v0), none] from rfl]
  refine e_aload_n (pc' := 1) k122_0 rfl rfl ?_
  refine e_iconst (v := 1) (pc' := 2) k122_1 rfl rfl ?_
  refine e_vI (j' := 121) (as := [.int 1]) (rest := []) (pc' := 5) k122_2 rfl (show mCk 122 1 140 121 1 = true by decide +kernel) (Or.inl (by decide +kernel)) rfl (Nat.le_of_ble_eq_true rfl) (show 2 ≤ mL 121 by decide +kernel) (fun q1 => ?_)
  refine e_istore_n (pc' := 6) k122_5 rfl rfl ?_
  refine e_iload_n (pc' := 7) k122_6 rfl rfl ?_
  refine e_ifne (t := 14) (pc' := 10) k122_7 rfl (by decide) (fun _ => ?_) (fun _ => ?_)
  · refine e_iload_n (pc' := 15) k122_14 rfl rfl ?_
    refine e_iconst (v := 1) (pc' := 16) k122_15 rfl rfl ?_
    refine e_icmpne (t := 23) (pc' := 19) k122_16 rfl (by decide) (fun _ => ?_) (fun _ => ?_)
    · refine e_iload_n (pc' := 24) k122_23 rfl rfl ?_
      refine e_iconst (v := 2) (pc' := 25) k122_24 rfl rfl ?_
      refine e_icmpne (t := 47) (pc' := 28) k122_25 rfl (by decide) (fun _ => ?_) (fun _ => ?_)
      · refine e_iconst (v := 0) (pc' := 48) k122_47 rfl rfl ?_
        exact e_iret k122_48 (by decide +kernel)
      · refine e_aload_n (pc' := 29) k122_28 rfl rfl ?_
        refine e_iconst (v := 2) (pc' := 30) k122_29 rfl rfl ?_
        refine e_vI (j' := 121) (as := [.int 2]) (rest := []) (pc' := 33) k122_30 rfl (show mCk 122 1 140 121 1 = true by decide +kernel) (Or.inl (by decide +kernel)) rfl (Nat.le_of_ble_eq_true rfl) (show 2 ≤ mL 121 by decide +kernel) (fun q2 => ?_)
        refine e_iconst (v := 2) (pc' := 34) k122_33 rfl rfl ?_
        refine e_aload_n (pc' := 35) k122_34 rfl rfl ?_
        refine e_iconst (v := 3) (pc' := 36) k122_35 rfl rfl ?_
        refine e_vI (j' := 121) (as := [.int 3]) (rest := [.int 2, .int q2.1]) (pc' := 39) k122_36 rfl (show mCk 122 1 140 121 1 = true by decide +kernel) (Or.inl (by decide +kernel)) rfl (Nat.le_of_ble_eq_true rfl) (show 2 ≤ mL 121 by decide +kernel) (fun q3 => ?_)
        refine e_imul (pc' := 40) k122_39 rfl ?_
        refine e_icmpne (t := 47) (pc' := 43) k122_40 rfl (by decide) (fun _ => ?_) (fun _ => ?_)
        · refine e_iconst (v := 0) (pc' := 48) k122_47 rfl rfl ?_
          exact e_iret k122_48 (by decide +kernel)
        · refine e_iconst (v := 3) (pc' := 44) k122_43 rfl rfl ?_
          refine e_goto (pc' := 48) k122_44 (by decide) ?_
          exact e_iret k122_48 (by decide +kernel)
    · refine e_iconst (v := 2) (pc' := 20) k122_19 rfl rfl ?_
      refine e_goto (pc' := 48) k122_20 (by decide) ?_
      exact e_iret k122_48 (by decide +kernel)
  · refine e_iconst (v := 1) (pc' := 11) k122_10 rfl rfl ?_
    refine e_goto (pc' := 48) k122_11 (by decide) ?_
    exact e_iret k122_48 (by decide +kernel)
theorem k123_0 : decode (mB 123) 0 = .ok (.aload_n 0, 1) := by decide +kernel
theorem k123_1 : decode (mB 123) 1 = .ok (.iconst 0, 1) := by decide +kernel
theorem k123_2 : decode (mB 123) 2 = .ok (.putfield 143, 3) := by decide +kernel
theorem k123_5 : decode (mB 123) 5 = .ok (.iconst 0, 1) := by decide +kernel
theorem k123_6 : decode (mB 123) 6 = .ok (.istore_n 1, 1) := by decide +kernel
theorem k123_7 : decode (mB 123) 7 = .ok (.iload_n 1, 1) := by decide +kernel
theorem k123_8 : decode (mB 123) 8 = .ok (.aload_n 0, 1) := by decide +kernel
theorem k123_9 : decode (mB 123) 9 = .ok (.getfield 105, 3) := by decide +kernel
theorem k123_12 : decode (mB 123) 12 = .ok (.if_icmp .ge 154, 3) := by decide +kernel
theorem k123_15 : decode (mB 123) 15 = .ok (.aload_n 0, 1) := by decide +kernel
theorem k123_16 : decode (mB 123) 16 = .ok (.iload_n 1, 1) := by decide +kernel
theorem k123_17 : decode (mB 123) 17 = .ok (.invokevirtual 122, 3) := by decide +kernel
theorem k123_20 : decode (mB 123) 20 = .ok (.istore_n 2, 1) := by decide +kernel
theorem k123_21 : decode (mB 123) 21 = .ok (.iconst 0, 1) := by decide +kernel
theorem k123_22 : decode (mB 123) 22 = .ok (.istore_n 3, 1) := by decide +kernel
theorem k123_23 : decode (mB 123) 23 = .ok (.iload_n 3, 1) := by decide +kernel
theorem k123_24 : decode (mB 123) 24 = .ok (.aload_n 0, 1) := by decide +kernel
theorem k123_25 : decode (mB 123) 25 = .ok (.getfield 105, 3) := by decide +kernel
theorem k123_28 : decode (mB 123) 28 = .ok (.if_icmp .ge 58, 3) := by decide +kernel
theorem k123_31 : decode (mB 123) 31 = .ok (.aload_n 0, 1) := by decide +kernel
theorem k123_32 : decode (mB 123) 32 = .ok (.getfield 52, 3) := by decide +kernel
theorem k123_35 : decode (mB 123) 35 = .ok (.iload_n 3, 1) := by decide +kernel
theorem k123_36 : decode (mB 123) 36 = .ok (.aload_n 0, 1) := by decide +kernel
theorem k123_37 : decode (mB 123) 37 = .ok (.getfield 43, 3) := by decide +kernel
theorem k123_40 : decode (mB 123) 40 = .ok (.aload_n 0, 1) := by decide +kernel
theorem k123_41 : decode (mB 123) 41 = .ok (.getfield 22, 3) := by decide +kernel
theorem k123_44 : decode (mB 123) 44 = .ok (.aload_n 0, 1) := by decide +kernel
theorem k123_45 : decode (mB 123) 45 = .ok (.getfield 46, 3) := by decide +kernel
theorem k123_48 : decode (mB 123) 48 = .ok (.iload_n 3, 1) := by decide +kernel
theorem k123_49 : decode (mB 123) 49 = .ok (.iaload, 1) := by decide +kernel
theorem k123_50 : decode (mB 123) 50 = .ok (.iaload, 1) := by decide +kernel
theorem k123_51 : decode (mB 123) 51 = .ok (.iaload, 1) := by decide +kernel
theorem k123_52 : decode (mB 123) 52 = .ok (.iastore, 1) := by decide +kernel
theorem k123_53 : decode (mB 123) 53 = .ok (.aload_n 0, 1) := by decide +kernel
theorem k123_54 : decode (mB 123) 54 = .ok (.getfield 52, 3) := by decide +kernel
theorem k123_57 : decode (mB 123) 57 = .ok (.aload_n 0, 1) := by decide +kernel
theorem k123_58 : decode (mB 123) 58 = .ok (.getfield 105, 3) := by decide +kernel
theorem k123_61 : decode (mB 123) 61 = .ok (.iload_n 3, 1) := by decide +kernel
theorem k123_62 : decode (mB 123) 62 = .ok (.iadd, 1) := by decide +kernel
theorem k123_63 : decode (mB 123) 63 = .ok (.aload_n 0, 1) := by decide +kernel
theorem k123_64 : decode (mB 123) 64 = .ok (.getfield 43, 3) := by decide +kernel
theorem k123_67 : decode (mB 123) 67 = .ok (.aload_n 0, 1) := by decide +kernel
theorem k123_68 : decode (mB 123) 68 = .ok (.getfield 25, 3) := by decide +kernel
theorem k123_71 : decode (mB 123) 71 = .ok (.aload_n 0, 1) := by decide +kernel
theorem k123_72 : decode (mB 123) 72 = .ok (.getfield 46, 3) := by decide +kernel
theorem k123_75 : decode (mB 123) 75 = .ok (.iload_n 3, 1) := by decide +kernel
theorem k123_76 : decode (mB 123) 76 = .ok (.iaload, 1) := by decide +kernel
theorem k123_77 : decode (mB 123) 77 = .ok (.iaload, 1) := by decide +kernel
theorem k123_78 : decode (mB 123) 78 = .ok (.iaload, 1) := by decide +kernel
theorem k123_79 : decode (mB 123) 79 = .ok (.iastore, 1) := by decide +kernel
theorem k123_80 : decode (mB 123) 80 = .ok (.iinc 3 1, 3) := by decide +kernel
theorem k123_83 : decode (mB 123) 83 = .ok (.goto (-60), 3) := by decide +kernel
theorem k123_86 : decode (mB 123) 86 = .ok (.iload_n 1, 1) := by decide +kernel
theorem k123_87 : decode (mB 123) 87 = .ok (.ifCond .ne 7, 3) := by decide +kernel
theorem k123_90 : decode (mB 123) 90 = .ok (.iconst (-1), 1) := by decide +kernel
theorem k123_91 : decode (mB 123) 91 = .ok (.goto 7, 3) := by decide +kernel
theorem k123_94 : decode (mB 123) 94 = .ok (.aload_n 0, 1) := by decide +kernel
theorem k123_95 : decode (mB 123) 95 = .ok (.invokevirtual 146, 3) := by decide +kernel
theorem k123_98 : decode (mB 123) 98 = .ok (.istore_n 3, 1) := by decide +kernel
theorem k123_99 : decode (mB 123) 99 = .ok (.iload_n 3, 1) := by decide +kernel
theorem k123_100 : decode (mB 123) 100 = .ok (.ifCond .ge 42, 3) := by decide +kernel
theorem k123_103 : decode (mB 123) 103 = .ok (.aload_n 0, 1) := by decide +kernel
theorem k123_104 : decode (mB 123) 104 = .ok (.iconst 0, 1) := by decide +kernel
theorem k123_105 : decode (mB 123) 105 = .ok (.putfield 143, 3) := by decide +kernel
theorem k123_108 : decode (mB 123) 108 = .ok (.iconst 0, 1) := by decide +kernel
theorem k123_109 : decode (mB 123) 109 = .ok (.istore 4, 2) := by decide +kernel
theorem k123_111 : decode (mB 123) 111 = .ok (.iload 4, 2) := by decide +kernel
theorem k123_113 : decode (mB 123) 113 = .ok (.iconst 2, 1) := by decide +kernel
theorem k123_114 : decode (mB 123) 114 = .ok (.aload_n 0, 1) := by decide +kernel
theorem k123_115 : decode (mB 123) 115 = .ok (.getfield 105, 3) := by decide +kernel
theorem k123_118 : decode (mB 123) 118 = .ok (.imul, 1) := by decide +kernel
theorem k123_119 : decode (mB 123) 119 = .ok (.if_icmp .ge 23, 3) := by decide +kernel
theorem k123_122 : decode (mB 123) 122 = .ok (.aload_n 0, 1) := by decide +kernel
theorem k123_123 : decode (mB 123) 123 = .ok (.getfield 49, 3) := by decide +kernel
theorem k123_126 : decode (mB 123) 126 = .ok (.iload 4, 2) := by decide +kernel
theorem k123_128 : decode (mB 123) 128 = .ok (.aload_n 0, 1) := by decide +kernel
theorem k123_129 : decode (mB 123) 129 = .ok (.getfield 52, 3) := by decide +kernel
theorem k123_132 : decode (mB 123) 132 = .ok (.iload 4, 2) := by decide +kernel
theorem k123_134 : decode (mB 123) 134 = .ok (.iaload, 1) := by decide +kernel
theorem k123_135 : decode (mB 123) 135 = .ok (.iastore, 1) := by decide +kernel
theorem k123_136 : decode (mB 123) 136 = .ok (.iinc 4 1, 3) := by decide +kernel
theorem k123_139 : decode (mB 123) 139 = .ok (.goto (-28), 3) := by decide +kernel
theorem k123_142 : decode (mB 123) 142 = .ok (.aload_n 0, 1) := by decide +kernel
theorem k123_143 : decode (mB 123) 143 = .ok (.dup, 1) := by decide +kernel
theorem k123_144 : decode (mB 123) 144 = .ok (.getfield 143, 3) := by decide +kernel
theorem k123_147 : decode (mB 123) 147 = .ok (.iload_n 3, 1) := by decide +kernel
theorem k123_148 : decode (mB 123) 148 = .ok (.ifCond .gt 7, 3) := by decide +kernel
theorem k123_151 : decode (mB 123) 151 = .ok (.iconst 1, 1) := by decide +kernel
theorem k123_152 : decode (mB 123) 152 = .ok (.goto 4, 3) := by decide +kernel
theorem k123_155 : decode (mB 123) 155 = .ok (.iconst 0, 1) := by decide +kernel
theorem k123_156 : decode (mB 123) 156 = .ok (.iadd, 1) := by decide +kernel
theorem k123_157 : decode (mB 123) 157 = .ok (.putfield 143, 3) := by decide +kernel
theorem k123_160 : decode (mB 123) 160 = .ok (.iinc 1 1, 3) := by decide +kernel
theorem k123_163 : decode (mB 123) 163 = .ok (.goto (-156), 3) := by decide +kernel
theorem k123_166 : decode (mB 123) 166 = .ok (.return_, 1) := by decide +kernel
/-- SquareGroundsModel.setName, loop at 7 -/
noncomputable def q123_7 (v0 : Nat) (v1 : Int32) (d2 : Option Value) (d3 : Option Value) (d4 : Option Value) (h : mHeap) : mR' := E 123 7 [some (.ref v0), some (.int v1), d2, d3, d4] [] h
/-- SquareGroundsModel.setName, loop at 23 -/
noncomputable def q123_23 (v0 : Nat) (v1 : Int32) (v2 : Int32) (v3 : Int32) (d4 : Option Value) (h : mHeap) : mR' := E 123 23 [some (.ref v0), some (.int v1), some (.int v2), some (.int v3), d4] [] h
/-- SquareGroundsModel.setName, loop at 111 -/
noncomputable def q123_111 (v0 : Nat) (v1 : Int32) (v2 : Int32) (v3 : Int32) (v4 : Int32) (h : mHeap) : mR' := E 123 111 [some (.ref v0), some (.int v1), some (.int v2), some (.int v3), some (.int v4)] [] h
theorem q123_7_eq (v0 : Nat) (v1 : Int32) (d2 : Option Value) (d3 : Option Value) (d4 : Option Value) (h : mHeap) : q123_7 v0 v1 d2 d3 d4 h = (gI h v0 8 5).bind fun x1 => if x1 ≤ (v1 : Int32) then (some (none, h)) else ((vI 114 v0 [.int v1] h).bind fun q2 => q123_23 v0 v1 q2.1 0 d4 q2.2) := by
  unfold q123_7
  refine e_iload_n (pc' := 8) k123_7 rfl rfl ?_
  refine e_aload_n (pc' := 9) k123_8 rfl rfl ?_
  refine e_getI (pc' := 12) k123_9 rfl (ci := 8) (k := 5) (by decide +kernel) (by decide +kernel) (fun x1 => ?_)
  refine e_icmpge (t := 166) (pc' := 15) k123_12 rfl (by decide) (fun _ => ?_) (fun _ => ?_)
  · exact e_vret k123_166 (by decide +kernel)
  · refine e_aload_n (pc' := 16) k123_15 rfl rfl ?_
    refine e_iload_n (pc' := 17) k123_16 rfl rfl ?_
    refine e_vI (j' := 114) (as := [.int v1]) (rest := []) (pc' := 20) k123_17 rfl (show mCk 123 1 122 114 1 = true by decide +kernel) (Or.inl (by decide +kernel)) rfl (Nat.le_of_ble_eq_true rfl) (show 2 ≤ mL 114 by decide +kernel) (fun q2 => ?_)
    refine e_istore_n (pc' := 21) k123_20 rfl rfl ?_
    refine e_iconst (v := 0) (pc' := 22) k123_21 rfl rfl ?_
    refine e_istore_n (pc' := 23) k123_22 rfl rfl ?_
    rfl
theorem q123_23_eq (v0 : Nat) (v1 : Int32) (v2 : Int32) (v3 : Int32) (d4 : Option Value) (h : mHeap) : q123_23 v0 v1 v2 v3 d4 h = (gI h v0 8 5).bind fun x1 => if x1 ≤ (v3 : Int32) then (if ¬ (v1 : Int32) = 0 then ((vI 124 v0 [] h).bind fun q2 => if 0 ≤ (q2.1 : Int32) then ((gI q2.2 v0 8 17).bind fun x3 => if 0 < (q2.1 : Int32) then ((cPut q2.2 v0 8 17 (.int (x3 + 0))).bind fun h4 => q123_7 v0 (v1 + 1) (some (.int v2)) (some (.int q2.1)) d4 h4) else ((cPut q2.2 v0 8 17 (.int (x3 + 1))).bind fun h5 => q123_7 v0 (v1 + 1) (some (.int v2)) (some (.int q2.1)) d4 h5)) else ((cPut q2.2 v0 8 17 (.int 0)).bind fun h6 => q123_111 v0 v1 v2 q2.1 0 h6)) else (if 0 ≤ ((-1) : Int32) then ((gI h v0 8 17).bind fun x7 => if 0 < ((-1) : Int32) then ((cPut h v0 8 17 (.int (x7 + 0))).bind fun h8 => q123_7 v0 (v1 + 1) (some (.int v2)) (some (.int (-1))) d4 h8) else ((cPut h v0 8 17 (.int (x7 + 1))).bind fun h9 => q123_7 v0 (v1 + 1) (some (.int v2)) (some (.int (-1))) d4 h9)) else ((cPut h v0 8 17 (.int 0)).bind fun h10 => q123_111 v0 v1 v2 (-1) 0 h10))) else ((gR h v0 8 16).bind fun x11 => (gR h v0 8 13).bind fun x12 => (gR h v0 8 6).bind fun x13 => (gR h v0 8 14).bind fun x14 => (cAldI false h x14 v3).bind fun x15 => (cAldI false h x13 x15).bind fun x16 => (cAldI false h x12 x16).bind fun x17 => (cAstI h x11 v3 x17).bind fun h18 => (gR h18 v0 8 16).bind fun x19 => (gI h18 v0 8 5).bind fun x20 => (gR h18 v0 8 13).bind fun x21 => (gR h18 v0 8 7).bind fun x22 => (gR h18 v0 8 14).bind fun x23 => (cAldI false h18 x23 v3).bind fun x24 => (cAldI false h18 x22 x24).bind fun x25 => (cAldI false h18 x21 x25).bind fun x26 => (cAstI h18 x19 (x20 + v3) x26).bind fun h27 => q123_23 v0 v1 v2 (v3 + 1) d4 h27) := by
  unfold q123_23
  refine e_iload_n (pc' := 24) k123_23 rfl rfl ?_
  refine e_aload_n (pc' := 25) k123_24 rfl rfl ?_
  refine e_getI (pc' := 28) k123_25 rfl (ci := 8) (k := 5) (by decide +kernel) (by decide +kernel) (fun x1 => ?_)
  refine e_icmpge (t := 86) (pc' := 31) k123_28 rfl (by decide) (fun _ => ?_) (fun _ => ?_)
  · refine e_iload_n (pc' := 87) k123_86 rfl rfl ?_
    refine e_ifne (t := 94) (pc' := 90) k123_87 rfl (by decide) (fun _ => ?_) (fun _ => ?_)
    · refine e_aload_n (pc' := 95) k123_94 rfl rfl ?_
      refine e_vI (j' := 124) (as := []) (rest := []) (pc' := 98) k123_95 rfl (show mCk 123 1 146 124 0 = true by decide +kernel) (Or.inl (by decide +kernel)) rfl (Nat.le_of_ble_eq_true rfl) (show 1 ≤ mL 124 by decide +kernel) (fun q2 => ?_)
      refine e_istore_n (pc' := 99) k123_98 rfl rfl ?_
      refine e_iload_n (pc' := 100) k123_99 rfl rfl ?_
      refine e_ifge (t := 142) (pc' := 103) k123_100 rfl (by decide) (fun _ => ?_) (fun _ => ?_)
      · refine e_aload_n (pc' := 143) k123_142 rfl rfl ?_
        refine e_dup (pc' := 144) k123_143 rfl rfl ?_
        refine e_getI (pc' := 147) k123_144 rfl (ci := 8) (k := 17) (by decide +kernel) (by decide +kernel) (fun x3 => ?_)
        refine e_iload_n (pc' := 148) k123_147 rfl rfl ?_
        refine e_ifgt (t := 155) (pc' := 151) k123_148 rfl (by decide) (fun _ => ?_) (fun _ => ?_)
        · refine e_iconst (v := 0) (pc' := 156) k123_155 rfl rfl ?_
          refine e_iadd (pc' := 157) k123_156 rfl ?_
          refine e_put (pc' := 160) k123_157 rfl (ci := 8) (k := 17) (by decide +kernel) (by decide +kernel) rfl (fun h4 => ?_)
          refine e_iinc (c := 1) (pc' := 163) k123_160 rfl rfl rfl rfl ?_
          refine e_goto (pc' := 7) k123_163 (by decide) ?_
          rfl
        · refine e_iconst (v := 1) (pc' := 152) k123_151 rfl rfl ?_
          refine e_goto (pc' := 156) k123_152 (by decide) ?_
          refine e_iadd (pc' := 157) k123_156 rfl ?_
          refine e_put (pc' := 160) k123_157 rfl (ci := 8) (k := 17) (by decide +kernel) (by decide +kernel) rfl (fun h5 => ?_)
          refine e_iinc (c := 1) (pc' := 163) k123_160 rfl rfl rfl rfl ?_
          refine e_goto (pc' := 7) k123_163 (by decide) ?_
          rfl
      · refine e_aload_n (pc' := 104) k123_103 rfl rfl ?_
        refine e_iconst (v := 0) (pc' := 105) k123_104 rfl rfl ?_
        refine e_put (pc' := 108) k123_105 rfl (ci := 8) (k := 17) (by decide +kernel) (by decide +kernel) rfl (fun h6 => ?_)
        refine e_iconst (v := 0) (pc' := 109) k123_108 rfl rfl ?_
        refine e_istore (pc' := 111) k123_109 rfl rfl ?_
        rfl
    · refine e_iconst (v := -1) (pc' := 91) k123_90 rfl rfl ?_
      refine e_goto (pc' := 98) k123_91 (by decide) ?_
      refine e_istore_n (pc' := 99) k123_98 rfl rfl ?_
      refine e_iload_n (pc' := 100) k123_99 rfl rfl ?_
      refine e_ifge (t := 142) (pc' := 103) k123_100 rfl (by decide) (fun _ => ?_) (fun _ => ?_)
      · refine e_aload_n (pc' := 143) k123_142 rfl rfl ?_
        refine e_dup (pc' := 144) k123_143 rfl rfl ?_
        refine e_getI (pc' := 147) k123_144 rfl (ci := 8) (k := 17) (by decide +kernel) (by decide +kernel) (fun x7 => ?_)
        refine e_iload_n (pc' := 148) k123_147 rfl rfl ?_
        refine e_ifgt (t := 155) (pc' := 151) k123_148 rfl (by decide) (fun _ => ?_) (fun _ => ?_)
        · refine e_iconst (v := 0) (pc' := 156) k123_155 rfl rfl ?_
          refine e_iadd (pc' := 157) k123_156 rfl ?_
          refine e_put (pc' := 160) k123_157 rfl (ci := 8) (k := 17) (by decide +kernel) (by decide +kernel) rfl (fun h8 => ?_)
          refine e_iinc (c := 1) (pc' := 163) k123_160 rfl rfl rfl rfl ?_
          refine e_goto (pc' := 7) k123_163 (by decide) ?_
          rfl
        · refine e_iconst (v := 1) (pc' := 152) k123_151 rfl rfl ?_
          refine e_goto (pc' := 156) k123_152 (by decide) ?_
          refine e_iadd (pc' := 157) k123_156 rfl ?_
          refine e_put (pc' := 160) k123_157 rfl (ci := 8) (k := 17) (by decide +kernel) (by decide +kernel) rfl (fun h9 => ?_)
          refine e_iinc (c := 1) (pc' := 163) k123_160 rfl rfl rfl rfl ?_
          refine e_goto (pc' := 7) k123_163 (by decide) ?_
          rfl
      · refine e_aload_n (pc' := 104) k123_103 rfl rfl ?_
        refine e_iconst (v := 0) (pc' := 105) k123_104 rfl rfl ?_
        refine e_put (pc' := 108) k123_105 rfl (ci := 8) (k := 17) (by decide +kernel) (by decide +kernel) rfl (fun h10 => ?_)
        refine e_iconst (v := 0) (pc' := 109) k123_108 rfl rfl ?_
        refine e_istore (pc' := 111) k123_109 rfl rfl ?_
        rfl
  · refine e_aload_n (pc' := 32) k123_31 rfl rfl ?_
    refine e_getR (pc' := 35) k123_32 rfl (ci := 8) (k := 16) (by decide +kernel) (by decide +kernel) (fun x11 => ?_)
    refine e_iload_n (pc' := 36) k123_35 rfl rfl ?_
    refine e_aload_n (pc' := 37) k123_36 rfl rfl ?_
    refine e_getR (pc' := 40) k123_37 rfl (ci := 8) (k := 13) (by decide +kernel) (by decide +kernel) (fun x12 => ?_)
    refine e_aload_n (pc' := 41) k123_40 rfl rfl ?_
    refine e_getR (pc' := 44) k123_41 rfl (ci := 8) (k := 6) (by decide +kernel) (by decide +kernel) (fun x13 => ?_)
    refine e_aload_n (pc' := 45) k123_44 rfl rfl ?_
    refine e_getR (pc' := 48) k123_45 rfl (ci := 8) (k := 14) (by decide +kernel) (by decide +kernel) (fun x14 => ?_)
    refine e_iload_n (pc' := 49) k123_48 rfl rfl ?_
    refine e_iald (pc' := 50) k123_49 rfl (lw := false) rfl (fun x15 => ?_)
    refine e_iald (pc' := 51) k123_50 rfl (lw := false) rfl (fun x16 => ?_)
    refine e_iald (pc' := 52) k123_51 rfl (lw := false) rfl (fun x17 => ?_)
    refine e_iast (pc' := 53) k123_52 rfl (fun h18 => ?_)
    refine e_aload_n (pc' := 54) k123_53 rfl rfl ?_
    refine e_getR (pc' := 57) k123_54 rfl (ci := 8) (k := 16) (by decide +kernel) (by decide +kernel) (fun x19 => ?_)
    refine e_aload_n (pc' := 58) k123_57 rfl rfl ?_
    refine e_getI (pc' := 61) k123_58 rfl (ci := 8) (k := 5) (by decide +kernel) (by decide +kernel) (fun x20 => ?_)
    refine e_iload_n (pc' := 62) k123_61 rfl rfl ?_
    refine e_iadd (pc' := 63) k123_62 rfl ?_
    refine e_aload_n (pc' := 64) k123_63 rfl rfl ?_
    refine e_getR (pc' := 67) k123_64 rfl (ci := 8) (k := 13) (by decide +kernel) (by decide +kernel) (fun x21 => ?_)
    refine e_aload_n (pc' := 68) k123_67 rfl rfl ?_
    refine e_getR (pc' := 71) k123_68 rfl (ci := 8) (k := 7) (by decide +kernel) (by decide +kernel) (fun x22 => ?_)
    refine e_aload_n (pc' := 72) k123_71 rfl rfl ?_
    refine e_getR (pc' := 75) k123_72 rfl (ci := 8) (k := 14) (by decide +kernel) (by decide +kernel) (fun x23 => ?_)
    refine e_iload_n (pc' := 76) k123_75 rfl rfl ?_
    refine e_iald (pc' := 77) k123_76 rfl (lw := false) rfl (fun x24 => ?_)
    refine e_iald (pc' := 78) k123_77 rfl (lw := false) rfl (fun x25 => ?_)
    refine e_iald (pc' := 79) k123_78 rfl (lw := false) rfl (fun x26 => ?_)
    refine e_iast (pc' := 80) k123_79 rfl (fun h27 => ?_)
    refine e_iinc (c := 1) (pc' := 83) k123_80 rfl rfl rfl rfl ?_
    refine e_goto (pc' := 23) k123_83 (by decide) ?_
    rfl
theorem q123_111_eq (v0 : Nat) (v1 : Int32) (v2 : Int32) (v3 : Int32) (v4 : Int32) (h : mHeap) : q123_111 v0 v1 v2 v3 v4 h = (gI h v0 8 5).bind fun x1 => if (2 * x1) ≤ (v4 : Int32) then ((gI h v0 8 17).bind fun x2 => if 0 < (v3 : Int32) then ((cPut h v0 8 17 (.int (x2 + 0))).bind fun h3 => q123_7 v0 (v1 + 1) (some (.int v2)) (some (.int v3)) (some (.int v4)) h3) else ((cPut h v0 8 17 (.int (x2 + 1))).bind fun h4 => q123_7 v0 (v1 + 1) (some (.int v2)) (some (.int v3)) (some (.int v4)) h4)) else ((gR h v0 8 15).bind fun x5 => (gR h v0 8 16).bind fun x6 => (cAldI false h x6 v4).bind fun x7 => (cAstI h x5 v4 x7).bind fun h8 => q123_111 v0 v1 v2 v3 (v4 + 1) h8) := by
  unfold q123_111
  refine e_iload (pc' := 113) k123_111 rfl rfl ?_
  refine e_iconst (v := 2) (pc' := 114) k123_113 rfl rfl ?_
  refine e_aload_n (pc' := 115) k123_114 rfl rfl ?_
  refine e_getI (pc' := 118) k123_115 rfl (ci := 8) (k := 5) (by decide +kernel) (by decide +kernel) (fun x1 => ?_)
  refine e_imul (pc' := 119) k123_118 rfl ?_
  refine e_icmpge (t := 142) (pc' := 122) k123_119 rfl (by decide) (fun _ => ?_) (fun _ => ?_)
  · refine e_aload_n (pc' := 143) k123_142 rfl rfl ?_
    refine e_dup (pc' := 144) k123_143 rfl rfl ?_
    refine e_getI (pc' := 147) k123_144 rfl (ci := 8) (k := 17) (by decide +kernel) (by decide +kernel) (fun x2 => ?_)
    refine e_iload_n (pc' := 148) k123_147 rfl rfl ?_
    refine e_ifgt (t := 155) (pc' := 151) k123_148 rfl (by decide) (fun _ => ?_) (fun _ => ?_)
    · refine e_iconst (v := 0) (pc' := 156) k123_155 rfl rfl ?_
      refine e_iadd (pc' := 157) k123_156 rfl ?_
      refine e_put (pc' := 160) k123_157 rfl (ci := 8) (k := 17) (by decide +kernel) (by decide +kernel) rfl (fun h3 => ?_)
      refine e_iinc (c := 1) (pc' := 163) k123_160 rfl rfl rfl rfl ?_
      refine e_goto (pc' := 7) k123_163 (by decide) ?_
      rfl
    · refine e_iconst (v := 1) (pc' := 152) k123_151 rfl rfl ?_
      refine e_goto (pc' := 156) k123_152 (by decide) ?_
      refine e_iadd (pc' := 157) k123_156 rfl ?_
      refine e_put (pc' := 160) k123_157 rfl (ci := 8) (k := 17) (by decide +kernel) (by decide +kernel) rfl (fun h4 => ?_)
      refine e_iinc (c := 1) (pc' := 163) k123_160 rfl rfl rfl rfl ?_
      refine e_goto (pc' := 7) k123_163 (by decide) ?_
      rfl
  · refine e_aload_n (pc' := 123) k123_122 rfl rfl ?_
    refine e_getR (pc' := 126) k123_123 rfl (ci := 8) (k := 15) (by decide +kernel) (by decide +kernel) (fun x5 => ?_)
    refine e_iload (pc' := 128) k123_126 rfl rfl ?_
    refine e_aload_n (pc' := 129) k123_128 rfl rfl ?_
    refine e_getR (pc' := 132) k123_129 rfl (ci := 8) (k := 16) (by decide +kernel) (by decide +kernel) (fun x6 => ?_)
    refine e_iload (pc' := 134) k123_132 rfl rfl ?_
    refine e_iald (pc' := 135) k123_134 rfl (lw := false) rfl (fun x7 => ?_)
    refine e_iast (pc' := 136) k123_135 rfl (fun h8 => ?_)
    refine e_iinc (c := 1) (pc' := 139) k123_136 rfl rfl rfl rfl ?_
    refine e_goto (pc' := 111) k123_139 (by decide) ?_
    rfl
/-- SquareGroundsModel.setName()V -/
theorem F123_eq (v0 : Nat) (h : mHeap) : F 123 [.ref v0] h = (cPut h v0 8 17 (.int 0)).bind fun h1 => q123_7 v0 0 none none none h1 := by
  show D 123 0 (mEnt 123 [.ref v0]) [] h 0 0 = _
  rw [show mEnt 123 [.ref v0] = [some (.ref v0), none, none, none, none] from rfl]
  refine e_aload_n (pc' := 1) k123_0 rfl rfl ?_
  refine e_iconst (v := 0) (pc' := 2) k123_1 rfl rfl ?_
  refine e_put (pc' := 5) k123_2 rfl (ci := 8) (k := 17) (by decide +kernel) (by decide +kernel) rfl (fun h1 => ?_)
  refine e_iconst (v := 0) (pc' := 6) k123_5 rfl rfl ?_
  refine e_istore_n (pc' := 7) k123_6 rfl rfl ?_
  rfl
theorem k124_0 : decode (mB 124) 0 = .ok (.iconst 0, 1) := by decide +kernel
theorem k124_1 : decode (mB 124) 1 = .ok (.istore_n 1, 1) := by decide +kernel
theorem k124_2 : decode (mB 124) 2 = .ok (.iload_n 1, 1) := by decide +kernel
theorem k124_3 : decode (mB 124) 3 = .ok (.iconst 2, 1) := by decide +kernel
theorem k124_4 : decode (mB 124) 4 = .ok (.aload_n 0, 1) := by decide +kernel
theorem k124_5 : decode (mB 124) 5 = .ok (.getfield 105, 3) := by decide +kernel
theorem k124_8 : decode (mB 124) 8 = .ok (.imul, 1) := by decide +kernel
theorem k124_9 : decode (mB 124) 9 = .ok (.if_icmp .ge 38, 3) := by decide +kernel
theorem k124_12 : decode (mB 124) 12 = .ok (.aload_n 0, 1) := by decide +kernel
theorem k124_13 : decode (mB 124) 13 = .ok (.getfield 52, 3) := by decide +kernel
theorem k124_16 : decode (mB 124) 16 = .ok (.iload_n 1, 1) := by decide +kernel
theorem k124_17 : decode (mB 124) 17 = .ok (.iaload, 1) := by decide +kernel
theorem k124_18 : decode (mB 124) 18 = .ok (.aload_n 0, 1) := by decide +kernel
theorem k124_19 : decode (mB 124) 19 = .ok (.getfield 49, 3) := by decide +kernel
theorem k124_22 : decode (mB 124) 22 = .ok (.iload_n 1, 1) := by decide +kernel
theorem k124_23 : decode (mB 124) 23 = .ok (.iaload, 1) := by decide +kernel
theorem k124_24 : decode (mB 124) 24 = .ok (.if_icmp .eq 17, 3) := by decide +kernel
theorem k124_27 : decode (mB 124) 27 = .ok (.aload_n 0, 1) := by decide +kernel
theorem k124_28 : decode (mB 124) 28 = .ok (.getfield 52, 3) := by decide +kernel
theorem k124_31 : decode (mB 124) 31 = .ok (.iload_n 1, 1) := by decide +kernel
theorem k124_32 : decode (mB 124) 32 = .ok (.iaload, 1) := by decide +kernel
theorem k124_33 : decode (mB 124) 33 = .ok (.aload_n 0, 1) := by decide +kernel
theorem k124_34 : decode (mB 124) 34 = .ok (.getfield 49, 3) := by decide +kernel
theorem k124_37 : decode (mB 124) 37 = .ok (.iload_n 1, 1) := by decide +kernel
theorem k124_38 : decode (mB 124) 38 = .ok (.iaload, 1) := by decide +kernel
theorem k124_39 : decode (mB 124) 39 = .ok (.isub, 1) := by decide +kernel
theorem k124_40 : decode (mB 124) 40 = .ok (.ireturn, 1) := by decide +kernel
theorem k124_41 : decode (mB 124) 41 = .ok (.iinc 1 1, 3) := by decide +kernel
theorem k124_44 : decode (mB 124) 44 = .ok (.goto (-42), 3) := by decide +kernel
theorem k124_47 : decode (mB 124) 47 = .ok (.iconst 0, 1) := by decide +kernel
theorem k124_48 : decode (mB 124) 48 = .ok (.ireturn, 1) := by decide +kernel
/-- SquareGroundsModel.against, loop at 2 -/
noncomputable def q124_2 (v0 : Nat) (v1 : Int32) (h : mHeap) : mR' := E 124 2 [some (.ref v0), some (.int v1)] [] h
theorem q124_2_eq (v0 : Nat) (v1 : Int32) (h : mHeap) : q124_2 v0 v1 h = (gI h v0 8 5).bind fun x1 => if (2 * x1) ≤ (v1 : Int32) then (some (some (.int 0), h)) else ((gR h v0 8 16).bind fun x2 => (cAldI false h x2 v1).bind fun x3 => (gR h v0 8 15).bind fun x4 => (cAldI false h x4 v1).bind fun x5 => if (x3 : Int32) = x5 then (q124_2 v0 (v1 + 1) h) else ((gR h v0 8 16).bind fun x6 => (cAldI false h x6 v1).bind fun x7 => (gR h v0 8 15).bind fun x8 => (cAldI false h x8 v1).bind fun x9 => some (some (.int (x7 - x9)), h))) := by
  unfold q124_2
  refine e_iload_n (pc' := 3) k124_2 rfl rfl ?_
  refine e_iconst (v := 2) (pc' := 4) k124_3 rfl rfl ?_
  refine e_aload_n (pc' := 5) k124_4 rfl rfl ?_
  refine e_getI (pc' := 8) k124_5 rfl (ci := 8) (k := 5) (by decide +kernel) (by decide +kernel) (fun x1 => ?_)
  refine e_imul (pc' := 9) k124_8 rfl ?_
  refine e_icmpge (t := 47) (pc' := 12) k124_9 rfl (by decide) (fun _ => ?_) (fun _ => ?_)
  · refine e_iconst (v := 0) (pc' := 48) k124_47 rfl rfl ?_
    exact e_iret k124_48 (by decide +kernel)
  · refine e_aload_n (pc' := 13) k124_12 rfl rfl ?_
    refine e_getR (pc' := 16) k124_13 rfl (ci := 8) (k := 16) (by decide +kernel) (by decide +kernel) (fun x2 => ?_)
    refine e_iload_n (pc' := 17) k124_16 rfl rfl ?_
    refine e_iald (pc' := 18) k124_17 rfl (lw := false) rfl (fun x3 => ?_)
    refine e_aload_n (pc' := 19) k124_18 rfl rfl ?_
    refine e_getR (pc' := 22) k124_19 rfl (ci := 8) (k := 15) (by decide +kernel) (by decide +kernel) (fun x4 => ?_)
    refine e_iload_n (pc' := 23) k124_22 rfl rfl ?_
    refine e_iald (pc' := 24) k124_23 rfl (lw := false) rfl (fun x5 => ?_)
    refine e_icmpeq (t := 41) (pc' := 27) k124_24 rfl (by decide) (fun _ => ?_) (fun _ => ?_)
    · refine e_iinc (c := 1) (pc' := 44) k124_41 rfl rfl rfl rfl ?_
      refine e_goto (pc' := 2) k124_44 (by decide) ?_
      rfl
    · refine e_aload_n (pc' := 28) k124_27 rfl rfl ?_
      refine e_getR (pc' := 31) k124_28 rfl (ci := 8) (k := 16) (by decide +kernel) (by decide +kernel) (fun x6 => ?_)
      refine e_iload_n (pc' := 32) k124_31 rfl rfl ?_
      refine e_iald (pc' := 33) k124_32 rfl (lw := false) rfl (fun x7 => ?_)
      refine e_aload_n (pc' := 34) k124_33 rfl rfl ?_
      refine e_getR (pc' := 37) k124_34 rfl (ci := 8) (k := 15) (by decide +kernel) (by decide +kernel) (fun x8 => ?_)
      refine e_iload_n (pc' := 38) k124_37 rfl rfl ?_
      refine e_iald (pc' := 39) k124_38 rfl (lw := false) rfl (fun x9 => ?_)
      refine e_isub (pc' := 40) k124_39 rfl ?_
      exact e_iret k124_40 (by decide +kernel)
/-- SquareGroundsModel.against()I -/
theorem F124_eq (v0 : Nat) (h : mHeap) : F 124 [.ref v0] h = q124_2 v0 0 h := by
  show D 124 0 (mEnt 124 [.ref v0]) [] h 0 0 = _
  rw [show mEnt 124 [.ref v0] = [some (.ref v0), none] from rfl]
  refine e_iconst (v := 0) (pc' := 1) k124_0 rfl rfl ?_
  refine e_istore_n (pc' := 2) k124_1 rfl rfl ?_
  rfl
theorem k125_0 : decode (mB 125) 0 = .ok (.iload_n 1, 1) := by decide +kernel
theorem k125_1 : decode (mB 125) 1 = .ok (.iconst 5, 1) := by decide +kernel
theorem k125_2 : decode (mB 125) 2 = .ok (.if_icmp .ne 12, 3) := by decide +kernel
theorem k125_5 : decode (mB 125) 5 = .ok (.aload_n 0, 1) := by decide +kernel
theorem k125_6 : decode (mB 125) 6 = .ok (.invokevirtual 150, 3) := by decide +kernel
theorem k125_9 : decode (mB 125) 9 = .ok (.aload_n 0, 1) := by decide +kernel
theorem k125_10 : decode (mB 125) 10 = .ok (.getfield 143, 3) := by decide +kernel
theorem k125_13 : decode (mB 125) 13 = .ok (.ireturn, 1) := by decide +kernel
theorem k125_14 : decode (mB 125) 14 = .ok (.iload_n 1, 1) := by decide +kernel
theorem k125_15 : decode (mB 125) 15 = .ok (.ifCond .ne 10, 3) := by decide +kernel
theorem k125_18 : decode (mB 125) 18 = .ok (.aload_n 0, 1) := by decide +kernel
theorem k125_19 : decode (mB 125) 19 = .ok (.getfield 105, 3) := by decide +kernel
theorem k125_22 : decode (mB 125) 22 = .ok (.goto 39, 3) := by decide +kernel
theorem k125_25 : decode (mB 125) 25 = .ok (.iload_n 1, 1) := by decide +kernel
theorem k125_26 : decode (mB 125) 26 = .ok (.iconst 1, 1) := by decide +kernel
theorem k125_27 : decode (mB 125) 27 = .ok (.if_icmp .ne 10, 3) := by decide +kernel
theorem k125_30 : decode (mB 125) 30 = .ok (.aload_n 0, 1) := by decide +kernel
theorem k125_31 : decode (mB 125) 31 = .ok (.invokevirtual 153, 3) := by decide +kernel
theorem k125_34 : decode (mB 125) 34 = .ok (.goto 27, 3) := by decide +kernel
theorem k125_37 : decode (mB 125) 37 = .ok (.iload_n 1, 1) := by decide +kernel
theorem k125_38 : decode (mB 125) 38 = .ok (.iconst 2, 1) := by decide +kernel
theorem k125_39 : decode (mB 125) 39 = .ok (.if_icmp .ne 15, 3) := by decide +kernel
theorem k125_42 : decode (mB 125) 42 = .ok (.aload_n 0, 1) := by decide +kernel
theorem k125_43 : decode (mB 125) 43 = .ok (.iconst 2, 1) := by decide +kernel
theorem k125_44 : decode (mB 125) 44 = .ok (.invokevirtual 140, 3) := by decide +kernel
theorem k125_47 : decode (mB 125) 47 = .ok (.iconst 2, 1) := by decide +kernel
theorem k125_48 : decode (mB 125) 48 = .ok (.idiv, 1) := by decide +kernel
theorem k125_49 : decode (mB 125) 49 = .ok (.iconst 1, 1) := by decide +kernel
theorem k125_50 : decode (mB 125) 50 = .ok (.iadd, 1) := by decide +kernel
theorem k125_51 : decode (mB 125) 51 = .ok (.goto 10, 3) := by decide +kernel
theorem k125_54 : decode (mB 125) 54 = .ok (.aload_n 0, 1) := by decide +kernel
theorem k125_55 : decode (mB 125) 55 = .ok (.iload_n 1, 1) := by decide +kernel
theorem k125_56 : decode (mB 125) 56 = .ok (.iconst 3, 1) := by decide +kernel
theorem k125_57 : decode (mB 125) 57 = .ok (.isub, 1) := by decide +kernel
theorem k125_58 : decode (mB 125) 58 = .ok (.invokevirtual 140, 3) := by decide +kernel
theorem k125_61 : decode (mB 125) 61 = .ok (.ireturn, 1) := by decide +kernel
/-- SquareGroundsModel.tells(I)I -/
theorem F125_eq (v0 : Nat) (v1 : Int32) (h : mHeap) : F 125 [.ref v0, .int v1] h = if ¬ (v1 : Int32) = 5 then (if ¬ (v1 : Int32) = 0 then (if ¬ (v1 : Int32) = 1 then (if ¬ (v1 : Int32) = 2 then ((vI 121 v0 [.int (v1 - 3)] h).bind fun q1 => some (some (.int q1.1), q1.2)) else ((vI 121 v0 [.int 2] h).bind fun q2 => if (2 : Int32) = 0 then none else (some (some (.int ((q2.1 / 2) + 1)), q2.2)))) else ((vI 122 v0 [] h).bind fun q3 => some (some (.int q3.1), q3.2))) else ((gI h v0 8 5).bind fun x4 => some (some (.int x4), h))) else ((vV 123 v0 [] h).bind fun h5 => (gI h5 v0 8 17).bind fun x6 => some (some (.int x6), h5)) := by
  show D 125 0 (mEnt 125 [.ref v0, .int v1]) [] h 0 0 = _
  rw [show mEnt 125 [.ref v0, .int v1] = [some (.ref v0), some (.int v1)] from rfl]
  refine e_iload_n (pc' := 1) k125_0 rfl rfl ?_
  refine e_iconst (v := 5) (pc' := 2) k125_1 rfl rfl ?_
  refine e_icmpne (t := 14) (pc' := 5) k125_2 rfl (by decide) (fun _ => ?_) (fun _ => ?_)
  · refine e_iload_n (pc' := 15) k125_14 rfl rfl ?_
    refine e_ifne (t := 25) (pc' := 18) k125_15 rfl (by decide) (fun _ => ?_) (fun _ => ?_)
    · refine e_iload_n (pc' := 26) k125_25 rfl rfl ?_
      refine e_iconst (v := 1) (pc' := 27) k125_26 rfl rfl ?_
      refine e_icmpne (t := 37) (pc' := 30) k125_27 rfl (by decide) (fun _ => ?_) (fun _ => ?_)
      · refine e_iload_n (pc' := 38) k125_37 rfl rfl ?_
        refine e_iconst (v := 2) (pc' := 39) k125_38 rfl rfl ?_
        refine e_icmpne (t := 54) (pc' := 42) k125_39 rfl (by decide) (fun _ => ?_) (fun _ => ?_)
        · refine e_aload_n (pc' := 55) k125_54 rfl rfl ?_
          refine e_iload_n (pc' := 56) k125_55 rfl rfl ?_
          refine e_iconst (v := 3) (pc' := 57) k125_56 rfl rfl ?_
          refine e_isub (pc' := 58) k125_57 rfl ?_
          refine e_vI (j' := 121) (as := [.int (v1 - 3)]) (rest := []) (pc' := 61) k125_58 rfl (show mCk 125 1 140 121 1 = true by decide +kernel) (Or.inl (by decide +kernel)) rfl (Nat.le_of_ble_eq_true rfl) (show 2 ≤ mL 121 by decide +kernel) (fun q1 => ?_)
          exact e_iret k125_61 (by decide +kernel)
        · refine e_aload_n (pc' := 43) k125_42 rfl rfl ?_
          refine e_iconst (v := 2) (pc' := 44) k125_43 rfl rfl ?_
          refine e_vI (j' := 121) (as := [.int 2]) (rest := []) (pc' := 47) k125_44 rfl (show mCk 125 1 140 121 1 = true by decide +kernel) (Or.inl (by decide +kernel)) rfl (Nat.le_of_ble_eq_true rfl) (show 2 ≤ mL 121 by decide +kernel) (fun q2 => ?_)
          refine e_iconst (v := 2) (pc' := 48) k125_47 rfl rfl ?_
          refine e_idiv (pc' := 49) k125_48 rfl ?_
          refine e_iconst (v := 1) (pc' := 50) k125_49 rfl rfl ?_
          refine e_iadd (pc' := 51) k125_50 rfl ?_
          refine e_goto (pc' := 61) k125_51 (by decide) ?_
          exact e_iret k125_61 (by decide +kernel)
      · refine e_aload_n (pc' := 31) k125_30 rfl rfl ?_
        refine e_vI (j' := 122) (as := []) (rest := []) (pc' := 34) k125_31 rfl (show mCk 125 1 153 122 0 = true by decide +kernel) (Or.inl (by decide +kernel)) rfl (Nat.le_of_ble_eq_true rfl) (show 1 ≤ mL 122 by decide +kernel) (fun q3 => ?_)
        refine e_goto (pc' := 61) k125_34 (by decide) ?_
        exact e_iret k125_61 (by decide +kernel)
    · refine e_aload_n (pc' := 19) k125_18 rfl rfl ?_
      refine e_getI (pc' := 22) k125_19 rfl (ci := 8) (k := 5) (by decide +kernel) (by decide +kernel) (fun x4 => ?_)
      refine e_goto (pc' := 61) k125_22 (by decide) ?_
      exact e_iret k125_61 (by decide +kernel)
  · refine e_aload_n (pc' := 6) k125_5 rfl rfl ?_
    refine e_vV (j' := 123) (as := []) (rest := []) (pc' := 9) k125_6 rfl (show mCk 125 1 150 123 0 = true by decide +kernel) (by decide +kernel) rfl (Nat.le_of_ble_eq_true rfl) (show 1 ≤ mL 123 by decide +kernel) (fun h5 => ?_)
    refine e_aload_n (pc' := 10) k125_9 rfl rfl ?_
    refine e_getI (pc' := 13) k125_10 rfl (ci := 8) (k := 17) (by decide +kernel) (by decide +kernel) (fun x6 => ?_)
    exact e_iret k125_13 (by decide +kernel)
theorem k126_0 : decode (mB 126) 0 = .ok (.iload_n 2, 1) := by decide +kernel
theorem k126_1 : decode (mB 126) 1 = .ok (.iconst 0, 1) := by decide +kernel
theorem k126_2 : decode (mB 126) 2 = .ok (.iconst 5, 1) := by decide +kernel
theorem k126_3 : decode (mB 126) 3 = .ok (.invokestatic 90, 3) := by decide +kernel
theorem k126_6 : decode (mB 126) 6 = .ok (.ifCond .ne 5, 3) := by decide +kernel
theorem k126_9 : decode (mB 126) 9 = .ok (.iconst (-1), 1) := by decide +kernel
theorem k126_10 : decode (mB 126) 10 = .ok (.ireturn, 1) := by decide +kernel
theorem k126_11 : decode (mB 126) 11 = .ok (.aload_n 0, 1) := by decide +kernel
theorem k126_12 : decode (mB 126) 12 = .ok (.iload_n 1, 1) := by decide +kernel
theorem k126_13 : decode (mB 126) 13 = .ok (.invokevirtual 128, 3) := by decide +kernel
theorem k126_16 : decode (mB 126) 16 = .ok (.istore_n 3, 1) := by decide +kernel
theorem k126_17 : decode (mB 126) 17 = .ok (.iload_n 3, 1) := by decide +kernel
theorem k126_18 : decode (mB 126) 18 = .ok (.ifCond .ge 7, 3) := by decide +kernel
theorem k126_21 : decode (mB 126) 21 = .ok (.iload_n 3, 1) := by decide +kernel
theorem k126_22 : decode (mB 126) 22 = .ok (.goto 8, 3) := by decide +kernel
theorem k126_25 : decode (mB 126) 25 = .ok (.aload_n 0, 1) := by decide +kernel
theorem k126_26 : decode (mB 126) 26 = .ok (.iload_n 2, 1) := by decide +kernel
theorem k126_27 : decode (mB 126) 27 = .ok (.invokevirtual 156, 3) := by decide +kernel
theorem k126_30 : decode (mB 126) 30 = .ok (.ireturn, 1) := by decide +kernel
/-- SquareGroundsModel.told(II)I -/
theorem F126_eq (v0 : Nat) (v1 : Int32) (v2 : Int32) (h : mHeap) : F 126 [.ref v0, .int v1, .int v2] h = (sI 100 [.int v2, .int 0, .int 5] h).bind fun q1 => if ¬ (q1.1 : Int32) = 0 then ((vI 110 v0 [.int v1] q1.2).bind fun q2 => if 0 ≤ (q2.1 : Int32) then ((vI 125 v0 [.int v2] q2.2).bind fun q3 => some (some (.int q3.1), q3.2)) else (some (some (.int q2.1), q2.2))) else (some (some (.int (-1)), q1.2)) := by
  show D 126 0 (mEnt 126 [.ref v0, .int v1, .int v2]) [] h 0 0 = _
  rw [show mEnt 126 [.ref v0, .int v1, .int v2] = [some (.ref v0), some (.int v1), some (.int v2), none] from rfl]
  refine e_iload_n (pc' := 1) k126_0 rfl rfl ?_
  refine e_iconst (v := 0) (pc' := 2) k126_1 rfl rfl ?_
  refine e_iconst (v := 5) (pc' := 3) k126_2 rfl rfl ?_
  refine e_sI (j' := 100) (as := [.int v2, .int 0, .int 5]) (rest := []) (pc' := 6) k126_3 rfl (show mCk 126 0 90 100 3 = true by decide +kernel) (Or.inr (by decide +kernel)) rfl (Nat.le_of_ble_eq_true rfl) (show 3 ≤ mL 100 by decide +kernel) (fun q1 => ?_)
  refine e_ifne (t := 11) (pc' := 9) k126_6 rfl (by decide) (fun _ => ?_) (fun _ => ?_)
  · refine e_aload_n (pc' := 12) k126_11 rfl rfl ?_
    refine e_iload_n (pc' := 13) k126_12 rfl rfl ?_
    refine e_vI (j' := 110) (as := [.int v1]) (rest := []) (pc' := 16) k126_13 rfl (show mCk 126 1 128 110 1 = true by decide +kernel) (Or.inl (by decide +kernel)) rfl (Nat.le_of_ble_eq_true rfl) (show 2 ≤ mL 110 by decide +kernel) (fun q2 => ?_)
    refine e_istore_n (pc' := 17) k126_16 rfl rfl ?_
    refine e_iload_n (pc' := 18) k126_17 rfl rfl ?_
    refine e_ifge (t := 25) (pc' := 21) k126_18 rfl (by decide) (fun _ => ?_) (fun _ => ?_)
    · refine e_aload_n (pc' := 26) k126_25 rfl rfl ?_
      refine e_iload_n (pc' := 27) k126_26 rfl rfl ?_
      refine e_vI (j' := 125) (as := [.int v2]) (rest := []) (pc' := 30) k126_27 rfl (show mCk 126 1 156 125 1 = true by decide +kernel) (Or.inl (by decide +kernel)) rfl (Nat.le_of_ble_eq_true rfl) (show 2 ≤ mL 125 by decide +kernel) (fun q3 => ?_)
      exact e_iret k126_30 (by decide +kernel)
    · refine e_iload_n (pc' := 22) k126_21 rfl rfl ?_
      refine e_goto (pc' := 30) k126_22 (by decide) ?_
      exact e_iret k126_30 (by decide +kernel)
  · refine e_iconst (v := -1) (pc' := 10) k126_9 rfl rfl ?_
    exact e_iret k126_10 (by decide +kernel)
theorem k127_0 : decode (mB 127) 0 = .ok (.iconst 1, 1) := by decide +kernel
theorem k127_1 : decode (mB 127) 1 = .ok (.istore_n 2, 1) := by decide +kernel
theorem k127_2 : decode (mB 127) 2 = .ok (.aload_n 0, 1) := by decide +kernel
theorem k127_3 : decode (mB 127) 3 = .ok (.getfield 22, 3) := by decide +kernel
theorem k127_6 : decode (mB 127) 6 = .ok (.iload_n 1, 1) := by decide +kernel
theorem k127_7 : decode (mB 127) 7 = .ok (.iaload, 1) := by decide +kernel
theorem k127_8 : decode (mB 127) 8 = .ok (.istore_n 3, 1) := by decide +kernel
theorem k127_9 : decode (mB 127) 9 = .ok (.iload_n 3, 1) := by decide +kernel
theorem k127_10 : decode (mB 127) 10 = .ok (.iload_n 1, 1) := by decide +kernel
theorem k127_11 : decode (mB 127) 11 = .ok (.if_icmp .eq 16, 3) := by decide +kernel
theorem k127_14 : decode (mB 127) 14 = .ok (.iinc 2 1, 3) := by decide +kernel
theorem k127_17 : decode (mB 127) 17 = .ok (.aload_n 0, 1) := by decide +kernel
theorem k127_18 : decode (mB 127) 18 = .ok (.getfield 22, 3) := by decide +kernel
theorem k127_21 : decode (mB 127) 21 = .ok (.iload_n 3, 1) := by decide +kernel
theorem k127_22 : decode (mB 127) 22 = .ok (.iaload, 1) := by decide +kernel
theorem k127_23 : decode (mB 127) 23 = .ok (.istore_n 3, 1) := by decide +kernel
theorem k127_24 : decode (mB 127) 24 = .ok (.goto (-15), 3) := by decide +kernel
theorem k127_27 : decode (mB 127) 27 = .ok (.iload_n 2, 1) := by decide +kernel
theorem k127_28 : decode (mB 127) 28 = .ok (.ireturn, 1) := by decide +kernel
/-- SquareGroundsModel.ringOf, loop at 9 -/
noncomputable def q127_9 (v0 : Nat) (v1 : Int32) (v2 : Int32) (v3 : Int32) (h : mHeap) : mR' := E 127 9 [some (.ref v0), some (.int v1), some (.int v2), some (.int v3)] [] h
theorem q127_9_eq (v0 : Nat) (v1 : Int32) (v2 : Int32) (v3 : Int32) (h : mHeap) : q127_9 v0 v1 v2 v3 h = if (v3 : Int32) = v1 then (some (some (.int v2), h)) else ((gR h v0 8 6).bind fun x1 => (cAldI false h x1 v3).bind fun x2 => q127_9 v0 v1 (v2 + 1) x2 h) := by
  unfold q127_9
  refine e_iload_n (pc' := 10) k127_9 rfl rfl ?_
  refine e_iload_n (pc' := 11) k127_10 rfl rfl ?_
  refine e_icmpeq (t := 27) (pc' := 14) k127_11 rfl (by decide) (fun _ => ?_) (fun _ => ?_)
  · refine e_iload_n (pc' := 28) k127_27 rfl rfl ?_
    exact e_iret k127_28 (by decide +kernel)
  · refine e_iinc (c := 1) (pc' := 17) k127_14 rfl rfl rfl rfl ?_
    refine e_aload_n (pc' := 18) k127_17 rfl rfl ?_
    refine e_getR (pc' := 21) k127_18 rfl (ci := 8) (k := 6) (by decide +kernel) (by decide +kernel) (fun x1 => ?_)
    refine e_iload_n (pc' := 22) k127_21 rfl rfl ?_
    refine e_iald (pc' := 23) k127_22 rfl (lw := false) rfl (fun x2 => ?_)
    refine e_istore_n (pc' := 24) k127_23 rfl rfl ?_
    refine e_goto (pc' := 9) k127_24 (by decide) ?_
    rfl
/-- SquareGroundsModel.ringOf(I)I -/
theorem F127_eq (v0 : Nat) (v1 : Int32) (h : mHeap) : F 127 [.ref v0, .int v1] h = (gR h v0 8 6).bind fun x1 => (cAldI false h x1 v1).bind fun x2 => q127_9 v0 v1 1 x2 h := by
  show D 127 0 (mEnt 127 [.ref v0, .int v1]) [] h 0 0 = _
  rw [show mEnt 127 [.ref v0, .int v1] = [some (.ref v0), some (.int v1), none, none] from rfl]
  refine e_iconst (v := 1) (pc' := 1) k127_0 rfl rfl ?_
  refine e_istore_n (pc' := 2) k127_1 rfl rfl ?_
  refine e_aload_n (pc' := 3) k127_2 rfl rfl ?_
  refine e_getR (pc' := 6) k127_3 rfl (ci := 8) (k := 6) (by decide +kernel) (by decide +kernel) (fun x1 => ?_)
  refine e_iload_n (pc' := 7) k127_6 rfl rfl ?_
  refine e_iald (pc' := 8) k127_7 rfl (lw := false) rfl (fun x2 => ?_)
  refine e_istore_n (pc' := 9) k127_8 rfl rfl ?_
  rfl
theorem k128_0 : decode (mB 128) 0 = .ok (.iload_n 2, 1) := by decide +kernel
theorem k128_1 : decode (mB 128) 1 = .ok (.iconst 1, 1) := by decide +kernel
theorem k128_2 : decode (mB 128) 2 = .ok (.iconst 3, 1) := by decide +kernel
theorem k128_3 : decode (mB 128) 3 = .ok (.invokestatic 90, 3) := by decide +kernel
theorem k128_6 : decode (mB 128) 6 = .ok (.ifCond .ne 5, 3) := by decide +kernel
theorem k128_9 : decode (mB 128) 9 = .ok (.iconst (-1), 1) := by decide +kernel
theorem k128_10 : decode (mB 128) 10 = .ok (.ireturn, 1) := by decide +kernel
theorem k128_11 : decode (mB 128) 11 = .ok (.aload_n 0, 1) := by decide +kernel
theorem k128_12 : decode (mB 128) 12 = .ok (.iload_n 1, 1) := by decide +kernel
theorem k128_13 : decode (mB 128) 13 = .ok (.invokevirtual 128, 3) := by decide +kernel
theorem k128_16 : decode (mB 128) 16 = .ok (.istore_n 3, 1) := by decide +kernel
theorem k128_17 : decode (mB 128) 17 = .ok (.iload_n 3, 1) := by decide +kernel
theorem k128_18 : decode (mB 128) 18 = .ok (.ifCond .ge 5, 3) := by decide +kernel
theorem k128_21 : decode (mB 128) 21 = .ok (.iload_n 3, 1) := by decide +kernel
theorem k128_22 : decode (mB 128) 22 = .ok (.ireturn, 1) := by decide +kernel
theorem k128_23 : decode (mB 128) 23 = .ok (.aload_n 0, 1) := by decide +kernel
theorem k128_24 : decode (mB 128) 24 = .ok (.invokevirtual 153, 3) := by decide +kernel
theorem k128_27 : decode (mB 128) 27 = .ok (.iload_n 2, 1) := by decide +kernel
theorem k128_28 : decode (mB 128) 28 = .ok (.if_icmp .eq 9, 3) := by decide +kernel
theorem k128_31 : decode (mB 128) 31 = .ok (.aload_n 0, 1) := by decide +kernel
theorem k128_32 : decode (mB 128) 32 = .ok (.iconst 3, 1) := by decide +kernel
theorem k128_33 : decode (mB 128) 33 = .ok (.invokevirtual 98, 3) := by decide +kernel
theorem k128_36 : decode (mB 128) 36 = .ok (.ireturn, 1) := by decide +kernel
theorem k128_37 : decode (mB 128) 37 = .ok (.iload_n 2, 1) := by decide +kernel
theorem k128_38 : decode (mB 128) 38 = .ok (.iconst 1, 1) := by decide +kernel
theorem k128_39 : decode (mB 128) 39 = .ok (.if_icmp .ne 11, 3) := by decide +kernel
theorem k128_42 : decode (mB 128) 42 = .ok (.aload_n 0, 1) := by decide +kernel
theorem k128_43 : decode (mB 128) 43 = .ok (.iconst 0, 1) := by decide +kernel
theorem k128_44 : decode (mB 128) 44 = .ok (.invokevirtual 159, 3) := by decide +kernel
theorem k128_47 : decode (mB 128) 47 = .ok (.goto 21, 3) := by decide +kernel
theorem k128_50 : decode (mB 128) 50 = .ok (.iload_n 2, 1) := by decide +kernel
theorem k128_51 : decode (mB 128) 51 = .ok (.iconst 2, 1) := by decide +kernel
theorem k128_52 : decode (mB 128) 52 = .ok (.if_icmp .ne 11, 3) := by decide +kernel
theorem k128_55 : decode (mB 128) 55 = .ok (.aload_n 0, 1) := by decide +kernel
theorem k128_56 : decode (mB 128) 56 = .ok (.iconst 3, 1) := by decide +kernel
theorem k128_57 : decode (mB 128) 57 = .ok (.invokevirtual 140, 3) := by decide +kernel
theorem k128_60 : decode (mB 128) 60 = .ok (.goto 8, 3) := by decide +kernel
theorem k128_63 : decode (mB 128) 63 = .ok (.aload_n 0, 1) := by decide +kernel
theorem k128_64 : decode (mB 128) 64 = .ok (.iconst 4, 1) := by decide +kernel
theorem k128_65 : decode (mB 128) 65 = .ok (.invokevirtual 140, 3) := by decide +kernel
theorem k128_68 : decode (mB 128) 68 = .ok (.ireturn, 1) := by decide +kernel
/-- SquareGroundsModel.mark(II)I -/
theorem F128_eq (v0 : Nat) (v1 : Int32) (v2 : Int32) (h : mHeap) : F 128 [.ref v0, .int v1, .int v2] h = (sI 100 [.int v2, .int 1, .int 3] h).bind fun q1 => if ¬ (q1.1 : Int32) = 0 then ((vI 110 v0 [.int v1] q1.2).bind fun q2 => if 0 ≤ (q2.1 : Int32) then ((vI 122 v0 [] q2.2).bind fun q3 => if (q3.1 : Int32) = v2 then (if ¬ (v2 : Int32) = 1 then (if ¬ (v2 : Int32) = 2 then ((vI 121 v0 [.int 4] q3.2).bind fun q4 => some (some (.int q4.1), q4.2)) else ((vI 121 v0 [.int 3] q3.2).bind fun q5 => some (some (.int q5.1), q5.2))) else ((vI 127 v0 [.int 0] q3.2).bind fun q6 => some (some (.int q6.1), q6.2))) else ((vI 101 v0 [.int 3] q3.2).bind fun q7 => some (some (.int q7.1), q7.2))) else (some (some (.int q2.1), q2.2))) else (some (some (.int (-1)), q1.2)) := by
  show D 128 0 (mEnt 128 [.ref v0, .int v1, .int v2]) [] h 0 0 = _
  rw [show mEnt 128 [.ref v0, .int v1, .int v2] = [some (.ref v0), some (.int v1), some (.int v2), none] from rfl]
  refine e_iload_n (pc' := 1) k128_0 rfl rfl ?_
  refine e_iconst (v := 1) (pc' := 2) k128_1 rfl rfl ?_
  refine e_iconst (v := 3) (pc' := 3) k128_2 rfl rfl ?_
  refine e_sI (j' := 100) (as := [.int v2, .int 1, .int 3]) (rest := []) (pc' := 6) k128_3 rfl (show mCk 128 0 90 100 3 = true by decide +kernel) (Or.inr (by decide +kernel)) rfl (Nat.le_of_ble_eq_true rfl) (show 3 ≤ mL 100 by decide +kernel) (fun q1 => ?_)
  refine e_ifne (t := 11) (pc' := 9) k128_6 rfl (by decide) (fun _ => ?_) (fun _ => ?_)
  · refine e_aload_n (pc' := 12) k128_11 rfl rfl ?_
    refine e_iload_n (pc' := 13) k128_12 rfl rfl ?_
    refine e_vI (j' := 110) (as := [.int v1]) (rest := []) (pc' := 16) k128_13 rfl (show mCk 128 1 128 110 1 = true by decide +kernel) (Or.inl (by decide +kernel)) rfl (Nat.le_of_ble_eq_true rfl) (show 2 ≤ mL 110 by decide +kernel) (fun q2 => ?_)
    refine e_istore_n (pc' := 17) k128_16 rfl rfl ?_
    refine e_iload_n (pc' := 18) k128_17 rfl rfl ?_
    refine e_ifge (t := 23) (pc' := 21) k128_18 rfl (by decide) (fun _ => ?_) (fun _ => ?_)
    · refine e_aload_n (pc' := 24) k128_23 rfl rfl ?_
      refine e_vI (j' := 122) (as := []) (rest := []) (pc' := 27) k128_24 rfl (show mCk 128 1 153 122 0 = true by decide +kernel) (Or.inl (by decide +kernel)) rfl (Nat.le_of_ble_eq_true rfl) (show 1 ≤ mL 122 by decide +kernel) (fun q3 => ?_)
      refine e_iload_n (pc' := 28) k128_27 rfl rfl ?_
      refine e_icmpeq (t := 37) (pc' := 31) k128_28 rfl (by decide) (fun _ => ?_) (fun _ => ?_)
      · refine e_iload_n (pc' := 38) k128_37 rfl rfl ?_
        refine e_iconst (v := 1) (pc' := 39) k128_38 rfl rfl ?_
        refine e_icmpne (t := 50) (pc' := 42) k128_39 rfl (by decide) (fun _ => ?_) (fun _ => ?_)
        · refine e_iload_n (pc' := 51) k128_50 rfl rfl ?_
          refine e_iconst (v := 2) (pc' := 52) k128_51 rfl rfl ?_
          refine e_icmpne (t := 63) (pc' := 55) k128_52 rfl (by decide) (fun _ => ?_) (fun _ => ?_)
          · refine e_aload_n (pc' := 64) k128_63 rfl rfl ?_
            refine e_iconst (v := 4) (pc' := 65) k128_64 rfl rfl ?_
            refine e_vI (j' := 121) (as := [.int 4]) (rest := []) (pc' := 68) k128_65 rfl (show mCk 128 1 140 121 1 = true by decide +kernel) (Or.inl (by decide +kernel)) rfl (Nat.le_of_ble_eq_true rfl) (show 2 ≤ mL 121 by decide +kernel) (fun q4 => ?_)
            exact e_iret k128_68 (by decide +kernel)
          · refine e_aload_n (pc' := 56) k128_55 rfl rfl ?_
            refine e_iconst (v := 3) (pc' := 57) k128_56 rfl rfl ?_
            refine e_vI (j' := 121) (as := [.int 3]) (rest := []) (pc' := 60) k128_57 rfl (show mCk 128 1 140 121 1 = true by decide +kernel) (Or.inl (by decide +kernel)) rfl (Nat.le_of_ble_eq_true rfl) (show 2 ≤ mL 121 by decide +kernel) (fun q5 => ?_)
            refine e_goto (pc' := 68) k128_60 (by decide) ?_
            exact e_iret k128_68 (by decide +kernel)
        · refine e_aload_n (pc' := 43) k128_42 rfl rfl ?_
          refine e_iconst (v := 0) (pc' := 44) k128_43 rfl rfl ?_
          refine e_vI (j' := 127) (as := [.int 0]) (rest := []) (pc' := 47) k128_44 rfl (show mCk 128 1 159 127 1 = true by decide +kernel) (Or.inl (by decide +kernel)) rfl (Nat.le_of_ble_eq_true rfl) (show 2 ≤ mL 127 by decide +kernel) (fun q6 => ?_)
          refine e_goto (pc' := 68) k128_47 (by decide) ?_
          exact e_iret k128_68 (by decide +kernel)
      · refine e_aload_n (pc' := 32) k128_31 rfl rfl ?_
        refine e_iconst (v := 3) (pc' := 33) k128_32 rfl rfl ?_
        refine e_vI (j' := 101) (as := [.int 3]) (rest := []) (pc' := 36) k128_33 rfl (show mCk 128 1 98 101 1 = true by decide +kernel) (Or.inl (by decide +kernel)) rfl (Nat.le_of_ble_eq_true rfl) (show 2 ≤ mL 101 by decide +kernel) (fun q7 => ?_)
        exact e_iret k128_36 (by decide +kernel)
    · refine e_iload_n (pc' := 22) k128_21 rfl rfl ?_
      exact e_iret k128_22 (by decide +kernel)
  · refine e_iconst (v := -1) (pc' := 10) k128_9 rfl rfl ?_
    exact e_iret k128_10 (by decide +kernel)
theorem k129_0 : decode (mB 129) 0 = .ok (.aload_n 0, 1) := by decide +kernel
theorem k129_1 : decode (mB 129) 1 = .ok (.iload_n 1, 1) := by decide +kernel
theorem k129_2 : decode (mB 129) 2 = .ok (.invokevirtual 128, 3) := by decide +kernel
theorem k129_5 : decode (mB 129) 5 = .ok (.istore 4, 2) := by decide +kernel
theorem k129_7 : decode (mB 129) 7 = .ok (.iload 4, 2) := by decide +kernel
theorem k129_9 : decode (mB 129) 9 = .ok (.ifCond .ge 8, 3) := by decide +kernel
theorem k129_12 : decode (mB 129) 12 = .ok (.iload 4, 2) := by decide +kernel
theorem k129_14 : decode (mB 129) 14 = .ok (.goto 44, 3) := by decide +kernel
theorem k129_17 : decode (mB 129) 17 = .ok (.iload_n 2, 1) := by decide +kernel
theorem k129_18 : decode (mB 129) 18 = .ok (.iconst 0, 1) := by decide +kernel
theorem k129_19 : decode (mB 129) 19 = .ok (.aload_n 0, 1) := by decide +kernel
theorem k129_20 : decode (mB 129) 20 = .ok (.getfield 105, 3) := by decide +kernel
theorem k129_23 : decode (mB 129) 23 = .ok (.iconst 1, 1) := by decide +kernel
theorem k129_24 : decode (mB 129) 24 = .ok (.isub, 1) := by decide +kernel
theorem k129_25 : decode (mB 129) 25 = .ok (.invokestatic 90, 3) := by decide +kernel
theorem k129_28 : decode (mB 129) 28 = .ok (.ifCond .eq 25, 3) := by decide +kernel
theorem k129_31 : decode (mB 129) 31 = .ok (.iload_n 3, 1) := by decide +kernel
theorem k129_32 : decode (mB 129) 32 = .ok (.ifCond .eq 12, 3) := by decide +kernel
theorem k129_35 : decode (mB 129) 35 = .ok (.aload_n 0, 1) := by decide +kernel
theorem k129_36 : decode (mB 129) 36 = .ok (.getfield 25, 3) := by decide +kernel
theorem k129_39 : decode (mB 129) 39 = .ok (.iload_n 2, 1) := by decide +kernel
theorem k129_40 : decode (mB 129) 40 = .ok (.iaload, 1) := by decide +kernel
theorem k129_41 : decode (mB 129) 41 = .ok (.goto 17, 3) := by decide +kernel
theorem k129_44 : decode (mB 129) 44 = .ok (.aload_n 0, 1) := by decide +kernel
theorem k129_45 : decode (mB 129) 45 = .ok (.getfield 22, 3) := by decide +kernel
theorem k129_48 : decode (mB 129) 48 = .ok (.iload_n 2, 1) := by decide +kernel
theorem k129_49 : decode (mB 129) 49 = .ok (.iaload, 1) := by decide +kernel
theorem k129_50 : decode (mB 129) 50 = .ok (.goto 8, 3) := by decide +kernel
theorem k129_53 : decode (mB 129) 53 = .ok (.aload_n 0, 1) := by decide +kernel
theorem k129_54 : decode (mB 129) 54 = .ok (.iconst 2, 1) := by decide +kernel
theorem k129_55 : decode (mB 129) 55 = .ok (.invokevirtual 98, 3) := by decide +kernel
theorem k129_58 : decode (mB 129) 58 = .ok (.ireturn, 1) := by decide +kernel
/-- SquareGroundsModel.next(IIZ)I -/
theorem F129_eq (v0 : Nat) (v1 : Int32) (v2 : Int32) (v3 : Int32) (h : mHeap) : F 129 [.ref v0, .int v1, .int v2, .int v3] h = (vI 110 v0 [.int v1] h).bind fun q1 => if 0 ≤ (q1.1 : Int32) then ((gI q1.2 v0 8 5).bind fun x2 => (sI 100 [.int v2, .int 0, .int (x2 - 1)] q1.2).bind fun q3 => if (q3.1 : Int32) = 0 then ((vI 101 v0 [.int 2] q3.2).bind fun q4 => some (some (.int q4.1), q4.2)) else (if (v3 : Int32) = 0 then ((gR q3.2 v0 8 6).bind fun x5 => (cAldI false q3.2 x5 v2).bind fun x6 => some (some (.int x6), q3.2)) else ((gR q3.2 v0 8 7).bind fun x7 => (cAldI false q3.2 x7 v2).bind fun x8 => some (some (.int x8), q3.2)))) else (some (some (.int q1.1), q1.2)) := by
  show D 129 0 (mEnt 129 [.ref v0, .int v1, .int v2, .int v3]) [] h 0 0 = _
  rw [show mEnt 129 [.ref v0, .int v1, .int v2, .int v3] = [some (.ref v0), some (.int v1), some (.int v2), some (.int v3), none] from rfl]
  refine e_aload_n (pc' := 1) k129_0 rfl rfl ?_
  refine e_iload_n (pc' := 2) k129_1 rfl rfl ?_
  refine e_vI (j' := 110) (as := [.int v1]) (rest := []) (pc' := 5) k129_2 rfl (show mCk 129 1 128 110 1 = true by decide +kernel) (Or.inl (by decide +kernel)) rfl (Nat.le_of_ble_eq_true rfl) (show 2 ≤ mL 110 by decide +kernel) (fun q1 => ?_)
  refine e_istore (pc' := 7) k129_5 rfl rfl ?_
  refine e_iload (pc' := 9) k129_7 rfl rfl ?_
  refine e_ifge (t := 17) (pc' := 12) k129_9 rfl (by decide) (fun _ => ?_) (fun _ => ?_)
  · refine e_iload_n (pc' := 18) k129_17 rfl rfl ?_
    refine e_iconst (v := 0) (pc' := 19) k129_18 rfl rfl ?_
    refine e_aload_n (pc' := 20) k129_19 rfl rfl ?_
    refine e_getI (pc' := 23) k129_20 rfl (ci := 8) (k := 5) (by decide +kernel) (by decide +kernel) (fun x2 => ?_)
    refine e_iconst (v := 1) (pc' := 24) k129_23 rfl rfl ?_
    refine e_isub (pc' := 25) k129_24 rfl ?_
    refine e_sI (j' := 100) (as := [.int v2, .int 0, .int (x2 - 1)]) (rest := []) (pc' := 28) k129_25 rfl (show mCk 129 0 90 100 3 = true by decide +kernel) (Or.inr (by decide +kernel)) rfl (Nat.le_of_ble_eq_true rfl) (show 3 ≤ mL 100 by decide +kernel) (fun q3 => ?_)
    refine e_ifeq (t := 53) (pc' := 31) k129_28 rfl (by decide) (fun _ => ?_) (fun _ => ?_)
    · refine e_aload_n (pc' := 54) k129_53 rfl rfl ?_
      refine e_iconst (v := 2) (pc' := 55) k129_54 rfl rfl ?_
      refine e_vI (j' := 101) (as := [.int 2]) (rest := []) (pc' := 58) k129_55 rfl (show mCk 129 1 98 101 1 = true by decide +kernel) (Or.inl (by decide +kernel)) rfl (Nat.le_of_ble_eq_true rfl) (show 2 ≤ mL 101 by decide +kernel) (fun q4 => ?_)
      exact e_iret k129_58 (by decide +kernel)
    · refine e_iload_n (pc' := 32) k129_31 rfl rfl ?_
      refine e_ifeq (t := 44) (pc' := 35) k129_32 rfl (by decide) (fun _ => ?_) (fun _ => ?_)
      · refine e_aload_n (pc' := 45) k129_44 rfl rfl ?_
        refine e_getR (pc' := 48) k129_45 rfl (ci := 8) (k := 6) (by decide +kernel) (by decide +kernel) (fun x5 => ?_)
        refine e_iload_n (pc' := 49) k129_48 rfl rfl ?_
        refine e_iald (pc' := 50) k129_49 rfl (lw := false) rfl (fun x6 => ?_)
        refine e_goto (pc' := 58) k129_50 (by decide) ?_
        exact e_iret k129_58 (by decide +kernel)
      · refine e_aload_n (pc' := 36) k129_35 rfl rfl ?_
        refine e_getR (pc' := 39) k129_36 rfl (ci := 8) (k := 7) (by decide +kernel) (by decide +kernel) (fun x7 => ?_)
        refine e_iload_n (pc' := 40) k129_39 rfl rfl ?_
        refine e_iald (pc' := 41) k129_40 rfl (lw := false) rfl (fun x8 => ?_)
        refine e_goto (pc' := 58) k129_41 (by decide) ?_
        exact e_iret k129_58 (by decide +kernel)
  · refine e_iload (pc' := 14) k129_12 rfl rfl ?_
    refine e_goto (pc' := 58) k129_14 (by decide) ?_
    exact e_iret k129_58 (by decide +kernel)
theorem k130_0 : decode (mB 130) 0 = .ok (.aload_n 0, 1) := by decide +kernel
theorem k130_1 : decode (mB 130) 1 = .ok (.iload_n 1, 1) := by decide +kernel
theorem k130_2 : decode (mB 130) 2 = .ok (.invokevirtual 128, 3) := by decide +kernel
theorem k130_5 : decode (mB 130) 5 = .ok (.istore_n 3, 1) := by decide +kernel
theorem k130_6 : decode (mB 130) 6 = .ok (.iload_n 3, 1) := by decide +kernel
theorem k130_7 : decode (mB 130) 7 = .ok (.ifCond .ge 7, 3) := by decide +kernel
theorem k130_10 : decode (mB 130) 10 = .ok (.iload_n 3, 1) := by decide +kernel
theorem k130_11 : decode (mB 130) 11 = .ok (.goto 30, 3) := by decide +kernel
theorem k130_14 : decode (mB 130) 14 = .ok (.iload_n 2, 1) := by decide +kernel
theorem k130_15 : decode (mB 130) 15 = .ok (.iconst 0, 1) := by decide +kernel
theorem k130_16 : decode (mB 130) 16 = .ok (.aload_n 0, 1) := by decide +kernel
theorem k130_17 : decode (mB 130) 17 = .ok (.getfield 105, 3) := by decide +kernel
theorem k130_20 : decode (mB 130) 20 = .ok (.iconst 1, 1) := by decide +kernel
theorem k130_21 : decode (mB 130) 21 = .ok (.isub, 1) := by decide +kernel
theorem k130_22 : decode (mB 130) 22 = .ok (.invokestatic 90, 3) := by decide +kernel
theorem k130_25 : decode (mB 130) 25 = .ok (.ifCond .eq 11, 3) := by decide +kernel
theorem k130_28 : decode (mB 130) 28 = .ok (.aload_n 0, 1) := by decide +kernel
theorem k130_29 : decode (mB 130) 29 = .ok (.iload_n 2, 1) := by decide +kernel
theorem k130_30 : decode (mB 130) 30 = .ok (.invokevirtual 137, 3) := by decide +kernel
theorem k130_33 : decode (mB 130) 33 = .ok (.goto 8, 3) := by decide +kernel
theorem k130_36 : decode (mB 130) 36 = .ok (.aload_n 0, 1) := by decide +kernel
theorem k130_37 : decode (mB 130) 37 = .ok (.iconst 2, 1) := by decide +kernel
theorem k130_38 : decode (mB 130) 38 = .ok (.invokevirtual 98, 3) := by decide +kernel
theorem k130_41 : decode (mB 130) 41 = .ok (.ireturn, 1) := by decide +kernel
/-- SquareGroundsModel.bend(II)I -/
theorem F130_eq (v0 : Nat) (v1 : Int32) (v2 : Int32) (h : mHeap) : F 130 [.ref v0, .int v1, .int v2] h = (vI 110 v0 [.int v1] h).bind fun q1 => if 0 ≤ (q1.1 : Int32) then ((gI q1.2 v0 8 5).bind fun x2 => (sI 100 [.int v2, .int 0, .int (x2 - 1)] q1.2).bind fun q3 => if (q3.1 : Int32) = 0 then ((vI 101 v0 [.int 2] q3.2).bind fun q4 => some (some (.int q4.1), q4.2)) else ((vI 119 v0 [.int v2] q3.2).bind fun q5 => some (some (.int q5.1), q5.2))) else (some (some (.int q1.1), q1.2)) := by
  show D 130 0 (mEnt 130 [.ref v0, .int v1, .int v2]) [] h 0 0 = _
  rw [show mEnt 130 [.ref v0, .int v1, .int v2] = [some (.ref v0), some (.int v1), some (.int v2), none] from rfl]
  refine e_aload_n (pc' := 1) k130_0 rfl rfl ?_
  refine e_iload_n (pc' := 2) k130_1 rfl rfl ?_
  refine e_vI (j' := 110) (as := [.int v1]) (rest := []) (pc' := 5) k130_2 rfl (show mCk 130 1 128 110 1 = true by decide +kernel) (Or.inl (by decide +kernel)) rfl (Nat.le_of_ble_eq_true rfl) (show 2 ≤ mL 110 by decide +kernel) (fun q1 => ?_)
  refine e_istore_n (pc' := 6) k130_5 rfl rfl ?_
  refine e_iload_n (pc' := 7) k130_6 rfl rfl ?_
  refine e_ifge (t := 14) (pc' := 10) k130_7 rfl (by decide) (fun _ => ?_) (fun _ => ?_)
  · refine e_iload_n (pc' := 15) k130_14 rfl rfl ?_
    refine e_iconst (v := 0) (pc' := 16) k130_15 rfl rfl ?_
    refine e_aload_n (pc' := 17) k130_16 rfl rfl ?_
    refine e_getI (pc' := 20) k130_17 rfl (ci := 8) (k := 5) (by decide +kernel) (by decide +kernel) (fun x2 => ?_)
    refine e_iconst (v := 1) (pc' := 21) k130_20 rfl rfl ?_
    refine e_isub (pc' := 22) k130_21 rfl ?_
    refine e_sI (j' := 100) (as := [.int v2, .int 0, .int (x2 - 1)]) (rest := []) (pc' := 25) k130_22 rfl (show mCk 130 0 90 100 3 = true by decide +kernel) (Or.inr (by decide +kernel)) rfl (Nat.le_of_ble_eq_true rfl) (show 3 ≤ mL 100 by decide +kernel) (fun q3 => ?_)
    refine e_ifeq (t := 36) (pc' := 28) k130_25 rfl (by decide) (fun _ => ?_) (fun _ => ?_)
    · refine e_aload_n (pc' := 37) k130_36 rfl rfl ?_
      refine e_iconst (v := 2) (pc' := 38) k130_37 rfl rfl ?_
      refine e_vI (j' := 101) (as := [.int 2]) (rest := []) (pc' := 41) k130_38 rfl (show mCk 130 1 98 101 1 = true by decide +kernel) (Or.inl (by decide +kernel)) rfl (Nat.le_of_ble_eq_true rfl) (show 2 ≤ mL 101 by decide +kernel) (fun q4 => ?_)
      exact e_iret k130_41 (by decide +kernel)
    · refine e_aload_n (pc' := 29) k130_28 rfl rfl ?_
      refine e_iload_n (pc' := 30) k130_29 rfl rfl ?_
      refine e_vI (j' := 119) (as := [.int v2]) (rest := []) (pc' := 33) k130_30 rfl (show mCk 130 1 137 119 1 = true by decide +kernel) (Or.inl (by decide +kernel)) rfl (Nat.le_of_ble_eq_true rfl) (show 2 ≤ mL 119 by decide +kernel) (fun q5 => ?_)
      refine e_goto (pc' := 41) k130_33 (by decide) ?_
      exact e_iret k130_41 (by decide +kernel)
  · refine e_iload_n (pc' := 11) k130_10 rfl rfl ?_
    refine e_goto (pc' := 41) k130_11 (by decide) ?_
    exact e_iret k130_41 (by decide +kernel)
theorem k131_0 : decode (mB 131) 0 = .ok (.aload_n 0, 1) := by decide +kernel
theorem k131_1 : decode (mB 131) 1 = .ok (.iload_n 1, 1) := by decide +kernel
theorem k131_2 : decode (mB 131) 2 = .ok (.invokevirtual 128, 3) := by decide +kernel
theorem k131_5 : decode (mB 131) 5 = .ok (.istore_n 3, 1) := by decide +kernel
theorem k131_6 : decode (mB 131) 6 = .ok (.iload_n 3, 1) := by decide +kernel
theorem k131_7 : decode (mB 131) 7 = .ok (.ifCond .ge 5, 3) := by decide +kernel
theorem k131_10 : decode (mB 131) 10 = .ok (.iload_n 3, 1) := by decide +kernel
theorem k131_11 : decode (mB 131) 11 = .ok (.ireturn, 1) := by decide +kernel
theorem k131_12 : decode (mB 131) 12 = .ok (.aload_n 0, 1) := by decide +kernel
theorem k131_13 : decode (mB 131) 13 = .ok (.invokevirtual 150, 3) := by decide +kernel
theorem k131_16 : decode (mB 131) 16 = .ok (.iload_n 2, 1) := by decide +kernel
theorem k131_17 : decode (mB 131) 17 = .ok (.iconst 0, 1) := by decide +kernel
theorem k131_18 : decode (mB 131) 18 = .ok (.iconst 2, 1) := by decide +kernel
theorem k131_19 : decode (mB 131) 19 = .ok (.aload_n 0, 1) := by decide +kernel
theorem k131_20 : decode (mB 131) 20 = .ok (.getfield 105, 3) := by decide +kernel
theorem k131_23 : decode (mB 131) 23 = .ok (.imul, 1) := by decide +kernel
theorem k131_24 : decode (mB 131) 24 = .ok (.iconst 1, 1) := by decide +kernel
theorem k131_25 : decode (mB 131) 25 = .ok (.isub, 1) := by decide +kernel
theorem k131_26 : decode (mB 131) 26 = .ok (.invokestatic 90, 3) := by decide +kernel
theorem k131_29 : decode (mB 131) 29 = .ok (.ifCond .eq 12, 3) := by decide +kernel
theorem k131_32 : decode (mB 131) 32 = .ok (.aload_n 0, 1) := by decide +kernel
theorem k131_33 : decode (mB 131) 33 = .ok (.getfield 49, 3) := by decide +kernel
theorem k131_36 : decode (mB 131) 36 = .ok (.iload_n 2, 1) := by decide +kernel
theorem k131_37 : decode (mB 131) 37 = .ok (.iaload, 1) := by decide +kernel
theorem k131_38 : decode (mB 131) 38 = .ok (.goto 8, 3) := by decide +kernel
theorem k131_41 : decode (mB 131) 41 = .ok (.aload_n 0, 1) := by decide +kernel
theorem k131_42 : decode (mB 131) 42 = .ok (.iconst 2, 1) := by decide +kernel
theorem k131_43 : decode (mB 131) 43 = .ok (.invokevirtual 98, 3) := by decide +kernel
theorem k131_46 : decode (mB 131) 46 = .ok (.ireturn, 1) := by decide +kernel
/-- SquareGroundsModel.name(II)I -/
theorem F131_eq (v0 : Nat) (v1 : Int32) (v2 : Int32) (h : mHeap) : F 131 [.ref v0, .int v1, .int v2] h = (vI 110 v0 [.int v1] h).bind fun q1 => if 0 ≤ (q1.1 : Int32) then ((vV 123 v0 [] q1.2).bind fun h2 => (gI h2 v0 8 5).bind fun x3 => (sI 100 [.int v2, .int 0, .int ((2 * x3) - 1)] h2).bind fun q4 => if (q4.1 : Int32) = 0 then ((vI 101 v0 [.int 2] q4.2).bind fun q5 => some (some (.int q5.1), q5.2)) else ((gR q4.2 v0 8 15).bind fun x6 => (cAldI false q4.2 x6 v2).bind fun x7 => some (some (.int x7), q4.2))) else (some (some (.int q1.1), q1.2)) := by
  show D 131 0 (mEnt 131 [.ref v0, .int v1, .int v2]) [] h 0 0 = _
  rw [show mEnt 131 [.ref v0, .int v1, .int v2] = [some (.ref v0), some (.int v1), some (.int v2), none] from rfl]
  refine e_aload_n (pc' := 1) k131_0 rfl rfl ?_
  refine e_iload_n (pc' := 2) k131_1 rfl rfl ?_
  refine e_vI (j' := 110) (as := [.int v1]) (rest := []) (pc' := 5) k131_2 rfl (show mCk 131 1 128 110 1 = true by decide +kernel) (Or.inl (by decide +kernel)) rfl (Nat.le_of_ble_eq_true rfl) (show 2 ≤ mL 110 by decide +kernel) (fun q1 => ?_)
  refine e_istore_n (pc' := 6) k131_5 rfl rfl ?_
  refine e_iload_n (pc' := 7) k131_6 rfl rfl ?_
  refine e_ifge (t := 12) (pc' := 10) k131_7 rfl (by decide) (fun _ => ?_) (fun _ => ?_)
  · refine e_aload_n (pc' := 13) k131_12 rfl rfl ?_
    refine e_vV (j' := 123) (as := []) (rest := []) (pc' := 16) k131_13 rfl (show mCk 131 1 150 123 0 = true by decide +kernel) (by decide +kernel) rfl (Nat.le_of_ble_eq_true rfl) (show 1 ≤ mL 123 by decide +kernel) (fun h2 => ?_)
    refine e_iload_n (pc' := 17) k131_16 rfl rfl ?_
    refine e_iconst (v := 0) (pc' := 18) k131_17 rfl rfl ?_
    refine e_iconst (v := 2) (pc' := 19) k131_18 rfl rfl ?_
    refine e_aload_n (pc' := 20) k131_19 rfl rfl ?_
    refine e_getI (pc' := 23) k131_20 rfl (ci := 8) (k := 5) (by decide +kernel) (by decide +kernel) (fun x3 => ?_)
    refine e_imul (pc' := 24) k131_23 rfl ?_
    refine e_iconst (v := 1) (pc' := 25) k131_24 rfl rfl ?_
    refine e_isub (pc' := 26) k131_25 rfl ?_
    refine e_sI (j' := 100) (as := [.int v2, .int 0, .int ((2 * x3) - 1)]) (rest := []) (pc' := 29) k131_26 rfl (show mCk 131 0 90 100 3 = true by decide +kernel) (Or.inr (by decide +kernel)) rfl (Nat.le_of_ble_eq_true rfl) (show 3 ≤ mL 100 by decide +kernel) (fun q4 => ?_)
    refine e_ifeq (t := 41) (pc' := 32) k131_29 rfl (by decide) (fun _ => ?_) (fun _ => ?_)
    · refine e_aload_n (pc' := 42) k131_41 rfl rfl ?_
      refine e_iconst (v := 2) (pc' := 43) k131_42 rfl rfl ?_
      refine e_vI (j' := 101) (as := [.int 2]) (rest := []) (pc' := 46) k131_43 rfl (show mCk 131 1 98 101 1 = true by decide +kernel) (Or.inl (by decide +kernel)) rfl (Nat.le_of_ble_eq_true rfl) (show 2 ≤ mL 101 by decide +kernel) (fun q5 => ?_)
      exact e_iret k131_46 (by decide +kernel)
    · refine e_aload_n (pc' := 33) k131_32 rfl rfl ?_
      refine e_getR (pc' := 36) k131_33 rfl (ci := 8) (k := 15) (by decide +kernel) (by decide +kernel) (fun x6 => ?_)
      refine e_iload_n (pc' := 37) k131_36 rfl rfl ?_
      refine e_iald (pc' := 38) k131_37 rfl (lw := false) rfl (fun x7 => ?_)
      refine e_goto (pc' := 46) k131_38 (by decide) ?_
      exact e_iret k131_46 (by decide +kernel)
  · refine e_iload_n (pc' := 11) k131_10 rfl rfl ?_
    exact e_iret k131_11 (by decide +kernel)
theorem k132_0 : decode (mB 132) 0 = .ok (.aload_n 0, 1) := by decide +kernel
theorem k132_1 : decode (mB 132) 1 = .ok (.iload_n 1, 1) := by decide +kernel
theorem k132_2 : decode (mB 132) 2 = .ok (.invokevirtual 111, 3) := by decide +kernel
theorem k132_5 : decode (mB 132) 5 = .ok (.aload_n 0, 1) := by decide +kernel
theorem k132_6 : decode (mB 132) 6 = .ok (.invokevirtual 150, 3) := by decide +kernel
theorem k132_9 : decode (mB 132) 9 = .ok (.iconst 0, 1) := by decide +kernel
theorem k132_10 : decode (mB 132) 10 = .ok (.istore_n 2, 1) := by decide +kernel
theorem k132_11 : decode (mB 132) 11 = .ok (.iload_n 2, 1) := by decide +kernel
theorem k132_12 : decode (mB 132) 12 = .ok (.iconst 2, 1) := by decide +kernel
theorem k132_13 : decode (mB 132) 13 = .ok (.aload_n 0, 1) := by decide +kernel
theorem k132_14 : decode (mB 132) 14 = .ok (.getfield 105, 3) := by decide +kernel
theorem k132_17 : decode (mB 132) 17 = .ok (.imul, 1) := by decide +kernel
theorem k132_18 : decode (mB 132) 18 = .ok (.if_icmp .ge 21, 3) := by decide +kernel
theorem k132_21 : decode (mB 132) 21 = .ok (.aload_n 0, 1) := by decide +kernel
theorem k132_22 : decode (mB 132) 22 = .ok (.getfield 55, 3) := by decide +kernel
theorem k132_25 : decode (mB 132) 25 = .ok (.iload_n 2, 1) := by decide +kernel
theorem k132_26 : decode (mB 132) 26 = .ok (.aload_n 0, 1) := by decide +kernel
theorem k132_27 : decode (mB 132) 27 = .ok (.getfield 49, 3) := by decide +kernel
theorem k132_30 : decode (mB 132) 30 = .ok (.iload_n 2, 1) := by decide +kernel
theorem k132_31 : decode (mB 132) 31 = .ok (.iaload, 1) := by decide +kernel
theorem k132_32 : decode (mB 132) 32 = .ok (.iastore, 1) := by decide +kernel
theorem k132_33 : decode (mB 132) 33 = .ok (.iinc 2 1, 3) := by decide +kernel
theorem k132_36 : decode (mB 132) 36 = .ok (.goto (-25), 3) := by decide +kernel
theorem k132_39 : decode (mB 132) 39 = .ok (.aload_n 0, 1) := by decide +kernel
theorem k132_40 : decode (mB 132) 40 = .ok (.getfield 105, 3) := by decide +kernel
theorem k132_43 : decode (mB 132) 43 = .ok (.ireturn, 1) := by decide +kernel
/-- SquareGroundsModel.otherName, loop at 11 -/
noncomputable def q132_11 (v0 : Nat) (v1 : Int32) (v2 : Int32) (h : mHeap) : mR' := E 132 11 [some (.ref v0), some (.int v1), some (.int v2)] [] h
theorem q132_11_eq (v0 : Nat) (v1 : Int32) (v2 : Int32) (h : mHeap) : q132_11 v0 v1 v2 h = (gI h v0 8 5).bind fun x1 => if (2 * x1) ≤ (v2 : Int32) then ((gI h v0 8 5).bind fun x2 => some (some (.int x2), h)) else ((gR h v0 8 18).bind fun x3 => (gR h v0 8 15).bind fun x4 => (cAldI false h x4 v2).bind fun x5 => (cAstI h x3 v2 x5).bind fun h6 => q132_11 v0 v1 (v2 + 1) h6) := by
  unfold q132_11
  refine e_iload_n (pc' := 12) k132_11 rfl rfl ?_
  refine e_iconst (v := 2) (pc' := 13) k132_12 rfl rfl ?_
  refine e_aload_n (pc' := 14) k132_13 rfl rfl ?_
  refine e_getI (pc' := 17) k132_14 rfl (ci := 8) (k := 5) (by decide +kernel) (by decide +kernel) (fun x1 => ?_)
  refine e_imul (pc' := 18) k132_17 rfl ?_
  refine e_icmpge (t := 39) (pc' := 21) k132_18 rfl (by decide) (fun _ => ?_) (fun _ => ?_)
  · refine e_aload_n (pc' := 40) k132_39 rfl rfl ?_
    refine e_getI (pc' := 43) k132_40 rfl (ci := 8) (k := 5) (by decide +kernel) (by decide +kernel) (fun x2 => ?_)
    exact e_iret k132_43 (by decide +kernel)
  · refine e_aload_n (pc' := 22) k132_21 rfl rfl ?_
    refine e_getR (pc' := 25) k132_22 rfl (ci := 8) (k := 18) (by decide +kernel) (by decide +kernel) (fun x3 => ?_)
    refine e_iload_n (pc' := 26) k132_25 rfl rfl ?_
    refine e_aload_n (pc' := 27) k132_26 rfl rfl ?_
    refine e_getR (pc' := 30) k132_27 rfl (ci := 8) (k := 15) (by decide +kernel) (by decide +kernel) (fun x4 => ?_)
    refine e_iload_n (pc' := 31) k132_30 rfl rfl ?_
    refine e_iald (pc' := 32) k132_31 rfl (lw := false) rfl (fun x5 => ?_)
    refine e_iast (pc' := 33) k132_32 rfl (fun h6 => ?_)
    refine e_iinc (c := 1) (pc' := 36) k132_33 rfl rfl rfl rfl ?_
    refine e_goto (pc' := 11) k132_36 (by decide) ?_
    rfl
/-- SquareGroundsModel.otherName(I)I -/
theorem F132_eq (v0 : Nat) (v1 : Int32) (h : mHeap) : F 132 [.ref v0, .int v1] h = (vV 111 v0 [.int v1] h).bind fun h1 => (vV 123 v0 [] h1).bind fun h2 => q132_11 v0 v1 0 h2 := by
  show D 132 0 (mEnt 132 [.ref v0, .int v1]) [] h 0 0 = _
  rw [show mEnt 132 [.ref v0, .int v1] = [some (.ref v0), some (.int v1), none] from rfl]
  refine e_aload_n (pc' := 1) k132_0 rfl rfl ?_
  refine e_iload_n (pc' := 2) k132_1 rfl rfl ?_
  refine e_vV (j' := 111) (as := [.int v1]) (rest := []) (pc' := 5) k132_2 rfl (show mCk 132 1 111 111 1 = true by decide +kernel) (by decide +kernel) rfl (Nat.le_of_ble_eq_true rfl) (show 2 ≤ mL 111 by decide +kernel) (fun h1 => ?_)
  refine e_aload_n (pc' := 6) k132_5 rfl rfl ?_
  refine e_vV (j' := 123) (as := []) (rest := []) (pc' := 9) k132_6 rfl (show mCk 132 1 150 123 0 = true by decide +kernel) (by decide +kernel) rfl (Nat.le_of_ble_eq_true rfl) (show 1 ≤ mL 123 by decide +kernel) (fun h2 => ?_)
  refine e_iconst (v := 0) (pc' := 10) k132_9 rfl rfl ?_
  refine e_istore_n (pc' := 11) k132_10 rfl rfl ?_
  rfl
theorem k133_0 : decode (mB 133) 0 = .ok (.iconst 1, 1) := by decide +kernel
theorem k133_1 : decode (mB 133) 1 = .ok (.istore_n 1, 1) := by decide +kernel
theorem k133_2 : decode (mB 133) 2 = .ok (.iconst 0, 1) := by decide +kernel
theorem k133_3 : decode (mB 133) 3 = .ok (.istore_n 2, 1) := by decide +kernel
theorem k133_4 : decode (mB 133) 4 = .ok (.iload_n 2, 1) := by decide +kernel
theorem k133_5 : decode (mB 133) 5 = .ok (.iconst 2, 1) := by decide +kernel
theorem k133_6 : decode (mB 133) 6 = .ok (.aload_n 0, 1) := by decide +kernel
theorem k133_7 : decode (mB 133) 7 = .ok (.getfield 105, 3) := by decide +kernel
theorem k133_10 : decode (mB 133) 10 = .ok (.imul, 1) := by decide +kernel
theorem k133_11 : decode (mB 133) 11 = .ok (.if_icmp .ge 34, 3) := by decide +kernel
theorem k133_14 : decode (mB 133) 14 = .ok (.iload_n 1, 1) := by decide +kernel
theorem k133_15 : decode (mB 133) 15 = .ok (.ifCond .eq 30, 3) := by decide +kernel
theorem k133_18 : decode (mB 133) 18 = .ok (.aload_n 0, 1) := by decide +kernel
theorem k133_19 : decode (mB 133) 19 = .ok (.getfield 49, 3) := by decide +kernel
theorem k133_22 : decode (mB 133) 22 = .ok (.iload_n 2, 1) := by decide +kernel
theorem k133_23 : decode (mB 133) 23 = .ok (.iaload, 1) := by decide +kernel
theorem k133_24 : decode (mB 133) 24 = .ok (.aload_n 0, 1) := by decide +kernel
theorem k133_25 : decode (mB 133) 25 = .ok (.getfield 55, 3) := by decide +kernel
theorem k133_28 : decode (mB 133) 28 = .ok (.iload_n 2, 1) := by decide +kernel
theorem k133_29 : decode (mB 133) 29 = .ok (.iaload, 1) := by decide +kernel
theorem k133_30 : decode (mB 133) 30 = .ok (.if_icmp .ne 7, 3) := by decide +kernel
theorem k133_33 : decode (mB 133) 33 = .ok (.iconst 1, 1) := by decide +kernel
theorem k133_34 : decode (mB 133) 34 = .ok (.goto 4, 3) := by decide +kernel
theorem k133_37 : decode (mB 133) 37 = .ok (.iconst 0, 1) := by decide +kernel
theorem k133_38 : decode (mB 133) 38 = .ok (.istore_n 1, 1) := by decide +kernel
theorem k133_39 : decode (mB 133) 39 = .ok (.iinc 2 1, 3) := by decide +kernel
theorem k133_42 : decode (mB 133) 42 = .ok (.goto (-38), 3) := by decide +kernel
theorem k133_45 : decode (mB 133) 45 = .ok (.iload_n 1, 1) := by decide +kernel
theorem k133_46 : decode (mB 133) 46 = .ok (.ireturn, 1) := by decide +kernel
/-- SquareGroundsModel.isOther, loop at 4 -/
noncomputable def q133_4 (v0 : Nat) (v1 : Int32) (v2 : Int32) (h : mHeap) : mR' := E 133 4 [some (.ref v0), some (.int v1), some (.int v2)] [] h
theorem q133_4_eq (v0 : Nat) (v1 : Int32) (v2 : Int32) (h : mHeap) : q133_4 v0 v1 v2 h = (gI h v0 8 5).bind fun x1 => if (2 * x1) ≤ (v2 : Int32) then (if narrow .boolean (.int v1) = .int v1 then some (some (.int v1), h) else none) else (if (v1 : Int32) = 0 then (if narrow .boolean (.int v1) = .int v1 then some (some (.int v1), h) else none) else ((gR h v0 8 15).bind fun x2 => (cAldI false h x2 v2).bind fun x3 => (gR h v0 8 18).bind fun x4 => (cAldI false h x4 v2).bind fun x5 => if ¬ (x3 : Int32) = x5 then (q133_4 v0 0 (v2 + 1) h) else (q133_4 v0 1 (v2 + 1) h))) := by
  unfold q133_4
  refine e_iload_n (pc' := 5) k133_4 rfl rfl ?_
  refine e_iconst (v := 2) (pc' := 6) k133_5 rfl rfl ?_
  refine e_aload_n (pc' := 7) k133_6 rfl rfl ?_
  refine e_getI (pc' := 10) k133_7 rfl (ci := 8) (k := 5) (by decide +kernel) (by decide +kernel) (fun x1 => ?_)
  refine e_imul (pc' := 11) k133_10 rfl ?_
  refine e_icmpge (t := 45) (pc' := 14) k133_11 rfl (by decide) (fun _ => ?_) (fun _ => ?_)
  · refine e_iload_n (pc' := 46) k133_45 rfl rfl ?_
    exact e_zret k133_46 (by decide +kernel)
  · refine e_iload_n (pc' := 15) k133_14 rfl rfl ?_
    refine e_ifeq (t := 45) (pc' := 18) k133_15 rfl (by decide) (fun _ => ?_) (fun _ => ?_)
    · refine e_iload_n (pc' := 46) k133_45 rfl rfl ?_
      exact e_zret k133_46 (by decide +kernel)
    · refine e_aload_n (pc' := 19) k133_18 rfl rfl ?_
      refine e_getR (pc' := 22) k133_19 rfl (ci := 8) (k := 15) (by decide +kernel) (by decide +kernel) (fun x2 => ?_)
      refine e_iload_n (pc' := 23) k133_22 rfl rfl ?_
      refine e_iald (pc' := 24) k133_23 rfl (lw := false) rfl (fun x3 => ?_)
      refine e_aload_n (pc' := 25) k133_24 rfl rfl ?_
      refine e_getR (pc' := 28) k133_25 rfl (ci := 8) (k := 18) (by decide +kernel) (by decide +kernel) (fun x4 => ?_)
      refine e_iload_n (pc' := 29) k133_28 rfl rfl ?_
      refine e_iald (pc' := 30) k133_29 rfl (lw := false) rfl (fun x5 => ?_)
      refine e_icmpne (t := 37) (pc' := 33) k133_30 rfl (by decide) (fun _ => ?_) (fun _ => ?_)
      · refine e_iconst (v := 0) (pc' := 38) k133_37 rfl rfl ?_
        refine e_istore_n (pc' := 39) k133_38 rfl rfl ?_
        refine e_iinc (c := 1) (pc' := 42) k133_39 rfl rfl rfl rfl ?_
        refine e_goto (pc' := 4) k133_42 (by decide) ?_
        rfl
      · refine e_iconst (v := 1) (pc' := 34) k133_33 rfl rfl ?_
        refine e_goto (pc' := 38) k133_34 (by decide) ?_
        refine e_istore_n (pc' := 39) k133_38 rfl rfl ?_
        refine e_iinc (c := 1) (pc' := 42) k133_39 rfl rfl rfl rfl ?_
        refine e_goto (pc' := 4) k133_42 (by decide) ?_
        rfl
/-- SquareGroundsModel.isOther()Z -/
theorem F133_eq (v0 : Nat) (h : mHeap) : F 133 [.ref v0] h = q133_4 v0 1 0 h := by
  show D 133 0 (mEnt 133 [.ref v0]) [] h 0 0 = _
  rw [show mEnt 133 [.ref v0] = [some (.ref v0), none, none] from rfl]
  refine e_iconst (v := 1) (pc' := 1) k133_0 rfl rfl ?_
  refine e_istore_n (pc' := 2) k133_1 rfl rfl ?_
  refine e_iconst (v := 0) (pc' := 3) k133_2 rfl rfl ?_
  refine e_istore_n (pc' := 4) k133_3 rfl rfl ?_
  rfl
theorem k134_0 : decode (mB 134) 0 = .ok (.iload_n 1, 1) := by decide +kernel
theorem k134_1 : decode (mB 134) 1 = .ok (.invokestatic 108, 3) := by decide +kernel
theorem k134_4 : decode (mB 134) 4 = .ok (.ifCond .eq 10, 3) := by decide +kernel
theorem k134_7 : decode (mB 134) 7 = .ok (.iload_n 2, 1) := by decide +kernel
theorem k134_8 : decode (mB 134) 8 = .ok (.invokestatic 108, 3) := by decide +kernel
theorem k134_11 : decode (mB 134) 11 = .ok (.ifCond .ne 5, 3) := by decide +kernel
theorem k134_14 : decode (mB 134) 14 = .ok (.iconst (-1), 1) := by decide +kernel
theorem k134_15 : decode (mB 134) 15 = .ok (.ireturn, 1) := by decide +kernel
theorem k134_16 : decode (mB 134) 16 = .ok (.aload_n 0, 1) := by decide +kernel
theorem k134_17 : decode (mB 134) 17 = .ok (.getfield 34, 3) := by decide +kernel
theorem k134_20 : decode (mB 134) 20 = .ok (.iload_n 1, 1) := by decide +kernel
theorem k134_21 : decode (mB 134) 21 = .ok (.iaload, 1) := by decide +kernel
theorem k134_22 : decode (mB 134) 22 = .ok (.ifCond .eq 12, 3) := by decide +kernel
theorem k134_25 : decode (mB 134) 25 = .ok (.aload_n 0, 1) := by decide +kernel
theorem k134_26 : decode (mB 134) 26 = .ok (.getfield 34, 3) := by decide +kernel
theorem k134_29 : decode (mB 134) 29 = .ok (.iload_n 2, 1) := by decide +kernel
theorem k134_30 : decode (mB 134) 30 = .ok (.iaload, 1) := by decide +kernel
theorem k134_31 : decode (mB 134) 31 = .ok (.ifCond .ne 9, 3) := by decide +kernel
theorem k134_34 : decode (mB 134) 34 = .ok (.aload_n 0, 1) := by decide +kernel
theorem k134_35 : decode (mB 134) 35 = .ok (.iconst 1, 1) := by decide +kernel
theorem k134_36 : decode (mB 134) 36 = .ok (.invokevirtual 98, 3) := by decide +kernel
theorem k134_39 : decode (mB 134) 39 = .ok (.ireturn, 1) := by decide +kernel
theorem k134_40 : decode (mB 134) 40 = .ok (.aload_n 0, 1) := by decide +kernel
theorem k134_41 : decode (mB 134) 41 = .ok (.iload_n 2, 1) := by decide +kernel
theorem k134_42 : decode (mB 134) 42 = .ok (.invokevirtual 162, 3) := by decide +kernel
theorem k134_45 : decode (mB 134) 45 = .ok (.istore_n 3, 1) := by decide +kernel
theorem k134_46 : decode (mB 134) 46 = .ok (.aload_n 0, 1) := by decide +kernel
theorem k134_47 : decode (mB 134) 47 = .ok (.iload_n 1, 1) := by decide +kernel
theorem k134_48 : decode (mB 134) 48 = .ok (.invokevirtual 111, 3) := by decide +kernel
theorem k134_51 : decode (mB 134) 51 = .ok (.aload_n 0, 1) := by decide +kernel
theorem k134_52 : decode (mB 134) 52 = .ok (.invokevirtual 150, 3) := by decide +kernel
theorem k134_55 : decode (mB 134) 55 = .ok (.iload_n 3, 1) := by decide +kernel
theorem k134_56 : decode (mB 134) 56 = .ok (.aload_n 0, 1) := by decide +kernel
theorem k134_57 : decode (mB 134) 57 = .ok (.getfield 105, 3) := by decide +kernel
theorem k134_60 : decode (mB 134) 60 = .ok (.if_icmp .ne 14, 3) := by decide +kernel
theorem k134_63 : decode (mB 134) 63 = .ok (.aload_n 0, 1) := by decide +kernel
theorem k134_64 : decode (mB 134) 64 = .ok (.invokevirtual 165, 3) := by decide +kernel
theorem k134_67 : decode (mB 134) 67 = .ok (.ifCond .eq 7, 3) := by decide +kernel
theorem k134_70 : decode (mB 134) 70 = .ok (.iconst 1, 1) := by decide +kernel
theorem k134_71 : decode (mB 134) 71 = .ok (.goto 4, 3) := by decide +kernel
theorem k134_74 : decode (mB 134) 74 = .ok (.iconst 0, 1) := by decide +kernel
theorem k134_75 : decode (mB 134) 75 = .ok (.ireturn, 1) := by decide +kernel
/-- SquareGroundsModel.alike(II)I -/
theorem F134_eq (v0 : Nat) (v1 : Int32) (v2 : Int32) (h : mHeap) : F 134 [.ref v0, .int v1, .int v2] h = (sI 109 [.int v1] h).bind fun q1 => if (q1.1 : Int32) = 0 then (some (some (.int (-1)), q1.2)) else ((sI 109 [.int v2] q1.2).bind fun q2 => if ¬ (q2.1 : Int32) = 0 then ((gR q2.2 v0 8 10).bind fun x3 => (cAldI false q2.2 x3 v1).bind fun x4 => if (x4 : Int32) = 0 then ((vI 101 v0 [.int 1] q2.2).bind fun q5 => some (some (.int q5.1), q5.2)) else ((gR q2.2 v0 8 10).bind fun x6 => (cAldI false q2.2 x6 v2).bind fun x7 => if ¬ (x7 : Int32) = 0 then ((vI 132 v0 [.int v2] q2.2).bind fun q8 => (vV 111 v0 [.int v1] q8.2).bind fun h9 => (vV 123 v0 [] h9).bind fun h10 => (gI h10 v0 8 5).bind fun x11 => if ¬ (q8.1 : Int32) = x11 then (some (some (.int 0), h10)) else ((vI 133 v0 [] h10).bind fun q12 => if (q12.1 : Int32) = 0 then (some (some (.int 0), q12.2)) else (some (some (.int 1), q12.2)))) else ((vI 101 v0 [.int 1] q2.2).bind fun q13 => some (some (.int q13.1), q13.2)))) else (some (some (.int (-1)), q2.2))) := by
  show D 134 0 (mEnt 134 [.ref v0, .int v1, .int v2]) [] h 0 0 = _
  rw [show mEnt 134 [.ref v0, .int v1, .int v2] = [some (.ref v0), some (.int v1), some (.int v2), none] from rfl]
  refine e_iload_n (pc' := 1) k134_0 rfl rfl ?_
  refine e_sI (j' := 109) (as := [.int v1]) (rest := []) (pc' := 4) k134_1 rfl (show mCk 134 0 108 109 1 = true by decide +kernel) (Or.inr (by decide +kernel)) rfl (Nat.le_of_ble_eq_true rfl) (show 1 ≤ mL 109 by decide +kernel) (fun q1 => ?_)
  refine e_ifeq (t := 14) (pc' := 7) k134_4 rfl (by decide) (fun _ => ?_) (fun _ => ?_)
  · refine e_iconst (v := -1) (pc' := 15) k134_14 rfl rfl ?_
    exact e_iret k134_15 (by decide +kernel)
  · refine e_iload_n (pc' := 8) k134_7 rfl rfl ?_
    refine e_sI (j' := 109) (as := [.int v2]) (rest := []) (pc' := 11) k134_8 rfl (show mCk 134 0 108 109 1 = true by decide +kernel) (Or.inr (by decide +kernel)) rfl (Nat.le_of_ble_eq_true rfl) (show 1 ≤ mL 109 by decide +kernel) (fun q2 => ?_)
    refine e_ifne (t := 16) (pc' := 14) k134_11 rfl (by decide) (fun _ => ?_) (fun _ => ?_)
    · refine e_aload_n (pc' := 17) k134_16 rfl rfl ?_
      refine e_getR (pc' := 20) k134_17 rfl (ci := 8) (k := 10) (by decide +kernel) (by decide +kernel) (fun x3 => ?_)
      refine e_iload_n (pc' := 21) k134_20 rfl rfl ?_
      refine e_iald (pc' := 22) k134_21 rfl (lw := false) rfl (fun x4 => ?_)
      refine e_ifeq (t := 34) (pc' := 25) k134_22 rfl (by decide) (fun _ => ?_) (fun _ => ?_)
      · refine e_aload_n (pc' := 35) k134_34 rfl rfl ?_
        refine e_iconst (v := 1) (pc' := 36) k134_35 rfl rfl ?_
        refine e_vI (j' := 101) (as := [.int 1]) (rest := []) (pc' := 39) k134_36 rfl (show mCk 134 1 98 101 1 = true by decide +kernel) (Or.inl (by decide +kernel)) rfl (Nat.le_of_ble_eq_true rfl) (show 2 ≤ mL 101 by decide +kernel) (fun q5 => ?_)
        exact e_iret k134_39 (by decide +kernel)
      · refine e_aload_n (pc' := 26) k134_25 rfl rfl ?_
        refine e_getR (pc' := 29) k134_26 rfl (ci := 8) (k := 10) (by decide +kernel) (by decide +kernel) (fun x6 => ?_)
        refine e_iload_n (pc' := 30) k134_29 rfl rfl ?_
        refine e_iald (pc' := 31) k134_30 rfl (lw := false) rfl (fun x7 => ?_)
        refine e_ifne (t := 40) (pc' := 34) k134_31 rfl (by decide) (fun _ => ?_) (fun _ => ?_)
        · refine e_aload_n (pc' := 41) k134_40 rfl rfl ?_
          refine e_iload_n (pc' := 42) k134_41 rfl rfl ?_
          refine e_vI (j' := 132) (as := [.int v2]) (rest := []) (pc' := 45) k134_42 rfl (show mCk 134 1 162 132 1 = true by decide +kernel) (Or.inl (by decide +kernel)) rfl (Nat.le_of_ble_eq_true rfl) (show 2 ≤ mL 132 by decide +kernel) (fun q8 => ?_)
          refine e_istore_n (pc' := 46) k134_45 rfl rfl ?_
          refine e_aload_n (pc' := 47) k134_46 rfl rfl ?_
          refine e_iload_n (pc' := 48) k134_47 rfl rfl ?_
          refine e_vV (j' := 111) (as := [.int v1]) (rest := []) (pc' := 51) k134_48 rfl (show mCk 134 1 111 111 1 = true by decide +kernel) (by decide +kernel) rfl (Nat.le_of_ble_eq_true rfl) (show 2 ≤ mL 111 by decide +kernel) (fun h9 => ?_)
          refine e_aload_n (pc' := 52) k134_51 rfl rfl ?_
          refine e_vV (j' := 123) (as := []) (rest := []) (pc' := 55) k134_52 rfl (show mCk 134 1 150 123 0 = true by decide +kernel) (by decide +kernel) rfl (Nat.le_of_ble_eq_true rfl) (show 1 ≤ mL 123 by decide +kernel) (fun h10 => ?_)
          refine e_iload_n (pc' := 56) k134_55 rfl rfl ?_
          refine e_aload_n (pc' := 57) k134_56 rfl rfl ?_
          refine e_getI (pc' := 60) k134_57 rfl (ci := 8) (k := 5) (by decide +kernel) (by decide +kernel) (fun x11 => ?_)
          refine e_icmpne (t := 74) (pc' := 63) k134_60 rfl (by decide) (fun _ => ?_) (fun _ => ?_)
          · refine e_iconst (v := 0) (pc' := 75) k134_74 rfl rfl ?_
            exact e_iret k134_75 (by decide +kernel)
          · refine e_aload_n (pc' := 64) k134_63 rfl rfl ?_
            refine e_vI (j' := 133) (as := []) (rest := []) (pc' := 67) k134_64 rfl (show mCk 134 1 165 133 0 = true by decide +kernel) (Or.inr (by decide +kernel)) rfl (Nat.le_of_ble_eq_true rfl) (show 1 ≤ mL 133 by decide +kernel) (fun q12 => ?_)
            refine e_ifeq (t := 74) (pc' := 70) k134_67 rfl (by decide) (fun _ => ?_) (fun _ => ?_)
            · refine e_iconst (v := 0) (pc' := 75) k134_74 rfl rfl ?_
              exact e_iret k134_75 (by decide +kernel)
            · refine e_iconst (v := 1) (pc' := 71) k134_70 rfl rfl ?_
              refine e_goto (pc' := 75) k134_71 (by decide) ?_
              exact e_iret k134_75 (by decide +kernel)
        · refine e_aload_n (pc' := 35) k134_34 rfl rfl ?_
          refine e_iconst (v := 1) (pc' := 36) k134_35 rfl rfl ?_
          refine e_vI (j' := 101) (as := [.int 1]) (rest := []) (pc' := 39) k134_36 rfl (show mCk 134 1 98 101 1 = true by decide +kernel) (Or.inl (by decide +kernel)) rfl (Nat.le_of_ble_eq_true rfl) (show 2 ≤ mL 101 by decide +kernel) (fun q13 => ?_)
          exact e_iret k134_39 (by decide +kernel)
    · refine e_iconst (v := -1) (pc' := 15) k134_14 rfl rfl ?_
      exact e_iret k134_15 (by decide +kernel)
theorem k135_0 : decode (mB 135) 0 = .ok (.aload_n 0, 1) := by decide +kernel
theorem k135_1 : decode (mB 135) 1 = .ok (.iload_n 1, 1) := by decide +kernel
theorem k135_2 : decode (mB 135) 2 = .ok (.invokevirtual 128, 3) := by decide +kernel
theorem k135_5 : decode (mB 135) 5 = .ok (.istore_n 2, 1) := by decide +kernel
theorem k135_6 : decode (mB 135) 6 = .ok (.iload_n 2, 1) := by decide +kernel
theorem k135_7 : decode (mB 135) 7 = .ok (.ifCond .ge 5, 3) := by decide +kernel
theorem k135_10 : decode (mB 135) 10 = .ok (.iload_n 2, 1) := by decide +kernel
theorem k135_11 : decode (mB 135) 11 = .ok (.ireturn, 1) := by decide +kernel
theorem k135_12 : decode (mB 135) 12 = .ok (.aload_n 0, 1) := by decide +kernel
theorem k135_13 : decode (mB 135) 13 = .ok (.iconst 1, 1) := by decide +kernel
theorem k135_14 : decode (mB 135) 14 = .ok (.invokevirtual 140, 3) := by decide +kernel
theorem k135_17 : decode (mB 135) 17 = .ok (.ifCond .ne 11, 3) := by decide +kernel
theorem k135_20 : decode (mB 135) 20 = .ok (.aload_n 0, 1) := by decide +kernel
theorem k135_21 : decode (mB 135) 21 = .ok (.iconst 4, 1) := by decide +kernel
theorem k135_22 : decode (mB 135) 22 = .ok (.invokevirtual 98, 3) := by decide +kernel
theorem k135_25 : decode (mB 135) 25 = .ok (.goto 14, 3) := by decide +kernel
theorem k135_28 : decode (mB 135) 28 = .ok (.aload_n 0, 1) := by decide +kernel
theorem k135_29 : decode (mB 135) 29 = .ok (.iconst 4, 1) := by decide +kernel
theorem k135_30 : decode (mB 135) 30 = .ok (.invokevirtual 140, 3) := by decide +kernel
theorem k135_33 : decode (mB 135) 33 = .ok (.aload_n 0, 1) := by decide +kernel
theorem k135_34 : decode (mB 135) 34 = .ok (.iconst 1, 1) := by decide +kernel
theorem k135_35 : decode (mB 135) 35 = .ok (.invokevirtual 140, 3) := by decide +kernel
theorem k135_38 : decode (mB 135) 38 = .ok (.idiv, 1) := by decide +kernel
theorem k135_39 : decode (mB 135) 39 = .ok (.ireturn, 1) := by decide +kernel
/-- SquareGroundsModel.mean(I)I -/
theorem F135_eq (v0 : Nat) (v1 : Int32) (h : mHeap) : F 135 [.ref v0, .int v1] h = (vI 110 v0 [.int v1] h).bind fun q1 => if 0 ≤ (q1.1 : Int32) then ((vI 121 v0 [.int 1] q1.2).bind fun q2 => if ¬ (q2.1 : Int32) = 0 then ((vI 121 v0 [.int 4] q2.2).bind fun q3 => (vI 121 v0 [.int 1] q3.2).bind fun q4 => if (q4.1 : Int32) = 0 then none else (some (some (.int (q3.1 / q4.1)), q4.2))) else ((vI 101 v0 [.int 4] q2.2).bind fun q5 => some (some (.int q5.1), q5.2))) else (some (some (.int q1.1), q1.2)) := by
  show D 135 0 (mEnt 135 [.ref v0, .int v1]) [] h 0 0 = _
  rw [show mEnt 135 [.ref v0, .int v1] = [some (.ref v0), some (.int v1), none] from rfl]
  refine e_aload_n (pc' := 1) k135_0 rfl rfl ?_
  refine e_iload_n (pc' := 2) k135_1 rfl rfl ?_
  refine e_vI (j' := 110) (as := [.int v1]) (rest := []) (pc' := 5) k135_2 rfl (show mCk 135 1 128 110 1 = true by decide +kernel) (Or.inl (by decide +kernel)) rfl (Nat.le_of_ble_eq_true rfl) (show 2 ≤ mL 110 by decide +kernel) (fun q1 => ?_)
  refine e_istore_n (pc' := 6) k135_5 rfl rfl ?_
  refine e_iload_n (pc' := 7) k135_6 rfl rfl ?_
  refine e_ifge (t := 12) (pc' := 10) k135_7 rfl (by decide) (fun _ => ?_) (fun _ => ?_)
  · refine e_aload_n (pc' := 13) k135_12 rfl rfl ?_
    refine e_iconst (v := 1) (pc' := 14) k135_13 rfl rfl ?_
    refine e_vI (j' := 121) (as := [.int 1]) (rest := []) (pc' := 17) k135_14 rfl (show mCk 135 1 140 121 1 = true by decide +kernel) (Or.inl (by decide +kernel)) rfl (Nat.le_of_ble_eq_true rfl) (show 2 ≤ mL 121 by decide +kernel) (fun q2 => ?_)
    refine e_ifne (t := 28) (pc' := 20) k135_17 rfl (by decide) (fun _ => ?_) (fun _ => ?_)
    · refine e_aload_n (pc' := 29) k135_28 rfl rfl ?_
      refine e_iconst (v := 4) (pc' := 30) k135_29 rfl rfl ?_
      refine e_vI (j' := 121) (as := [.int 4]) (rest := []) (pc' := 33) k135_30 rfl (show mCk 135 1 140 121 1 = true by decide +kernel) (Or.inl (by decide +kernel)) rfl (Nat.le_of_ble_eq_true rfl) (show 2 ≤ mL 121 by decide +kernel) (fun q3 => ?_)
      refine e_aload_n (pc' := 34) k135_33 rfl rfl ?_
      refine e_iconst (v := 1) (pc' := 35) k135_34 rfl rfl ?_
      refine e_vI (j' := 121) (as := [.int 1]) (rest := [.int q3.1]) (pc' := 38) k135_35 rfl (show mCk 135 1 140 121 1 = true by decide +kernel) (Or.inl (by decide +kernel)) rfl (Nat.le_of_ble_eq_true rfl) (show 2 ≤ mL 121 by decide +kernel) (fun q4 => ?_)
      refine e_idiv (pc' := 39) k135_38 rfl ?_
      exact e_iret k135_39 (by decide +kernel)
    · refine e_aload_n (pc' := 21) k135_20 rfl rfl ?_
      refine e_iconst (v := 4) (pc' := 22) k135_21 rfl rfl ?_
      refine e_vI (j' := 101) (as := [.int 4]) (rest := []) (pc' := 25) k135_22 rfl (show mCk 135 1 98 101 1 = true by decide +kernel) (Or.inl (by decide +kernel)) rfl (Nat.le_of_ble_eq_true rfl) (show 2 ≤ mL 101 by decide +kernel) (fun q5 => ?_)
      refine e_goto (pc' := 39) k135_25 (by decide) ?_
      exact e_iret k135_39 (by decide +kernel)
  · refine e_iload_n (pc' := 11) k135_10 rfl rfl ?_
    exact e_iret k135_11 (by decide +kernel)
