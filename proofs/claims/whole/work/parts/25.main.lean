theorem k52_0 : decode (mB 52) 0 = .ok (.iload_n 1, 1) := by decide +kernel
theorem k52_1 : decode (mB 52) 1 = .ok (.invokestatic 70, 3) := by decide +kernel
theorem k52_4 : decode (mB 52) 4 = .ok (.ifCond .eq 9, 3) := by decide +kernel
theorem k52_7 : decode (mB 52) 7 = .ok (.iload_n 2, 1) := by decide +kernel
theorem k52_8 : decode (mB 52) 8 = .ok (.bipush 8, 2) := by decide +kernel
theorem k52_10 : decode (mB 52) 10 = .ok (.if_icmp .le 5, 3) := by decide +kernel
theorem k52_13 : decode (mB 52) 13 = .ok (.iconst (-1), 1) := by decide +kernel
theorem k52_14 : decode (mB 52) 14 = .ok (.ireturn, 1) := by decide +kernel
theorem k52_15 : decode (mB 52) 15 = .ok (.iload_n 2, 1) := by decide +kernel
theorem k52_16 : decode (mB 52) 16 = .ok (.ifCond .ge 9, 3) := by decide +kernel
theorem k52_19 : decode (mB 52) 19 = .ok (.aload_n 0, 1) := by decide +kernel
theorem k52_20 : decode (mB 52) 20 = .ok (.iconst 5, 1) := by decide +kernel
theorem k52_21 : decode (mB 52) 21 = .ok (.invokevirtual 74, 3) := by decide +kernel
theorem k52_24 : decode (mB 52) 24 = .ok (.ireturn, 1) := by decide +kernel
theorem k52_25 : decode (mB 52) 25 = .ok (.aload_n 0, 1) := by decide +kernel
theorem k52_26 : decode (mB 52) 26 = .ok (.getfield 11, 3) := by decide +kernel
theorem k52_29 : decode (mB 52) 29 = .ok (.iload_n 1, 1) := by decide +kernel
theorem k52_30 : decode (mB 52) 30 = .ok (.aaload, 1) := by decide +kernel
theorem k52_31 : decode (mB 52) 31 = .ok (.iload_n 2, 1) := by decide +kernel
theorem k52_32 : decode (mB 52) 32 = .ok (.invokevirtual 78, 3) := by decide +kernel
theorem k52_35 : decode (mB 52) 35 = .ok (.iload_n 2, 1) := by decide +kernel
theorem k52_36 : decode (mB 52) 36 = .ok (.ireturn, 1) := by decide +kernel
/-- SquareGrounds.sheet(II)I -/
theorem F52_eq (v0 : Nat) (v1 : Int32) (v2 : Int32) (h : mHeap) : F 52 [.ref v0, .int v1, .int v2] h = (sI 85 [.int v1] h).bind fun q1 => if (q1.1 : Int32) = 0 then (some (some (.int (-1)), q1.2)) else (if (v2 : Int32) ≤ 8 then (if 0 ≤ (v2 : Int32) then ((gR q1.2 v0 7 0).bind fun x2 => (cAldR q1.2 x2 v1).bind fun x3 => (vV 47 x3 [.int v2] q1.2).bind fun h4 => some (some (.int v2), h4)) else ((vI 92 v0 [.int 5] q1.2).bind fun q5 => some (some (.int q5.1), q5.2))) else (some (some (.int (-1)), q1.2))) := by
  show D 52 0 (mEnt 52 [.ref v0, .int v1, .int v2]) [] h 0 0 = _
  rw [show mEnt 52 [.ref v0, .int v1, .int v2] = [some (.ref v0), some (.int v1), some (.int v2)] from rfl]
  refine e_iload_n (pc' := 1) k52_0 rfl rfl ?_
  refine e_sI (j' := 85) (as := [.int v1]) (rest := []) (pc' := 4) k52_1 rfl (show mCk 52 0 70 85 1 = true by decide +kernel) (Or.inr (by decide +kernel)) rfl (Nat.le_of_ble_eq_true rfl) (show 1 ≤ mL 85 by decide +kernel) (fun q1 => ?_)
  refine e_ifeq (t := 13) (pc' := 7) k52_4 rfl (by decide) (fun _ => ?_) (fun _ => ?_)
  · refine e_iconst (v := -1) (pc' := 14) k52_13 rfl rfl ?_
    exact e_iret k52_14 (by decide +kernel)
  · refine e_iload_n (pc' := 8) k52_7 rfl rfl ?_
    refine e_bipush (v := 8) (pc' := 10) k52_8 rfl rfl ?_
    refine e_icmple (t := 15) (pc' := 13) k52_10 rfl (by decide) (fun _ => ?_) (fun _ => ?_)
    · refine e_iload_n (pc' := 16) k52_15 rfl rfl ?_
      refine e_ifge (t := 25) (pc' := 19) k52_16 rfl (by decide) (fun _ => ?_) (fun _ => ?_)
      · refine e_aload_n (pc' := 26) k52_25 rfl rfl ?_
        refine e_getR (pc' := 29) k52_26 rfl (ci := 7) (k := 0) (by decide +kernel) (by decide +kernel) (fun x2 => ?_)
        refine e_iload_n (pc' := 30) k52_29 rfl rfl ?_
        refine e_aald (pc' := 31) k52_30 rfl (fun x3 => ?_)
        refine e_iload_n (pc' := 32) k52_31 rfl rfl ?_
        refine e_vV (j' := 47) (as := [.int v2]) (rest := []) (pc' := 35) k52_32 rfl (show mCk 52 1 78 47 1 = true by decide +kernel) (by decide +kernel) rfl (Nat.le_of_ble_eq_true rfl) (show 2 ≤ mL 47 by decide +kernel) (fun h4 => ?_)
        refine e_iload_n (pc' := 36) k52_35 rfl rfl ?_
        exact e_iret k52_36 (by decide +kernel)
      · refine e_aload_n (pc' := 20) k52_19 rfl rfl ?_
        refine e_iconst (v := 5) (pc' := 21) k52_20 rfl rfl ?_
        refine e_vI (j' := 92) (as := [.int 5]) (rest := []) (pc' := 24) k52_21 rfl (show mCk 52 1 74 92 1 = true by decide +kernel) (Or.inl (by decide +kernel)) rfl (Nat.le_of_ble_eq_true rfl) (show 2 ≤ mL 92 by decide +kernel) (fun q5 => ?_)
        exact e_iret k52_24 (by decide +kernel)
    · refine e_iconst (v := -1) (pc' := 14) k52_13 rfl rfl ?_
      exact e_iret k52_14 (by decide +kernel)
theorem k53_0 : decode (mB 53) 0 = .ok (.iload_n 1, 1) := by decide +kernel
theorem k53_1 : decode (mB 53) 1 = .ok (.invokestatic 70, 3) := by decide +kernel
theorem k53_4 : decode (mB 53) 4 = .ok (.ifCond .ne 5, 3) := by decide +kernel
theorem k53_7 : decode (mB 53) 7 = .ok (.iconst (-1), 1) := by decide +kernel
theorem k53_8 : decode (mB 53) 8 = .ok (.ireturn, 1) := by decide +kernel
theorem k53_9 : decode (mB 53) 9 = .ok (.aload_n 0, 1) := by decide +kernel
theorem k53_10 : decode (mB 53) 10 = .ok (.getfield 11, 3) := by decide +kernel
theorem k53_13 : decode (mB 53) 13 = .ok (.iload_n 1, 1) := by decide +kernel
theorem k53_14 : decode (mB 53) 14 = .ok (.aaload, 1) := by decide +kernel
theorem k53_15 : decode (mB 53) 15 = .ok (.astore 4, 2) := by decide +kernel
theorem k53_17 : decode (mB 53) 17 = .ok (.aload 4, 2) := by decide +kernel
theorem k53_19 : decode (mB 53) 19 = .ok (.invokevirtual 82, 3) := by decide +kernel
theorem k53_22 : decode (mB 53) 22 = .ok (.ifCond .eq 9, 3) := by decide +kernel
theorem k53_25 : decode (mB 53) 25 = .ok (.aload_n 0, 1) := by decide +kernel
theorem k53_26 : decode (mB 53) 26 = .ok (.iconst 1, 1) := by decide +kernel
theorem k53_27 : decode (mB 53) 27 = .ok (.invokevirtual 74, 3) := by decide +kernel
theorem k53_30 : decode (mB 53) 30 = .ok (.ireturn, 1) := by decide +kernel
theorem k53_31 : decode (mB 53) 31 = .ok (.iload_n 2, 1) := by decide +kernel
theorem k53_32 : decode (mB 53) 32 = .ok (.ifCond .lt 12, 3) := by decide +kernel
theorem k53_35 : decode (mB 53) 35 = .ok (.iload_n 2, 1) := by decide +kernel
theorem k53_36 : decode (mB 53) 36 = .ok (.aload 4, 2) := by decide +kernel
theorem k53_38 : decode (mB 53) 38 = .ok (.getfield 86, 3) := by decide +kernel
theorem k53_41 : decode (mB 53) 41 = .ok (.if_icmp .lt 9, 3) := by decide +kernel
theorem k53_44 : decode (mB 53) 44 = .ok (.aload_n 0, 1) := by decide +kernel
theorem k53_45 : decode (mB 53) 45 = .ok (.iconst 2, 1) := by decide +kernel
theorem k53_46 : decode (mB 53) 46 = .ok (.invokevirtual 74, 3) := by decide +kernel
theorem k53_49 : decode (mB 53) 49 = .ok (.ireturn, 1) := by decide +kernel
theorem k53_50 : decode (mB 53) 50 = .ok (.aload 4, 2) := by decide +kernel
theorem k53_52 : decode (mB 53) 52 = .ok (.getfield 89, 3) := by decide +kernel
theorem k53_55 : decode (mB 53) 55 = .ok (.iload_n 2, 1) := by decide +kernel
theorem k53_56 : decode (mB 53) 56 = .ok (.baload, 1) := by decide +kernel
theorem k53_57 : decode (mB 53) 57 = .ok (.istore 5, 2) := by decide +kernel
theorem k53_59 : decode (mB 53) 59 = .ok (.aload 4, 2) := by decide +kernel
theorem k53_61 : decode (mB 53) 61 = .ok (.getfield 89, 3) := by decide +kernel
theorem k53_64 : decode (mB 53) 64 = .ok (.iload_n 2, 1) := by decide +kernel
theorem k53_65 : decode (mB 53) 65 = .ok (.iload_n 3, 1) := by decide +kernel
theorem k53_66 : decode (mB 53) 66 = .ok (.i2b, 1) := by decide +kernel
theorem k53_67 : decode (mB 53) 67 = .ok (.bastore, 1) := by decide +kernel
theorem k53_68 : decode (mB 53) 68 = .ok (.iload 5, 2) := by decide +kernel
theorem k53_70 : decode (mB 53) 70 = .ok (.sipush 1000, 3) := by decide +kernel
theorem k53_73 : decode (mB 53) 73 = .ok (.iadd, 1) := by decide +kernel
theorem k53_74 : decode (mB 53) 74 = .ok (.ireturn, 1) := by decide +kernel
/-- SquareGrounds.lay(III)I -/
theorem F53_eq (v0 : Nat) (v1 : Int32) (v2 : Int32) (v3 : Int32) (h : mHeap) : F 53 [.ref v0, .int v1, .int v2, .int v3] h = (sI 85 [.int v1] h).bind fun q1 => if ¬ (q1.1 : Int32) = 0 then ((gR q1.2 v0 7 0).bind fun x2 => (cAldR q1.2 x2 v1).bind fun x3 => (vI 45 x3 [] q1.2).bind fun q4 => if (q4.1 : Int32) = 0 then (if (v2 : Int32) < 0 then ((vI 92 v0 [.int 2] q4.2).bind fun q5 => some (some (.int q5.1), q5.2)) else ((gI q4.2 x3 6 0).bind fun x6 => if (v2 : Int32) < x6 then ((gR q4.2 x3 6 1).bind fun x7 => (cAldB q4.2 x7 v2).bind fun x8 => (gR q4.2 x3 6 1).bind fun x9 => (cAstB q4.2 x9 v2 (Int8.toInt32 (Int32.toInt8 v3))).bind fun h10 => some (some (.int (x8 + 1000)), h10)) else ((vI 92 v0 [.int 2] q4.2).bind fun q11 => some (some (.int q11.1), q11.2)))) else ((vI 92 v0 [.int 1] q4.2).bind fun q12 => some (some (.int q12.1), q12.2))) else (some (some (.int (-1)), q1.2)) := by
  show D 53 0 (mEnt 53 [.ref v0, .int v1, .int v2, .int v3]) [] h 0 0 = _
  rw [show mEnt 53 [.ref v0, .int v1, .int v2, .int v3] = [some (.ref v0), some (.int v1), some (.int v2), some (.int v3), none, none] from rfl]
  refine e_iload_n (pc' := 1) k53_0 rfl rfl ?_
  refine e_sI (j' := 85) (as := [.int v1]) (rest := []) (pc' := 4) k53_1 rfl (show mCk 53 0 70 85 1 = true by decide +kernel) (Or.inr (by decide +kernel)) rfl (Nat.le_of_ble_eq_true rfl) (show 1 ≤ mL 85 by decide +kernel) (fun q1 => ?_)
  refine e_ifne (t := 9) (pc' := 7) k53_4 rfl (by decide) (fun _ => ?_) (fun _ => ?_)
  · refine e_aload_n (pc' := 10) k53_9 rfl rfl ?_
    refine e_getR (pc' := 13) k53_10 rfl (ci := 7) (k := 0) (by decide +kernel) (by decide +kernel) (fun x2 => ?_)
    refine e_iload_n (pc' := 14) k53_13 rfl rfl ?_
    refine e_aald (pc' := 15) k53_14 rfl (fun x3 => ?_)
    refine e_astore (pc' := 17) k53_15 rfl rfl ?_
    refine e_aload (pc' := 19) k53_17 rfl rfl ?_
    refine e_vI (j' := 45) (as := []) (rest := []) (pc' := 22) k53_19 rfl (show mCk 53 1 82 45 0 = true by decide +kernel) (Or.inr (by decide +kernel)) rfl (Nat.le_of_ble_eq_true rfl) (show 1 ≤ mL 45 by decide +kernel) (fun q4 => ?_)
    refine e_ifeq (t := 31) (pc' := 25) k53_22 rfl (by decide) (fun _ => ?_) (fun _ => ?_)
    · refine e_iload_n (pc' := 32) k53_31 rfl rfl ?_
      refine e_iflt (t := 44) (pc' := 35) k53_32 rfl (by decide) (fun _ => ?_) (fun _ => ?_)
      · refine e_aload_n (pc' := 45) k53_44 rfl rfl ?_
        refine e_iconst (v := 2) (pc' := 46) k53_45 rfl rfl ?_
        refine e_vI (j' := 92) (as := [.int 2]) (rest := []) (pc' := 49) k53_46 rfl (show mCk 53 1 74 92 1 = true by decide +kernel) (Or.inl (by decide +kernel)) rfl (Nat.le_of_ble_eq_true rfl) (show 2 ≤ mL 92 by decide +kernel) (fun q5 => ?_)
        exact e_iret k53_49 (by decide +kernel)
      · refine e_iload_n (pc' := 36) k53_35 rfl rfl ?_
        refine e_aload (pc' := 38) k53_36 rfl rfl ?_
        refine e_getI (pc' := 41) k53_38 rfl (ci := 6) (k := 0) (by decide +kernel) (by decide +kernel) (fun x6 => ?_)
        refine e_icmplt (t := 50) (pc' := 44) k53_41 rfl (by decide) (fun _ => ?_) (fun _ => ?_)
        · refine e_aload (pc' := 52) k53_50 rfl rfl ?_
          refine e_getR (pc' := 55) k53_52 rfl (ci := 6) (k := 1) (by decide +kernel) (by decide +kernel) (fun x7 => ?_)
          refine e_iload_n (pc' := 56) k53_55 rfl rfl ?_
          refine e_bald (pc' := 57) k53_56 rfl (fun x8 => ?_)
          refine e_istore (pc' := 59) k53_57 rfl rfl ?_
          refine e_aload (pc' := 61) k53_59 rfl rfl ?_
          refine e_getR (pc' := 64) k53_61 rfl (ci := 6) (k := 1) (by decide +kernel) (by decide +kernel) (fun x9 => ?_)
          refine e_iload_n (pc' := 65) k53_64 rfl rfl ?_
          refine e_iload_n (pc' := 66) k53_65 rfl rfl ?_
          refine e_i2b (pc' := 67) k53_66 rfl ?_
          refine e_bast (pc' := 68) k53_67 rfl (fun h10 => ?_)
          refine e_iload (pc' := 70) k53_68 rfl rfl ?_
          refine e_sipush (v := 1000) (pc' := 73) k53_70 rfl rfl ?_
          refine e_iadd (pc' := 74) k53_73 rfl ?_
          exact e_iret k53_74 (by decide +kernel)
        · refine e_aload_n (pc' := 45) k53_44 rfl rfl ?_
          refine e_iconst (v := 2) (pc' := 46) k53_45 rfl rfl ?_
          refine e_vI (j' := 92) (as := [.int 2]) (rest := []) (pc' := 49) k53_46 rfl (show mCk 53 1 74 92 1 = true by decide +kernel) (Or.inl (by decide +kernel)) rfl (Nat.le_of_ble_eq_true rfl) (show 2 ≤ mL 92 by decide +kernel) (fun q11 => ?_)
          exact e_iret k53_49 (by decide +kernel)
    · refine e_aload_n (pc' := 26) k53_25 rfl rfl ?_
      refine e_iconst (v := 1) (pc' := 27) k53_26 rfl rfl ?_
      refine e_vI (j' := 92) (as := [.int 1]) (rest := []) (pc' := 30) k53_27 rfl (show mCk 53 1 74 92 1 = true by decide +kernel) (Or.inl (by decide +kernel)) rfl (Nat.le_of_ble_eq_true rfl) (show 2 ≤ mL 92 by decide +kernel) (fun q12 => ?_)
      exact e_iret k53_30 (by decide +kernel)
  · refine e_iconst (v := -1) (pc' := 8) k53_7 rfl rfl ?_
    exact e_iret k53_8 (by decide +kernel)
theorem k54_0 : decode (mB 54) 0 = .ok (.iload_n 1, 1) := by decide +kernel
theorem k54_1 : decode (mB 54) 1 = .ok (.invokestatic 70, 3) := by decide +kernel
theorem k54_4 : decode (mB 54) 4 = .ok (.ifCond .ne 5, 3) := by decide +kernel
theorem k54_7 : decode (mB 54) 7 = .ok (.iconst (-1), 1) := by decide +kernel
theorem k54_8 : decode (mB 54) 8 = .ok (.ireturn, 1) := by decide +kernel
theorem k54_9 : decode (mB 54) 9 = .ok (.aload_n 0, 1) := by decide +kernel
theorem k54_10 : decode (mB 54) 10 = .ok (.getfield 11, 3) := by decide +kernel
theorem k54_13 : decode (mB 54) 13 = .ok (.iload_n 1, 1) := by decide +kernel
theorem k54_14 : decode (mB 54) 14 = .ok (.aaload, 1) := by decide +kernel
theorem k54_15 : decode (mB 54) 15 = .ok (.invokevirtual 82, 3) := by decide +kernel
theorem k54_18 : decode (mB 54) 18 = .ok (.ifCond .eq 9, 3) := by decide +kernel
theorem k54_21 : decode (mB 54) 21 = .ok (.aload_n 0, 1) := by decide +kernel
theorem k54_22 : decode (mB 54) 22 = .ok (.iconst 1, 1) := by decide +kernel
theorem k54_23 : decode (mB 54) 23 = .ok (.invokevirtual 74, 3) := by decide +kernel
theorem k54_26 : decode (mB 54) 26 = .ok (.ireturn, 1) := by decide +kernel
theorem k54_27 : decode (mB 54) 27 = .ok (.aload_n 0, 1) := by decide +kernel
theorem k54_28 : decode (mB 54) 28 = .ok (.getfield 11, 3) := by decide +kernel
theorem k54_31 : decode (mB 54) 31 = .ok (.iload_n 1, 1) := by decide +kernel
theorem k54_32 : decode (mB 54) 32 = .ok (.aaload, 1) := by decide +kernel
theorem k54_33 : decode (mB 54) 33 = .ok (.invokevirtual 93, 3) := by decide +kernel
theorem k54_36 : decode (mB 54) 36 = .ok (.iconst 1, 1) := by decide +kernel
theorem k54_37 : decode (mB 54) 37 = .ok (.ireturn, 1) := by decide +kernel
/-- SquareGrounds.tear(I)I -/
theorem F54_eq (v0 : Nat) (v1 : Int32) (h : mHeap) : F 54 [.ref v0, .int v1] h = (sI 85 [.int v1] h).bind fun q1 => if ¬ (q1.1 : Int32) = 0 then ((gR q1.2 v0 7 0).bind fun x2 => (cAldR q1.2 x2 v1).bind fun x3 => (vI 45 x3 [] q1.2).bind fun q4 => if (q4.1 : Int32) = 0 then ((gR q4.2 v0 7 0).bind fun x5 => (cAldR q4.2 x5 v1).bind fun x6 => (vV 46 x6 [] q4.2).bind fun h7 => some (some (.int 1), h7)) else ((vI 92 v0 [.int 1] q4.2).bind fun q8 => some (some (.int q8.1), q8.2))) else (some (some (.int (-1)), q1.2)) := by
  show D 54 0 (mEnt 54 [.ref v0, .int v1]) [] h 0 0 = _
  rw [show mEnt 54 [.ref v0, .int v1] = [some (.ref v0), some (.int v1)] from rfl]
  refine e_iload_n (pc' := 1) k54_0 rfl rfl ?_
  refine e_sI (j' := 85) (as := [.int v1]) (rest := []) (pc' := 4) k54_1 rfl (show mCk 54 0 70 85 1 = true by decide +kernel) (Or.inr (by decide +kernel)) rfl (Nat.le_of_ble_eq_true rfl) (show 1 ≤ mL 85 by decide +kernel) (fun q1 => ?_)
  refine e_ifne (t := 9) (pc' := 7) k54_4 rfl (by decide) (fun _ => ?_) (fun _ => ?_)
  · refine e_aload_n (pc' := 10) k54_9 rfl rfl ?_
    refine e_getR (pc' := 13) k54_10 rfl (ci := 7) (k := 0) (by decide +kernel) (by decide +kernel) (fun x2 => ?_)
    refine e_iload_n (pc' := 14) k54_13 rfl rfl ?_
    refine e_aald (pc' := 15) k54_14 rfl (fun x3 => ?_)
    refine e_vI (j' := 45) (as := []) (rest := []) (pc' := 18) k54_15 rfl (show mCk 54 1 82 45 0 = true by decide +kernel) (Or.inr (by decide +kernel)) rfl (Nat.le_of_ble_eq_true rfl) (show 1 ≤ mL 45 by decide +kernel) (fun q4 => ?_)
    refine e_ifeq (t := 27) (pc' := 21) k54_18 rfl (by decide) (fun _ => ?_) (fun _ => ?_)
    · refine e_aload_n (pc' := 28) k54_27 rfl rfl ?_
      refine e_getR (pc' := 31) k54_28 rfl (ci := 7) (k := 0) (by decide +kernel) (by decide +kernel) (fun x5 => ?_)
      refine e_iload_n (pc' := 32) k54_31 rfl rfl ?_
      refine e_aald (pc' := 33) k54_32 rfl (fun x6 => ?_)
      refine e_vV (j' := 46) (as := []) (rest := []) (pc' := 36) k54_33 rfl (show mCk 54 1 93 46 0 = true by decide +kernel) (by decide +kernel) rfl (Nat.le_of_ble_eq_true rfl) (show 1 ≤ mL 46 by decide +kernel) (fun h7 => ?_)
      refine e_iconst (v := 1) (pc' := 37) k54_36 rfl rfl ?_
      exact e_iret k54_37 (by decide +kernel)
    · refine e_aload_n (pc' := 22) k54_21 rfl rfl ?_
      refine e_iconst (v := 1) (pc' := 23) k54_22 rfl rfl ?_
      refine e_vI (j' := 92) (as := [.int 1]) (rest := []) (pc' := 26) k54_23 rfl (show mCk 54 1 74 92 1 = true by decide +kernel) (Or.inl (by decide +kernel)) rfl (Nat.le_of_ble_eq_true rfl) (show 2 ≤ mL 92 by decide +kernel) (fun q8 => ?_)
      exact e_iret k54_26 (by decide +kernel)
  · refine e_iconst (v := -1) (pc' := 8) k54_7 rfl rfl ?_
    exact e_iret k54_8 (by decide +kernel)
theorem k55_0 : decode (mB 55) 0 = .ok (.iload_n 1, 1) := by decide +kernel
theorem k55_1 : decode (mB 55) 1 = .ok (.invokestatic 70, 3) := by decide +kernel
theorem k55_4 : decode (mB 55) 4 = .ok (.ifCond .eq 10, 3) := by decide +kernel
theorem k55_7 : decode (mB 55) 7 = .ok (.iload_n 3, 1) := by decide +kernel
theorem k55_8 : decode (mB 55) 8 = .ok (.invokestatic 70, 3) := by decide +kernel
theorem k55_11 : decode (mB 55) 11 = .ok (.ifCond .ne 5, 3) := by decide +kernel
theorem k55_14 : decode (mB 55) 14 = .ok (.iconst (-1), 1) := by decide +kernel
theorem k55_15 : decode (mB 55) 15 = .ok (.ireturn, 1) := by decide +kernel
theorem k55_16 : decode (mB 55) 16 = .ok (.iload 5, 2) := by decide +kernel
theorem k55_18 : decode (mB 55) 18 = .ok (.ifCond .ge 9, 3) := by decide +kernel
theorem k55_21 : decode (mB 55) 21 = .ok (.aload_n 0, 1) := by decide +kernel
theorem k55_22 : decode (mB 55) 22 = .ok (.iconst 5, 1) := by decide +kernel
theorem k55_23 : decode (mB 55) 23 = .ok (.invokevirtual 74, 3) := by decide +kernel
theorem k55_26 : decode (mB 55) 26 = .ok (.ireturn, 1) := by decide +kernel
theorem k55_27 : decode (mB 55) 27 = .ok (.aload_n 0, 1) := by decide +kernel
theorem k55_28 : decode (mB 55) 28 = .ok (.getfield 11, 3) := by decide +kernel
theorem k55_31 : decode (mB 55) 31 = .ok (.iload_n 1, 1) := by decide +kernel
theorem k55_32 : decode (mB 55) 32 = .ok (.aaload, 1) := by decide +kernel
theorem k55_33 : decode (mB 55) 33 = .ok (.astore 6, 2) := by decide +kernel
theorem k55_35 : decode (mB 55) 35 = .ok (.aload_n 0, 1) := by decide +kernel
theorem k55_36 : decode (mB 55) 36 = .ok (.getfield 11, 3) := by decide +kernel
theorem k55_39 : decode (mB 55) 39 = .ok (.iload_n 3, 1) := by decide +kernel
theorem k55_40 : decode (mB 55) 40 = .ok (.aaload, 1) := by decide +kernel
theorem k55_41 : decode (mB 55) 41 = .ok (.astore 7, 2) := by decide +kernel
theorem k55_43 : decode (mB 55) 43 = .ok (.aload 6, 2) := by decide +kernel
theorem k55_45 : decode (mB 55) 45 = .ok (.invokevirtual 82, 3) := by decide +kernel
theorem k55_48 : decode (mB 55) 48 = .ok (.ifCond .ne 11, 3) := by decide +kernel
theorem k55_51 : decode (mB 55) 51 = .ok (.aload 7, 2) := by decide +kernel
theorem k55_53 : decode (mB 55) 53 = .ok (.invokevirtual 82, 3) := by decide +kernel
theorem k55_56 : decode (mB 55) 56 = .ok (.ifCond .eq 9, 3) := by decide +kernel
theorem k55_59 : decode (mB 55) 59 = .ok (.aload_n 0, 1) := by decide +kernel
theorem k55_60 : decode (mB 55) 60 = .ok (.iconst 1, 1) := by decide +kernel
theorem k55_61 : decode (mB 55) 61 = .ok (.invokevirtual 74, 3) := by decide +kernel
theorem k55_64 : decode (mB 55) 64 = .ok (.ireturn, 1) := by decide +kernel
theorem k55_65 : decode (mB 55) 65 = .ok (.aload 6, 2) := by decide +kernel
theorem k55_67 : decode (mB 55) 67 = .ok (.iload_n 2, 1) := by decide +kernel
theorem k55_68 : decode (mB 55) 68 = .ok (.iload 5, 2) := by decide +kernel
theorem k55_70 : decode (mB 55) 70 = .ok (.invokevirtual 96, 3) := by decide +kernel
theorem k55_73 : decode (mB 55) 73 = .ok (.ifCond .eq 15, 3) := by decide +kernel
theorem k55_76 : decode (mB 55) 76 = .ok (.aload 7, 2) := by decide +kernel
theorem k55_78 : decode (mB 55) 78 = .ok (.iload 4, 2) := by decide +kernel
theorem k55_80 : decode (mB 55) 80 = .ok (.iload 5, 2) := by decide +kernel
theorem k55_82 : decode (mB 55) 82 = .ok (.invokevirtual 96, 3) := by decide +kernel
theorem k55_85 : decode (mB 55) 85 = .ok (.ifCond .ne 9, 3) := by decide +kernel
theorem k55_88 : decode (mB 55) 88 = .ok (.aload_n 0, 1) := by decide +kernel
theorem k55_89 : decode (mB 55) 89 = .ok (.iconst 2, 1) := by decide +kernel
theorem k55_90 : decode (mB 55) 90 = .ok (.invokevirtual 74, 3) := by decide +kernel
theorem k55_93 : decode (mB 55) 93 = .ok (.ireturn, 1) := by decide +kernel
theorem k55_94 : decode (mB 55) 94 = .ok (.aload 6, 2) := by decide +kernel
theorem k55_96 : decode (mB 55) 96 = .ok (.getfield 89, 3) := by decide +kernel
theorem k55_99 : decode (mB 55) 99 = .ok (.iload_n 2, 1) := by decide +kernel
theorem k55_100 : decode (mB 55) 100 = .ok (.aload 7, 2) := by decide +kernel
theorem k55_102 : decode (mB 55) 102 = .ok (.getfield 89, 3) := by decide +kernel
theorem k55_105 : decode (mB 55) 105 = .ok (.iload 4, 2) := by decide +kernel
theorem k55_107 : decode (mB 55) 107 = .ok (.iload 5, 2) := by decide +kernel
theorem k55_109 : decode (mB 55) 109 = .ok (.invokestatic 100, 3) := by decide +kernel
theorem k55_112 : decode (mB 55) 112 = .ok (.iconst 1, 1) := by decide +kernel
theorem k55_113 : decode (mB 55) 113 = .ok (.ireturn, 1) := by decide +kernel
/-- SquareGrounds.copy(IIIII)I -/
theorem F55_eq (v0 : Nat) (v1 : Int32) (v2 : Int32) (v3 : Int32) (v4 : Int32) (v5 : Int32) (h : mHeap) : F 55 [.ref v0, .int v1, .int v2, .int v3, .int v4, .int v5] h = (sI 85 [.int v1] h).bind fun q1 => if (q1.1 : Int32) = 0 then (some (some (.int (-1)), q1.2)) else ((sI 85 [.int v3] q1.2).bind fun q2 => if ¬ (q2.1 : Int32) = 0 then (if 0 ≤ (v5 : Int32) then ((gR q2.2 v0 7 0).bind fun x3 => (cAldR q2.2 x3 v1).bind fun x4 => (gR q2.2 v0 7 0).bind fun x5 => (cAldR q2.2 x5 v3).bind fun x6 => (vI 45 x4 [] q2.2).bind fun q7 => if ¬ (q7.1 : Int32) = 0 then ((vI 92 v0 [.int 1] q7.2).bind fun q8 => some (some (.int q8.1), q8.2)) else ((vI 45 x6 [] q7.2).bind fun q9 => if (q9.1 : Int32) = 0 then ((vI 48 x4 [.int v2, .int v5] q9.2).bind fun q10 => if (q10.1 : Int32) = 0 then ((vI 92 v0 [.int 2] q10.2).bind fun q11 => some (some (.int q11.1), q11.2)) else ((vI 48 x6 [.int v4, .int v5] q10.2).bind fun q12 => if ¬ (q12.1 : Int32) = 0 then ((gR q12.2 x4 6 1).bind fun x13 => (gR q12.2 x6 6 1).bind fun x14 => (cCpy q12.2 x13 x14 v2 v4 v5).bind fun h15 => some (some (.int 1), h15)) else ((vI 92 v0 [.int 2] q12.2).bind fun q16 => some (some (.int q16.1), q16.2)))) else ((vI 92 v0 [.int 1] q9.2).bind fun q17 => some (some (.int q17.1), q17.2)))) else ((vI 92 v0 [.int 5] q2.2).bind fun q18 => some (some (.int q18.1), q18.2))) else (some (some (.int (-1)), q2.2))) := by
  show D 55 0 (mEnt 55 [.ref v0, .int v1, .int v2, .int v3, .int v4, .int v5]) [] h 0 0 = _
  rw [show mEnt 55 [.ref v0, .int v1, .int v2, .int v3, .int v4, .int v5] = [some (.ref v0), some (.int v1), some (.int v2), some (.int v3), some (.int v4), some (.int v5), none, none] from rfl]
  refine e_iload_n (pc' := 1) k55_0 rfl rfl ?_
  refine e_sI (j' := 85) (as := [.int v1]) (rest := []) (pc' := 4) k55_1 rfl (show mCk 55 0 70 85 1 = true by decide +kernel) (Or.inr (by decide +kernel)) rfl (Nat.le_of_ble_eq_true rfl) (show 1 ≤ mL 85 by decide +kernel) (fun q1 => ?_)
  refine e_ifeq (t := 14) (pc' := 7) k55_4 rfl (by decide) (fun _ => ?_) (fun _ => ?_)
  · refine e_iconst (v := -1) (pc' := 15) k55_14 rfl rfl ?_
    exact e_iret k55_15 (by decide +kernel)
  · refine e_iload_n (pc' := 8) k55_7 rfl rfl ?_
    refine e_sI (j' := 85) (as := [.int v3]) (rest := []) (pc' := 11) k55_8 rfl (show mCk 55 0 70 85 1 = true by decide +kernel) (Or.inr (by decide +kernel)) rfl (Nat.le_of_ble_eq_true rfl) (show 1 ≤ mL 85 by decide +kernel) (fun q2 => ?_)
    refine e_ifne (t := 16) (pc' := 14) k55_11 rfl (by decide) (fun _ => ?_) (fun _ => ?_)
    · refine e_iload (pc' := 18) k55_16 rfl rfl ?_
      refine e_ifge (t := 27) (pc' := 21) k55_18 rfl (by decide) (fun _ => ?_) (fun _ => ?_)
      · refine e_aload_n (pc' := 28) k55_27 rfl rfl ?_
        refine e_getR (pc' := 31) k55_28 rfl (ci := 7) (k := 0) (by decide +kernel) (by decide +kernel) (fun x3 => ?_)
        refine e_iload_n (pc' := 32) k55_31 rfl rfl ?_
        refine e_aald (pc' := 33) k55_32 rfl (fun x4 => ?_)
        refine e_astore (pc' := 35) k55_33 rfl rfl ?_
        refine e_aload_n (pc' := 36) k55_35 rfl rfl ?_
        refine e_getR (pc' := 39) k55_36 rfl (ci := 7) (k := 0) (by decide +kernel) (by decide +kernel) (fun x5 => ?_)
        refine e_iload_n (pc' := 40) k55_39 rfl rfl ?_
        refine e_aald (pc' := 41) k55_40 rfl (fun x6 => ?_)
        refine e_astore (pc' := 43) k55_41 rfl rfl ?_
        refine e_aload (pc' := 45) k55_43 rfl rfl ?_
        refine e_vI (j' := 45) (as := []) (rest := []) (pc' := 48) k55_45 rfl (show mCk 55 1 82 45 0 = true by decide +kernel) (Or.inr (by decide +kernel)) rfl (Nat.le_of_ble_eq_true rfl) (show 1 ≤ mL 45 by decide +kernel) (fun q7 => ?_)
        refine e_ifne (t := 59) (pc' := 51) k55_48 rfl (by decide) (fun _ => ?_) (fun _ => ?_)
        · refine e_aload_n (pc' := 60) k55_59 rfl rfl ?_
          refine e_iconst (v := 1) (pc' := 61) k55_60 rfl rfl ?_
          refine e_vI (j' := 92) (as := [.int 1]) (rest := []) (pc' := 64) k55_61 rfl (show mCk 55 1 74 92 1 = true by decide +kernel) (Or.inl (by decide +kernel)) rfl (Nat.le_of_ble_eq_true rfl) (show 2 ≤ mL 92 by decide +kernel) (fun q8 => ?_)
          exact e_iret k55_64 (by decide +kernel)
        · refine e_aload (pc' := 53) k55_51 rfl rfl ?_
          refine e_vI (j' := 45) (as := []) (rest := []) (pc' := 56) k55_53 rfl (show mCk 55 1 82 45 0 = true by decide +kernel) (Or.inr (by decide +kernel)) rfl (Nat.le_of_ble_eq_true rfl) (show 1 ≤ mL 45 by decide +kernel) (fun q9 => ?_)
          refine e_ifeq (t := 65) (pc' := 59) k55_56 rfl (by decide) (fun _ => ?_) (fun _ => ?_)
          · refine e_aload (pc' := 67) k55_65 rfl rfl ?_
            refine e_iload_n (pc' := 68) k55_67 rfl rfl ?_
            refine e_iload (pc' := 70) k55_68 rfl rfl ?_
            refine e_vI (j' := 48) (as := [.int v2, .int v5]) (rest := []) (pc' := 73) k55_70 rfl (show mCk 55 1 96 48 2 = true by decide +kernel) (Or.inr (by decide +kernel)) rfl (Nat.le_of_ble_eq_true rfl) (show 3 ≤ mL 48 by decide +kernel) (fun q10 => ?_)
            refine e_ifeq (t := 88) (pc' := 76) k55_73 rfl (by decide) (fun _ => ?_) (fun _ => ?_)
            · refine e_aload_n (pc' := 89) k55_88 rfl rfl ?_
              refine e_iconst (v := 2) (pc' := 90) k55_89 rfl rfl ?_
              refine e_vI (j' := 92) (as := [.int 2]) (rest := []) (pc' := 93) k55_90 rfl (show mCk 55 1 74 92 1 = true by decide +kernel) (Or.inl (by decide +kernel)) rfl (Nat.le_of_ble_eq_true rfl) (show 2 ≤ mL 92 by decide +kernel) (fun q11 => ?_)
              exact e_iret k55_93 (by decide +kernel)
            · refine e_aload (pc' := 78) k55_76 rfl rfl ?_
              refine e_iload (pc' := 80) k55_78 rfl rfl ?_
              refine e_iload (pc' := 82) k55_80 rfl rfl ?_
              refine e_vI (j' := 48) (as := [.int v4, .int v5]) (rest := []) (pc' := 85) k55_82 rfl (show mCk 55 1 96 48 2 = true by decide +kernel) (Or.inr (by decide +kernel)) rfl (Nat.le_of_ble_eq_true rfl) (show 3 ≤ mL 48 by decide +kernel) (fun q12 => ?_)
              refine e_ifne (t := 94) (pc' := 88) k55_85 rfl (by decide) (fun _ => ?_) (fun _ => ?_)
              · refine e_aload (pc' := 96) k55_94 rfl rfl ?_
                refine e_getR (pc' := 99) k55_96 rfl (ci := 6) (k := 1) (by decide +kernel) (by decide +kernel) (fun x13 => ?_)
                refine e_iload_n (pc' := 100) k55_99 rfl rfl ?_
                refine e_aload (pc' := 102) k55_100 rfl rfl ?_
                refine e_getR (pc' := 105) k55_102 rfl (ci := 6) (k := 1) (by decide +kernel) (by decide +kernel) (fun x14 => ?_)
                refine e_iload (pc' := 107) k55_105 rfl rfl ?_
                refine e_iload (pc' := 109) k55_107 rfl rfl ?_
                refine e_cpy (pc' := 112) k55_109 rfl (ne := 0) (by decide +kernel) (by decide +kernel) (fun h15 => ?_)
                refine e_iconst (v := 1) (pc' := 113) k55_112 rfl rfl ?_
                exact e_iret k55_113 (by decide +kernel)
              · refine e_aload_n (pc' := 89) k55_88 rfl rfl ?_
                refine e_iconst (v := 2) (pc' := 90) k55_89 rfl rfl ?_
                refine e_vI (j' := 92) (as := [.int 2]) (rest := []) (pc' := 93) k55_90 rfl (show mCk 55 1 74 92 1 = true by decide +kernel) (Or.inl (by decide +kernel)) rfl (Nat.le_of_ble_eq_true rfl) (show 2 ≤ mL 92 by decide +kernel) (fun q16 => ?_)
                exact e_iret k55_93 (by decide +kernel)
          · refine e_aload_n (pc' := 60) k55_59 rfl rfl ?_
            refine e_iconst (v := 1) (pc' := 61) k55_60 rfl rfl ?_
            refine e_vI (j' := 92) (as := [.int 1]) (rest := []) (pc' := 64) k55_61 rfl (show mCk 55 1 74 92 1 = true by decide +kernel) (Or.inl (by decide +kernel)) rfl (Nat.le_of_ble_eq_true rfl) (show 2 ≤ mL 92 by decide +kernel) (fun q17 => ?_)
            exact e_iret k55_64 (by decide +kernel)
      · refine e_aload_n (pc' := 22) k55_21 rfl rfl ?_
        refine e_iconst (v := 5) (pc' := 23) k55_22 rfl rfl ?_
        refine e_vI (j' := 92) (as := [.int 5]) (rest := []) (pc' := 26) k55_23 rfl (show mCk 55 1 74 92 1 = true by decide +kernel) (Or.inl (by decide +kernel)) rfl (Nat.le_of_ble_eq_true rfl) (show 2 ≤ mL 92 by decide +kernel) (fun q18 => ?_)
        exact e_iret k55_26 (by decide +kernel)
    · refine e_iconst (v := -1) (pc' := 15) k55_14 rfl rfl ?_
      exact e_iret k55_15 (by decide +kernel)
theorem k56_0 : decode (mB 56) 0 = .ok (.iload_n 1, 1) := by decide +kernel
theorem k56_1 : decode (mB 56) 1 = .ok (.invokestatic 106, 3) := by decide +kernel
theorem k56_4 : decode (mB 56) 4 = .ok (.ifCond .eq 17, 3) := by decide +kernel
theorem k56_7 : decode (mB 56) 7 = .ok (.iload_n 2, 1) := by decide +kernel
theorem k56_8 : decode (mB 56) 8 = .ok (.invokestatic 70, 3) := by decide +kernel
theorem k56_11 : decode (mB 56) 11 = .ok (.ifCond .eq 10, 3) := by decide +kernel
theorem k56_14 : decode (mB 56) 14 = .ok (.iload_n 3, 1) := by decide +kernel
theorem k56_15 : decode (mB 56) 15 = .ok (.invokestatic 70, 3) := by decide +kernel
theorem k56_18 : decode (mB 56) 18 = .ok (.ifCond .ne 5, 3) := by decide +kernel
theorem k56_21 : decode (mB 56) 21 = .ok (.iconst (-1), 1) := by decide +kernel
theorem k56_22 : decode (mB 56) 22 = .ok (.ireturn, 1) := by decide +kernel
theorem k56_23 : decode (mB 56) 23 = .ok (.aload_n 0, 1) := by decide +kernel
theorem k56_24 : decode (mB 56) 24 = .ok (.getfield 11, 3) := by decide +kernel
theorem k56_27 : decode (mB 56) 27 = .ok (.iload_n 2, 1) := by decide +kernel
theorem k56_28 : decode (mB 56) 28 = .ok (.aaload, 1) := by decide +kernel
theorem k56_29 : decode (mB 56) 29 = .ok (.astore 4, 2) := by decide +kernel
theorem k56_31 : decode (mB 56) 31 = .ok (.aload_n 0, 1) := by decide +kernel
theorem k56_32 : decode (mB 56) 32 = .ok (.getfield 11, 3) := by decide +kernel
theorem k56_35 : decode (mB 56) 35 = .ok (.iload_n 3, 1) := by decide +kernel
theorem k56_36 : decode (mB 56) 36 = .ok (.aaload, 1) := by decide +kernel
theorem k56_37 : decode (mB 56) 37 = .ok (.astore 5, 2) := by decide +kernel
theorem k56_39 : decode (mB 56) 39 = .ok (.aload 4, 2) := by decide +kernel
theorem k56_41 : decode (mB 56) 41 = .ok (.invokevirtual 82, 3) := by decide +kernel
theorem k56_44 : decode (mB 56) 44 = .ok (.ifCond .ne 11, 3) := by decide +kernel
theorem k56_47 : decode (mB 56) 47 = .ok (.aload 5, 2) := by decide +kernel
theorem k56_49 : decode (mB 56) 49 = .ok (.invokevirtual 82, 3) := by decide +kernel
theorem k56_52 : decode (mB 56) 52 = .ok (.ifCond .eq 9, 3) := by decide +kernel
theorem k56_55 : decode (mB 56) 55 = .ok (.aload_n 0, 1) := by decide +kernel
theorem k56_56 : decode (mB 56) 56 = .ok (.iconst 1, 1) := by decide +kernel
theorem k56_57 : decode (mB 56) 57 = .ok (.invokevirtual 74, 3) := by decide +kernel
theorem k56_60 : decode (mB 56) 60 = .ok (.ireturn, 1) := by decide +kernel
theorem k56_61 : decode (mB 56) 61 = .ok (.aload 4, 2) := by decide +kernel
theorem k56_63 : decode (mB 56) 63 = .ok (.aload 5, 2) := by decide +kernel
theorem k56_65 : decode (mB 56) 65 = .ok (.invokestatic 109, 3) := by decide +kernel
theorem k56_68 : decode (mB 56) 68 = .ok (.ifCond .ne 6, 3) := by decide +kernel
theorem k56_71 : decode (mB 56) 71 = .ok (.bipush (-4), 2) := by decide +kernel
theorem k56_73 : decode (mB 56) 73 = .ok (.ireturn, 1) := by decide +kernel
theorem k56_74 : decode (mB 56) 74 = .ok (.aload_n 0, 1) := by decide +kernel
theorem k56_75 : decode (mB 56) 75 = .ok (.getfield 17, 3) := by decide +kernel
theorem k56_78 : decode (mB 56) 78 = .ok (.iload_n 1, 1) := by decide +kernel
theorem k56_79 : decode (mB 56) 79 = .ok (.aaload, 1) := by decide +kernel
theorem k56_80 : decode (mB 56) 80 = .ok (.aload 4, 2) := by decide +kernel
theorem k56_82 : decode (mB 56) 82 = .ok (.aload 5, 2) := by decide +kernel
theorem k56_84 : decode (mB 56) 84 = .ok (.invokevirtual 113, 3) := by decide +kernel
theorem k56_87 : decode (mB 56) 87 = .ok (.aload_n 0, 1) := by decide +kernel
theorem k56_88 : decode (mB 56) 88 = .ok (.getfield 17, 3) := by decide +kernel
theorem k56_91 : decode (mB 56) 91 = .ok (.iload_n 1, 1) := by decide +kernel
theorem k56_92 : decode (mB 56) 92 = .ok (.aaload, 1) := by decide +kernel
theorem k56_93 : decode (mB 56) 93 = .ok (.getfield 117, 3) := by decide +kernel
theorem k56_96 : decode (mB 56) 96 = .ok (.ireturn, 1) := by decide +kernel
/-- SquareGrounds.ground(III)I -/
theorem F56_eq (v0 : Nat) (v1 : Int32) (v2 : Int32) (v3 : Int32) (h : mHeap) : F 56 [.ref v0, .int v1, .int v2, .int v3] h = (sI 86 [.int v1] h).bind fun q1 => if (q1.1 : Int32) = 0 then (some (some (.int (-1)), q1.2)) else ((sI 85 [.int v2] q1.2).bind fun q2 => if (q2.1 : Int32) = 0 then (some (some (.int (-1)), q2.2)) else ((sI 85 [.int v3] q2.2).bind fun q3 => if ¬ (q3.1 : Int32) = 0 then ((gR q3.2 v0 7 0).bind fun x4 => (cAldR q3.2 x4 v2).bind fun x5 => (gR q3.2 v0 7 0).bind fun x6 => (cAldR q3.2 x6 v3).bind fun x7 => (vI 45 x5 [] q3.2).bind fun q8 => if ¬ (q8.1 : Int32) = 0 then ((vI 92 v0 [.int 1] q8.2).bind fun q9 => some (some (.int q9.1), q9.2)) else ((vI 45 x7 [] q8.2).bind fun q10 => if (q10.1 : Int32) = 0 then ((sI 90 [.ref x5, .ref x7] q10.2).bind fun q11 => if ¬ (q11.1 : Int32) = 0 then ((gR q11.2 v0 7 1).bind fun x12 => (cAldR q11.2 x12 v1).bind fun x13 => (vV 21 x13 [.ref x5, .ref x7] q11.2).bind fun h14 => (gR h14 v0 7 1).bind fun x15 => (cAldR h14 x15 v1).bind fun x16 => (gI h14 x16 3 0).bind fun x17 => some (some (.int x17), h14)) else (some (some (.int (-4)), q11.2))) else ((vI 92 v0 [.int 1] q10.2).bind fun q18 => some (some (.int q18.1), q18.2)))) else (some (some (.int (-1)), q3.2)))) := by
  show D 56 0 (mEnt 56 [.ref v0, .int v1, .int v2, .int v3]) [] h 0 0 = _
  rw [show mEnt 56 [.ref v0, .int v1, .int v2, .int v3] = [some (.ref v0), some (.int v1), some (.int v2), some (.int v3), none, none] from rfl]
  refine e_iload_n (pc' := 1) k56_0 rfl rfl ?_
  refine e_sI (j' := 86) (as := [.int v1]) (rest := []) (pc' := 4) k56_1 rfl (show mCk 56 0 106 86 1 = true by decide +kernel) (Or.inr (by decide +kernel)) rfl (Nat.le_of_ble_eq_true rfl) (show 1 ≤ mL 86 by decide +kernel) (fun q1 => ?_)
  refine e_ifeq (t := 21) (pc' := 7) k56_4 rfl (by decide) (fun _ => ?_) (fun _ => ?_)
  · refine e_iconst (v := -1) (pc' := 22) k56_21 rfl rfl ?_
    exact e_iret k56_22 (by decide +kernel)
  · refine e_iload_n (pc' := 8) k56_7 rfl rfl ?_
    refine e_sI (j' := 85) (as := [.int v2]) (rest := []) (pc' := 11) k56_8 rfl (show mCk 56 0 70 85 1 = true by decide +kernel) (Or.inr (by decide +kernel)) rfl (Nat.le_of_ble_eq_true rfl) (show 1 ≤ mL 85 by decide +kernel) (fun q2 => ?_)
    refine e_ifeq (t := 21) (pc' := 14) k56_11 rfl (by decide) (fun _ => ?_) (fun _ => ?_)
    · refine e_iconst (v := -1) (pc' := 22) k56_21 rfl rfl ?_
      exact e_iret k56_22 (by decide +kernel)
    · refine e_iload_n (pc' := 15) k56_14 rfl rfl ?_
      refine e_sI (j' := 85) (as := [.int v3]) (rest := []) (pc' := 18) k56_15 rfl (show mCk 56 0 70 85 1 = true by decide +kernel) (Or.inr (by decide +kernel)) rfl (Nat.le_of_ble_eq_true rfl) (show 1 ≤ mL 85 by decide +kernel) (fun q3 => ?_)
      refine e_ifne (t := 23) (pc' := 21) k56_18 rfl (by decide) (fun _ => ?_) (fun _ => ?_)
      · refine e_aload_n (pc' := 24) k56_23 rfl rfl ?_
        refine e_getR (pc' := 27) k56_24 rfl (ci := 7) (k := 0) (by decide +kernel) (by decide +kernel) (fun x4 => ?_)
        refine e_iload_n (pc' := 28) k56_27 rfl rfl ?_
        refine e_aald (pc' := 29) k56_28 rfl (fun x5 => ?_)
        refine e_astore (pc' := 31) k56_29 rfl rfl ?_
        refine e_aload_n (pc' := 32) k56_31 rfl rfl ?_
        refine e_getR (pc' := 35) k56_32 rfl (ci := 7) (k := 0) (by decide +kernel) (by decide +kernel) (fun x6 => ?_)
        refine e_iload_n (pc' := 36) k56_35 rfl rfl ?_
        refine e_aald (pc' := 37) k56_36 rfl (fun x7 => ?_)
        refine e_astore (pc' := 39) k56_37 rfl rfl ?_
        refine e_aload (pc' := 41) k56_39 rfl rfl ?_
        refine e_vI (j' := 45) (as := []) (rest := []) (pc' := 44) k56_41 rfl (show mCk 56 1 82 45 0 = true by decide +kernel) (Or.inr (by decide +kernel)) rfl (Nat.le_of_ble_eq_true rfl) (show 1 ≤ mL 45 by decide +kernel) (fun q8 => ?_)
        refine e_ifne (t := 55) (pc' := 47) k56_44 rfl (by decide) (fun _ => ?_) (fun _ => ?_)
        · refine e_aload_n (pc' := 56) k56_55 rfl rfl ?_
          refine e_iconst (v := 1) (pc' := 57) k56_56 rfl rfl ?_
          refine e_vI (j' := 92) (as := [.int 1]) (rest := []) (pc' := 60) k56_57 rfl (show mCk 56 1 74 92 1 = true by decide +kernel) (Or.inl (by decide +kernel)) rfl (Nat.le_of_ble_eq_true rfl) (show 2 ≤ mL 92 by decide +kernel) (fun q9 => ?_)
          exact e_iret k56_60 (by decide +kernel)
        · refine e_aload (pc' := 49) k56_47 rfl rfl ?_
          refine e_vI (j' := 45) (as := []) (rest := []) (pc' := 52) k56_49 rfl (show mCk 56 1 82 45 0 = true by decide +kernel) (Or.inr (by decide +kernel)) rfl (Nat.le_of_ble_eq_true rfl) (show 1 ≤ mL 45 by decide +kernel) (fun q10 => ?_)
          refine e_ifeq (t := 61) (pc' := 55) k56_52 rfl (by decide) (fun _ => ?_) (fun _ => ?_)
          · refine e_aload (pc' := 63) k56_61 rfl rfl ?_
            refine e_aload (pc' := 65) k56_63 rfl rfl ?_
            refine e_sI (j' := 90) (as := [.ref x5, .ref x7]) (rest := []) (pc' := 68) k56_65 rfl (show mCk 56 0 109 90 2 = true by decide +kernel) (Or.inr (by decide +kernel)) rfl (Nat.le_of_ble_eq_true rfl) (show 2 ≤ mL 90 by decide +kernel) (fun q11 => ?_)
            refine e_ifne (t := 74) (pc' := 71) k56_68 rfl (by decide) (fun _ => ?_) (fun _ => ?_)
            · refine e_aload_n (pc' := 75) k56_74 rfl rfl ?_
              refine e_getR (pc' := 78) k56_75 rfl (ci := 7) (k := 1) (by decide +kernel) (by decide +kernel) (fun x12 => ?_)
              refine e_iload_n (pc' := 79) k56_78 rfl rfl ?_
              refine e_aald (pc' := 80) k56_79 rfl (fun x13 => ?_)
              refine e_aload (pc' := 82) k56_80 rfl rfl ?_
              refine e_aload (pc' := 84) k56_82 rfl rfl ?_
              refine e_vV (j' := 21) (as := [.ref x5, .ref x7]) (rest := []) (pc' := 87) k56_84 rfl (show mCk 56 1 113 21 2 = true by decide +kernel) (by decide +kernel) rfl (Nat.le_of_ble_eq_true rfl) (show 3 ≤ mL 21 by decide +kernel) (fun h14 => ?_)
              refine e_aload_n (pc' := 88) k56_87 rfl rfl ?_
              refine e_getR (pc' := 91) k56_88 rfl (ci := 7) (k := 1) (by decide +kernel) (by decide +kernel) (fun x15 => ?_)
              refine e_iload_n (pc' := 92) k56_91 rfl rfl ?_
              refine e_aald (pc' := 93) k56_92 rfl (fun x16 => ?_)
              refine e_getI (pc' := 96) k56_93 rfl (ci := 3) (k := 0) (by decide +kernel) (by decide +kernel) (fun x17 => ?_)
              exact e_iret k56_96 (by decide +kernel)
            · refine e_bipush (v := -4) (pc' := 73) k56_71 rfl rfl ?_
              exact e_iret k56_73 (by decide +kernel)
          · refine e_aload_n (pc' := 56) k56_55 rfl rfl ?_
            refine e_iconst (v := 1) (pc' := 57) k56_56 rfl rfl ?_
            refine e_vI (j' := 92) (as := [.int 1]) (rest := []) (pc' := 60) k56_57 rfl (show mCk 56 1 74 92 1 = true by decide +kernel) (Or.inl (by decide +kernel)) rfl (Nat.le_of_ble_eq_true rfl) (show 2 ≤ mL 92 by decide +kernel) (fun q18 => ?_)
            exact e_iret k56_60 (by decide +kernel)
      · refine e_iconst (v := -1) (pc' := 22) k56_21 rfl rfl ?_
        exact e_iret k56_22 (by decide +kernel)
theorem k57_0 : decode (mB 57) 0 = .ok (.iload_n 1, 1) := by decide +kernel
theorem k57_1 : decode (mB 57) 1 = .ok (.invokestatic 106, 3) := by decide +kernel
theorem k57_4 : decode (mB 57) 4 = .ok (.ifCond .ne 5, 3) := by decide +kernel
theorem k57_7 : decode (mB 57) 7 = .ok (.iconst (-1), 1) := by decide +kernel
theorem k57_8 : decode (mB 57) 8 = .ok (.ireturn, 1) := by decide +kernel
theorem k57_9 : decode (mB 57) 9 = .ok (.aload_n 0, 1) := by decide +kernel
theorem k57_10 : decode (mB 57) 10 = .ok (.getfield 17, 3) := by decide +kernel
theorem k57_13 : decode (mB 57) 13 = .ok (.iload_n 1, 1) := by decide +kernel
theorem k57_14 : decode (mB 57) 14 = .ok (.aaload, 1) := by decide +kernel
theorem k57_15 : decode (mB 57) 15 = .ok (.invokevirtual 120, 3) := by decide +kernel
theorem k57_18 : decode (mB 57) 18 = .ok (.ifCond .eq 9, 3) := by decide +kernel
theorem k57_21 : decode (mB 57) 21 = .ok (.aload_n 0, 1) := by decide +kernel
theorem k57_22 : decode (mB 57) 22 = .ok (.iconst 1, 1) := by decide +kernel
theorem k57_23 : decode (mB 57) 23 = .ok (.invokevirtual 74, 3) := by decide +kernel
theorem k57_26 : decode (mB 57) 26 = .ok (.ireturn, 1) := by decide +kernel
theorem k57_27 : decode (mB 57) 27 = .ok (.aload_n 0, 1) := by decide +kernel
theorem k57_28 : decode (mB 57) 28 = .ok (.getfield 17, 3) := by decide +kernel
theorem k57_31 : decode (mB 57) 31 = .ok (.iload_n 1, 1) := by decide +kernel
theorem k57_32 : decode (mB 57) 32 = .ok (.aaload, 1) := by decide +kernel
theorem k57_33 : decode (mB 57) 33 = .ok (.invokevirtual 121, 3) := by decide +kernel
theorem k57_36 : decode (mB 57) 36 = .ok (.iconst 1, 1) := by decide +kernel
theorem k57_37 : decode (mB 57) 37 = .ok (.ireturn, 1) := by decide +kernel
/-- SquareGrounds.drop(I)I -/
theorem F57_eq (v0 : Nat) (v1 : Int32) (h : mHeap) : F 57 [.ref v0, .int v1] h = (sI 86 [.int v1] h).bind fun q1 => if ¬ (q1.1 : Int32) = 0 then ((gR q1.2 v0 7 1).bind fun x2 => (cAldR q1.2 x2 v1).bind fun x3 => (vI 18 x3 [] q1.2).bind fun q4 => if (q4.1 : Int32) = 0 then ((gR q4.2 v0 7 1).bind fun x5 => (cAldR q4.2 x5 v1).bind fun x6 => (vV 19 x6 [] q4.2).bind fun h7 => some (some (.int 1), h7)) else ((vI 92 v0 [.int 1] q4.2).bind fun q8 => some (some (.int q8.1), q8.2))) else (some (some (.int (-1)), q1.2)) := by
  show D 57 0 (mEnt 57 [.ref v0, .int v1]) [] h 0 0 = _
  rw [show mEnt 57 [.ref v0, .int v1] = [some (.ref v0), some (.int v1)] from rfl]
  refine e_iload_n (pc' := 1) k57_0 rfl rfl ?_
  refine e_sI (j' := 86) (as := [.int v1]) (rest := []) (pc' := 4) k57_1 rfl (show mCk 57 0 106 86 1 = true by decide +kernel) (Or.inr (by decide +kernel)) rfl (Nat.le_of_ble_eq_true rfl) (show 1 ≤ mL 86 by decide +kernel) (fun q1 => ?_)
  refine e_ifne (t := 9) (pc' := 7) k57_4 rfl (by decide) (fun _ => ?_) (fun _ => ?_)
  · refine e_aload_n (pc' := 10) k57_9 rfl rfl ?_
    refine e_getR (pc' := 13) k57_10 rfl (ci := 7) (k := 1) (by decide +kernel) (by decide +kernel) (fun x2 => ?_)
    refine e_iload_n (pc' := 14) k57_13 rfl rfl ?_
    refine e_aald (pc' := 15) k57_14 rfl (fun x3 => ?_)
    refine e_vI (j' := 18) (as := []) (rest := []) (pc' := 18) k57_15 rfl (show mCk 57 1 120 18 0 = true by decide +kernel) (Or.inr (by decide +kernel)) rfl (Nat.le_of_ble_eq_true rfl) (show 1 ≤ mL 18 by decide +kernel) (fun q4 => ?_)
    refine e_ifeq (t := 27) (pc' := 21) k57_18 rfl (by decide) (fun _ => ?_) (fun _ => ?_)
    · refine e_aload_n (pc' := 28) k57_27 rfl rfl ?_
      refine e_getR (pc' := 31) k57_28 rfl (ci := 7) (k := 1) (by decide +kernel) (by decide +kernel) (fun x5 => ?_)
      refine e_iload_n (pc' := 32) k57_31 rfl rfl ?_
      refine e_aald (pc' := 33) k57_32 rfl (fun x6 => ?_)
      refine e_vV (j' := 19) (as := []) (rest := []) (pc' := 36) k57_33 rfl (show mCk 57 1 121 19 0 = true by decide +kernel) (by decide +kernel) rfl (Nat.le_of_ble_eq_true rfl) (show 1 ≤ mL 19 by decide +kernel) (fun h7 => ?_)
      refine e_iconst (v := 1) (pc' := 37) k57_36 rfl rfl ?_
      exact e_iret k57_37 (by decide +kernel)
    · refine e_aload_n (pc' := 22) k57_21 rfl rfl ?_
      refine e_iconst (v := 1) (pc' := 23) k57_22 rfl rfl ?_
      refine e_vI (j' := 92) (as := [.int 1]) (rest := []) (pc' := 26) k57_23 rfl (show mCk 57 1 74 92 1 = true by decide +kernel) (Or.inl (by decide +kernel)) rfl (Nat.le_of_ble_eq_true rfl) (show 2 ≤ mL 92 by decide +kernel) (fun q8 => ?_)
      exact e_iret k57_26 (by decide +kernel)
  · refine e_iconst (v := -1) (pc' := 8) k57_7 rfl rfl ?_
    exact e_iret k57_8 (by decide +kernel)
theorem k58_0 : decode (mB 58) 0 = .ok (.iload_n 1, 1) := by decide +kernel
theorem k58_1 : decode (mB 58) 1 = .ok (.invokestatic 106, 3) := by decide +kernel
theorem k58_4 : decode (mB 58) 4 = .ok (.ifCond .eq 10, 3) := by decide +kernel
theorem k58_7 : decode (mB 58) 7 = .ok (.iload_n 2, 1) := by decide +kernel
theorem k58_8 : decode (mB 58) 8 = .ok (.invokestatic 106, 3) := by decide +kernel
theorem k58_11 : decode (mB 58) 11 = .ok (.ifCond .ne 5, 3) := by decide +kernel
theorem k58_14 : decode (mB 58) 14 = .ok (.iconst (-1), 1) := by decide +kernel
theorem k58_15 : decode (mB 58) 15 = .ok (.ireturn, 1) := by decide +kernel
theorem k58_16 : decode (mB 58) 16 = .ok (.aload_n 0, 1) := by decide +kernel
theorem k58_17 : decode (mB 58) 17 = .ok (.getfield 17, 3) := by decide +kernel
theorem k58_20 : decode (mB 58) 20 = .ok (.iload_n 1, 1) := by decide +kernel
theorem k58_21 : decode (mB 58) 21 = .ok (.aaload, 1) := by decide +kernel
theorem k58_22 : decode (mB 58) 22 = .ok (.invokevirtual 120, 3) := by decide +kernel
theorem k58_25 : decode (mB 58) 25 = .ok (.ifCond .eq 9, 3) := by decide +kernel
theorem k58_28 : decode (mB 58) 28 = .ok (.aload_n 0, 1) := by decide +kernel
theorem k58_29 : decode (mB 58) 29 = .ok (.iconst 1, 1) := by decide +kernel
theorem k58_30 : decode (mB 58) 30 = .ok (.invokevirtual 74, 3) := by decide +kernel
theorem k58_33 : decode (mB 58) 33 = .ok (.ireturn, 1) := by decide +kernel
theorem k58_34 : decode (mB 58) 34 = .ok (.aload_n 0, 1) := by decide +kernel
theorem k58_35 : decode (mB 58) 35 = .ok (.getfield 17, 3) := by decide +kernel
theorem k58_38 : decode (mB 58) 38 = .ok (.iload_n 2, 1) := by decide +kernel
theorem k58_39 : decode (mB 58) 39 = .ok (.aaload, 1) := by decide +kernel
theorem k58_40 : decode (mB 58) 40 = .ok (.aload_n 0, 1) := by decide +kernel
theorem k58_41 : decode (mB 58) 41 = .ok (.getfield 17, 3) := by decide +kernel
theorem k58_44 : decode (mB 58) 44 = .ok (.iload_n 1, 1) := by decide +kernel
theorem k58_45 : decode (mB 58) 45 = .ok (.aaload, 1) := by decide +kernel
theorem k58_46 : decode (mB 58) 46 = .ok (.invokevirtual 122, 3) := by decide +kernel
theorem k58_49 : decode (mB 58) 49 = .ok (.aload_n 0, 1) := by decide +kernel
theorem k58_50 : decode (mB 58) 50 = .ok (.getfield 17, 3) := by decide +kernel
theorem k58_53 : decode (mB 58) 53 = .ok (.iload_n 2, 1) := by decide +kernel
theorem k58_54 : decode (mB 58) 54 = .ok (.aaload, 1) := by decide +kernel
theorem k58_55 : decode (mB 58) 55 = .ok (.getfield 117, 3) := by decide +kernel
theorem k58_58 : decode (mB 58) 58 = .ok (.ireturn, 1) := by decide +kernel
/-- SquareGrounds.twin(II)I -/
theorem F58_eq (v0 : Nat) (v1 : Int32) (v2 : Int32) (h : mHeap) : F 58 [.ref v0, .int v1, .int v2] h = (sI 86 [.int v1] h).bind fun q1 => if (q1.1 : Int32) = 0 then (some (some (.int (-1)), q1.2)) else ((sI 86 [.int v2] q1.2).bind fun q2 => if ¬ (q2.1 : Int32) = 0 then ((gR q2.2 v0 7 1).bind fun x3 => (cAldR q2.2 x3 v1).bind fun x4 => (vI 18 x4 [] q2.2).bind fun q5 => if (q5.1 : Int32) = 0 then ((gR q5.2 v0 7 1).bind fun x6 => (cAldR q5.2 x6 v2).bind fun x7 => (gR q5.2 v0 7 1).bind fun x8 => (cAldR q5.2 x8 v1).bind fun x9 => (vV 23 x7 [.ref x9] q5.2).bind fun h10 => (gR h10 v0 7 1).bind fun x11 => (cAldR h10 x11 v2).bind fun x12 => (gI h10 x12 3 0).bind fun x13 => some (some (.int x13), h10)) else ((vI 92 v0 [.int 1] q5.2).bind fun q14 => some (some (.int q14.1), q14.2))) else (some (some (.int (-1)), q2.2))) := by
  show D 58 0 (mEnt 58 [.ref v0, .int v1, .int v2]) [] h 0 0 = _
  rw [show mEnt 58 [.ref v0, .int v1, .int v2] = [some (.ref v0), some (.int v1), some (.int v2)] from rfl]
  refine e_iload_n (pc' := 1) k58_0 rfl rfl ?_
  refine e_sI (j' := 86) (as := [.int v1]) (rest := []) (pc' := 4) k58_1 rfl (show mCk 58 0 106 86 1 = true by decide +kernel) (Or.inr (by decide +kernel)) rfl (Nat.le_of_ble_eq_true rfl) (show 1 ≤ mL 86 by decide +kernel) (fun q1 => ?_)
  refine e_ifeq (t := 14) (pc' := 7) k58_4 rfl (by decide) (fun _ => ?_) (fun _ => ?_)
  · refine e_iconst (v := -1) (pc' := 15) k58_14 rfl rfl ?_
    exact e_iret k58_15 (by decide +kernel)
  · refine e_iload_n (pc' := 8) k58_7 rfl rfl ?_
    refine e_sI (j' := 86) (as := [.int v2]) (rest := []) (pc' := 11) k58_8 rfl (show mCk 58 0 106 86 1 = true by decide +kernel) (Or.inr (by decide +kernel)) rfl (Nat.le_of_ble_eq_true rfl) (show 1 ≤ mL 86 by decide +kernel) (fun q2 => ?_)
    refine e_ifne (t := 16) (pc' := 14) k58_11 rfl (by decide) (fun _ => ?_) (fun _ => ?_)
    · refine e_aload_n (pc' := 17) k58_16 rfl rfl ?_
      refine e_getR (pc' := 20) k58_17 rfl (ci := 7) (k := 1) (by decide +kernel) (by decide +kernel) (fun x3 => ?_)
      refine e_iload_n (pc' := 21) k58_20 rfl rfl ?_
      refine e_aald (pc' := 22) k58_21 rfl (fun x4 => ?_)
      refine e_vI (j' := 18) (as := []) (rest := []) (pc' := 25) k58_22 rfl (show mCk 58 1 120 18 0 = true by decide +kernel) (Or.inr (by decide +kernel)) rfl (Nat.le_of_ble_eq_true rfl) (show 1 ≤ mL 18 by decide +kernel) (fun q5 => ?_)
      refine e_ifeq (t := 34) (pc' := 28) k58_25 rfl (by decide) (fun _ => ?_) (fun _ => ?_)
      · refine e_aload_n (pc' := 35) k58_34 rfl rfl ?_
        refine e_getR (pc' := 38) k58_35 rfl (ci := 7) (k := 1) (by decide +kernel) (by decide +kernel) (fun x6 => ?_)
        refine e_iload_n (pc' := 39) k58_38 rfl rfl ?_
        refine e_aald (pc' := 40) k58_39 rfl (fun x7 => ?_)
        refine e_aload_n (pc' := 41) k58_40 rfl rfl ?_
        refine e_getR (pc' := 44) k58_41 rfl (ci := 7) (k := 1) (by decide +kernel) (by decide +kernel) (fun x8 => ?_)
        refine e_iload_n (pc' := 45) k58_44 rfl rfl ?_
        refine e_aald (pc' := 46) k58_45 rfl (fun x9 => ?_)
        refine e_vV (j' := 23) (as := [.ref x9]) (rest := []) (pc' := 49) k58_46 rfl (show mCk 58 1 122 23 1 = true by decide +kernel) (by decide +kernel) rfl (Nat.le_of_ble_eq_true rfl) (show 2 ≤ mL 23 by decide +kernel) (fun h10 => ?_)
        refine e_aload_n (pc' := 50) k58_49 rfl rfl ?_
        refine e_getR (pc' := 53) k58_50 rfl (ci := 7) (k := 1) (by decide +kernel) (by decide +kernel) (fun x11 => ?_)
        refine e_iload_n (pc' := 54) k58_53 rfl rfl ?_
        refine e_aald (pc' := 55) k58_54 rfl (fun x12 => ?_)
        refine e_getI (pc' := 58) k58_55 rfl (ci := 3) (k := 0) (by decide +kernel) (by decide +kernel) (fun x13 => ?_)
        exact e_iret k58_58 (by decide +kernel)
      · refine e_aload_n (pc' := 29) k58_28 rfl rfl ?_
        refine e_iconst (v := 1) (pc' := 30) k58_29 rfl rfl ?_
        refine e_vI (j' := 92) (as := [.int 1]) (rest := []) (pc' := 33) k58_30 rfl (show mCk 58 1 74 92 1 = true by decide +kernel) (Or.inl (by decide +kernel)) rfl (Nat.le_of_ble_eq_true rfl) (show 2 ≤ mL 92 by decide +kernel) (fun q14 => ?_)
        exact e_iret k58_33 (by decide +kernel)
    · refine e_iconst (v := -1) (pc' := 15) k58_14 rfl rfl ?_
      exact e_iret k58_15 (by decide +kernel)
theorem k59_0 : decode (mB 59) 0 = .ok (.iload_n 1, 1) := by decide +kernel
theorem k59_1 : decode (mB 59) 1 = .ok (.invokestatic 106, 3) := by decide +kernel
theorem k59_4 : decode (mB 59) 4 = .ok (.ifCond .eq 12, 3) := by decide +kernel
theorem k59_7 : decode (mB 59) 7 = .ok (.iload_n 2, 1) := by decide +kernel
theorem k59_8 : decode (mB 59) 8 = .ok (.ifCond .lt 8, 3) := by decide +kernel
theorem k59_11 : decode (mB 59) 11 = .ok (.iload_n 2, 1) := by decide +kernel
theorem k59_12 : decode (mB 59) 12 = .ok (.iconst 5, 1) := by decide +kernel
theorem k59_13 : decode (mB 59) 13 = .ok (.if_icmp .le 5, 3) := by decide +kernel
theorem k59_16 : decode (mB 59) 16 = .ok (.iconst (-1), 1) := by decide +kernel
theorem k59_17 : decode (mB 59) 17 = .ok (.ireturn, 1) := by decide +kernel
theorem k59_18 : decode (mB 59) 18 = .ok (.aload_n 0, 1) := by decide +kernel
theorem k59_19 : decode (mB 59) 19 = .ok (.getfield 17, 3) := by decide +kernel
theorem k59_22 : decode (mB 59) 22 = .ok (.iload_n 1, 1) := by decide +kernel
theorem k59_23 : decode (mB 59) 23 = .ok (.aaload, 1) := by decide +kernel
theorem k59_24 : decode (mB 59) 24 = .ok (.astore_n 3, 1) := by decide +kernel
theorem k59_25 : decode (mB 59) 25 = .ok (.aload_n 3, 1) := by decide +kernel
theorem k59_26 : decode (mB 59) 26 = .ok (.invokevirtual 120, 3) := by decide +kernel
theorem k59_29 : decode (mB 59) 29 = .ok (.ifCond .eq 9, 3) := by decide +kernel
theorem k59_32 : decode (mB 59) 32 = .ok (.aload_n 0, 1) := by decide +kernel
theorem k59_33 : decode (mB 59) 33 = .ok (.iconst 1, 1) := by decide +kernel
theorem k59_34 : decode (mB 59) 34 = .ok (.invokevirtual 74, 3) := by decide +kernel
theorem k59_37 : decode (mB 59) 37 = .ok (.ireturn, 1) := by decide +kernel
theorem k59_38 : decode (mB 59) 38 = .ok (.iload_n 2, 1) := by decide +kernel
theorem k59_39 : decode (mB 59) 39 = .ok (.ifCond .ne 8, 3) := by decide +kernel
theorem k59_42 : decode (mB 59) 42 = .ok (.aload_n 3, 1) := by decide +kernel
theorem k59_43 : decode (mB 59) 43 = .ok (.getfield 117, 3) := by decide +kernel
theorem k59_46 : decode (mB 59) 46 = .ok (.ireturn, 1) := by decide +kernel
theorem k59_47 : decode (mB 59) 47 = .ok (.iload_n 2, 1) := by decide +kernel
theorem k59_48 : decode (mB 59) 48 = .ok (.iconst 5, 1) := by decide +kernel
theorem k59_49 : decode (mB 59) 49 = .ok (.if_icmp .ne 19, 3) := by decide +kernel
theorem k59_52 : decode (mB 59) 52 = .ok (.aload_n 0, 1) := by decide +kernel
theorem k59_53 : decode (mB 59) 53 = .ok (.getfield 36, 3) := by decide +kernel
theorem k59_56 : decode (mB 59) 56 = .ok (.aload_n 3, 1) := by decide +kernel
theorem k59_57 : decode (mB 59) 57 = .ok (.invokevirtual 126, 3) := by decide +kernel
theorem k59_60 : decode (mB 59) 60 = .ok (.aload_n 0, 1) := by decide +kernel
theorem k59_61 : decode (mB 59) 61 = .ok (.getfield 36, 3) := by decide +kernel
theorem k59_64 : decode (mB 59) 64 = .ok (.getfield 129, 3) := by decide +kernel
theorem k59_67 : decode (mB 59) 67 = .ok (.ireturn, 1) := by decide +kernel
theorem k59_68 : decode (mB 59) 68 = .ok (.aload_n 0, 1) := by decide +kernel
theorem k59_69 : decode (mB 59) 69 = .ok (.getfield 29, 3) := by decide +kernel
theorem k59_72 : decode (mB 59) 72 = .ok (.aload_n 3, 1) := by decide +kernel
theorem k59_73 : decode (mB 59) 73 = .ok (.invokevirtual 132, 3) := by decide +kernel
theorem k59_76 : decode (mB 59) 76 = .ok (.aload_n 0, 1) := by decide +kernel
theorem k59_77 : decode (mB 59) 77 = .ok (.getfield 29, 3) := by decide +kernel
theorem k59_80 : decode (mB 59) 80 = .ok (.iload_n 2, 1) := by decide +kernel
theorem k59_81 : decode (mB 59) 81 = .ok (.invokevirtual 133, 3) := by decide +kernel
theorem k59_84 : decode (mB 59) 84 = .ok (.ireturn, 1) := by decide +kernel
/-- SquareGrounds.told(II)I -/
theorem F59_eq (v0 : Nat) (v1 : Int32) (v2 : Int32) (h : mHeap) : F 59 [.ref v0, .int v1, .int v2] h = (sI 86 [.int v1] h).bind fun q1 => if (q1.1 : Int32) = 0 then (some (some (.int (-1)), q1.2)) else (if (v2 : Int32) < 0 then (some (some (.int (-1)), q1.2)) else (if (v2 : Int32) ≤ 5 then ((gR q1.2 v0 7 1).bind fun x2 => (cAldR q1.2 x2 v1).bind fun x3 => (vI 18 x3 [] q1.2).bind fun q4 => if (q4.1 : Int32) = 0 then (if ¬ (v2 : Int32) = 0 then (if ¬ (v2 : Int32) = 5 then ((gR q4.2 v0 7 3).bind fun x5 => (vV 1 x5 [.ref x3] q4.2).bind fun h6 => (gR h6 v0 7 3).bind fun x7 => (vI 6 x7 [.int v2] h6).bind fun q8 => some (some (.int q8.1), q8.2)) else ((gR q4.2 v0 7 4).bind fun x9 => (vV 34 x9 [.ref x3] q4.2).bind fun h10 => (gR h10 v0 7 4).bind fun x11 => (gI h10 x11 4 4).bind fun x12 => some (some (.int x12), h10))) else ((gI q4.2 x3 3 0).bind fun x13 => some (some (.int x13), q4.2))) else ((vI 92 v0 [.int 1] q4.2).bind fun q14 => some (some (.int q14.1), q14.2))) else (some (some (.int (-1)), q1.2)))) := by
  show D 59 0 (mEnt 59 [.ref v0, .int v1, .int v2]) [] h 0 0 = _
  rw [show mEnt 59 [.ref v0, .int v1, .int v2] = [some (.ref v0), some (.int v1), some (.int v2), none] from rfl]
  refine e_iload_n (pc' := 1) k59_0 rfl rfl ?_
  refine e_sI (j' := 86) (as := [.int v1]) (rest := []) (pc' := 4) k59_1 rfl (show mCk 59 0 106 86 1 = true by decide +kernel) (Or.inr (by decide +kernel)) rfl (Nat.le_of_ble_eq_true rfl) (show 1 ≤ mL 86 by decide +kernel) (fun q1 => ?_)
  refine e_ifeq (t := 16) (pc' := 7) k59_4 rfl (by decide) (fun _ => ?_) (fun _ => ?_)
  · refine e_iconst (v := -1) (pc' := 17) k59_16 rfl rfl ?_
    exact e_iret k59_17 (by decide +kernel)
  · refine e_iload_n (pc' := 8) k59_7 rfl rfl ?_
    refine e_iflt (t := 16) (pc' := 11) k59_8 rfl (by decide) (fun _ => ?_) (fun _ => ?_)
    · refine e_iconst (v := -1) (pc' := 17) k59_16 rfl rfl ?_
      exact e_iret k59_17 (by decide +kernel)
    · refine e_iload_n (pc' := 12) k59_11 rfl rfl ?_
      refine e_iconst (v := 5) (pc' := 13) k59_12 rfl rfl ?_
      refine e_icmple (t := 18) (pc' := 16) k59_13 rfl (by decide) (fun _ => ?_) (fun _ => ?_)
      · refine e_aload_n (pc' := 19) k59_18 rfl rfl ?_
        refine e_getR (pc' := 22) k59_19 rfl (ci := 7) (k := 1) (by decide +kernel) (by decide +kernel) (fun x2 => ?_)
        refine e_iload_n (pc' := 23) k59_22 rfl rfl ?_
        refine e_aald (pc' := 24) k59_23 rfl (fun x3 => ?_)
        refine e_astore_n (pc' := 25) k59_24 rfl rfl ?_
        refine e_aload_n (pc' := 26) k59_25 rfl rfl ?_
        refine e_vI (j' := 18) (as := []) (rest := []) (pc' := 29) k59_26 rfl (show mCk 59 1 120 18 0 = true by decide +kernel) (Or.inr (by decide +kernel)) rfl (Nat.le_of_ble_eq_true rfl) (show 1 ≤ mL 18 by decide +kernel) (fun q4 => ?_)
        refine e_ifeq (t := 38) (pc' := 32) k59_29 rfl (by decide) (fun _ => ?_) (fun _ => ?_)
        · refine e_iload_n (pc' := 39) k59_38 rfl rfl ?_
          refine e_ifne (t := 47) (pc' := 42) k59_39 rfl (by decide) (fun _ => ?_) (fun _ => ?_)
          · refine e_iload_n (pc' := 48) k59_47 rfl rfl ?_
            refine e_iconst (v := 5) (pc' := 49) k59_48 rfl rfl ?_
            refine e_icmpne (t := 68) (pc' := 52) k59_49 rfl (by decide) (fun _ => ?_) (fun _ => ?_)
            · refine e_aload_n (pc' := 69) k59_68 rfl rfl ?_
              refine e_getR (pc' := 72) k59_69 rfl (ci := 7) (k := 3) (by decide +kernel) (by decide +kernel) (fun x5 => ?_)
              refine e_aload_n (pc' := 73) k59_72 rfl rfl ?_
              refine e_vV (j' := 1) (as := [.ref x3]) (rest := []) (pc' := 76) k59_73 rfl (show mCk 59 1 132 1 1 = true by decide +kernel) (by decide +kernel) rfl (Nat.le_of_ble_eq_true rfl) (show 2 ≤ mL 1 by decide +kernel) (fun h6 => ?_)
              refine e_aload_n (pc' := 77) k59_76 rfl rfl ?_
              refine e_getR (pc' := 80) k59_77 rfl (ci := 7) (k := 3) (by decide +kernel) (by decide +kernel) (fun x7 => ?_)
              refine e_iload_n (pc' := 81) k59_80 rfl rfl ?_
              refine e_vI (j' := 6) (as := [.int v2]) (rest := []) (pc' := 84) k59_81 rfl (show mCk 59 1 133 6 1 = true by decide +kernel) (Or.inl (by decide +kernel)) rfl (Nat.le_of_ble_eq_true rfl) (show 2 ≤ mL 6 by decide +kernel) (fun q8 => ?_)
              exact e_iret k59_84 (by decide +kernel)
            · refine e_aload_n (pc' := 53) k59_52 rfl rfl ?_
              refine e_getR (pc' := 56) k59_53 rfl (ci := 7) (k := 4) (by decide +kernel) (by decide +kernel) (fun x9 => ?_)
              refine e_aload_n (pc' := 57) k59_56 rfl rfl ?_
              refine e_vV (j' := 34) (as := [.ref x3]) (rest := []) (pc' := 60) k59_57 rfl (show mCk 59 1 126 34 1 = true by decide +kernel) (by decide +kernel) rfl (Nat.le_of_ble_eq_true rfl) (show 2 ≤ mL 34 by decide +kernel) (fun h10 => ?_)
              refine e_aload_n (pc' := 61) k59_60 rfl rfl ?_
              refine e_getR (pc' := 64) k59_61 rfl (ci := 7) (k := 4) (by decide +kernel) (by decide +kernel) (fun x11 => ?_)
              refine e_getI (pc' := 67) k59_64 rfl (ci := 4) (k := 4) (by decide +kernel) (by decide +kernel) (fun x12 => ?_)
              exact e_iret k59_67 (by decide +kernel)
          · refine e_aload_n (pc' := 43) k59_42 rfl rfl ?_
            refine e_getI (pc' := 46) k59_43 rfl (ci := 3) (k := 0) (by decide +kernel) (by decide +kernel) (fun x13 => ?_)
            exact e_iret k59_46 (by decide +kernel)
        · refine e_aload_n (pc' := 33) k59_32 rfl rfl ?_
          refine e_iconst (v := 1) (pc' := 34) k59_33 rfl rfl ?_
          refine e_vI (j' := 92) (as := [.int 1]) (rest := []) (pc' := 37) k59_34 rfl (show mCk 59 1 74 92 1 = true by decide +kernel) (Or.inl (by decide +kernel)) rfl (Nat.le_of_ble_eq_true rfl) (show 2 ≤ mL 92 by decide +kernel) (fun q14 => ?_)
          exact e_iret k59_37 (by decide +kernel)
      · refine e_iconst (v := -1) (pc' := 17) k59_16 rfl rfl ?_
        exact e_iret k59_17 (by decide +kernel)
theorem k60_0 : decode (mB 60) 0 = .ok (.iload_n 1, 1) := by decide +kernel
theorem k60_1 : decode (mB 60) 1 = .ok (.invokestatic 106, 3) := by decide +kernel
theorem k60_4 : decode (mB 60) 4 = .ok (.ifCond .eq 13, 3) := by decide +kernel
theorem k60_7 : decode (mB 60) 7 = .ok (.iload_n 2, 1) := by decide +kernel
theorem k60_8 : decode (mB 60) 8 = .ok (.iconst 1, 1) := by decide +kernel
theorem k60_9 : decode (mB 60) 9 = .ok (.if_icmp .lt 8, 3) := by decide +kernel
theorem k60_12 : decode (mB 60) 12 = .ok (.iload_n 2, 1) := by decide +kernel
theorem k60_13 : decode (mB 60) 13 = .ok (.iconst 3, 1) := by decide +kernel
theorem k60_14 : decode (mB 60) 14 = .ok (.if_icmp .le 5, 3) := by decide +kernel
theorem k60_17 : decode (mB 60) 17 = .ok (.iconst (-1), 1) := by decide +kernel
theorem k60_18 : decode (mB 60) 18 = .ok (.ireturn, 1) := by decide +kernel
theorem k60_19 : decode (mB 60) 19 = .ok (.aload_n 0, 1) := by decide +kernel
theorem k60_20 : decode (mB 60) 20 = .ok (.getfield 17, 3) := by decide +kernel
theorem k60_23 : decode (mB 60) 23 = .ok (.iload_n 1, 1) := by decide +kernel
theorem k60_24 : decode (mB 60) 24 = .ok (.aaload, 1) := by decide +kernel
theorem k60_25 : decode (mB 60) 25 = .ok (.astore_n 3, 1) := by decide +kernel
theorem k60_26 : decode (mB 60) 26 = .ok (.aload_n 3, 1) := by decide +kernel
theorem k60_27 : decode (mB 60) 27 = .ok (.invokevirtual 120, 3) := by decide +kernel
theorem k60_30 : decode (mB 60) 30 = .ok (.ifCond .eq 9, 3) := by decide +kernel
theorem k60_33 : decode (mB 60) 33 = .ok (.aload_n 0, 1) := by decide +kernel
theorem k60_34 : decode (mB 60) 34 = .ok (.iconst 1, 1) := by decide +kernel
theorem k60_35 : decode (mB 60) 35 = .ok (.invokevirtual 74, 3) := by decide +kernel
theorem k60_38 : decode (mB 60) 38 = .ok (.ireturn, 1) := by decide +kernel
theorem k60_39 : decode (mB 60) 39 = .ok (.aload_n 0, 1) := by decide +kernel
theorem k60_40 : decode (mB 60) 40 = .ok (.getfield 29, 3) := by decide +kernel
theorem k60_43 : decode (mB 60) 43 = .ok (.aload_n 3, 1) := by decide +kernel
theorem k60_44 : decode (mB 60) 44 = .ok (.invokevirtual 132, 3) := by decide +kernel
theorem k60_47 : decode (mB 60) 47 = .ok (.aload_n 0, 1) := by decide +kernel
theorem k60_48 : decode (mB 60) 48 = .ok (.getfield 29, 3) := by decide +kernel
theorem k60_51 : decode (mB 60) 51 = .ok (.invokevirtual 136, 3) := by decide +kernel
theorem k60_54 : decode (mB 60) 54 = .ok (.iload_n 2, 1) := by decide +kernel
theorem k60_55 : decode (mB 60) 55 = .ok (.if_icmp .eq 9, 3) := by decide +kernel
theorem k60_58 : decode (mB 60) 58 = .ok (.aload_n 0, 1) := by decide +kernel
theorem k60_59 : decode (mB 60) 59 = .ok (.iconst 3, 1) := by decide +kernel
theorem k60_60 : decode (mB 60) 60 = .ok (.invokevirtual 74, 3) := by decide +kernel
theorem k60_63 : decode (mB 60) 63 = .ok (.ireturn, 1) := by decide +kernel
theorem k60_64 : decode (mB 60) 64 = .ok (.iload_n 2, 1) := by decide +kernel
theorem k60_65 : decode (mB 60) 65 = .ok (.iconst 1, 1) := by decide +kernel
theorem k60_66 : decode (mB 60) 66 = .ok (.if_icmp .ne 9, 3) := by decide +kernel
theorem k60_69 : decode (mB 60) 69 = .ok (.aload_n 3, 1) := by decide +kernel
theorem k60_70 : decode (mB 60) 70 = .ok (.iconst 0, 1) := by decide +kernel
theorem k60_71 : decode (mB 60) 71 = .ok (.invokevirtual 140, 3) := by decide +kernel
theorem k60_74 : decode (mB 60) 74 = .ok (.ireturn, 1) := by decide +kernel
theorem k60_75 : decode (mB 60) 75 = .ok (.iload_n 2, 1) := by decide +kernel
theorem k60_76 : decode (mB 60) 76 = .ok (.iconst 2, 1) := by decide +kernel
theorem k60_77 : decode (mB 60) 77 = .ok (.if_icmp .ne 13, 3) := by decide +kernel
theorem k60_80 : decode (mB 60) 80 = .ok (.aload_n 0, 1) := by decide +kernel
theorem k60_81 : decode (mB 60) 81 = .ok (.getfield 29, 3) := by decide +kernel
theorem k60_84 : decode (mB 60) 84 = .ok (.getfield 143, 3) := by decide +kernel
theorem k60_87 : decode (mB 60) 87 = .ok (.goto 10, 3) := by decide +kernel
theorem k60_90 : decode (mB 60) 90 = .ok (.aload_n 0, 1) := by decide +kernel
theorem k60_91 : decode (mB 60) 91 = .ok (.getfield 29, 3) := by decide +kernel
theorem k60_94 : decode (mB 60) 94 = .ok (.invokevirtual 146, 3) := by decide +kernel
theorem k60_97 : decode (mB 60) 97 = .ok (.ireturn, 1) := by decide +kernel
/-- SquareGrounds.mark(II)I -/
theorem F60_eq (v0 : Nat) (v1 : Int32) (v2 : Int32) (h : mHeap) : F 60 [.ref v0, .int v1, .int v2] h = (sI 86 [.int v1] h).bind fun q1 => if (q1.1 : Int32) = 0 then (some (some (.int (-1)), q1.2)) else (if (v2 : Int32) < 1 then (some (some (.int (-1)), q1.2)) else (if (v2 : Int32) ≤ 3 then ((gR q1.2 v0 7 1).bind fun x2 => (cAldR q1.2 x2 v1).bind fun x3 => (vI 18 x3 [] q1.2).bind fun q4 => if (q4.1 : Int32) = 0 then ((gR q4.2 v0 7 3).bind fun x5 => (vV 1 x5 [.ref x3] q4.2).bind fun h6 => (gR h6 v0 7 3).bind fun x7 => (vI 4 x7 [] h6).bind fun q8 => if (q8.1 : Int32) = v2 then (if ¬ (v2 : Int32) = 1 then (if ¬ (v2 : Int32) = 2 then ((gR q8.2 v0 7 3).bind fun x9 => (vI 5 x9 [] q8.2).bind fun q10 => some (some (.int q10.1), q10.2)) else ((gR q8.2 v0 7 3).bind fun x11 => (gI q8.2 x11 0 3).bind fun x12 => some (some (.int x12), q8.2))) else ((vI 30 x3 [.int 0] q8.2).bind fun q13 => some (some (.int q13.1), q13.2))) else ((vI 92 v0 [.int 3] q8.2).bind fun q14 => some (some (.int q14.1), q14.2))) else ((vI 92 v0 [.int 1] q4.2).bind fun q15 => some (some (.int q15.1), q15.2))) else (some (some (.int (-1)), q1.2)))) := by
  show D 60 0 (mEnt 60 [.ref v0, .int v1, .int v2]) [] h 0 0 = _
  rw [show mEnt 60 [.ref v0, .int v1, .int v2] = [some (.ref v0), some (.int v1), some (.int v2), none] from rfl]
  refine e_iload_n (pc' := 1) k60_0 rfl rfl ?_
  refine e_sI (j' := 86) (as := [.int v1]) (rest := []) (pc' := 4) k60_1 rfl (show mCk 60 0 106 86 1 = true by decide +kernel) (Or.inr (by decide +kernel)) rfl (Nat.le_of_ble_eq_true rfl) (show 1 ≤ mL 86 by decide +kernel) (fun q1 => ?_)
  refine e_ifeq (t := 17) (pc' := 7) k60_4 rfl (by decide) (fun _ => ?_) (fun _ => ?_)
  · refine e_iconst (v := -1) (pc' := 18) k60_17 rfl rfl ?_
    exact e_iret k60_18 (by decide +kernel)
  · refine e_iload_n (pc' := 8) k60_7 rfl rfl ?_
    refine e_iconst (v := 1) (pc' := 9) k60_8 rfl rfl ?_
    refine e_icmplt (t := 17) (pc' := 12) k60_9 rfl (by decide) (fun _ => ?_) (fun _ => ?_)
    · refine e_iconst (v := -1) (pc' := 18) k60_17 rfl rfl ?_
      exact e_iret k60_18 (by decide +kernel)
    · refine e_iload_n (pc' := 13) k60_12 rfl rfl ?_
      refine e_iconst (v := 3) (pc' := 14) k60_13 rfl rfl ?_
      refine e_icmple (t := 19) (pc' := 17) k60_14 rfl (by decide) (fun _ => ?_) (fun _ => ?_)
      · refine e_aload_n (pc' := 20) k60_19 rfl rfl ?_
        refine e_getR (pc' := 23) k60_20 rfl (ci := 7) (k := 1) (by decide +kernel) (by decide +kernel) (fun x2 => ?_)
        refine e_iload_n (pc' := 24) k60_23 rfl rfl ?_
        refine e_aald (pc' := 25) k60_24 rfl (fun x3 => ?_)
        refine e_astore_n (pc' := 26) k60_25 rfl rfl ?_
        refine e_aload_n (pc' := 27) k60_26 rfl rfl ?_
        refine e_vI (j' := 18) (as := []) (rest := []) (pc' := 30) k60_27 rfl (show mCk 60 1 120 18 0 = true by decide +kernel) (Or.inr (by decide +kernel)) rfl (Nat.le_of_ble_eq_true rfl) (show 1 ≤ mL 18 by decide +kernel) (fun q4 => ?_)
        refine e_ifeq (t := 39) (pc' := 33) k60_30 rfl (by decide) (fun _ => ?_) (fun _ => ?_)
        · refine e_aload_n (pc' := 40) k60_39 rfl rfl ?_
          refine e_getR (pc' := 43) k60_40 rfl (ci := 7) (k := 3) (by decide +kernel) (by decide +kernel) (fun x5 => ?_)
          refine e_aload_n (pc' := 44) k60_43 rfl rfl ?_
          refine e_vV (j' := 1) (as := [.ref x3]) (rest := []) (pc' := 47) k60_44 rfl (show mCk 60 1 132 1 1 = true by decide +kernel) (by decide +kernel) rfl (Nat.le_of_ble_eq_true rfl) (show 2 ≤ mL 1 by decide +kernel) (fun h6 => ?_)
          refine e_aload_n (pc' := 48) k60_47 rfl rfl ?_
          refine e_getR (pc' := 51) k60_48 rfl (ci := 7) (k := 3) (by decide +kernel) (by decide +kernel) (fun x7 => ?_)
          refine e_vI (j' := 4) (as := []) (rest := []) (pc' := 54) k60_51 rfl (show mCk 60 1 136 4 0 = true by decide +kernel) (Or.inl (by decide +kernel)) rfl (Nat.le_of_ble_eq_true rfl) (show 1 ≤ mL 4 by decide +kernel) (fun q8 => ?_)
          refine e_iload_n (pc' := 55) k60_54 rfl rfl ?_
          refine e_icmpeq (t := 64) (pc' := 58) k60_55 rfl (by decide) (fun _ => ?_) (fun _ => ?_)
          · refine e_iload_n (pc' := 65) k60_64 rfl rfl ?_
            refine e_iconst (v := 1) (pc' := 66) k60_65 rfl rfl ?_
            refine e_icmpne (t := 75) (pc' := 69) k60_66 rfl (by decide) (fun _ => ?_) (fun _ => ?_)
            · refine e_iload_n (pc' := 76) k60_75 rfl rfl ?_
              refine e_iconst (v := 2) (pc' := 77) k60_76 rfl rfl ?_
              refine e_icmpne (t := 90) (pc' := 80) k60_77 rfl (by decide) (fun _ => ?_) (fun _ => ?_)
              · refine e_aload_n (pc' := 91) k60_90 rfl rfl ?_
                refine e_getR (pc' := 94) k60_91 rfl (ci := 7) (k := 3) (by decide +kernel) (by decide +kernel) (fun x9 => ?_)
                refine e_vI (j' := 5) (as := []) (rest := []) (pc' := 97) k60_94 rfl (show mCk 60 1 146 5 0 = true by decide +kernel) (Or.inl (by decide +kernel)) rfl (Nat.le_of_ble_eq_true rfl) (show 1 ≤ mL 5 by decide +kernel) (fun q10 => ?_)
                exact e_iret k60_97 (by decide +kernel)
              · refine e_aload_n (pc' := 81) k60_80 rfl rfl ?_
                refine e_getR (pc' := 84) k60_81 rfl (ci := 7) (k := 3) (by decide +kernel) (by decide +kernel) (fun x11 => ?_)
                refine e_getI (pc' := 87) k60_84 rfl (ci := 0) (k := 3) (by decide +kernel) (by decide +kernel) (fun x12 => ?_)
                refine e_goto (pc' := 97) k60_87 (by decide) ?_
                exact e_iret k60_97 (by decide +kernel)
            · refine e_aload_n (pc' := 70) k60_69 rfl rfl ?_
              refine e_iconst (v := 0) (pc' := 71) k60_70 rfl rfl ?_
              refine e_vI (j' := 30) (as := [.int 0]) (rest := []) (pc' := 74) k60_71 rfl (show mCk 60 1 140 30 1 = true by decide +kernel) (Or.inl (by decide +kernel)) rfl (Nat.le_of_ble_eq_true rfl) (show 2 ≤ mL 30 by decide +kernel) (fun q13 => ?_)
              exact e_iret k60_74 (by decide +kernel)
          · refine e_aload_n (pc' := 59) k60_58 rfl rfl ?_
            refine e_iconst (v := 3) (pc' := 60) k60_59 rfl rfl ?_
            refine e_vI (j' := 92) (as := [.int 3]) (rest := []) (pc' := 63) k60_60 rfl (show mCk 60 1 74 92 1 = true by decide +kernel) (Or.inl (by decide +kernel)) rfl (Nat.le_of_ble_eq_true rfl) (show 2 ≤ mL 92 by decide +kernel) (fun q14 => ?_)
            exact e_iret k60_63 (by decide +kernel)
        · refine e_aload_n (pc' := 34) k60_33 rfl rfl ?_
          refine e_iconst (v := 1) (pc' := 35) k60_34 rfl rfl ?_
          refine e_vI (j' := 92) (as := [.int 1]) (rest := []) (pc' := 38) k60_35 rfl (show mCk 60 1 74 92 1 = true by decide +kernel) (Or.inl (by decide +kernel)) rfl (Nat.le_of_ble_eq_true rfl) (show 2 ≤ mL 92 by decide +kernel) (fun q15 => ?_)
          exact e_iret k60_38 (by decide +kernel)
      · refine e_iconst (v := -1) (pc' := 18) k60_17 rfl rfl ?_
        exact e_iret k60_18 (by decide +kernel)
theorem k61_0 : decode (mB 61) 0 = .ok (.iload_n 1, 1) := by decide +kernel
theorem k61_1 : decode (mB 61) 1 = .ok (.invokestatic 106, 3) := by decide +kernel
theorem k61_4 : decode (mB 61) 4 = .ok (.ifCond .ne 5, 3) := by decide +kernel
theorem k61_7 : decode (mB 61) 7 = .ok (.iconst (-1), 1) := by decide +kernel
theorem k61_8 : decode (mB 61) 8 = .ok (.ireturn, 1) := by decide +kernel
theorem k61_9 : decode (mB 61) 9 = .ok (.aload_n 0, 1) := by decide +kernel
theorem k61_10 : decode (mB 61) 10 = .ok (.getfield 17, 3) := by decide +kernel
theorem k61_13 : decode (mB 61) 13 = .ok (.iload_n 1, 1) := by decide +kernel
theorem k61_14 : decode (mB 61) 14 = .ok (.aaload, 1) := by decide +kernel
theorem k61_15 : decode (mB 61) 15 = .ok (.astore 4, 2) := by decide +kernel
theorem k61_17 : decode (mB 61) 17 = .ok (.aload 4, 2) := by decide +kernel
theorem k61_19 : decode (mB 61) 19 = .ok (.invokevirtual 120, 3) := by decide +kernel
theorem k61_22 : decode (mB 61) 22 = .ok (.ifCond .eq 9, 3) := by decide +kernel
theorem k61_25 : decode (mB 61) 25 = .ok (.aload_n 0, 1) := by decide +kernel
theorem k61_26 : decode (mB 61) 26 = .ok (.iconst 1, 1) := by decide +kernel
theorem k61_27 : decode (mB 61) 27 = .ok (.invokevirtual 74, 3) := by decide +kernel
theorem k61_30 : decode (mB 61) 30 = .ok (.ireturn, 1) := by decide +kernel
theorem k61_31 : decode (mB 61) 31 = .ok (.aload 4, 2) := by decide +kernel
theorem k61_33 : decode (mB 61) 33 = .ok (.iload_n 2, 1) := by decide +kernel
theorem k61_34 : decode (mB 61) 34 = .ok (.invokevirtual 149, 3) := by decide +kernel
theorem k61_37 : decode (mB 61) 37 = .ok (.ifCond .ne 9, 3) := by decide +kernel
theorem k61_40 : decode (mB 61) 40 = .ok (.aload_n 0, 1) := by decide +kernel
theorem k61_41 : decode (mB 61) 41 = .ok (.iconst 2, 1) := by decide +kernel
theorem k61_42 : decode (mB 61) 42 = .ok (.invokevirtual 74, 3) := by decide +kernel
theorem k61_45 : decode (mB 61) 45 = .ok (.ireturn, 1) := by decide +kernel
theorem k61_46 : decode (mB 61) 46 = .ok (.iload_n 3, 1) := by decide +kernel
theorem k61_47 : decode (mB 61) 47 = .ok (.ifCond .eq 13, 3) := by decide +kernel
theorem k61_50 : decode (mB 61) 50 = .ok (.aload 4, 2) := by decide +kernel
theorem k61_52 : decode (mB 61) 52 = .ok (.getfield 151, 3) := by decide +kernel
theorem k61_55 : decode (mB 61) 55 = .ok (.iload_n 2, 1) := by decide +kernel
theorem k61_56 : decode (mB 61) 56 = .ok (.iaload, 1) := by decide +kernel
theorem k61_57 : decode (mB 61) 57 = .ok (.goto 10, 3) := by decide +kernel
theorem k61_60 : decode (mB 61) 60 = .ok (.aload 4, 2) := by decide +kernel
theorem k61_62 : decode (mB 61) 62 = .ok (.getfield 154, 3) := by decide +kernel
theorem k61_65 : decode (mB 61) 65 = .ok (.iload_n 2, 1) := by decide +kernel
theorem k61_66 : decode (mB 61) 66 = .ok (.iaload, 1) := by decide +kernel
theorem k61_67 : decode (mB 61) 67 = .ok (.ireturn, 1) := by decide +kernel
/-- SquareGrounds.next(IIZ)I -/
theorem F61_eq (v0 : Nat) (v1 : Int32) (v2 : Int32) (v3 : Int32) (h : mHeap) : F 61 [.ref v0, .int v1, .int v2, .int v3] h = (sI 86 [.int v1] h).bind fun q1 => if ¬ (q1.1 : Int32) = 0 then ((gR q1.2 v0 7 1).bind fun x2 => (cAldR q1.2 x2 v1).bind fun x3 => (vI 18 x3 [] q1.2).bind fun q4 => if (q4.1 : Int32) = 0 then ((vI 20 x3 [.int v2] q4.2).bind fun q5 => if ¬ (q5.1 : Int32) = 0 then (if (v3 : Int32) = 0 then ((gR q5.2 x3 3 1).bind fun x6 => (cAldI false q5.2 x6 v2).bind fun x7 => some (some (.int x7), q5.2)) else ((gR q5.2 x3 3 2).bind fun x8 => (cAldI false q5.2 x8 v2).bind fun x9 => some (some (.int x9), q5.2))) else ((vI 92 v0 [.int 2] q5.2).bind fun q10 => some (some (.int q10.1), q10.2))) else ((vI 92 v0 [.int 1] q4.2).bind fun q11 => some (some (.int q11.1), q11.2))) else (some (some (.int (-1)), q1.2)) := by
  show D 61 0 (mEnt 61 [.ref v0, .int v1, .int v2, .int v3]) [] h 0 0 = _
  rw [show mEnt 61 [.ref v0, .int v1, .int v2, .int v3] = [some (.ref v0), some (.int v1), some (.int v2), some (.int v3), none] from rfl]
  refine e_iload_n (pc' := 1) k61_0 rfl rfl ?_
  refine e_sI (j' := 86) (as := [.int v1]) (rest := []) (pc' := 4) k61_1 rfl (show mCk 61 0 106 86 1 = true by decide +kernel) (Or.inr (by decide +kernel)) rfl (Nat.le_of_ble_eq_true rfl) (show 1 ≤ mL 86 by decide +kernel) (fun q1 => ?_)
  refine e_ifne (t := 9) (pc' := 7) k61_4 rfl (by decide) (fun _ => ?_) (fun _ => ?_)
  · refine e_aload_n (pc' := 10) k61_9 rfl rfl ?_
    refine e_getR (pc' := 13) k61_10 rfl (ci := 7) (k := 1) (by decide +kernel) (by decide +kernel) (fun x2 => ?_)
    refine e_iload_n (pc' := 14) k61_13 rfl rfl ?_
    refine e_aald (pc' := 15) k61_14 rfl (fun x3 => ?_)
    refine e_astore (pc' := 17) k61_15 rfl rfl ?_
    refine e_aload (pc' := 19) k61_17 rfl rfl ?_
    refine e_vI (j' := 18) (as := []) (rest := []) (pc' := 22) k61_19 rfl (show mCk 61 1 120 18 0 = true by decide +kernel) (Or.inr (by decide +kernel)) rfl (Nat.le_of_ble_eq_true rfl) (show 1 ≤ mL 18 by decide +kernel) (fun q4 => ?_)
    refine e_ifeq (t := 31) (pc' := 25) k61_22 rfl (by decide) (fun _ => ?_) (fun _ => ?_)
    · refine e_aload (pc' := 33) k61_31 rfl rfl ?_
      refine e_iload_n (pc' := 34) k61_33 rfl rfl ?_
      refine e_vI (j' := 20) (as := [.int v2]) (rest := []) (pc' := 37) k61_34 rfl (show mCk 61 1 149 20 1 = true by decide +kernel) (Or.inr (by decide +kernel)) rfl (Nat.le_of_ble_eq_true rfl) (show 2 ≤ mL 20 by decide +kernel) (fun q5 => ?_)
      refine e_ifne (t := 46) (pc' := 40) k61_37 rfl (by decide) (fun _ => ?_) (fun _ => ?_)
      · refine e_iload_n (pc' := 47) k61_46 rfl rfl ?_
        refine e_ifeq (t := 60) (pc' := 50) k61_47 rfl (by decide) (fun _ => ?_) (fun _ => ?_)
        · refine e_aload (pc' := 62) k61_60 rfl rfl ?_
          refine e_getR (pc' := 65) k61_62 rfl (ci := 3) (k := 1) (by decide +kernel) (by decide +kernel) (fun x6 => ?_)
          refine e_iload_n (pc' := 66) k61_65 rfl rfl ?_
          refine e_iald (pc' := 67) k61_66 rfl (lw := false) rfl (fun x7 => ?_)
          exact e_iret k61_67 (by decide +kernel)
        · refine e_aload (pc' := 52) k61_50 rfl rfl ?_
          refine e_getR (pc' := 55) k61_52 rfl (ci := 3) (k := 2) (by decide +kernel) (by decide +kernel) (fun x8 => ?_)
          refine e_iload_n (pc' := 56) k61_55 rfl rfl ?_
          refine e_iald (pc' := 57) k61_56 rfl (lw := false) rfl (fun x9 => ?_)
          refine e_goto (pc' := 67) k61_57 (by decide) ?_
          exact e_iret k61_67 (by decide +kernel)
      · refine e_aload_n (pc' := 41) k61_40 rfl rfl ?_
        refine e_iconst (v := 2) (pc' := 42) k61_41 rfl rfl ?_
        refine e_vI (j' := 92) (as := [.int 2]) (rest := []) (pc' := 45) k61_42 rfl (show mCk 61 1 74 92 1 = true by decide +kernel) (Or.inl (by decide +kernel)) rfl (Nat.le_of_ble_eq_true rfl) (show 2 ≤ mL 92 by decide +kernel) (fun q10 => ?_)
        exact e_iret k61_45 (by decide +kernel)
    · refine e_aload_n (pc' := 26) k61_25 rfl rfl ?_
      refine e_iconst (v := 1) (pc' := 27) k61_26 rfl rfl ?_
      refine e_vI (j' := 92) (as := [.int 1]) (rest := []) (pc' := 30) k61_27 rfl (show mCk 61 1 74 92 1 = true by decide +kernel) (Or.inl (by decide +kernel)) rfl (Nat.le_of_ble_eq_true rfl) (show 2 ≤ mL 92 by decide +kernel) (fun q11 => ?_)
      exact e_iret k61_30 (by decide +kernel)
  · refine e_iconst (v := -1) (pc' := 8) k61_7 rfl rfl ?_
    exact e_iret k61_8 (by decide +kernel)
theorem k62_0 : decode (mB 62) 0 = .ok (.iload_n 1, 1) := by decide +kernel
theorem k62_1 : decode (mB 62) 1 = .ok (.invokestatic 106, 3) := by decide +kernel
theorem k62_4 : decode (mB 62) 4 = .ok (.ifCond .ne 5, 3) := by decide +kernel
theorem k62_7 : decode (mB 62) 7 = .ok (.iconst (-1), 1) := by decide +kernel
theorem k62_8 : decode (mB 62) 8 = .ok (.ireturn, 1) := by decide +kernel
theorem k62_9 : decode (mB 62) 9 = .ok (.aload_n 0, 1) := by decide +kernel
theorem k62_10 : decode (mB 62) 10 = .ok (.getfield 17, 3) := by decide +kernel
theorem k62_13 : decode (mB 62) 13 = .ok (.iload_n 1, 1) := by decide +kernel
theorem k62_14 : decode (mB 62) 14 = .ok (.aaload, 1) := by decide +kernel
theorem k62_15 : decode (mB 62) 15 = .ok (.astore_n 3, 1) := by decide +kernel
theorem k62_16 : decode (mB 62) 16 = .ok (.aload_n 3, 1) := by decide +kernel
theorem k62_17 : decode (mB 62) 17 = .ok (.invokevirtual 120, 3) := by decide +kernel
theorem k62_20 : decode (mB 62) 20 = .ok (.ifCond .eq 9, 3) := by decide +kernel
theorem k62_23 : decode (mB 62) 23 = .ok (.aload_n 0, 1) := by decide +kernel
theorem k62_24 : decode (mB 62) 24 = .ok (.iconst 1, 1) := by decide +kernel
theorem k62_25 : decode (mB 62) 25 = .ok (.invokevirtual 74, 3) := by decide +kernel
theorem k62_28 : decode (mB 62) 28 = .ok (.ireturn, 1) := by decide +kernel
theorem k62_29 : decode (mB 62) 29 = .ok (.aload_n 3, 1) := by decide +kernel
theorem k62_30 : decode (mB 62) 30 = .ok (.iload_n 2, 1) := by decide +kernel
theorem k62_31 : decode (mB 62) 31 = .ok (.invokevirtual 149, 3) := by decide +kernel
theorem k62_34 : decode (mB 62) 34 = .ok (.ifCond .ne 9, 3) := by decide +kernel
theorem k62_37 : decode (mB 62) 37 = .ok (.aload_n 0, 1) := by decide +kernel
theorem k62_38 : decode (mB 62) 38 = .ok (.iconst 2, 1) := by decide +kernel
theorem k62_39 : decode (mB 62) 39 = .ok (.invokevirtual 74, 3) := by decide +kernel
theorem k62_42 : decode (mB 62) 42 = .ok (.ireturn, 1) := by decide +kernel
theorem k62_43 : decode (mB 62) 43 = .ok (.aload_n 0, 1) := by decide +kernel
theorem k62_44 : decode (mB 62) 44 = .ok (.getfield 29, 3) := by decide +kernel
theorem k62_47 : decode (mB 62) 47 = .ok (.aload_n 3, 1) := by decide +kernel
theorem k62_48 : decode (mB 62) 48 = .ok (.invokevirtual 132, 3) := by decide +kernel
theorem k62_51 : decode (mB 62) 51 = .ok (.aload_n 0, 1) := by decide +kernel
theorem k62_52 : decode (mB 62) 52 = .ok (.getfield 29, 3) := by decide +kernel
theorem k62_55 : decode (mB 62) 55 = .ok (.getfield 157, 3) := by decide +kernel
theorem k62_58 : decode (mB 62) 58 = .ok (.iload_n 2, 1) := by decide +kernel
theorem k62_59 : decode (mB 62) 59 = .ok (.iaload, 1) := by decide +kernel
theorem k62_60 : decode (mB 62) 60 = .ok (.ireturn, 1) := by decide +kernel
/-- SquareGrounds.bend(II)I -/
theorem F62_eq (v0 : Nat) (v1 : Int32) (v2 : Int32) (h : mHeap) : F 62 [.ref v0, .int v1, .int v2] h = (sI 86 [.int v1] h).bind fun q1 => if ¬ (q1.1 : Int32) = 0 then ((gR q1.2 v0 7 1).bind fun x2 => (cAldR q1.2 x2 v1).bind fun x3 => (vI 18 x3 [] q1.2).bind fun q4 => if (q4.1 : Int32) = 0 then ((vI 20 x3 [.int v2] q4.2).bind fun q5 => if ¬ (q5.1 : Int32) = 0 then ((gR q5.2 v0 7 3).bind fun x6 => (vV 1 x6 [.ref x3] q5.2).bind fun h7 => (gR h7 v0 7 3).bind fun x8 => (gR h7 x8 0 0).bind fun x9 => (cAldI false h7 x9 v2).bind fun x10 => some (some (.int x10), h7)) else ((vI 92 v0 [.int 2] q5.2).bind fun q11 => some (some (.int q11.1), q11.2))) else ((vI 92 v0 [.int 1] q4.2).bind fun q12 => some (some (.int q12.1), q12.2))) else (some (some (.int (-1)), q1.2)) := by
  show D 62 0 (mEnt 62 [.ref v0, .int v1, .int v2]) [] h 0 0 = _
  rw [show mEnt 62 [.ref v0, .int v1, .int v2] = [some (.ref v0), some (.int v1), some (.int v2), none] from rfl]
  refine e_iload_n (pc' := 1) k62_0 rfl rfl ?_
  refine e_sI (j' := 86) (as := [.int v1]) (rest := []) (pc' := 4) k62_1 rfl (show mCk 62 0 106 86 1 = true by decide +kernel) (Or.inr (by decide +kernel)) rfl (Nat.le_of_ble_eq_true rfl) (show 1 ≤ mL 86 by decide +kernel) (fun q1 => ?_)
  refine e_ifne (t := 9) (pc' := 7) k62_4 rfl (by decide) (fun _ => ?_) (fun _ => ?_)
  · refine e_aload_n (pc' := 10) k62_9 rfl rfl ?_
    refine e_getR (pc' := 13) k62_10 rfl (ci := 7) (k := 1) (by decide +kernel) (by decide +kernel) (fun x2 => ?_)
    refine e_iload_n (pc' := 14) k62_13 rfl rfl ?_
    refine e_aald (pc' := 15) k62_14 rfl (fun x3 => ?_)
    refine e_astore_n (pc' := 16) k62_15 rfl rfl ?_
    refine e_aload_n (pc' := 17) k62_16 rfl rfl ?_
    refine e_vI (j' := 18) (as := []) (rest := []) (pc' := 20) k62_17 rfl (show mCk 62 1 120 18 0 = true by decide +kernel) (Or.inr (by decide +kernel)) rfl (Nat.le_of_ble_eq_true rfl) (show 1 ≤ mL 18 by decide +kernel) (fun q4 => ?_)
    refine e_ifeq (t := 29) (pc' := 23) k62_20 rfl (by decide) (fun _ => ?_) (fun _ => ?_)
    · refine e_aload_n (pc' := 30) k62_29 rfl rfl ?_
      refine e_iload_n (pc' := 31) k62_30 rfl rfl ?_
      refine e_vI (j' := 20) (as := [.int v2]) (rest := []) (pc' := 34) k62_31 rfl (show mCk 62 1 149 20 1 = true by decide +kernel) (Or.inr (by decide +kernel)) rfl (Nat.le_of_ble_eq_true rfl) (show 2 ≤ mL 20 by decide +kernel) (fun q5 => ?_)
      refine e_ifne (t := 43) (pc' := 37) k62_34 rfl (by decide) (fun _ => ?_) (fun _ => ?_)
      · refine e_aload_n (pc' := 44) k62_43 rfl rfl ?_
        refine e_getR (pc' := 47) k62_44 rfl (ci := 7) (k := 3) (by decide +kernel) (by decide +kernel) (fun x6 => ?_)
        refine e_aload_n (pc' := 48) k62_47 rfl rfl ?_
        refine e_vV (j' := 1) (as := [.ref x3]) (rest := []) (pc' := 51) k62_48 rfl (show mCk 62 1 132 1 1 = true by decide +kernel) (by decide +kernel) rfl (Nat.le_of_ble_eq_true rfl) (show 2 ≤ mL 1 by decide +kernel) (fun h7 => ?_)
        refine e_aload_n (pc' := 52) k62_51 rfl rfl ?_
        refine e_getR (pc' := 55) k62_52 rfl (ci := 7) (k := 3) (by decide +kernel) (by decide +kernel) (fun x8 => ?_)
        refine e_getR (pc' := 58) k62_55 rfl (ci := 0) (k := 0) (by decide +kernel) (by decide +kernel) (fun x9 => ?_)
        refine e_iload_n (pc' := 59) k62_58 rfl rfl ?_
        refine e_iald (pc' := 60) k62_59 rfl (lw := false) rfl (fun x10 => ?_)
        exact e_iret k62_60 (by decide +kernel)
      · refine e_aload_n (pc' := 38) k62_37 rfl rfl ?_
        refine e_iconst (v := 2) (pc' := 39) k62_38 rfl rfl ?_
        refine e_vI (j' := 92) (as := [.int 2]) (rest := []) (pc' := 42) k62_39 rfl (show mCk 62 1 74 92 1 = true by decide +kernel) (Or.inl (by decide +kernel)) rfl (Nat.le_of_ble_eq_true rfl) (show 2 ≤ mL 92 by decide +kernel) (fun q11 => ?_)
        exact e_iret k62_42 (by decide +kernel)
    · refine e_aload_n (pc' := 24) k62_23 rfl rfl ?_
      refine e_iconst (v := 1) (pc' := 25) k62_24 rfl rfl ?_
      refine e_vI (j' := 92) (as := [.int 1]) (rest := []) (pc' := 28) k62_25 rfl (show mCk 62 1 74 92 1 = true by decide +kernel) (Or.inl (by decide +kernel)) rfl (Nat.le_of_ble_eq_true rfl) (show 2 ≤ mL 92 by decide +kernel) (fun q12 => ?_)
      exact e_iret k62_28 (by decide +kernel)
  · refine e_iconst (v := -1) (pc' := 8) k62_7 rfl rfl ?_
    exact e_iret k62_8 (by decide +kernel)
theorem k63_0 : decode (mB 63) 0 = .ok (.iload_n 1, 1) := by decide +kernel
theorem k63_1 : decode (mB 63) 1 = .ok (.invokestatic 106, 3) := by decide +kernel
theorem k63_4 : decode (mB 63) 4 = .ok (.ifCond .ne 5, 3) := by decide +kernel
theorem k63_7 : decode (mB 63) 7 = .ok (.iconst (-1), 1) := by decide +kernel
theorem k63_8 : decode (mB 63) 8 = .ok (.ireturn, 1) := by decide +kernel
theorem k63_9 : decode (mB 63) 9 = .ok (.aload_n 0, 1) := by decide +kernel
theorem k63_10 : decode (mB 63) 10 = .ok (.getfield 17, 3) := by decide +kernel
theorem k63_13 : decode (mB 63) 13 = .ok (.iload_n 1, 1) := by decide +kernel
theorem k63_14 : decode (mB 63) 14 = .ok (.aaload, 1) := by decide +kernel
theorem k63_15 : decode (mB 63) 15 = .ok (.astore_n 3, 1) := by decide +kernel
theorem k63_16 : decode (mB 63) 16 = .ok (.aload_n 3, 1) := by decide +kernel
theorem k63_17 : decode (mB 63) 17 = .ok (.invokevirtual 120, 3) := by decide +kernel
theorem k63_20 : decode (mB 63) 20 = .ok (.ifCond .eq 9, 3) := by decide +kernel
theorem k63_23 : decode (mB 63) 23 = .ok (.aload_n 0, 1) := by decide +kernel
theorem k63_24 : decode (mB 63) 24 = .ok (.iconst 1, 1) := by decide +kernel
theorem k63_25 : decode (mB 63) 25 = .ok (.invokevirtual 74, 3) := by decide +kernel
theorem k63_28 : decode (mB 63) 28 = .ok (.ireturn, 1) := by decide +kernel
theorem k63_29 : decode (mB 63) 29 = .ok (.iload_n 2, 1) := by decide +kernel
theorem k63_30 : decode (mB 63) 30 = .ok (.ifCond .lt 13, 3) := by decide +kernel
theorem k63_33 : decode (mB 63) 33 = .ok (.iload_n 2, 1) := by decide +kernel
theorem k63_34 : decode (mB 63) 34 = .ok (.iconst 2, 1) := by decide +kernel
theorem k63_35 : decode (mB 63) 35 = .ok (.aload_n 3, 1) := by decide +kernel
theorem k63_36 : decode (mB 63) 36 = .ok (.getfield 117, 3) := by decide +kernel
theorem k63_39 : decode (mB 63) 39 = .ok (.imul, 1) := by decide +kernel
theorem k63_40 : decode (mB 63) 40 = .ok (.if_icmp .lt 9, 3) := by decide +kernel
theorem k63_43 : decode (mB 63) 43 = .ok (.aload_n 0, 1) := by decide +kernel
theorem k63_44 : decode (mB 63) 44 = .ok (.iconst 2, 1) := by decide +kernel
theorem k63_45 : decode (mB 63) 45 = .ok (.invokevirtual 74, 3) := by decide +kernel
theorem k63_48 : decode (mB 63) 48 = .ok (.ireturn, 1) := by decide +kernel
theorem k63_49 : decode (mB 63) 49 = .ok (.aload_n 0, 1) := by decide +kernel
theorem k63_50 : decode (mB 63) 50 = .ok (.getfield 36, 3) := by decide +kernel
theorem k63_53 : decode (mB 63) 53 = .ok (.aload_n 3, 1) := by decide +kernel
theorem k63_54 : decode (mB 63) 54 = .ok (.invokevirtual 126, 3) := by decide +kernel
theorem k63_57 : decode (mB 63) 57 = .ok (.aload_n 0, 1) := by decide +kernel
theorem k63_58 : decode (mB 63) 58 = .ok (.getfield 36, 3) := by decide +kernel
theorem k63_61 : decode (mB 63) 61 = .ok (.getfield 160, 3) := by decide +kernel
theorem k63_64 : decode (mB 63) 64 = .ok (.aload_n 3, 1) := by decide +kernel
theorem k63_65 : decode (mB 63) 65 = .ok (.getfield 117, 3) := by decide +kernel
theorem k63_68 : decode (mB 63) 68 = .ok (.iload_n 2, 1) := by decide +kernel
theorem k63_69 : decode (mB 63) 69 = .ok (.invokestatic 164, 3) := by decide +kernel
theorem k63_72 : decode (mB 63) 72 = .ok (.ireturn, 1) := by decide +kernel
/-- SquareGrounds.name(II)I -/
theorem F63_eq (v0 : Nat) (v1 : Int32) (v2 : Int32) (h : mHeap) : F 63 [.ref v0, .int v1, .int v2] h = (sI 86 [.int v1] h).bind fun q1 => if ¬ (q1.1 : Int32) = 0 then ((gR q1.2 v0 7 1).bind fun x2 => (cAldR q1.2 x2 v1).bind fun x3 => (vI 18 x3 [] q1.2).bind fun q4 => if (q4.1 : Int32) = 0 then (if (v2 : Int32) < 0 then ((vI 92 v0 [.int 2] q4.2).bind fun q5 => some (some (.int q5.1), q5.2)) else ((gI q4.2 x3 3 0).bind fun x6 => if (v2 : Int32) < (2 * x6) then ((gR q4.2 v0 7 4).bind fun x7 => (vV 34 x7 [.ref x3] q4.2).bind fun h8 => (gR h8 v0 7 4).bind fun x9 => (gL h8 x9 4 3).bind fun x10 => (gI h8 x3 3 0).bind fun x11 => (sI 89 [.long x10, .int x11, .int v2] h8).bind fun q12 => some (some (.int q12.1), q12.2)) else ((vI 92 v0 [.int 2] q4.2).bind fun q13 => some (some (.int q13.1), q13.2)))) else ((vI 92 v0 [.int 1] q4.2).bind fun q14 => some (some (.int q14.1), q14.2))) else (some (some (.int (-1)), q1.2)) := by
  show D 63 0 (mEnt 63 [.ref v0, .int v1, .int v2]) [] h 0 0 = _
  rw [show mEnt 63 [.ref v0, .int v1, .int v2] = [some (.ref v0), some (.int v1), some (.int v2), none] from rfl]
  refine e_iload_n (pc' := 1) k63_0 rfl rfl ?_
  refine e_sI (j' := 86) (as := [.int v1]) (rest := []) (pc' := 4) k63_1 rfl (show mCk 63 0 106 86 1 = true by decide +kernel) (Or.inr (by decide +kernel)) rfl (Nat.le_of_ble_eq_true rfl) (show 1 ≤ mL 86 by decide +kernel) (fun q1 => ?_)
  refine e_ifne (t := 9) (pc' := 7) k63_4 rfl (by decide) (fun _ => ?_) (fun _ => ?_)
  · refine e_aload_n (pc' := 10) k63_9 rfl rfl ?_
    refine e_getR (pc' := 13) k63_10 rfl (ci := 7) (k := 1) (by decide +kernel) (by decide +kernel) (fun x2 => ?_)
    refine e_iload_n (pc' := 14) k63_13 rfl rfl ?_
    refine e_aald (pc' := 15) k63_14 rfl (fun x3 => ?_)
    refine e_astore_n (pc' := 16) k63_15 rfl rfl ?_
    refine e_aload_n (pc' := 17) k63_16 rfl rfl ?_
    refine e_vI (j' := 18) (as := []) (rest := []) (pc' := 20) k63_17 rfl (show mCk 63 1 120 18 0 = true by decide +kernel) (Or.inr (by decide +kernel)) rfl (Nat.le_of_ble_eq_true rfl) (show 1 ≤ mL 18 by decide +kernel) (fun q4 => ?_)
    refine e_ifeq (t := 29) (pc' := 23) k63_20 rfl (by decide) (fun _ => ?_) (fun _ => ?_)
    · refine e_iload_n (pc' := 30) k63_29 rfl rfl ?_
      refine e_iflt (t := 43) (pc' := 33) k63_30 rfl (by decide) (fun _ => ?_) (fun _ => ?_)
      · refine e_aload_n (pc' := 44) k63_43 rfl rfl ?_
        refine e_iconst (v := 2) (pc' := 45) k63_44 rfl rfl ?_
        refine e_vI (j' := 92) (as := [.int 2]) (rest := []) (pc' := 48) k63_45 rfl (show mCk 63 1 74 92 1 = true by decide +kernel) (Or.inl (by decide +kernel)) rfl (Nat.le_of_ble_eq_true rfl) (show 2 ≤ mL 92 by decide +kernel) (fun q5 => ?_)
        exact e_iret k63_48 (by decide +kernel)
      · refine e_iload_n (pc' := 34) k63_33 rfl rfl ?_
        refine e_iconst (v := 2) (pc' := 35) k63_34 rfl rfl ?_
        refine e_aload_n (pc' := 36) k63_35 rfl rfl ?_
        refine e_getI (pc' := 39) k63_36 rfl (ci := 3) (k := 0) (by decide +kernel) (by decide +kernel) (fun x6 => ?_)
        refine e_imul (pc' := 40) k63_39 rfl ?_
        refine e_icmplt (t := 49) (pc' := 43) k63_40 rfl (by decide) (fun _ => ?_) (fun _ => ?_)
        · refine e_aload_n (pc' := 50) k63_49 rfl rfl ?_
          refine e_getR (pc' := 53) k63_50 rfl (ci := 7) (k := 4) (by decide +kernel) (by decide +kernel) (fun x7 => ?_)
          refine e_aload_n (pc' := 54) k63_53 rfl rfl ?_
          refine e_vV (j' := 34) (as := [.ref x3]) (rest := []) (pc' := 57) k63_54 rfl (show mCk 63 1 126 34 1 = true by decide +kernel) (by decide +kernel) rfl (Nat.le_of_ble_eq_true rfl) (show 2 ≤ mL 34 by decide +kernel) (fun h8 => ?_)
          refine e_aload_n (pc' := 58) k63_57 rfl rfl ?_
          refine e_getR (pc' := 61) k63_58 rfl (ci := 7) (k := 4) (by decide +kernel) (by decide +kernel) (fun x9 => ?_)
          refine e_getL (pc' := 64) k63_61 rfl (ci := 4) (k := 3) (by decide +kernel) (by decide +kernel) (fun x10 => ?_)
          refine e_aload_n (pc' := 65) k63_64 rfl rfl ?_
          refine e_getI (pc' := 68) k63_65 rfl (ci := 3) (k := 0) (by decide +kernel) (by decide +kernel) (fun x11 => ?_)
          refine e_iload_n (pc' := 69) k63_68 rfl rfl ?_
          refine e_sI (j' := 89) (as := [.long x10, .int x11, .int v2]) (rest := []) (pc' := 72) k63_69 rfl (show mCk 63 0 164 89 3 = true by decide +kernel) (Or.inl (by decide +kernel)) rfl (Nat.le_of_ble_eq_true rfl) (show 4 ≤ mL 89 by decide +kernel) (fun q12 => ?_)
          exact e_iret k63_72 (by decide +kernel)
        · refine e_aload_n (pc' := 44) k63_43 rfl rfl ?_
          refine e_iconst (v := 2) (pc' := 45) k63_44 rfl rfl ?_
          refine e_vI (j' := 92) (as := [.int 2]) (rest := []) (pc' := 48) k63_45 rfl (show mCk 63 1 74 92 1 = true by decide +kernel) (Or.inl (by decide +kernel)) rfl (Nat.le_of_ble_eq_true rfl) (show 2 ≤ mL 92 by decide +kernel) (fun q13 => ?_)
          exact e_iret k63_48 (by decide +kernel)
    · refine e_aload_n (pc' := 24) k63_23 rfl rfl ?_
      refine e_iconst (v := 1) (pc' := 25) k63_24 rfl rfl ?_
      refine e_vI (j' := 92) (as := [.int 1]) (rest := []) (pc' := 28) k63_25 rfl (show mCk 63 1 74 92 1 = true by decide +kernel) (Or.inl (by decide +kernel)) rfl (Nat.le_of_ble_eq_true rfl) (show 2 ≤ mL 92 by decide +kernel) (fun q14 => ?_)
      exact e_iret k63_28 (by decide +kernel)
  · refine e_iconst (v := -1) (pc' := 8) k63_7 rfl rfl ?_
    exact e_iret k63_8 (by decide +kernel)
theorem k64_0 : decode (mB 64) 0 = .ok (.iload_n 1, 1) := by decide +kernel
theorem k64_1 : decode (mB 64) 1 = .ok (.invokestatic 106, 3) := by decide +kernel
theorem k64_4 : decode (mB 64) 4 = .ok (.ifCond .eq 10, 3) := by decide +kernel
theorem k64_7 : decode (mB 64) 7 = .ok (.iload_n 2, 1) := by decide +kernel
theorem k64_8 : decode (mB 64) 8 = .ok (.invokestatic 106, 3) := by decide +kernel
theorem k64_11 : decode (mB 64) 11 = .ok (.ifCond .ne 5, 3) := by decide +kernel
theorem k64_14 : decode (mB 64) 14 = .ok (.iconst (-1), 1) := by decide +kernel
theorem k64_15 : decode (mB 64) 15 = .ok (.ireturn, 1) := by decide +kernel
theorem k64_16 : decode (mB 64) 16 = .ok (.aload_n 0, 1) := by decide +kernel
theorem k64_17 : decode (mB 64) 17 = .ok (.getfield 17, 3) := by decide +kernel
theorem k64_20 : decode (mB 64) 20 = .ok (.iload_n 1, 1) := by decide +kernel
theorem k64_21 : decode (mB 64) 21 = .ok (.aaload, 1) := by decide +kernel
theorem k64_22 : decode (mB 64) 22 = .ok (.astore_n 3, 1) := by decide +kernel
theorem k64_23 : decode (mB 64) 23 = .ok (.aload_n 0, 1) := by decide +kernel
theorem k64_24 : decode (mB 64) 24 = .ok (.getfield 17, 3) := by decide +kernel
theorem k64_27 : decode (mB 64) 27 = .ok (.iload_n 2, 1) := by decide +kernel
theorem k64_28 : decode (mB 64) 28 = .ok (.aaload, 1) := by decide +kernel
theorem k64_29 : decode (mB 64) 29 = .ok (.astore 4, 2) := by decide +kernel
theorem k64_31 : decode (mB 64) 31 = .ok (.aload_n 3, 1) := by decide +kernel
theorem k64_32 : decode (mB 64) 32 = .ok (.invokevirtual 120, 3) := by decide +kernel
theorem k64_35 : decode (mB 64) 35 = .ok (.ifCond .ne 11, 3) := by decide +kernel
theorem k64_38 : decode (mB 64) 38 = .ok (.aload 4, 2) := by decide +kernel
theorem k64_40 : decode (mB 64) 40 = .ok (.invokevirtual 120, 3) := by decide +kernel
theorem k64_43 : decode (mB 64) 43 = .ok (.ifCond .eq 9, 3) := by decide +kernel
theorem k64_46 : decode (mB 64) 46 = .ok (.aload_n 0, 1) := by decide +kernel
theorem k64_47 : decode (mB 64) 47 = .ok (.iconst 1, 1) := by decide +kernel
theorem k64_48 : decode (mB 64) 48 = .ok (.invokevirtual 74, 3) := by decide +kernel
theorem k64_51 : decode (mB 64) 51 = .ok (.ireturn, 1) := by decide +kernel
theorem k64_52 : decode (mB 64) 52 = .ok (.aload_n 0, 1) := by decide +kernel
theorem k64_53 : decode (mB 64) 53 = .ok (.getfield 36, 3) := by decide +kernel
theorem k64_56 : decode (mB 64) 56 = .ok (.aload_n 3, 1) := by decide +kernel
theorem k64_57 : decode (mB 64) 57 = .ok (.invokevirtual 126, 3) := by decide +kernel
theorem k64_60 : decode (mB 64) 60 = .ok (.aload_n 0, 1) := by decide +kernel
theorem k64_61 : decode (mB 64) 61 = .ok (.getfield 36, 3) := by decide +kernel
theorem k64_64 : decode (mB 64) 64 = .ok (.getfield 160, 3) := by decide +kernel
theorem k64_67 : decode (mB 64) 67 = .ok (.lstore 5, 2) := by decide +kernel
theorem k64_69 : decode (mB 64) 69 = .ok (.aload_n 0, 1) := by decide +kernel
theorem k64_70 : decode (mB 64) 70 = .ok (.getfield 36, 3) := by decide +kernel
theorem k64_73 : decode (mB 64) 73 = .ok (.aload 4, 2) := by decide +kernel
theorem k64_75 : decode (mB 64) 75 = .ok (.invokevirtual 126, 3) := by decide +kernel
theorem k64_78 : decode (mB 64) 78 = .ok (.aload_n 3, 1) := by decide +kernel
theorem k64_79 : decode (mB 64) 79 = .ok (.getfield 117, 3) := by decide +kernel
theorem k64_82 : decode (mB 64) 82 = .ok (.aload 4, 2) := by decide +kernel
theorem k64_84 : decode (mB 64) 84 = .ok (.getfield 117, 3) := by decide +kernel
theorem k64_87 : decode (mB 64) 87 = .ok (.if_icmp .ne 20, 3) := by decide +kernel
theorem k64_90 : decode (mB 64) 90 = .ok (.lload 5, 2) := by decide +kernel
theorem k64_92 : decode (mB 64) 92 = .ok (.aload_n 0, 1) := by decide +kernel
theorem k64_93 : decode (mB 64) 93 = .ok (.getfield 36, 3) := by decide +kernel
theorem k64_96 : decode (mB 64) 96 = .ok (.getfield 160, 3) := by decide +kernel
theorem k64_99 : decode (mB 64) 99 = .ok (.lcmp, 1) := by decide +kernel
theorem k64_100 : decode (mB 64) 100 = .ok (.ifCond .ne 7, 3) := by decide +kernel
theorem k64_103 : decode (mB 64) 103 = .ok (.iconst 1, 1) := by decide +kernel
theorem k64_104 : decode (mB 64) 104 = .ok (.goto 4, 3) := by decide +kernel
theorem k64_107 : decode (mB 64) 107 = .ok (.iconst 0, 1) := by decide +kernel
theorem k64_108 : decode (mB 64) 108 = .ok (.ireturn, 1) := by decide +kernel
/-- SquareGrounds.alike(II)I -/
theorem F64_eq (v0 : Nat) (v1 : Int32) (v2 : Int32) (h : mHeap) : F 64 [.ref v0, .int v1, .int v2] h = (sI 86 [.int v1] h).bind fun q1 => if (q1.1 : Int32) = 0 then (some (some (.int (-1)), q1.2)) else ((sI 86 [.int v2] q1.2).bind fun q2 => if ¬ (q2.1 : Int32) = 0 then ((gR q2.2 v0 7 1).bind fun x3 => (cAldR q2.2 x3 v1).bind fun x4 => (gR q2.2 v0 7 1).bind fun x5 => (cAldR q2.2 x5 v2).bind fun x6 => (vI 18 x4 [] q2.2).bind fun q7 => if ¬ (q7.1 : Int32) = 0 then ((vI 92 v0 [.int 1] q7.2).bind fun q8 => some (some (.int q8.1), q8.2)) else ((vI 18 x6 [] q7.2).bind fun q9 => if (q9.1 : Int32) = 0 then ((gR q9.2 v0 7 4).bind fun x10 => (vV 34 x10 [.ref x4] q9.2).bind fun h11 => (gR h11 v0 7 4).bind fun x12 => (gL h11 x12 4 3).bind fun x13 => (gR h11 v0 7 4).bind fun x14 => (vV 34 x14 [.ref x6] h11).bind fun h15 => (gI h15 x4 3 0).bind fun x16 => (gI h15 x6 3 0).bind fun x17 => if ¬ (x16 : Int32) = x17 then (some (some (.int 0), h15)) else ((gR h15 v0 7 4).bind fun x18 => (gL h15 x18 4 3).bind fun x19 => if ¬ ((lg_cmp x13 x19) : Int32) = 0 then (some (some (.int 0), h15)) else (some (some (.int 1), h15)))) else ((vI 92 v0 [.int 1] q9.2).bind fun q20 => some (some (.int q20.1), q20.2)))) else (some (some (.int (-1)), q2.2))) := by
  show D 64 0 (mEnt 64 [.ref v0, .int v1, .int v2]) [] h 0 0 = _
  rw [show mEnt 64 [.ref v0, .int v1, .int v2] = [some (.ref v0), some (.int v1), some (.int v2), none, none, none, none] from rfl]
  refine e_iload_n (pc' := 1) k64_0 rfl rfl ?_
  refine e_sI (j' := 86) (as := [.int v1]) (rest := []) (pc' := 4) k64_1 rfl (show mCk 64 0 106 86 1 = true by decide +kernel) (Or.inr (by decide +kernel)) rfl (Nat.le_of_ble_eq_true rfl) (show 1 ≤ mL 86 by decide +kernel) (fun q1 => ?_)
  refine e_ifeq (t := 14) (pc' := 7) k64_4 rfl (by decide) (fun _ => ?_) (fun _ => ?_)
  · refine e_iconst (v := -1) (pc' := 15) k64_14 rfl rfl ?_
    exact e_iret k64_15 (by decide +kernel)
  · refine e_iload_n (pc' := 8) k64_7 rfl rfl ?_
    refine e_sI (j' := 86) (as := [.int v2]) (rest := []) (pc' := 11) k64_8 rfl (show mCk 64 0 106 86 1 = true by decide +kernel) (Or.inr (by decide +kernel)) rfl (Nat.le_of_ble_eq_true rfl) (show 1 ≤ mL 86 by decide +kernel) (fun q2 => ?_)
    refine e_ifne (t := 16) (pc' := 14) k64_11 rfl (by decide) (fun _ => ?_) (fun _ => ?_)
    · refine e_aload_n (pc' := 17) k64_16 rfl rfl ?_
      refine e_getR (pc' := 20) k64_17 rfl (ci := 7) (k := 1) (by decide +kernel) (by decide +kernel) (fun x3 => ?_)
      refine e_iload_n (pc' := 21) k64_20 rfl rfl ?_
      refine e_aald (pc' := 22) k64_21 rfl (fun x4 => ?_)
      refine e_astore_n (pc' := 23) k64_22 rfl rfl ?_
      refine e_aload_n (pc' := 24) k64_23 rfl rfl ?_
      refine e_getR (pc' := 27) k64_24 rfl (ci := 7) (k := 1) (by decide +kernel) (by decide +kernel) (fun x5 => ?_)
      refine e_iload_n (pc' := 28) k64_27 rfl rfl ?_
      refine e_aald (pc' := 29) k64_28 rfl (fun x6 => ?_)
      refine e_astore (pc' := 31) k64_29 rfl rfl ?_
      refine e_aload_n (pc' := 32) k64_31 rfl rfl ?_
      refine e_vI (j' := 18) (as := []) (rest := []) (pc' := 35) k64_32 rfl (show mCk 64 1 120 18 0 = true by decide +kernel) (Or.inr (by decide +kernel)) rfl (Nat.le_of_ble_eq_true rfl) (show 1 ≤ mL 18 by decide +kernel) (fun q7 => ?_)
      refine e_ifne (t := 46) (pc' := 38) k64_35 rfl (by decide) (fun _ => ?_) (fun _ => ?_)
      · refine e_aload_n (pc' := 47) k64_46 rfl rfl ?_
        refine e_iconst (v := 1) (pc' := 48) k64_47 rfl rfl ?_
        refine e_vI (j' := 92) (as := [.int 1]) (rest := []) (pc' := 51) k64_48 rfl (show mCk 64 1 74 92 1 = true by decide +kernel) (Or.inl (by decide +kernel)) rfl (Nat.le_of_ble_eq_true rfl) (show 2 ≤ mL 92 by decide +kernel) (fun q8 => ?_)
        exact e_iret k64_51 (by decide +kernel)
      · refine e_aload (pc' := 40) k64_38 rfl rfl ?_
        refine e_vI (j' := 18) (as := []) (rest := []) (pc' := 43) k64_40 rfl (show mCk 64 1 120 18 0 = true by decide +kernel) (Or.inr (by decide +kernel)) rfl (Nat.le_of_ble_eq_true rfl) (show 1 ≤ mL 18 by decide +kernel) (fun q9 => ?_)
        refine e_ifeq (t := 52) (pc' := 46) k64_43 rfl (by decide) (fun _ => ?_) (fun _ => ?_)
        · refine e_aload_n (pc' := 53) k64_52 rfl rfl ?_
          refine e_getR (pc' := 56) k64_53 rfl (ci := 7) (k := 4) (by decide +kernel) (by decide +kernel) (fun x10 => ?_)
          refine e_aload_n (pc' := 57) k64_56 rfl rfl ?_
          refine e_vV (j' := 34) (as := [.ref x4]) (rest := []) (pc' := 60) k64_57 rfl (show mCk 64 1 126 34 1 = true by decide +kernel) (by decide +kernel) rfl (Nat.le_of_ble_eq_true rfl) (show 2 ≤ mL 34 by decide +kernel) (fun h11 => ?_)
          refine e_aload_n (pc' := 61) k64_60 rfl rfl ?_
          refine e_getR (pc' := 64) k64_61 rfl (ci := 7) (k := 4) (by decide +kernel) (by decide +kernel) (fun x12 => ?_)
          refine e_getL (pc' := 67) k64_64 rfl (ci := 4) (k := 3) (by decide +kernel) (by decide +kernel) (fun x13 => ?_)
          refine e_lstore (pc' := 69) k64_67 rfl rfl ?_
          refine e_aload_n (pc' := 70) k64_69 rfl rfl ?_
          refine e_getR (pc' := 73) k64_70 rfl (ci := 7) (k := 4) (by decide +kernel) (by decide +kernel) (fun x14 => ?_)
          refine e_aload (pc' := 75) k64_73 rfl rfl ?_
          refine e_vV (j' := 34) (as := [.ref x6]) (rest := []) (pc' := 78) k64_75 rfl (show mCk 64 1 126 34 1 = true by decide +kernel) (by decide +kernel) rfl (Nat.le_of_ble_eq_true rfl) (show 2 ≤ mL 34 by decide +kernel) (fun h15 => ?_)
          refine e_aload_n (pc' := 79) k64_78 rfl rfl ?_
          refine e_getI (pc' := 82) k64_79 rfl (ci := 3) (k := 0) (by decide +kernel) (by decide +kernel) (fun x16 => ?_)
          refine e_aload (pc' := 84) k64_82 rfl rfl ?_
          refine e_getI (pc' := 87) k64_84 rfl (ci := 3) (k := 0) (by decide +kernel) (by decide +kernel) (fun x17 => ?_)
          refine e_icmpne (t := 107) (pc' := 90) k64_87 rfl (by decide) (fun _ => ?_) (fun _ => ?_)
          · refine e_iconst (v := 0) (pc' := 108) k64_107 rfl rfl ?_
            exact e_iret k64_108 (by decide +kernel)
          · refine e_lload (pc' := 92) k64_90 rfl rfl ?_
            refine e_aload_n (pc' := 93) k64_92 rfl rfl ?_
            refine e_getR (pc' := 96) k64_93 rfl (ci := 7) (k := 4) (by decide +kernel) (by decide +kernel) (fun x18 => ?_)
            refine e_getL (pc' := 99) k64_96 rfl (ci := 4) (k := 3) (by decide +kernel) (by decide +kernel) (fun x19 => ?_)
            refine e_lcmp (pc' := 100) k64_99 rfl ?_
            refine e_ifne (t := 107) (pc' := 103) k64_100 rfl (by decide) (fun _ => ?_) (fun _ => ?_)
            · refine e_iconst (v := 0) (pc' := 108) k64_107 rfl rfl ?_
              exact e_iret k64_108 (by decide +kernel)
            · refine e_iconst (v := 1) (pc' := 104) k64_103 rfl rfl ?_
              refine e_goto (pc' := 108) k64_104 (by decide) ?_
              exact e_iret k64_108 (by decide +kernel)
        · refine e_aload_n (pc' := 47) k64_46 rfl rfl ?_
          refine e_iconst (v := 1) (pc' := 48) k64_47 rfl rfl ?_
          refine e_vI (j' := 92) (as := [.int 1]) (rest := []) (pc' := 51) k64_48 rfl (show mCk 64 1 74 92 1 = true by decide +kernel) (Or.inl (by decide +kernel)) rfl (Nat.le_of_ble_eq_true rfl) (show 2 ≤ mL 92 by decide +kernel) (fun q20 => ?_)
          exact e_iret k64_51 (by decide +kernel)
    · refine e_iconst (v := -1) (pc' := 15) k64_14 rfl rfl ?_
      exact e_iret k64_15 (by decide +kernel)
theorem k65_0 : decode (mB 65) 0 = .ok (.iload_n 1, 1) := by decide +kernel
theorem k65_1 : decode (mB 65) 1 = .ok (.invokestatic 106, 3) := by decide +kernel
theorem k65_4 : decode (mB 65) 4 = .ok (.ifCond .ne 5, 3) := by decide +kernel
theorem k65_7 : decode (mB 65) 7 = .ok (.iconst (-1), 1) := by decide +kernel
theorem k65_8 : decode (mB 65) 8 = .ok (.ireturn, 1) := by decide +kernel
theorem k65_9 : decode (mB 65) 9 = .ok (.aload_n 0, 1) := by decide +kernel
theorem k65_10 : decode (mB 65) 10 = .ok (.getfield 17, 3) := by decide +kernel
theorem k65_13 : decode (mB 65) 13 = .ok (.iload_n 1, 1) := by decide +kernel
theorem k65_14 : decode (mB 65) 14 = .ok (.aaload, 1) := by decide +kernel
theorem k65_15 : decode (mB 65) 15 = .ok (.invokevirtual 120, 3) := by decide +kernel
theorem k65_18 : decode (mB 65) 18 = .ok (.ifCond .eq 9, 3) := by decide +kernel
theorem k65_21 : decode (mB 65) 21 = .ok (.aload_n 0, 1) := by decide +kernel
theorem k65_22 : decode (mB 65) 22 = .ok (.iconst 1, 1) := by decide +kernel
theorem k65_23 : decode (mB 65) 23 = .ok (.invokevirtual 74, 3) := by decide +kernel
theorem k65_26 : decode (mB 65) 26 = .ok (.ireturn, 1) := by decide +kernel
theorem k65_27 : decode (mB 65) 27 = .ok (.aload_n 0, 1) := by decide +kernel
theorem k65_28 : decode (mB 65) 28 = .ok (.getfield 29, 3) := by decide +kernel
theorem k65_31 : decode (mB 65) 31 = .ok (.aload_n 0, 1) := by decide +kernel
theorem k65_32 : decode (mB 65) 32 = .ok (.getfield 17, 3) := by decide +kernel
theorem k65_35 : decode (mB 65) 35 = .ok (.iload_n 1, 1) := by decide +kernel
theorem k65_36 : decode (mB 65) 36 = .ok (.aaload, 1) := by decide +kernel
theorem k65_37 : decode (mB 65) 37 = .ok (.invokevirtual 132, 3) := by decide +kernel
theorem k65_40 : decode (mB 65) 40 = .ok (.aload_n 0, 1) := by decide +kernel
theorem k65_41 : decode (mB 65) 41 = .ok (.getfield 29, 3) := by decide +kernel
theorem k65_44 : decode (mB 65) 44 = .ok (.getfield 168, 3) := by decide +kernel
theorem k65_47 : decode (mB 65) 47 = .ok (.ifCond .ne 9, 3) := by decide +kernel
theorem k65_50 : decode (mB 65) 50 = .ok (.aload_n 0, 1) := by decide +kernel
theorem k65_51 : decode (mB 65) 51 = .ok (.iconst 4, 1) := by decide +kernel
theorem k65_52 : decode (mB 65) 52 = .ok (.invokevirtual 74, 3) := by decide +kernel
theorem k65_55 : decode (mB 65) 55 = .ok (.ireturn, 1) := by decide +kernel
theorem k65_56 : decode (mB 65) 56 = .ok (.aload_n 0, 1) := by decide +kernel
theorem k65_57 : decode (mB 65) 57 = .ok (.getfield 29, 3) := by decide +kernel
theorem k65_60 : decode (mB 65) 60 = .ok (.invokevirtual 146, 3) := by decide +kernel
theorem k65_63 : decode (mB 65) 63 = .ok (.aload_n 0, 1) := by decide +kernel
theorem k65_64 : decode (mB 65) 64 = .ok (.getfield 29, 3) := by decide +kernel
theorem k65_67 : decode (mB 65) 67 = .ok (.getfield 168, 3) := by decide +kernel
theorem k65_70 : decode (mB 65) 70 = .ok (.idiv, 1) := by decide +kernel
theorem k65_71 : decode (mB 65) 71 = .ok (.ireturn, 1) := by decide +kernel
/-- SquareGrounds.mean(I)I -/
theorem F65_eq (v0 : Nat) (v1 : Int32) (h : mHeap) : F 65 [.ref v0, .int v1] h = (sI 86 [.int v1] h).bind fun q1 => if ¬ (q1.1 : Int32) = 0 then ((gR q1.2 v0 7 1).bind fun x2 => (cAldR q1.2 x2 v1).bind fun x3 => (vI 18 x3 [] q1.2).bind fun q4 => if (q4.1 : Int32) = 0 then ((gR q4.2 v0 7 3).bind fun x5 => (gR q4.2 v0 7 1).bind fun x6 => (cAldR q4.2 x6 v1).bind fun x7 => (vV 1 x5 [.ref x7] q4.2).bind fun h8 => (gR h8 v0 7 3).bind fun x9 => (gI h8 x9 0 2).bind fun x10 => if ¬ (x10 : Int32) = 0 then ((gR h8 v0 7 3).bind fun x11 => (vI 5 x11 [] h8).bind fun q12 => (gR q12.2 v0 7 3).bind fun x13 => (gI q12.2 x13 0 2).bind fun x14 => if (x14 : Int32) = 0 then none else (some (some (.int (q12.1 / x14)), q12.2))) else ((vI 92 v0 [.int 4] h8).bind fun q15 => some (some (.int q15.1), q15.2))) else ((vI 92 v0 [.int 1] q4.2).bind fun q16 => some (some (.int q16.1), q16.2))) else (some (some (.int (-1)), q1.2)) := by
  show D 65 0 (mEnt 65 [.ref v0, .int v1]) [] h 0 0 = _
  rw [show mEnt 65 [.ref v0, .int v1] = [some (.ref v0), some (.int v1)] from rfl]
  refine e_iload_n (pc' := 1) k65_0 rfl rfl ?_
  refine e_sI (j' := 86) (as := [.int v1]) (rest := []) (pc' := 4) k65_1 rfl (show mCk 65 0 106 86 1 = true by decide +kernel) (Or.inr (by decide +kernel)) rfl (Nat.le_of_ble_eq_true rfl) (show 1 ≤ mL 86 by decide +kernel) (fun q1 => ?_)
  refine e_ifne (t := 9) (pc' := 7) k65_4 rfl (by decide) (fun _ => ?_) (fun _ => ?_)
  · refine e_aload_n (pc' := 10) k65_9 rfl rfl ?_
    refine e_getR (pc' := 13) k65_10 rfl (ci := 7) (k := 1) (by decide +kernel) (by decide +kernel) (fun x2 => ?_)
    refine e_iload_n (pc' := 14) k65_13 rfl rfl ?_
    refine e_aald (pc' := 15) k65_14 rfl (fun x3 => ?_)
    refine e_vI (j' := 18) (as := []) (rest := []) (pc' := 18) k65_15 rfl (show mCk 65 1 120 18 0 = true by decide +kernel) (Or.inr (by decide +kernel)) rfl (Nat.le_of_ble_eq_true rfl) (show 1 ≤ mL 18 by decide +kernel) (fun q4 => ?_)
    refine e_ifeq (t := 27) (pc' := 21) k65_18 rfl (by decide) (fun _ => ?_) (fun _ => ?_)
    · refine e_aload_n (pc' := 28) k65_27 rfl rfl ?_
      refine e_getR (pc' := 31) k65_28 rfl (ci := 7) (k := 3) (by decide +kernel) (by decide +kernel) (fun x5 => ?_)
      refine e_aload_n (pc' := 32) k65_31 rfl rfl ?_
      refine e_getR (pc' := 35) k65_32 rfl (ci := 7) (k := 1) (by decide +kernel) (by decide +kernel) (fun x6 => ?_)
      refine e_iload_n (pc' := 36) k65_35 rfl rfl ?_
      refine e_aald (pc' := 37) k65_36 rfl (fun x7 => ?_)
      refine e_vV (j' := 1) (as := [.ref x7]) (rest := []) (pc' := 40) k65_37 rfl (show mCk 65 1 132 1 1 = true by decide +kernel) (by decide +kernel) rfl (Nat.le_of_ble_eq_true rfl) (show 2 ≤ mL 1 by decide +kernel) (fun h8 => ?_)
      refine e_aload_n (pc' := 41) k65_40 rfl rfl ?_
      refine e_getR (pc' := 44) k65_41 rfl (ci := 7) (k := 3) (by decide +kernel) (by decide +kernel) (fun x9 => ?_)
      refine e_getI (pc' := 47) k65_44 rfl (ci := 0) (k := 2) (by decide +kernel) (by decide +kernel) (fun x10 => ?_)
      refine e_ifne (t := 56) (pc' := 50) k65_47 rfl (by decide) (fun _ => ?_) (fun _ => ?_)
      · refine e_aload_n (pc' := 57) k65_56 rfl rfl ?_
        refine e_getR (pc' := 60) k65_57 rfl (ci := 7) (k := 3) (by decide +kernel) (by decide +kernel) (fun x11 => ?_)
        refine e_vI (j' := 5) (as := []) (rest := []) (pc' := 63) k65_60 rfl (show mCk 65 1 146 5 0 = true by decide +kernel) (Or.inl (by decide +kernel)) rfl (Nat.le_of_ble_eq_true rfl) (show 1 ≤ mL 5 by decide +kernel) (fun q12 => ?_)
        refine e_aload_n (pc' := 64) k65_63 rfl rfl ?_
        refine e_getR (pc' := 67) k65_64 rfl (ci := 7) (k := 3) (by decide +kernel) (by decide +kernel) (fun x13 => ?_)
        refine e_getI (pc' := 70) k65_67 rfl (ci := 0) (k := 2) (by decide +kernel) (by decide +kernel) (fun x14 => ?_)
        refine e_idiv (pc' := 71) k65_70 rfl ?_
        exact e_iret k65_71 (by decide +kernel)
      · refine e_aload_n (pc' := 51) k65_50 rfl rfl ?_
        refine e_iconst (v := 4) (pc' := 52) k65_51 rfl rfl ?_
        refine e_vI (j' := 92) (as := [.int 4]) (rest := []) (pc' := 55) k65_52 rfl (show mCk 65 1 74 92 1 = true by decide +kernel) (Or.inl (by decide +kernel)) rfl (Nat.le_of_ble_eq_true rfl) (show 2 ≤ mL 92 by decide +kernel) (fun q15 => ?_)
        exact e_iret k65_55 (by decide +kernel)
    · refine e_aload_n (pc' := 22) k65_21 rfl rfl ?_
      refine e_iconst (v := 1) (pc' := 23) k65_22 rfl rfl ?_
      refine e_vI (j' := 92) (as := [.int 1]) (rest := []) (pc' := 26) k65_23 rfl (show mCk 65 1 74 92 1 = true by decide +kernel) (Or.inl (by decide +kernel)) rfl (Nat.le_of_ble_eq_true rfl) (show 2 ≤ mL 92 by decide +kernel) (fun q16 => ?_)
      exact e_iret k65_26 (by decide +kernel)
  · refine e_iconst (v := -1) (pc' := 8) k65_7 rfl rfl ?_
    exact e_iret k65_8 (by decide +kernel)
theorem k66_0 : decode (mB 66) 0 = .ok (.iload_n 1, 1) := by decide +kernel
theorem k66_1 : decode (mB 66) 1 = .ok (.invokestatic 106, 3) := by decide +kernel
theorem k66_4 : decode (mB 66) 4 = .ok (.ifCond .eq 15, 3) := by decide +kernel
theorem k66_7 : decode (mB 66) 7 = .ok (.iload_n 2, 1) := by decide +kernel
theorem k66_8 : decode (mB 66) 8 = .ok (.bipush (-100), 2) := by decide +kernel
theorem k66_10 : decode (mB 66) 10 = .ok (.if_icmp .lt 9, 3) := by decide +kernel
theorem k66_13 : decode (mB 66) 13 = .ok (.iload_n 2, 1) := by decide +kernel
theorem k66_14 : decode (mB 66) 14 = .ok (.bipush 100, 2) := by decide +kernel
theorem k66_16 : decode (mB 66) 16 = .ok (.if_icmp .le 5, 3) := by decide +kernel
theorem k66_19 : decode (mB 66) 19 = .ok (.iconst (-1), 1) := by decide +kernel
theorem k66_20 : decode (mB 66) 20 = .ok (.ireturn, 1) := by decide +kernel
theorem k66_21 : decode (mB 66) 21 = .ok (.aload_n 0, 1) := by decide +kernel
theorem k66_22 : decode (mB 66) 22 = .ok (.getfield 17, 3) := by decide +kernel
theorem k66_25 : decode (mB 66) 25 = .ok (.iload_n 1, 1) := by decide +kernel
theorem k66_26 : decode (mB 66) 26 = .ok (.aaload, 1) := by decide +kernel
theorem k66_27 : decode (mB 66) 27 = .ok (.invokevirtual 120, 3) := by decide +kernel
theorem k66_30 : decode (mB 66) 30 = .ok (.ifCond .eq 9, 3) := by decide +kernel
theorem k66_33 : decode (mB 66) 33 = .ok (.aload_n 0, 1) := by decide +kernel
theorem k66_34 : decode (mB 66) 34 = .ok (.iconst 1, 1) := by decide +kernel
theorem k66_35 : decode (mB 66) 35 = .ok (.invokevirtual 74, 3) := by decide +kernel
theorem k66_38 : decode (mB 66) 38 = .ok (.ireturn, 1) := by decide +kernel
theorem k66_39 : decode (mB 66) 39 = .ok (.aload_n 0, 1) := by decide +kernel
theorem k66_40 : decode (mB 66) 40 = .ok (.getfield 17, 3) := by decide +kernel
theorem k66_43 : decode (mB 66) 43 = .ok (.iload_n 1, 1) := by decide +kernel
theorem k66_44 : decode (mB 66) 44 = .ok (.aaload, 1) := by decide +kernel
theorem k66_45 : decode (mB 66) 45 = .ok (.iload_n 2, 1) := by decide +kernel
theorem k66_46 : decode (mB 66) 46 = .ok (.invokevirtual 171, 3) := by decide +kernel
theorem k66_49 : decode (mB 66) 49 = .ok (.aload_n 0, 1) := by decide +kernel
theorem k66_50 : decode (mB 66) 50 = .ok (.getfield 17, 3) := by decide +kernel
theorem k66_53 : decode (mB 66) 53 = .ok (.iload_n 1, 1) := by decide +kernel
theorem k66_54 : decode (mB 66) 54 = .ok (.aaload, 1) := by decide +kernel
theorem k66_55 : decode (mB 66) 55 = .ok (.getfield 117, 3) := by decide +kernel
theorem k66_58 : decode (mB 66) 58 = .ok (.ireturn, 1) := by decide +kernel
/-- SquareGrounds.shear(II)I -/
theorem F66_eq (v0 : Nat) (v1 : Int32) (v2 : Int32) (h : mHeap) : F 66 [.ref v0, .int v1, .int v2] h = (sI 86 [.int v1] h).bind fun q1 => if (q1.1 : Int32) = 0 then (some (some (.int (-1)), q1.2)) else (if (v2 : Int32) < (-100) then (some (some (.int (-1)), q1.2)) else (if (v2 : Int32) ≤ 100 then ((gR q1.2 v0 7 1).bind fun x2 => (cAldR q1.2 x2 v1).bind fun x3 => (vI 18 x3 [] q1.2).bind fun q4 => if (q4.1 : Int32) = 0 then ((gR q4.2 v0 7 1).bind fun x5 => (cAldR q4.2 x5 v1).bind fun x6 => (vV 25 x6 [.int v2] q4.2).bind fun h7 => (gR h7 v0 7 1).bind fun x8 => (cAldR h7 x8 v1).bind fun x9 => (gI h7 x9 3 0).bind fun x10 => some (some (.int x10), h7)) else ((vI 92 v0 [.int 1] q4.2).bind fun q11 => some (some (.int q11.1), q11.2))) else (some (some (.int (-1)), q1.2)))) := by
  show D 66 0 (mEnt 66 [.ref v0, .int v1, .int v2]) [] h 0 0 = _
  rw [show mEnt 66 [.ref v0, .int v1, .int v2] = [some (.ref v0), some (.int v1), some (.int v2)] from rfl]
  refine e_iload_n (pc' := 1) k66_0 rfl rfl ?_
  refine e_sI (j' := 86) (as := [.int v1]) (rest := []) (pc' := 4) k66_1 rfl (show mCk 66 0 106 86 1 = true by decide +kernel) (Or.inr (by decide +kernel)) rfl (Nat.le_of_ble_eq_true rfl) (show 1 ≤ mL 86 by decide +kernel) (fun q1 => ?_)
  refine e_ifeq (t := 19) (pc' := 7) k66_4 rfl (by decide) (fun _ => ?_) (fun _ => ?_)
  · refine e_iconst (v := -1) (pc' := 20) k66_19 rfl rfl ?_
    exact e_iret k66_20 (by decide +kernel)
  · refine e_iload_n (pc' := 8) k66_7 rfl rfl ?_
    refine e_bipush (v := -100) (pc' := 10) k66_8 rfl rfl ?_
    refine e_icmplt (t := 19) (pc' := 13) k66_10 rfl (by decide) (fun _ => ?_) (fun _ => ?_)
    · refine e_iconst (v := -1) (pc' := 20) k66_19 rfl rfl ?_
      exact e_iret k66_20 (by decide +kernel)
    · refine e_iload_n (pc' := 14) k66_13 rfl rfl ?_
      refine e_bipush (v := 100) (pc' := 16) k66_14 rfl rfl ?_
      refine e_icmple (t := 21) (pc' := 19) k66_16 rfl (by decide) (fun _ => ?_) (fun _ => ?_)
      · refine e_aload_n (pc' := 22) k66_21 rfl rfl ?_
        refine e_getR (pc' := 25) k66_22 rfl (ci := 7) (k := 1) (by decide +kernel) (by decide +kernel) (fun x2 => ?_)
        refine e_iload_n (pc' := 26) k66_25 rfl rfl ?_
        refine e_aald (pc' := 27) k66_26 rfl (fun x3 => ?_)
        refine e_vI (j' := 18) (as := []) (rest := []) (pc' := 30) k66_27 rfl (show mCk 66 1 120 18 0 = true by decide +kernel) (Or.inr (by decide +kernel)) rfl (Nat.le_of_ble_eq_true rfl) (show 1 ≤ mL 18 by decide +kernel) (fun q4 => ?_)
        refine e_ifeq (t := 39) (pc' := 33) k66_30 rfl (by decide) (fun _ => ?_) (fun _ => ?_)
        · refine e_aload_n (pc' := 40) k66_39 rfl rfl ?_
          refine e_getR (pc' := 43) k66_40 rfl (ci := 7) (k := 1) (by decide +kernel) (by decide +kernel) (fun x5 => ?_)
          refine e_iload_n (pc' := 44) k66_43 rfl rfl ?_
          refine e_aald (pc' := 45) k66_44 rfl (fun x6 => ?_)
          refine e_iload_n (pc' := 46) k66_45 rfl rfl ?_
          refine e_vV (j' := 25) (as := [.int v2]) (rest := []) (pc' := 49) k66_46 rfl (show mCk 66 1 171 25 1 = true by decide +kernel) (by decide +kernel) rfl (Nat.le_of_ble_eq_true rfl) (show 2 ≤ mL 25 by decide +kernel) (fun h7 => ?_)
          refine e_aload_n (pc' := 50) k66_49 rfl rfl ?_
          refine e_getR (pc' := 53) k66_50 rfl (ci := 7) (k := 1) (by decide +kernel) (by decide +kernel) (fun x8 => ?_)
          refine e_iload_n (pc' := 54) k66_53 rfl rfl ?_
          refine e_aald (pc' := 55) k66_54 rfl (fun x9 => ?_)
          refine e_getI (pc' := 58) k66_55 rfl (ci := 3) (k := 0) (by decide +kernel) (by decide +kernel) (fun x10 => ?_)
          exact e_iret k66_58 (by decide +kernel)
        · refine e_aload_n (pc' := 34) k66_33 rfl rfl ?_
          refine e_iconst (v := 1) (pc' := 35) k66_34 rfl rfl ?_
          refine e_vI (j' := 92) (as := [.int 1]) (rest := []) (pc' := 38) k66_35 rfl (show mCk 66 1 74 92 1 = true by decide +kernel) (Or.inl (by decide +kernel)) rfl (Nat.le_of_ble_eq_true rfl) (show 2 ≤ mL 92 by decide +kernel) (fun q11 => ?_)
          exact e_iret k66_38 (by decide +kernel)
      · refine e_iconst (v := -1) (pc' := 20) k66_19 rfl rfl ?_
        exact e_iret k66_20 (by decide +kernel)
theorem k67_0 : decode (mB 67) 0 = .ok (.iload_n 1, 1) := by decide +kernel
theorem k67_1 : decode (mB 67) 1 = .ok (.invokestatic 106, 3) := by decide +kernel
theorem k67_4 : decode (mB 67) 4 = .ok (.ifCond .ne 5, 3) := by decide +kernel
theorem k67_7 : decode (mB 67) 7 = .ok (.iconst (-1), 1) := by decide +kernel
theorem k67_8 : decode (mB 67) 8 = .ok (.ireturn, 1) := by decide +kernel
theorem k67_9 : decode (mB 67) 9 = .ok (.aload_n 0, 1) := by decide +kernel
theorem k67_10 : decode (mB 67) 10 = .ok (.getfield 17, 3) := by decide +kernel
theorem k67_13 : decode (mB 67) 13 = .ok (.iload_n 1, 1) := by decide +kernel
theorem k67_14 : decode (mB 67) 14 = .ok (.aaload, 1) := by decide +kernel
theorem k67_15 : decode (mB 67) 15 = .ok (.invokevirtual 120, 3) := by decide +kernel
theorem k67_18 : decode (mB 67) 18 = .ok (.ifCond .eq 9, 3) := by decide +kernel
theorem k67_21 : decode (mB 67) 21 = .ok (.aload_n 0, 1) := by decide +kernel
theorem k67_22 : decode (mB 67) 22 = .ok (.iconst 1, 1) := by decide +kernel
theorem k67_23 : decode (mB 67) 23 = .ok (.invokevirtual 74, 3) := by decide +kernel
theorem k67_26 : decode (mB 67) 26 = .ok (.ireturn, 1) := by decide +kernel
theorem k67_27 : decode (mB 67) 27 = .ok (.aload_n 0, 1) := by decide +kernel
theorem k67_28 : decode (mB 67) 28 = .ok (.getfield 17, 3) := by decide +kernel
theorem k67_31 : decode (mB 67) 31 = .ok (.iload_n 1, 1) := by decide +kernel
theorem k67_32 : decode (mB 67) 32 = .ok (.aaload, 1) := by decide +kernel
theorem k67_33 : decode (mB 67) 33 = .ok (.invokevirtual 174, 3) := by decide +kernel
theorem k67_36 : decode (mB 67) 36 = .ok (.aload_n 0, 1) := by decide +kernel
theorem k67_37 : decode (mB 67) 37 = .ok (.getfield 17, 3) := by decide +kernel
theorem k67_40 : decode (mB 67) 40 = .ok (.iload_n 1, 1) := by decide +kernel
theorem k67_41 : decode (mB 67) 41 = .ok (.aaload, 1) := by decide +kernel
theorem k67_42 : decode (mB 67) 42 = .ok (.getfield 117, 3) := by decide +kernel
theorem k67_45 : decode (mB 67) 45 = .ok (.ireturn, 1) := by decide +kernel
/-- SquareGrounds.turn(I)I -/
theorem F67_eq (v0 : Nat) (v1 : Int32) (h : mHeap) : F 67 [.ref v0, .int v1] h = (sI 86 [.int v1] h).bind fun q1 => if ¬ (q1.1 : Int32) = 0 then ((gR q1.2 v0 7 1).bind fun x2 => (cAldR q1.2 x2 v1).bind fun x3 => (vI 18 x3 [] q1.2).bind fun q4 => if (q4.1 : Int32) = 0 then ((gR q4.2 v0 7 1).bind fun x5 => (cAldR q4.2 x5 v1).bind fun x6 => (vV 27 x6 [] q4.2).bind fun h7 => (gR h7 v0 7 1).bind fun x8 => (cAldR h7 x8 v1).bind fun x9 => (gI h7 x9 3 0).bind fun x10 => some (some (.int x10), h7)) else ((vI 92 v0 [.int 1] q4.2).bind fun q11 => some (some (.int q11.1), q11.2))) else (some (some (.int (-1)), q1.2)) := by
  show D 67 0 (mEnt 67 [.ref v0, .int v1]) [] h 0 0 = _
  rw [show mEnt 67 [.ref v0, .int v1] = [some (.ref v0), some (.int v1)] from rfl]
  refine e_iload_n (pc' := 1) k67_0 rfl rfl ?_
  refine e_sI (j' := 86) (as := [.int v1]) (rest := []) (pc' := 4) k67_1 rfl (show mCk 67 0 106 86 1 = true by decide +kernel) (Or.inr (by decide +kernel)) rfl (Nat.le_of_ble_eq_true rfl) (show 1 ≤ mL 86 by decide +kernel) (fun q1 => ?_)
  refine e_ifne (t := 9) (pc' := 7) k67_4 rfl (by decide) (fun _ => ?_) (fun _ => ?_)
  · refine e_aload_n (pc' := 10) k67_9 rfl rfl ?_
    refine e_getR (pc' := 13) k67_10 rfl (ci := 7) (k := 1) (by decide +kernel) (by decide +kernel) (fun x2 => ?_)
    refine e_iload_n (pc' := 14) k67_13 rfl rfl ?_
    refine e_aald (pc' := 15) k67_14 rfl (fun x3 => ?_)
    refine e_vI (j' := 18) (as := []) (rest := []) (pc' := 18) k67_15 rfl (show mCk 67 1 120 18 0 = true by decide +kernel) (Or.inr (by decide +kernel)) rfl (Nat.le_of_ble_eq_true rfl) (show 1 ≤ mL 18 by decide +kernel) (fun q4 => ?_)
    refine e_ifeq (t := 27) (pc' := 21) k67_18 rfl (by decide) (fun _ => ?_) (fun _ => ?_)
    · refine e_aload_n (pc' := 28) k67_27 rfl rfl ?_
      refine e_getR (pc' := 31) k67_28 rfl (ci := 7) (k := 1) (by decide +kernel) (by decide +kernel) (fun x5 => ?_)
      refine e_iload_n (pc' := 32) k67_31 rfl rfl ?_
      refine e_aald (pc' := 33) k67_32 rfl (fun x6 => ?_)
      refine e_vV (j' := 27) (as := []) (rest := []) (pc' := 36) k67_33 rfl (show mCk 67 1 174 27 0 = true by decide +kernel) (by decide +kernel) rfl (Nat.le_of_ble_eq_true rfl) (show 1 ≤ mL 27 by decide +kernel) (fun h7 => ?_)
      refine e_aload_n (pc' := 37) k67_36 rfl rfl ?_
      refine e_getR (pc' := 40) k67_37 rfl (ci := 7) (k := 1) (by decide +kernel) (by decide +kernel) (fun x8 => ?_)
      refine e_iload_n (pc' := 41) k67_40 rfl rfl ?_
      refine e_aald (pc' := 42) k67_41 rfl (fun x9 => ?_)
      refine e_getI (pc' := 45) k67_42 rfl (ci := 3) (k := 0) (by decide +kernel) (by decide +kernel) (fun x10 => ?_)
      exact e_iret k67_45 (by decide +kernel)
    · refine e_aload_n (pc' := 22) k67_21 rfl rfl ?_
      refine e_iconst (v := 1) (pc' := 23) k67_22 rfl rfl ?_
      refine e_vI (j' := 92) (as := [.int 1]) (rest := []) (pc' := 26) k67_23 rfl (show mCk 67 1 74 92 1 = true by decide +kernel) (Or.inl (by decide +kernel)) rfl (Nat.le_of_ble_eq_true rfl) (show 2 ≤ mL 92 by decide +kernel) (fun q11 => ?_)
      exact e_iret k67_26 (by decide +kernel)
  · refine e_iconst (v := -1) (pc' := 8) k67_7 rfl rfl ?_
    exact e_iret k67_8 (by decide +kernel)
theorem k68_0 : decode (mB 68) 0 = .ok (.iload_n 1, 1) := by decide +kernel
theorem k68_1 : decode (mB 68) 1 = .ok (.invokestatic 106, 3) := by decide +kernel
theorem k68_4 : decode (mB 68) 4 = .ok (.ifCond .eq 11, 3) := by decide +kernel
theorem k68_7 : decode (mB 68) 7 = .ok (.iload_n 2, 1) := by decide +kernel
theorem k68_8 : decode (mB 68) 8 = .ok (.iload_n 3, 1) := by decide +kernel
theorem k68_9 : decode (mB 68) 9 = .ok (.invokestatic 177, 3) := by decide +kernel
theorem k68_12 : decode (mB 68) 12 = .ok (.ifCond .ne 5, 3) := by decide +kernel
theorem k68_15 : decode (mB 68) 15 = .ok (.iconst (-1), 1) := by decide +kernel
theorem k68_16 : decode (mB 68) 16 = .ok (.ireturn, 1) := by decide +kernel
theorem k68_17 : decode (mB 68) 17 = .ok (.aload_n 0, 1) := by decide +kernel
theorem k68_18 : decode (mB 68) 18 = .ok (.getfield 17, 3) := by decide +kernel
theorem k68_21 : decode (mB 68) 21 = .ok (.iload_n 1, 1) := by decide +kernel
theorem k68_22 : decode (mB 68) 22 = .ok (.aaload, 1) := by decide +kernel
theorem k68_23 : decode (mB 68) 23 = .ok (.invokevirtual 120, 3) := by decide +kernel
theorem k68_26 : decode (mB 68) 26 = .ok (.ifCond .eq 9, 3) := by decide +kernel
theorem k68_29 : decode (mB 68) 29 = .ok (.aload_n 0, 1) := by decide +kernel
theorem k68_30 : decode (mB 68) 30 = .ok (.iconst 1, 1) := by decide +kernel
theorem k68_31 : decode (mB 68) 31 = .ok (.invokevirtual 74, 3) := by decide +kernel
theorem k68_34 : decode (mB 68) 34 = .ok (.ireturn, 1) := by decide +kernel
theorem k68_35 : decode (mB 68) 35 = .ok (.aload_n 0, 1) := by decide +kernel
theorem k68_36 : decode (mB 68) 36 = .ok (.getfield 17, 3) := by decide +kernel
theorem k68_39 : decode (mB 68) 39 = .ok (.iload_n 1, 1) := by decide +kernel
theorem k68_40 : decode (mB 68) 40 = .ok (.aaload, 1) := by decide +kernel
theorem k68_41 : decode (mB 68) 41 = .ok (.iload_n 2, 1) := by decide +kernel
theorem k68_42 : decode (mB 68) 42 = .ok (.iload_n 3, 1) := by decide +kernel
theorem k68_43 : decode (mB 68) 43 = .ok (.invokevirtual 180, 3) := by decide +kernel
theorem k68_46 : decode (mB 68) 46 = .ok (.aload_n 0, 1) := by decide +kernel
theorem k68_47 : decode (mB 68) 47 = .ok (.getfield 17, 3) := by decide +kernel
theorem k68_50 : decode (mB 68) 50 = .ok (.iload_n 1, 1) := by decide +kernel
theorem k68_51 : decode (mB 68) 51 = .ok (.aaload, 1) := by decide +kernel
theorem k68_52 : decode (mB 68) 52 = .ok (.getfield 117, 3) := by decide +kernel
theorem k68_55 : decode (mB 68) 55 = .ok (.ireturn, 1) := by decide +kernel
/-- SquareGrounds.see(III)I -/
theorem F68_eq (v0 : Nat) (v1 : Int32) (v2 : Int32) (v3 : Int32) (h : mHeap) : F 68 [.ref v0, .int v1, .int v2, .int v3] h = (sI 86 [.int v1] h).bind fun q1 => if (q1.1 : Int32) = 0 then (some (some (.int (-1)), q1.2)) else ((sI 87 [.int v2, .int v3] q1.2).bind fun q2 => if ¬ (q2.1 : Int32) = 0 then ((gR q2.2 v0 7 1).bind fun x3 => (cAldR q2.2 x3 v1).bind fun x4 => (vI 18 x4 [] q2.2).bind fun q5 => if (q5.1 : Int32) = 0 then ((gR q5.2 v0 7 1).bind fun x6 => (cAldR q5.2 x6 v1).bind fun x7 => (vV 29 x7 [.int v2, .int v3] q5.2).bind fun h8 => (gR h8 v0 7 1).bind fun x9 => (cAldR h8 x9 v1).bind fun x10 => (gI h8 x10 3 0).bind fun x11 => some (some (.int x11), h8)) else ((vI 92 v0 [.int 1] q5.2).bind fun q12 => some (some (.int q12.1), q12.2))) else (some (some (.int (-1)), q2.2))) := by
  show D 68 0 (mEnt 68 [.ref v0, .int v1, .int v2, .int v3]) [] h 0 0 = _
  rw [show mEnt 68 [.ref v0, .int v1, .int v2, .int v3] = [some (.ref v0), some (.int v1), some (.int v2), some (.int v3)] from rfl]
  refine e_iload_n (pc' := 1) k68_0 rfl rfl ?_
  refine e_sI (j' := 86) (as := [.int v1]) (rest := []) (pc' := 4) k68_1 rfl (show mCk 68 0 106 86 1 = true by decide +kernel) (Or.inr (by decide +kernel)) rfl (Nat.le_of_ble_eq_true rfl) (show 1 ≤ mL 86 by decide +kernel) (fun q1 => ?_)
  refine e_ifeq (t := 15) (pc' := 7) k68_4 rfl (by decide) (fun _ => ?_) (fun _ => ?_)
  · refine e_iconst (v := -1) (pc' := 16) k68_15 rfl rfl ?_
    exact e_iret k68_16 (by decide +kernel)
  · refine e_iload_n (pc' := 8) k68_7 rfl rfl ?_
    refine e_iload_n (pc' := 9) k68_8 rfl rfl ?_
    refine e_sI (j' := 87) (as := [.int v2, .int v3]) (rest := []) (pc' := 12) k68_9 rfl (show mCk 68 0 177 87 2 = true by decide +kernel) (Or.inr (by decide +kernel)) rfl (Nat.le_of_ble_eq_true rfl) (show 2 ≤ mL 87 by decide +kernel) (fun q2 => ?_)
    refine e_ifne (t := 17) (pc' := 15) k68_12 rfl (by decide) (fun _ => ?_) (fun _ => ?_)
    · refine e_aload_n (pc' := 18) k68_17 rfl rfl ?_
      refine e_getR (pc' := 21) k68_18 rfl (ci := 7) (k := 1) (by decide +kernel) (by decide +kernel) (fun x3 => ?_)
      refine e_iload_n (pc' := 22) k68_21 rfl rfl ?_
      refine e_aald (pc' := 23) k68_22 rfl (fun x4 => ?_)
      refine e_vI (j' := 18) (as := []) (rest := []) (pc' := 26) k68_23 rfl (show mCk 68 1 120 18 0 = true by decide +kernel) (Or.inr (by decide +kernel)) rfl (Nat.le_of_ble_eq_true rfl) (show 1 ≤ mL 18 by decide +kernel) (fun q5 => ?_)
      refine e_ifeq (t := 35) (pc' := 29) k68_26 rfl (by decide) (fun _ => ?_) (fun _ => ?_)
      · refine e_aload_n (pc' := 36) k68_35 rfl rfl ?_
        refine e_getR (pc' := 39) k68_36 rfl (ci := 7) (k := 1) (by decide +kernel) (by decide +kernel) (fun x6 => ?_)
        refine e_iload_n (pc' := 40) k68_39 rfl rfl ?_
        refine e_aald (pc' := 41) k68_40 rfl (fun x7 => ?_)
        refine e_iload_n (pc' := 42) k68_41 rfl rfl ?_
        refine e_iload_n (pc' := 43) k68_42 rfl rfl ?_
        refine e_vV (j' := 29) (as := [.int v2, .int v3]) (rest := []) (pc' := 46) k68_43 rfl (show mCk 68 1 180 29 2 = true by decide +kernel) (by decide +kernel) rfl (Nat.le_of_ble_eq_true rfl) (show 3 ≤ mL 29 by decide +kernel) (fun h8 => ?_)
        refine e_aload_n (pc' := 47) k68_46 rfl rfl ?_
        refine e_getR (pc' := 50) k68_47 rfl (ci := 7) (k := 1) (by decide +kernel) (by decide +kernel) (fun x9 => ?_)
        refine e_iload_n (pc' := 51) k68_50 rfl rfl ?_
        refine e_aald (pc' := 52) k68_51 rfl (fun x10 => ?_)
        refine e_getI (pc' := 55) k68_52 rfl (ci := 3) (k := 0) (by decide +kernel) (by decide +kernel) (fun x11 => ?_)
        exact e_iret k68_55 (by decide +kernel)
      · refine e_aload_n (pc' := 30) k68_29 rfl rfl ?_
        refine e_iconst (v := 1) (pc' := 31) k68_30 rfl rfl ?_
        refine e_vI (j' := 92) (as := [.int 1]) (rest := []) (pc' := 34) k68_31 rfl (show mCk 68 1 74 92 1 = true by decide +kernel) (Or.inl (by decide +kernel)) rfl (Nat.le_of_ble_eq_true rfl) (show 2 ≤ mL 92 by decide +kernel) (fun q12 => ?_)
        exact e_iret k68_34 (by decide +kernel)
    · refine e_iconst (v := -1) (pc' := 16) k68_15 rfl rfl ?_
      exact e_iret k68_16 (by decide +kernel)
theorem k69_0 : decode (mB 69) 0 = .ok (.iload_n 1, 1) := by decide +kernel
theorem k69_1 : decode (mB 69) 1 = .ok (.invokestatic 106, 3) := by decide +kernel
theorem k69_4 : decode (mB 69) 4 = .ok (.ifCond .eq 11, 3) := by decide +kernel
theorem k69_7 : decode (mB 69) 7 = .ok (.iload_n 2, 1) := by decide +kernel
theorem k69_8 : decode (mB 69) 8 = .ok (.iload_n 3, 1) := by decide +kernel
theorem k69_9 : decode (mB 69) 9 = .ok (.invokestatic 177, 3) := by decide +kernel
theorem k69_12 : decode (mB 69) 12 = .ok (.ifCond .ne 5, 3) := by decide +kernel
theorem k69_15 : decode (mB 69) 15 = .ok (.iconst (-1), 1) := by decide +kernel
theorem k69_16 : decode (mB 69) 16 = .ok (.ireturn, 1) := by decide +kernel
theorem k69_17 : decode (mB 69) 17 = .ok (.aload_n 0, 1) := by decide +kernel
theorem k69_18 : decode (mB 69) 18 = .ok (.getfield 17, 3) := by decide +kernel
theorem k69_21 : decode (mB 69) 21 = .ok (.iload_n 1, 1) := by decide +kernel
theorem k69_22 : decode (mB 69) 22 = .ok (.aaload, 1) := by decide +kernel
theorem k69_23 : decode (mB 69) 23 = .ok (.invokevirtual 120, 3) := by decide +kernel
theorem k69_26 : decode (mB 69) 26 = .ok (.ifCond .eq 9, 3) := by decide +kernel
theorem k69_29 : decode (mB 69) 29 = .ok (.aload_n 0, 1) := by decide +kernel
theorem k69_30 : decode (mB 69) 30 = .ok (.iconst 1, 1) := by decide +kernel
theorem k69_31 : decode (mB 69) 31 = .ok (.invokevirtual 74, 3) := by decide +kernel
theorem k69_34 : decode (mB 69) 34 = .ok (.ireturn, 1) := by decide +kernel
theorem k69_35 : decode (mB 69) 35 = .ok (.aload_n 0, 1) := by decide +kernel
theorem k69_36 : decode (mB 69) 36 = .ok (.getfield 22, 3) := by decide +kernel
theorem k69_39 : decode (mB 69) 39 = .ok (.aload_n 0, 1) := by decide +kernel
theorem k69_40 : decode (mB 69) 40 = .ok (.getfield 17, 3) := by decide +kernel
theorem k69_43 : decode (mB 69) 43 = .ok (.iload_n 1, 1) := by decide +kernel
theorem k69_44 : decode (mB 69) 44 = .ok (.aaload, 1) := by decide +kernel
theorem k69_45 : decode (mB 69) 45 = .ok (.invokevirtual 122, 3) := by decide +kernel
theorem k69_48 : decode (mB 69) 48 = .ok (.aload_n 0, 1) := by decide +kernel
theorem k69_49 : decode (mB 69) 49 = .ok (.getfield 22, 3) := by decide +kernel
theorem k69_52 : decode (mB 69) 52 = .ok (.iload_n 2, 1) := by decide +kernel
theorem k69_53 : decode (mB 69) 53 = .ok (.iload_n 3, 1) := by decide +kernel
theorem k69_54 : decode (mB 69) 54 = .ok (.invokevirtual 180, 3) := by decide +kernel
theorem k69_57 : decode (mB 69) 57 = .ok (.aload_n 0, 1) := by decide +kernel
theorem k69_58 : decode (mB 69) 58 = .ok (.getfield 43, 3) := by decide +kernel
theorem k69_61 : decode (mB 69) 61 = .ok (.aload_n 0, 1) := by decide +kernel
theorem k69_62 : decode (mB 69) 62 = .ok (.getfield 22, 3) := by decide +kernel
theorem k69_65 : decode (mB 69) 65 = .ok (.invokevirtual 184, 3) := by decide +kernel
theorem k69_68 : decode (mB 69) 68 = .ok (.aload_n 0, 1) := by decide +kernel
theorem k69_69 : decode (mB 69) 69 = .ok (.getfield 43, 3) := by decide +kernel
theorem k69_72 : decode (mB 69) 72 = .ok (.getfield 185, 3) := by decide +kernel
theorem k69_75 : decode (mB 69) 75 = .ok (.ireturn, 1) := by decide +kernel
/-- SquareGrounds.cylinders(III)I -/
theorem F69_eq (v0 : Nat) (v1 : Int32) (v2 : Int32) (v3 : Int32) (h : mHeap) : F 69 [.ref v0, .int v1, .int v2, .int v3] h = (sI 86 [.int v1] h).bind fun q1 => if (q1.1 : Int32) = 0 then (some (some (.int (-1)), q1.2)) else ((sI 87 [.int v2, .int v3] q1.2).bind fun q2 => if ¬ (q2.1 : Int32) = 0 then ((gR q2.2 v0 7 1).bind fun x3 => (cAldR q2.2 x3 v1).bind fun x4 => (vI 18 x4 [] q2.2).bind fun q5 => if (q5.1 : Int32) = 0 then ((gR q5.2 v0 7 2).bind fun x6 => (gR q5.2 v0 7 1).bind fun x7 => (cAldR q5.2 x7 v1).bind fun x8 => (vV 23 x6 [.ref x8] q5.2).bind fun h9 => (gR h9 v0 7 2).bind fun x10 => (vV 29 x10 [.int v2, .int v3] h9).bind fun h11 => (gR h11 v0 7 5).bind fun x12 => (gR h11 v0 7 2).bind fun x13 => (vV 8 x12 [.ref x13] h11).bind fun h14 => (gR h14 v0 7 5).bind fun x15 => (gI h14 x15 1 3).bind fun x16 => some (some (.int x16), h14)) else ((vI 92 v0 [.int 1] q5.2).bind fun q17 => some (some (.int q17.1), q17.2))) else (some (some (.int (-1)), q2.2))) := by
  show D 69 0 (mEnt 69 [.ref v0, .int v1, .int v2, .int v3]) [] h 0 0 = _
  rw [show mEnt 69 [.ref v0, .int v1, .int v2, .int v3] = [some (.ref v0), some (.int v1), some (.int v2), some (.int v3)] from rfl]
  refine e_iload_n (pc' := 1) k69_0 rfl rfl ?_
  refine e_sI (j' := 86) (as := [.int v1]) (rest := []) (pc' := 4) k69_1 rfl (show mCk 69 0 106 86 1 = true by decide +kernel) (Or.inr (by decide +kernel)) rfl (Nat.le_of_ble_eq_true rfl) (show 1 ≤ mL 86 by decide +kernel) (fun q1 => ?_)
  refine e_ifeq (t := 15) (pc' := 7) k69_4 rfl (by decide) (fun _ => ?_) (fun _ => ?_)
  · refine e_iconst (v := -1) (pc' := 16) k69_15 rfl rfl ?_
    exact e_iret k69_16 (by decide +kernel)
  · refine e_iload_n (pc' := 8) k69_7 rfl rfl ?_
    refine e_iload_n (pc' := 9) k69_8 rfl rfl ?_
    refine e_sI (j' := 87) (as := [.int v2, .int v3]) (rest := []) (pc' := 12) k69_9 rfl (show mCk 69 0 177 87 2 = true by decide +kernel) (Or.inr (by decide +kernel)) rfl (Nat.le_of_ble_eq_true rfl) (show 2 ≤ mL 87 by decide +kernel) (fun q2 => ?_)
    refine e_ifne (t := 17) (pc' := 15) k69_12 rfl (by decide) (fun _ => ?_) (fun _ => ?_)
    · refine e_aload_n (pc' := 18) k69_17 rfl rfl ?_
      refine e_getR (pc' := 21) k69_18 rfl (ci := 7) (k := 1) (by decide +kernel) (by decide +kernel) (fun x3 => ?_)
      refine e_iload_n (pc' := 22) k69_21 rfl rfl ?_
      refine e_aald (pc' := 23) k69_22 rfl (fun x4 => ?_)
      refine e_vI (j' := 18) (as := []) (rest := []) (pc' := 26) k69_23 rfl (show mCk 69 1 120 18 0 = true by decide +kernel) (Or.inr (by decide +kernel)) rfl (Nat.le_of_ble_eq_true rfl) (show 1 ≤ mL 18 by decide +kernel) (fun q5 => ?_)
      refine e_ifeq (t := 35) (pc' := 29) k69_26 rfl (by decide) (fun _ => ?_) (fun _ => ?_)
      · refine e_aload_n (pc' := 36) k69_35 rfl rfl ?_
        refine e_getR (pc' := 39) k69_36 rfl (ci := 7) (k := 2) (by decide +kernel) (by decide +kernel) (fun x6 => ?_)
        refine e_aload_n (pc' := 40) k69_39 rfl rfl ?_
        refine e_getR (pc' := 43) k69_40 rfl (ci := 7) (k := 1) (by decide +kernel) (by decide +kernel) (fun x7 => ?_)
        refine e_iload_n (pc' := 44) k69_43 rfl rfl ?_
        refine e_aald (pc' := 45) k69_44 rfl (fun x8 => ?_)
        refine e_vV (j' := 23) (as := [.ref x8]) (rest := []) (pc' := 48) k69_45 rfl (show mCk 69 1 122 23 1 = true by decide +kernel) (by decide +kernel) rfl (Nat.le_of_ble_eq_true rfl) (show 2 ≤ mL 23 by decide +kernel) (fun h9 => ?_)
        refine e_aload_n (pc' := 49) k69_48 rfl rfl ?_
        refine e_getR (pc' := 52) k69_49 rfl (ci := 7) (k := 2) (by decide +kernel) (by decide +kernel) (fun x10 => ?_)
        refine e_iload_n (pc' := 53) k69_52 rfl rfl ?_
        refine e_iload_n (pc' := 54) k69_53 rfl rfl ?_
        refine e_vV (j' := 29) (as := [.int v2, .int v3]) (rest := []) (pc' := 57) k69_54 rfl (show mCk 69 1 180 29 2 = true by decide +kernel) (by decide +kernel) rfl (Nat.le_of_ble_eq_true rfl) (show 3 ≤ mL 29 by decide +kernel) (fun h11 => ?_)
        refine e_aload_n (pc' := 58) k69_57 rfl rfl ?_
        refine e_getR (pc' := 61) k69_58 rfl (ci := 7) (k := 5) (by decide +kernel) (by decide +kernel) (fun x12 => ?_)
        refine e_aload_n (pc' := 62) k69_61 rfl rfl ?_
        refine e_getR (pc' := 65) k69_62 rfl (ci := 7) (k := 2) (by decide +kernel) (by decide +kernel) (fun x13 => ?_)
        refine e_vV (j' := 8) (as := [.ref x13]) (rest := []) (pc' := 68) k69_65 rfl (show mCk 69 1 184 8 1 = true by decide +kernel) (by decide +kernel) rfl (Nat.le_of_ble_eq_true rfl) (show 2 ≤ mL 8 by decide +kernel) (fun h14 => ?_)
        refine e_aload_n (pc' := 69) k69_68 rfl rfl ?_
        refine e_getR (pc' := 72) k69_69 rfl (ci := 7) (k := 5) (by decide +kernel) (by decide +kernel) (fun x15 => ?_)
        refine e_getI (pc' := 75) k69_72 rfl (ci := 1) (k := 3) (by decide +kernel) (by decide +kernel) (fun x16 => ?_)
        exact e_iret k69_75 (by decide +kernel)
      · refine e_aload_n (pc' := 30) k69_29 rfl rfl ?_
        refine e_iconst (v := 1) (pc' := 31) k69_30 rfl rfl ?_
        refine e_vI (j' := 92) (as := [.int 1]) (rest := []) (pc' := 34) k69_31 rfl (show mCk 69 1 74 92 1 = true by decide +kernel) (Or.inl (by decide +kernel)) rfl (Nat.le_of_ble_eq_true rfl) (show 2 ≤ mL 92 by decide +kernel) (fun q17 => ?_)
        exact e_iret k69_34 (by decide +kernel)
    · refine e_iconst (v := -1) (pc' := 16) k69_15 rfl rfl ?_
      exact e_iret k69_16 (by decide +kernel)
theorem k70_0 : decode (mB 70) 0 = .ok (.iload_n 1, 1) := by decide +kernel
theorem k70_1 : decode (mB 70) 1 = .ok (.invokestatic 106, 3) := by decide +kernel
theorem k70_4 : decode (mB 70) 4 = .ok (.ifCond .eq 12, 3) := by decide +kernel
theorem k70_7 : decode (mB 70) 7 = .ok (.iload_n 3, 1) := by decide +kernel
theorem k70_8 : decode (mB 70) 8 = .ok (.ifCond .lt 8, 3) := by decide +kernel
theorem k70_11 : decode (mB 70) 11 = .ok (.iload_n 3, 1) := by decide +kernel
theorem k70_12 : decode (mB 70) 12 = .ok (.iconst 2, 1) := by decide +kernel
theorem k70_13 : decode (mB 70) 13 = .ok (.if_icmp .le 5, 3) := by decide +kernel
theorem k70_16 : decode (mB 70) 16 = .ok (.iconst (-1), 1) := by decide +kernel
theorem k70_17 : decode (mB 70) 17 = .ok (.ireturn, 1) := by decide +kernel
theorem k70_18 : decode (mB 70) 18 = .ok (.aload_n 0, 1) := by decide +kernel
theorem k70_19 : decode (mB 70) 19 = .ok (.getfield 17, 3) := by decide +kernel
theorem k70_22 : decode (mB 70) 22 = .ok (.iload_n 1, 1) := by decide +kernel
theorem k70_23 : decode (mB 70) 23 = .ok (.aaload, 1) := by decide +kernel
theorem k70_24 : decode (mB 70) 24 = .ok (.invokevirtual 120, 3) := by decide +kernel
theorem k70_27 : decode (mB 70) 27 = .ok (.ifCond .eq 9, 3) := by decide +kernel
theorem k70_30 : decode (mB 70) 30 = .ok (.aload_n 0, 1) := by decide +kernel
theorem k70_31 : decode (mB 70) 31 = .ok (.iconst 1, 1) := by decide +kernel
theorem k70_32 : decode (mB 70) 32 = .ok (.invokevirtual 74, 3) := by decide +kernel
theorem k70_35 : decode (mB 70) 35 = .ok (.ireturn, 1) := by decide +kernel
theorem k70_36 : decode (mB 70) 36 = .ok (.aload_n 0, 1) := by decide +kernel
theorem k70_37 : decode (mB 70) 37 = .ok (.getfield 43, 3) := by decide +kernel
theorem k70_40 : decode (mB 70) 40 = .ok (.aload_n 0, 1) := by decide +kernel
theorem k70_41 : decode (mB 70) 41 = .ok (.getfield 17, 3) := by decide +kernel
theorem k70_44 : decode (mB 70) 44 = .ok (.iload_n 1, 1) := by decide +kernel
theorem k70_45 : decode (mB 70) 45 = .ok (.aaload, 1) := by decide +kernel
theorem k70_46 : decode (mB 70) 46 = .ok (.invokevirtual 184, 3) := by decide +kernel
theorem k70_49 : decode (mB 70) 49 = .ok (.iload_n 2, 1) := by decide +kernel
theorem k70_50 : decode (mB 70) 50 = .ok (.ifCond .lt 14, 3) := by decide +kernel
theorem k70_53 : decode (mB 70) 53 = .ok (.iload_n 2, 1) := by decide +kernel
theorem k70_54 : decode (mB 70) 54 = .ok (.aload_n 0, 1) := by decide +kernel
theorem k70_55 : decode (mB 70) 55 = .ok (.getfield 43, 3) := by decide +kernel
theorem k70_58 : decode (mB 70) 58 = .ok (.getfield 185, 3) := by decide +kernel
theorem k70_61 : decode (mB 70) 61 = .ok (.if_icmp .lt 6, 3) := by decide +kernel
theorem k70_64 : decode (mB 70) 64 = .ok (.bipush (-9), 2) := by decide +kernel
theorem k70_66 : decode (mB 70) 66 = .ok (.ireturn, 1) := by decide +kernel
theorem k70_67 : decode (mB 70) 67 = .ok (.iload_n 3, 1) := by decide +kernel
theorem k70_68 : decode (mB 70) 68 = .ok (.ifCond .ne 13, 3) := by decide +kernel
theorem k70_71 : decode (mB 70) 71 = .ok (.aload_n 0, 1) := by decide +kernel
theorem k70_72 : decode (mB 70) 72 = .ok (.getfield 43, 3) := by decide +kernel
theorem k70_75 : decode (mB 70) 75 = .ok (.getfield 186, 3) := by decide +kernel
theorem k70_78 : decode (mB 70) 78 = .ok (.iload_n 2, 1) := by decide +kernel
theorem k70_79 : decode (mB 70) 79 = .ok (.iaload, 1) := by decide +kernel
theorem k70_80 : decode (mB 70) 80 = .ok (.ireturn, 1) := by decide +kernel
theorem k70_81 : decode (mB 70) 81 = .ok (.iload_n 3, 1) := by decide +kernel
theorem k70_82 : decode (mB 70) 82 = .ok (.iconst 1, 1) := by decide +kernel
theorem k70_83 : decode (mB 70) 83 = .ok (.if_icmp .ne 15, 3) := by decide +kernel
theorem k70_86 : decode (mB 70) 86 = .ok (.aload_n 0, 1) := by decide +kernel
theorem k70_87 : decode (mB 70) 87 = .ok (.getfield 43, 3) := by decide +kernel
theorem k70_90 : decode (mB 70) 90 = .ok (.getfield 189, 3) := by decide +kernel
theorem k70_93 : decode (mB 70) 93 = .ok (.iload_n 2, 1) := by decide +kernel
theorem k70_94 : decode (mB 70) 94 = .ok (.iaload, 1) := by decide +kernel
theorem k70_95 : decode (mB 70) 95 = .ok (.goto 12, 3) := by decide +kernel
theorem k70_98 : decode (mB 70) 98 = .ok (.aload_n 0, 1) := by decide +kernel
theorem k70_99 : decode (mB 70) 99 = .ok (.getfield 43, 3) := by decide +kernel
theorem k70_102 : decode (mB 70) 102 = .ok (.getfield 192, 3) := by decide +kernel
theorem k70_105 : decode (mB 70) 105 = .ok (.iload_n 2, 1) := by decide +kernel
theorem k70_106 : decode (mB 70) 106 = .ok (.iaload, 1) := by decide +kernel
theorem k70_107 : decode (mB 70) 107 = .ok (.ireturn, 1) := by decide +kernel
/-- SquareGrounds.cylinder(III)I -/
theorem F70_eq (v0 : Nat) (v1 : Int32) (v2 : Int32) (v3 : Int32) (h : mHeap) : F 70 [.ref v0, .int v1, .int v2, .int v3] h = (sI 86 [.int v1] h).bind fun q1 => if (q1.1 : Int32) = 0 then (some (some (.int (-1)), q1.2)) else (if (v3 : Int32) < 0 then (some (some (.int (-1)), q1.2)) else (if (v3 : Int32) ≤ 2 then ((gR q1.2 v0 7 1).bind fun x2 => (cAldR q1.2 x2 v1).bind fun x3 => (vI 18 x3 [] q1.2).bind fun q4 => if (q4.1 : Int32) = 0 then ((gR q4.2 v0 7 5).bind fun x5 => (gR q4.2 v0 7 1).bind fun x6 => (cAldR q4.2 x6 v1).bind fun x7 => (vV 8 x5 [.ref x7] q4.2).bind fun h8 => if (v2 : Int32) < 0 then (some (some (.int (-9)), h8)) else ((gR h8 v0 7 5).bind fun x9 => (gI h8 x9 1 3).bind fun x10 => if (v2 : Int32) < x10 then (if ¬ (v3 : Int32) = 0 then (if ¬ (v3 : Int32) = 1 then ((gR h8 v0 7 5).bind fun x11 => (gR h8 x11 1 6).bind fun x12 => (cAldI false h8 x12 v2).bind fun x13 => some (some (.int x13), h8)) else ((gR h8 v0 7 5).bind fun x14 => (gR h8 x14 1 5).bind fun x15 => (cAldI false h8 x15 v2).bind fun x16 => some (some (.int x16), h8))) else ((gR h8 v0 7 5).bind fun x17 => (gR h8 x17 1 4).bind fun x18 => (cAldI false h8 x18 v2).bind fun x19 => some (some (.int x19), h8))) else (some (some (.int (-9)), h8)))) else ((vI 92 v0 [.int 1] q4.2).bind fun q20 => some (some (.int q20.1), q20.2))) else (some (some (.int (-1)), q1.2)))) := by
  show D 70 0 (mEnt 70 [.ref v0, .int v1, .int v2, .int v3]) [] h 0 0 = _
  rw [show mEnt 70 [.ref v0, .int v1, .int v2, .int v3] = [some (.ref v0), some (.int v1), some (.int v2), some (.int v3)] from rfl]
  refine e_iload_n (pc' := 1) k70_0 rfl rfl ?_
  refine e_sI (j' := 86) (as := [.int v1]) (rest := []) (pc' := 4) k70_1 rfl (show mCk 70 0 106 86 1 = true by decide +kernel) (Or.inr (by decide +kernel)) rfl (Nat.le_of_ble_eq_true rfl) (show 1 ≤ mL 86 by decide +kernel) (fun q1 => ?_)
  refine e_ifeq (t := 16) (pc' := 7) k70_4 rfl (by decide) (fun _ => ?_) (fun _ => ?_)
  · refine e_iconst (v := -1) (pc' := 17) k70_16 rfl rfl ?_
    exact e_iret k70_17 (by decide +kernel)
  · refine e_iload_n (pc' := 8) k70_7 rfl rfl ?_
    refine e_iflt (t := 16) (pc' := 11) k70_8 rfl (by decide) (fun _ => ?_) (fun _ => ?_)
    · refine e_iconst (v := -1) (pc' := 17) k70_16 rfl rfl ?_
      exact e_iret k70_17 (by decide +kernel)
    · refine e_iload_n (pc' := 12) k70_11 rfl rfl ?_
      refine e_iconst (v := 2) (pc' := 13) k70_12 rfl rfl ?_
      refine e_icmple (t := 18) (pc' := 16) k70_13 rfl (by decide) (fun _ => ?_) (fun _ => ?_)
      · refine e_aload_n (pc' := 19) k70_18 rfl rfl ?_
        refine e_getR (pc' := 22) k70_19 rfl (ci := 7) (k := 1) (by decide +kernel) (by decide +kernel) (fun x2 => ?_)
        refine e_iload_n (pc' := 23) k70_22 rfl rfl ?_
        refine e_aald (pc' := 24) k70_23 rfl (fun x3 => ?_)
        refine e_vI (j' := 18) (as := []) (rest := []) (pc' := 27) k70_24 rfl (show mCk 70 1 120 18 0 = true by decide +kernel) (Or.inr (by decide +kernel)) rfl (Nat.le_of_ble_eq_true rfl) (show 1 ≤ mL 18 by decide +kernel) (fun q4 => ?_)
        refine e_ifeq (t := 36) (pc' := 30) k70_27 rfl (by decide) (fun _ => ?_) (fun _ => ?_)
        · refine e_aload_n (pc' := 37) k70_36 rfl rfl ?_
          refine e_getR (pc' := 40) k70_37 rfl (ci := 7) (k := 5) (by decide +kernel) (by decide +kernel) (fun x5 => ?_)
          refine e_aload_n (pc' := 41) k70_40 rfl rfl ?_
          refine e_getR (pc' := 44) k70_41 rfl (ci := 7) (k := 1) (by decide +kernel) (by decide +kernel) (fun x6 => ?_)
          refine e_iload_n (pc' := 45) k70_44 rfl rfl ?_
          refine e_aald (pc' := 46) k70_45 rfl (fun x7 => ?_)
          refine e_vV (j' := 8) (as := [.ref x7]) (rest := []) (pc' := 49) k70_46 rfl (show mCk 70 1 184 8 1 = true by decide +kernel) (by decide +kernel) rfl (Nat.le_of_ble_eq_true rfl) (show 2 ≤ mL 8 by decide +kernel) (fun h8 => ?_)
          refine e_iload_n (pc' := 50) k70_49 rfl rfl ?_
          refine e_iflt (t := 64) (pc' := 53) k70_50 rfl (by decide) (fun _ => ?_) (fun _ => ?_)
          · refine e_bipush (v := -9) (pc' := 66) k70_64 rfl rfl ?_
            exact e_iret k70_66 (by decide +kernel)
          · refine e_iload_n (pc' := 54) k70_53 rfl rfl ?_
            refine e_aload_n (pc' := 55) k70_54 rfl rfl ?_
            refine e_getR (pc' := 58) k70_55 rfl (ci := 7) (k := 5) (by decide +kernel) (by decide +kernel) (fun x9 => ?_)
            refine e_getI (pc' := 61) k70_58 rfl (ci := 1) (k := 3) (by decide +kernel) (by decide +kernel) (fun x10 => ?_)
            refine e_icmplt (t := 67) (pc' := 64) k70_61 rfl (by decide) (fun _ => ?_) (fun _ => ?_)
            · refine e_iload_n (pc' := 68) k70_67 rfl rfl ?_
              refine e_ifne (t := 81) (pc' := 71) k70_68 rfl (by decide) (fun _ => ?_) (fun _ => ?_)
              · refine e_iload_n (pc' := 82) k70_81 rfl rfl ?_
                refine e_iconst (v := 1) (pc' := 83) k70_82 rfl rfl ?_
                refine e_icmpne (t := 98) (pc' := 86) k70_83 rfl (by decide) (fun _ => ?_) (fun _ => ?_)
                · refine e_aload_n (pc' := 99) k70_98 rfl rfl ?_
                  refine e_getR (pc' := 102) k70_99 rfl (ci := 7) (k := 5) (by decide +kernel) (by decide +kernel) (fun x11 => ?_)
                  refine e_getR (pc' := 105) k70_102 rfl (ci := 1) (k := 6) (by decide +kernel) (by decide +kernel) (fun x12 => ?_)
                  refine e_iload_n (pc' := 106) k70_105 rfl rfl ?_
                  refine e_iald (pc' := 107) k70_106 rfl (lw := false) rfl (fun x13 => ?_)
                  exact e_iret k70_107 (by decide +kernel)
                · refine e_aload_n (pc' := 87) k70_86 rfl rfl ?_
                  refine e_getR (pc' := 90) k70_87 rfl (ci := 7) (k := 5) (by decide +kernel) (by decide +kernel) (fun x14 => ?_)
                  refine e_getR (pc' := 93) k70_90 rfl (ci := 1) (k := 5) (by decide +kernel) (by decide +kernel) (fun x15 => ?_)
                  refine e_iload_n (pc' := 94) k70_93 rfl rfl ?_
                  refine e_iald (pc' := 95) k70_94 rfl (lw := false) rfl (fun x16 => ?_)
                  refine e_goto (pc' := 107) k70_95 (by decide) ?_
                  exact e_iret k70_107 (by decide +kernel)
              · refine e_aload_n (pc' := 72) k70_71 rfl rfl ?_
                refine e_getR (pc' := 75) k70_72 rfl (ci := 7) (k := 5) (by decide +kernel) (by decide +kernel) (fun x17 => ?_)
                refine e_getR (pc' := 78) k70_75 rfl (ci := 1) (k := 4) (by decide +kernel) (by decide +kernel) (fun x18 => ?_)
                refine e_iload_n (pc' := 79) k70_78 rfl rfl ?_
                refine e_iald (pc' := 80) k70_79 rfl (lw := false) rfl (fun x19 => ?_)
                exact e_iret k70_80 (by decide +kernel)
            · refine e_bipush (v := -9) (pc' := 66) k70_64 rfl rfl ?_
              exact e_iret k70_66 (by decide +kernel)
        · refine e_aload_n (pc' := 31) k70_30 rfl rfl ?_
          refine e_iconst (v := 1) (pc' := 32) k70_31 rfl rfl ?_
          refine e_vI (j' := 92) (as := [.int 1]) (rest := []) (pc' := 35) k70_32 rfl (show mCk 70 1 74 92 1 = true by decide +kernel) (Or.inl (by decide +kernel)) rfl (Nat.le_of_ble_eq_true rfl) (show 2 ≤ mL 92 by decide +kernel) (fun q20 => ?_)
          exact e_iret k70_35 (by decide +kernel)
      · refine e_iconst (v := -1) (pc' := 17) k70_16 rfl rfl ?_
        exact e_iret k70_17 (by decide +kernel)
theorem k71_0 : decode (mB 71) 0 = .ok (.iload_n 1, 1) := by decide +kernel
theorem k71_1 : decode (mB 71) 1 = .ok (.invokestatic 106, 3) := by decide +kernel
theorem k71_4 : decode (mB 71) 4 = .ok (.ifCond .ne 5, 3) := by decide +kernel
theorem k71_7 : decode (mB 71) 7 = .ok (.iconst (-1), 1) := by decide +kernel
theorem k71_8 : decode (mB 71) 8 = .ok (.ireturn, 1) := by decide +kernel
theorem k71_9 : decode (mB 71) 9 = .ok (.aload_n 0, 1) := by decide +kernel
theorem k71_10 : decode (mB 71) 10 = .ok (.getfield 17, 3) := by decide +kernel
theorem k71_13 : decode (mB 71) 13 = .ok (.iload_n 1, 1) := by decide +kernel
theorem k71_14 : decode (mB 71) 14 = .ok (.aaload, 1) := by decide +kernel
theorem k71_15 : decode (mB 71) 15 = .ok (.invokevirtual 120, 3) := by decide +kernel
theorem k71_18 : decode (mB 71) 18 = .ok (.ifCond .eq 9, 3) := by decide +kernel
theorem k71_21 : decode (mB 71) 21 = .ok (.aload_n 0, 1) := by decide +kernel
theorem k71_22 : decode (mB 71) 22 = .ok (.iconst 1, 1) := by decide +kernel
theorem k71_23 : decode (mB 71) 23 = .ok (.invokevirtual 74, 3) := by decide +kernel
theorem k71_26 : decode (mB 71) 26 = .ok (.ireturn, 1) := by decide +kernel
theorem k71_27 : decode (mB 71) 27 = .ok (.aload_n 0, 1) := by decide +kernel
theorem k71_28 : decode (mB 71) 28 = .ok (.getfield 43, 3) := by decide +kernel
theorem k71_31 : decode (mB 71) 31 = .ok (.aload_n 0, 1) := by decide +kernel
theorem k71_32 : decode (mB 71) 32 = .ok (.getfield 17, 3) := by decide +kernel
theorem k71_35 : decode (mB 71) 35 = .ok (.iload_n 1, 1) := by decide +kernel
theorem k71_36 : decode (mB 71) 36 = .ok (.aaload, 1) := by decide +kernel
theorem k71_37 : decode (mB 71) 37 = .ok (.invokevirtual 184, 3) := by decide +kernel
theorem k71_40 : decode (mB 71) 40 = .ok (.aload_n 0, 1) := by decide +kernel
theorem k71_41 : decode (mB 71) 41 = .ok (.getfield 57, 3) := by decide +kernel
theorem k71_44 : decode (mB 71) 44 = .ok (.aload_n 0, 1) := by decide +kernel
theorem k71_45 : decode (mB 71) 45 = .ok (.getfield 43, 3) := by decide +kernel
theorem k71_48 : decode (mB 71) 48 = .ok (.invokevirtual 194, 3) := by decide +kernel
theorem k71_51 : decode (mB 71) 51 = .ok (.ldc2_w 198, 3) := by decide +kernel
theorem k71_54 : decode (mB 71) 54 = .ok (.invokevirtual 200, 3) := by decide +kernel
theorem k71_57 : decode (mB 71) 57 = .ok (.iconst 1, 1) := by decide +kernel
theorem k71_58 : decode (mB 71) 58 = .ok (.ireturn, 1) := by decide +kernel
/-- SquareGrounds.share(I)I -/
theorem F71_eq (v0 : Nat) (v1 : Int32) (h : mHeap) : F 71 [.ref v0, .int v1] h = (sI 86 [.int v1] h).bind fun q1 => if ¬ (q1.1 : Int32) = 0 then ((gR q1.2 v0 7 1).bind fun x2 => (cAldR q1.2 x2 v1).bind fun x3 => (vI 18 x3 [] q1.2).bind fun q4 => if (q4.1 : Int32) = 0 then ((gR q4.2 v0 7 5).bind fun x5 => (gR q4.2 v0 7 1).bind fun x6 => (cAldR q4.2 x6 v1).bind fun x7 => (vV 8 x5 [.ref x7] q4.2).bind fun h8 => (gR h8 v0 7 7).bind fun x9 => (gR h8 v0 7 5).bind fun x10 => (vL 14 x10 [] h8).bind fun q11 => (vV 16 x9 [.long q11.1, .long 840] q11.2).bind fun h12 => some (some (.int 1), h12)) else ((vI 92 v0 [.int 1] q4.2).bind fun q13 => some (some (.int q13.1), q13.2))) else (some (some (.int (-1)), q1.2)) := by
  show D 71 0 (mEnt 71 [.ref v0, .int v1]) [] h 0 0 = _
  rw [show mEnt 71 [.ref v0, .int v1] = [some (.ref v0), some (.int v1)] from rfl]
  refine e_iload_n (pc' := 1) k71_0 rfl rfl ?_
  refine e_sI (j' := 86) (as := [.int v1]) (rest := []) (pc' := 4) k71_1 rfl (show mCk 71 0 106 86 1 = true by decide +kernel) (Or.inr (by decide +kernel)) rfl (Nat.le_of_ble_eq_true rfl) (show 1 ≤ mL 86 by decide +kernel) (fun q1 => ?_)
  refine e_ifne (t := 9) (pc' := 7) k71_4 rfl (by decide) (fun _ => ?_) (fun _ => ?_)
  · refine e_aload_n (pc' := 10) k71_9 rfl rfl ?_
    refine e_getR (pc' := 13) k71_10 rfl (ci := 7) (k := 1) (by decide +kernel) (by decide +kernel) (fun x2 => ?_)
    refine e_iload_n (pc' := 14) k71_13 rfl rfl ?_
    refine e_aald (pc' := 15) k71_14 rfl (fun x3 => ?_)
    refine e_vI (j' := 18) (as := []) (rest := []) (pc' := 18) k71_15 rfl (show mCk 71 1 120 18 0 = true by decide +kernel) (Or.inr (by decide +kernel)) rfl (Nat.le_of_ble_eq_true rfl) (show 1 ≤ mL 18 by decide +kernel) (fun q4 => ?_)
    refine e_ifeq (t := 27) (pc' := 21) k71_18 rfl (by decide) (fun _ => ?_) (fun _ => ?_)
    · refine e_aload_n (pc' := 28) k71_27 rfl rfl ?_
      refine e_getR (pc' := 31) k71_28 rfl (ci := 7) (k := 5) (by decide +kernel) (by decide +kernel) (fun x5 => ?_)
      refine e_aload_n (pc' := 32) k71_31 rfl rfl ?_
      refine e_getR (pc' := 35) k71_32 rfl (ci := 7) (k := 1) (by decide +kernel) (by decide +kernel) (fun x6 => ?_)
      refine e_iload_n (pc' := 36) k71_35 rfl rfl ?_
      refine e_aald (pc' := 37) k71_36 rfl (fun x7 => ?_)
      refine e_vV (j' := 8) (as := [.ref x7]) (rest := []) (pc' := 40) k71_37 rfl (show mCk 71 1 184 8 1 = true by decide +kernel) (by decide +kernel) rfl (Nat.le_of_ble_eq_true rfl) (show 2 ≤ mL 8 by decide +kernel) (fun h8 => ?_)
      refine e_aload_n (pc' := 41) k71_40 rfl rfl ?_
      refine e_getR (pc' := 44) k71_41 rfl (ci := 7) (k := 7) (by decide +kernel) (by decide +kernel) (fun x9 => ?_)
      refine e_aload_n (pc' := 45) k71_44 rfl rfl ?_
      refine e_getR (pc' := 48) k71_45 rfl (ci := 7) (k := 5) (by decide +kernel) (by decide +kernel) (fun x10 => ?_)
      refine e_vL (j' := 14) (as := []) (rest := [.ref x9]) (pc' := 51) k71_48 rfl (show mCk 71 1 194 14 0 = true by decide +kernel) (by decide +kernel) rfl (Nat.le_of_ble_eq_true rfl) (show 1 ≤ mL 14 by decide +kernel) (fun q11 => ?_)
      refine e_ldc2 (v := 840) (pc' := 54) k71_51 rfl (by decide +kernel) ?_
      refine e_vV (j' := 16) (as := [.long q11.1, .long 840]) (rest := []) (pc' := 57) k71_54 rfl (show mCk 71 1 200 16 2 = true by decide +kernel) (by decide +kernel) rfl (Nat.le_of_ble_eq_true rfl) (show 5 ≤ mL 16 by decide +kernel) (fun h12 => ?_)
      refine e_iconst (v := 1) (pc' := 58) k71_57 rfl rfl ?_
      exact e_iret k71_58 (by decide +kernel)
    · refine e_aload_n (pc' := 22) k71_21 rfl rfl ?_
      refine e_iconst (v := 1) (pc' := 23) k71_22 rfl rfl ?_
      refine e_vI (j' := 92) (as := [.int 1]) (rest := []) (pc' := 26) k71_23 rfl (show mCk 71 1 74 92 1 = true by decide +kernel) (Or.inl (by decide +kernel)) rfl (Nat.le_of_ble_eq_true rfl) (show 2 ≤ mL 92 by decide +kernel) (fun q13 => ?_)
      exact e_iret k71_26 (by decide +kernel)
  · refine e_iconst (v := -1) (pc' := 8) k71_7 rfl rfl ?_
    exact e_iret k71_8 (by decide +kernel)
theorem k72_0 : decode (mB 72) 0 = .ok (.aload_n 0, 1) := by decide +kernel
theorem k72_1 : decode (mB 72) 1 = .ok (.iload_n 1, 1) := by decide +kernel
theorem k72_2 : decode (mB 72) 2 = .ok (.invokevirtual 204, 3) := by decide +kernel
theorem k72_5 : decode (mB 72) 5 = .ok (.istore_n 2, 1) := by decide +kernel
theorem k72_6 : decode (mB 72) 6 = .ok (.iload_n 2, 1) := by decide +kernel
theorem k72_7 : decode (mB 72) 7 = .ok (.ifCond .eq 7, 3) := by decide +kernel
theorem k72_10 : decode (mB 72) 10 = .ok (.iload_n 2, 1) := by decide +kernel
theorem k72_11 : decode (mB 72) 11 = .ok (.goto 10, 3) := by decide +kernel
theorem k72_14 : decode (mB 72) 14 = .ok (.aload_n 0, 1) := by decide +kernel
theorem k72_15 : decode (mB 72) 15 = .ok (.getfield 50, 3) := by decide +kernel
theorem k72_18 : decode (mB 72) 18 = .ok (.getfield 207, 3) := by decide +kernel
theorem k72_21 : decode (mB 72) 21 = .ok (.ireturn, 1) := by decide +kernel
/-- SquareGrounds.reach(I)I -/
theorem F72_eq (v0 : Nat) (v1 : Int32) (h : mHeap) : F 72 [.ref v0, .int v1] h = (vI 93 v0 [.int v1] h).bind fun q1 => if (q1.1 : Int32) = 0 then ((gR q1.2 v0 7 6).bind fun x2 => (gI q1.2 x2 5 6).bind fun x3 => some (some (.int x3), q1.2)) else (some (some (.int q1.1), q1.2)) := by
  show D 72 0 (mEnt 72 [.ref v0, .int v1]) [] h 0 0 = _
  rw [show mEnt 72 [.ref v0, .int v1] = [some (.ref v0), some (.int v1), none] from rfl]
  refine e_aload_n (pc' := 1) k72_0 rfl rfl ?_
  refine e_iload_n (pc' := 2) k72_1 rfl rfl ?_
  refine e_vI (j' := 93) (as := [.int v1]) (rest := []) (pc' := 5) k72_2 rfl (show mCk 72 1 204 93 1 = true by decide +kernel) (Or.inl (by decide +kernel)) rfl (Nat.le_of_ble_eq_true rfl) (show 2 ≤ mL 93 by decide +kernel) (fun q1 => ?_)
  refine e_istore_n (pc' := 6) k72_5 rfl rfl ?_
  refine e_iload_n (pc' := 7) k72_6 rfl rfl ?_
  refine e_ifeq (t := 14) (pc' := 10) k72_7 rfl (by decide) (fun _ => ?_) (fun _ => ?_)
  · refine e_aload_n (pc' := 15) k72_14 rfl rfl ?_
    refine e_getR (pc' := 18) k72_15 rfl (ci := 7) (k := 6) (by decide +kernel) (by decide +kernel) (fun x2 => ?_)
    refine e_getI (pc' := 21) k72_18 rfl (ci := 5) (k := 6) (by decide +kernel) (by decide +kernel) (fun x3 => ?_)
    exact e_iret k72_21 (by decide +kernel)
  · refine e_iload_n (pc' := 11) k72_10 rfl rfl ?_
    refine e_goto (pc' := 21) k72_11 (by decide) ?_
    exact e_iret k72_21 (by decide +kernel)
theorem k73_0 : decode (mB 73) 0 = .ok (.iload_n 3, 1) := by decide +kernel
theorem k73_1 : decode (mB 73) 1 = .ok (.ifCond .lt 8, 3) := by decide +kernel
theorem k73_4 : decode (mB 73) 4 = .ok (.iload_n 3, 1) := by decide +kernel
theorem k73_5 : decode (mB 73) 5 = .ok (.iconst 3, 1) := by decide +kernel
theorem k73_6 : decode (mB 73) 6 = .ok (.if_icmp .le 5, 3) := by decide +kernel
theorem k73_9 : decode (mB 73) 9 = .ok (.iconst (-1), 1) := by decide +kernel
theorem k73_10 : decode (mB 73) 10 = .ok (.ireturn, 1) := by decide +kernel
theorem k73_11 : decode (mB 73) 11 = .ok (.aload_n 0, 1) := by decide +kernel
theorem k73_12 : decode (mB 73) 12 = .ok (.iload_n 1, 1) := by decide +kernel
theorem k73_13 : decode (mB 73) 13 = .ok (.invokevirtual 204, 3) := by decide +kernel
theorem k73_16 : decode (mB 73) 16 = .ok (.istore 4, 2) := by decide +kernel
theorem k73_18 : decode (mB 73) 18 = .ok (.iload 4, 2) := by decide +kernel
theorem k73_20 : decode (mB 73) 20 = .ok (.ifCond .eq 6, 3) := by decide +kernel
theorem k73_23 : decode (mB 73) 23 = .ok (.iload 4, 2) := by decide +kernel
theorem k73_25 : decode (mB 73) 25 = .ok (.ireturn, 1) := by decide +kernel
theorem k73_26 : decode (mB 73) 26 = .ok (.iload_n 2, 1) := by decide +kernel
theorem k73_27 : decode (mB 73) 27 = .ok (.ifCond .lt 14, 3) := by decide +kernel
theorem k73_30 : decode (mB 73) 30 = .ok (.iload_n 2, 1) := by decide +kernel
theorem k73_31 : decode (mB 73) 31 = .ok (.aload_n 0, 1) := by decide +kernel
theorem k73_32 : decode (mB 73) 32 = .ok (.getfield 50, 3) := by decide +kernel
theorem k73_35 : decode (mB 73) 35 = .ok (.getfield 207, 3) := by decide +kernel
theorem k73_38 : decode (mB 73) 38 = .ok (.if_icmp .lt 6, 3) := by decide +kernel
theorem k73_41 : decode (mB 73) 41 = .ok (.bipush (-9), 2) := by decide +kernel
theorem k73_43 : decode (mB 73) 43 = .ok (.ireturn, 1) := by decide +kernel
theorem k73_44 : decode (mB 73) 44 = .ok (.iload_n 3, 1) := by decide +kernel
theorem k73_45 : decode (mB 73) 45 = .ok (.ifCond .ne 13, 3) := by decide +kernel
theorem k73_48 : decode (mB 73) 48 = .ok (.aload_n 0, 1) := by decide +kernel
theorem k73_49 : decode (mB 73) 49 = .ok (.getfield 50, 3) := by decide +kernel
theorem k73_52 : decode (mB 73) 52 = .ok (.getfield 208, 3) := by decide +kernel
theorem k73_55 : decode (mB 73) 55 = .ok (.iload_n 2, 1) := by decide +kernel
theorem k73_56 : decode (mB 73) 56 = .ok (.iaload, 1) := by decide +kernel
theorem k73_57 : decode (mB 73) 57 = .ok (.ireturn, 1) := by decide +kernel
theorem k73_58 : decode (mB 73) 58 = .ok (.iload_n 3, 1) := by decide +kernel
theorem k73_59 : decode (mB 73) 59 = .ok (.iconst 1, 1) := by decide +kernel
theorem k73_60 : decode (mB 73) 60 = .ok (.if_icmp .ne 13, 3) := by decide +kernel
theorem k73_63 : decode (mB 73) 63 = .ok (.aload_n 0, 1) := by decide +kernel
theorem k73_64 : decode (mB 73) 64 = .ok (.getfield 50, 3) := by decide +kernel
theorem k73_67 : decode (mB 73) 67 = .ok (.getfield 211, 3) := by decide +kernel
theorem k73_70 : decode (mB 73) 70 = .ok (.iload_n 2, 1) := by decide +kernel
theorem k73_71 : decode (mB 73) 71 = .ok (.iaload, 1) := by decide +kernel
theorem k73_72 : decode (mB 73) 72 = .ok (.ireturn, 1) := by decide +kernel
theorem k73_73 : decode (mB 73) 73 = .ok (.aload_n 0, 1) := by decide +kernel
theorem k73_74 : decode (mB 73) 74 = .ok (.getfield 22, 3) := by decide +kernel
theorem k73_77 : decode (mB 73) 77 = .ok (.aload_n 0, 1) := by decide +kernel
theorem k73_78 : decode (mB 73) 78 = .ok (.getfield 50, 3) := by decide +kernel
theorem k73_81 : decode (mB 73) 81 = .ok (.getfield 214, 3) := by decide +kernel
theorem k73_84 : decode (mB 73) 84 = .ok (.aload_n 0, 1) := by decide +kernel
theorem k73_85 : decode (mB 73) 85 = .ok (.getfield 50, 3) := by decide +kernel
theorem k73_88 : decode (mB 73) 88 = .ok (.getfield 215, 3) := by decide +kernel
theorem k73_91 : decode (mB 73) 91 = .ok (.iload_n 2, 1) := by decide +kernel
theorem k73_92 : decode (mB 73) 92 = .ok (.laload, 1) := by decide +kernel
theorem k73_93 : decode (mB 73) 93 = .ok (.invokevirtual 219, 3) := by decide +kernel
theorem k73_96 : decode (mB 73) 96 = .ok (.iload_n 3, 1) := by decide +kernel
theorem k73_97 : decode (mB 73) 97 = .ok (.iconst 2, 1) := by decide +kernel
theorem k73_98 : decode (mB 73) 98 = .ok (.if_icmp .ne 14, 3) := by decide +kernel
theorem k73_101 : decode (mB 73) 101 = .ok (.aload_n 0, 1) := by decide +kernel
theorem k73_102 : decode (mB 73) 102 = .ok (.aload_n 0, 1) := by decide +kernel
theorem k73_103 : decode (mB 73) 103 = .ok (.getfield 22, 3) := by decide +kernel
theorem k73_106 : decode (mB 73) 106 = .ok (.invokevirtual 223, 3) := by decide +kernel
theorem k73_109 : decode (mB 73) 109 = .ok (.goto 11, 3) := by decide +kernel
theorem k73_112 : decode (mB 73) 112 = .ok (.aload_n 0, 1) := by decide +kernel
theorem k73_113 : decode (mB 73) 113 = .ok (.aload_n 0, 1) := by decide +kernel
theorem k73_114 : decode (mB 73) 114 = .ok (.getfield 22, 3) := by decide +kernel
theorem k73_117 : decode (mB 73) 117 = .ok (.invokevirtual 227, 3) := by decide +kernel
theorem k73_120 : decode (mB 73) 120 = .ok (.ireturn, 1) := by decide +kernel
/-- SquareGrounds.reached(III)I -/
theorem F73_eq (v0 : Nat) (v1 : Int32) (v2 : Int32) (v3 : Int32) (h : mHeap) : F 73 [.ref v0, .int v1, .int v2, .int v3] h = if (v3 : Int32) < 0 then (some (some (.int (-1)), h)) else (if (v3 : Int32) ≤ 3 then ((vI 93 v0 [.int v1] h).bind fun q1 => if (q1.1 : Int32) = 0 then (if (v2 : Int32) < 0 then (some (some (.int (-9)), q1.2)) else ((gR q1.2 v0 7 6).bind fun x2 => (gI q1.2 x2 5 6).bind fun x3 => if (v2 : Int32) < x3 then (if ¬ (v3 : Int32) = 0 then (if ¬ (v3 : Int32) = 1 then ((gR q1.2 v0 7 2).bind fun x4 => (gR q1.2 v0 7 6).bind fun x5 => (gI q1.2 x5 5 5).bind fun x6 => (gR q1.2 v0 7 6).bind fun x7 => (gR q1.2 x7 5 0).bind fun x8 => (cAldL q1.2 x8 v2).bind fun x9 => (vV 22 x4 [.int x6, .long x9] q1.2).bind fun h10 => if ¬ (v3 : Int32) = 2 then ((gR h10 v0 7 2).bind fun x11 => (vI 95 v0 [.ref x11] h10).bind fun q12 => some (some (.int q12.1), q12.2)) else ((gR h10 v0 7 2).bind fun x13 => (vI 94 v0 [.ref x13] h10).bind fun q14 => some (some (.int q14.1), q14.2))) else ((gR q1.2 v0 7 6).bind fun x15 => (gR q1.2 x15 5 2).bind fun x16 => (cAldI false q1.2 x16 v2).bind fun x17 => some (some (.int x17), q1.2))) else ((gR q1.2 v0 7 6).bind fun x18 => (gR q1.2 x18 5 1).bind fun x19 => (cAldI false q1.2 x19 v2).bind fun x20 => some (some (.int x20), q1.2))) else (some (some (.int (-9)), q1.2)))) else (some (some (.int q1.1), q1.2))) else (some (some (.int (-1)), h))) := by
  show D 73 0 (mEnt 73 [.ref v0, .int v1, .int v2, .int v3]) [] h 0 0 = _
  rw [show mEnt 73 [.ref v0, .int v1, .int v2, .int v3] = [some (.ref v0), some (.int v1), some (.int v2), some (.int v3), none] from rfl]
  refine e_iload_n (pc' := 1) k73_0 rfl rfl ?_
  refine e_iflt (t := 9) (pc' := 4) k73_1 rfl (by decide) (fun _ => ?_) (fun _ => ?_)
  · refine e_iconst (v := -1) (pc' := 10) k73_9 rfl rfl ?_
    exact e_iret k73_10 (by decide +kernel)
  · refine e_iload_n (pc' := 5) k73_4 rfl rfl ?_
    refine e_iconst (v := 3) (pc' := 6) k73_5 rfl rfl ?_
    refine e_icmple (t := 11) (pc' := 9) k73_6 rfl (by decide) (fun _ => ?_) (fun _ => ?_)
    · refine e_aload_n (pc' := 12) k73_11 rfl rfl ?_
      refine e_iload_n (pc' := 13) k73_12 rfl rfl ?_
      refine e_vI (j' := 93) (as := [.int v1]) (rest := []) (pc' := 16) k73_13 rfl (show mCk 73 1 204 93 1 = true by decide +kernel) (Or.inl (by decide +kernel)) rfl (Nat.le_of_ble_eq_true rfl) (show 2 ≤ mL 93 by decide +kernel) (fun q1 => ?_)
      refine e_istore (pc' := 18) k73_16 rfl rfl ?_
      refine e_iload (pc' := 20) k73_18 rfl rfl ?_
      refine e_ifeq (t := 26) (pc' := 23) k73_20 rfl (by decide) (fun _ => ?_) (fun _ => ?_)
      · refine e_iload_n (pc' := 27) k73_26 rfl rfl ?_
        refine e_iflt (t := 41) (pc' := 30) k73_27 rfl (by decide) (fun _ => ?_) (fun _ => ?_)
        · refine e_bipush (v := -9) (pc' := 43) k73_41 rfl rfl ?_
          exact e_iret k73_43 (by decide +kernel)
        · refine e_iload_n (pc' := 31) k73_30 rfl rfl ?_
          refine e_aload_n (pc' := 32) k73_31 rfl rfl ?_
          refine e_getR (pc' := 35) k73_32 rfl (ci := 7) (k := 6) (by decide +kernel) (by decide +kernel) (fun x2 => ?_)
          refine e_getI (pc' := 38) k73_35 rfl (ci := 5) (k := 6) (by decide +kernel) (by decide +kernel) (fun x3 => ?_)
          refine e_icmplt (t := 44) (pc' := 41) k73_38 rfl (by decide) (fun _ => ?_) (fun _ => ?_)
          · refine e_iload_n (pc' := 45) k73_44 rfl rfl ?_
            refine e_ifne (t := 58) (pc' := 48) k73_45 rfl (by decide) (fun _ => ?_) (fun _ => ?_)
            · refine e_iload_n (pc' := 59) k73_58 rfl rfl ?_
              refine e_iconst (v := 1) (pc' := 60) k73_59 rfl rfl ?_
              refine e_icmpne (t := 73) (pc' := 63) k73_60 rfl (by decide) (fun _ => ?_) (fun _ => ?_)
              · refine e_aload_n (pc' := 74) k73_73 rfl rfl ?_
                refine e_getR (pc' := 77) k73_74 rfl (ci := 7) (k := 2) (by decide +kernel) (by decide +kernel) (fun x4 => ?_)
                refine e_aload_n (pc' := 78) k73_77 rfl rfl ?_
                refine e_getR (pc' := 81) k73_78 rfl (ci := 7) (k := 6) (by decide +kernel) (by decide +kernel) (fun x5 => ?_)
                refine e_getI (pc' := 84) k73_81 rfl (ci := 5) (k := 5) (by decide +kernel) (by decide +kernel) (fun x6 => ?_)
                refine e_aload_n (pc' := 85) k73_84 rfl rfl ?_
                refine e_getR (pc' := 88) k73_85 rfl (ci := 7) (k := 6) (by decide +kernel) (by decide +kernel) (fun x7 => ?_)
                refine e_getR (pc' := 91) k73_88 rfl (ci := 5) (k := 0) (by decide +kernel) (by decide +kernel) (fun x8 => ?_)
                refine e_iload_n (pc' := 92) k73_91 rfl rfl ?_
                refine e_lald (pc' := 93) k73_92 rfl (fun x9 => ?_)
                refine e_vV (j' := 22) (as := [.int x6, .long x9]) (rest := []) (pc' := 96) k73_93 rfl (show mCk 73 1 219 22 2 = true by decide +kernel) (by decide +kernel) rfl (Nat.le_of_ble_eq_true rfl) (show 4 ≤ mL 22 by decide +kernel) (fun h10 => ?_)
                refine e_iload_n (pc' := 97) k73_96 rfl rfl ?_
                refine e_iconst (v := 2) (pc' := 98) k73_97 rfl rfl ?_
                refine e_icmpne (t := 112) (pc' := 101) k73_98 rfl (by decide) (fun _ => ?_) (fun _ => ?_)
                · refine e_aload_n (pc' := 113) k73_112 rfl rfl ?_
                  refine e_aload_n (pc' := 114) k73_113 rfl rfl ?_
                  refine e_getR (pc' := 117) k73_114 rfl (ci := 7) (k := 2) (by decide +kernel) (by decide +kernel) (fun x11 => ?_)
                  refine e_vI (j' := 95) (as := [.ref x11]) (rest := []) (pc' := 120) k73_117 rfl (show mCk 73 1 227 95 1 = true by decide +kernel) (Or.inl (by decide +kernel)) rfl (Nat.le_of_ble_eq_true rfl) (show 2 ≤ mL 95 by decide +kernel) (fun q12 => ?_)
                  exact e_iret k73_120 (by decide +kernel)
                · refine e_aload_n (pc' := 102) k73_101 rfl rfl ?_
                  refine e_aload_n (pc' := 103) k73_102 rfl rfl ?_
                  refine e_getR (pc' := 106) k73_103 rfl (ci := 7) (k := 2) (by decide +kernel) (by decide +kernel) (fun x13 => ?_)
                  refine e_vI (j' := 94) (as := [.ref x13]) (rest := []) (pc' := 109) k73_106 rfl (show mCk 73 1 223 94 1 = true by decide +kernel) (Or.inl (by decide +kernel)) rfl (Nat.le_of_ble_eq_true rfl) (show 2 ≤ mL 94 by decide +kernel) (fun q14 => ?_)
                  refine e_goto (pc' := 120) k73_109 (by decide) ?_
                  exact e_iret k73_120 (by decide +kernel)
              · refine e_aload_n (pc' := 64) k73_63 rfl rfl ?_
                refine e_getR (pc' := 67) k73_64 rfl (ci := 7) (k := 6) (by decide +kernel) (by decide +kernel) (fun x15 => ?_)
                refine e_getR (pc' := 70) k73_67 rfl (ci := 5) (k := 2) (by decide +kernel) (by decide +kernel) (fun x16 => ?_)
                refine e_iload_n (pc' := 71) k73_70 rfl rfl ?_
                refine e_iald (pc' := 72) k73_71 rfl (lw := false) rfl (fun x17 => ?_)
                exact e_iret k73_72 (by decide +kernel)
            · refine e_aload_n (pc' := 49) k73_48 rfl rfl ?_
              refine e_getR (pc' := 52) k73_49 rfl (ci := 7) (k := 6) (by decide +kernel) (by decide +kernel) (fun x18 => ?_)
              refine e_getR (pc' := 55) k73_52 rfl (ci := 5) (k := 1) (by decide +kernel) (by decide +kernel) (fun x19 => ?_)
              refine e_iload_n (pc' := 56) k73_55 rfl rfl ?_
              refine e_iald (pc' := 57) k73_56 rfl (lw := false) rfl (fun x20 => ?_)
              exact e_iret k73_57 (by decide +kernel)
          · refine e_bipush (v := -9) (pc' := 43) k73_41 rfl rfl ?_
            exact e_iret k73_43 (by decide +kernel)
      · refine e_iload (pc' := 25) k73_23 rfl rfl ?_
        exact e_iret k73_25 (by decide +kernel)
    · refine e_iconst (v := -1) (pc' := 10) k73_9 rfl rfl ?_
      exact e_iret k73_10 (by decide +kernel)
theorem k74_0 : decode (mB 74) 0 = .ok (.aload_n 0, 1) := by decide +kernel
theorem k74_1 : decode (mB 74) 1 = .ok (.iload_n 1, 1) := by decide +kernel
theorem k74_2 : decode (mB 74) 2 = .ok (.invokevirtual 204, 3) := by decide +kernel
theorem k74_5 : decode (mB 74) 5 = .ok (.istore_n 2, 1) := by decide +kernel
theorem k74_6 : decode (mB 74) 6 = .ok (.iload_n 2, 1) := by decide +kernel
theorem k74_7 : decode (mB 74) 7 = .ok (.ifCond .eq 7, 3) := by decide +kernel
theorem k74_10 : decode (mB 74) 10 = .ok (.iload_n 2, 1) := by decide +kernel
theorem k74_11 : decode (mB 74) 11 = .ok (.goto 10, 3) := by decide +kernel
theorem k74_14 : decode (mB 74) 14 = .ok (.aload_n 0, 1) := by decide +kernel
theorem k74_15 : decode (mB 74) 15 = .ok (.getfield 50, 3) := by decide +kernel
theorem k74_18 : decode (mB 74) 18 = .ok (.invokevirtual 230, 3) := by decide +kernel
theorem k74_21 : decode (mB 74) 21 = .ok (.ireturn, 1) := by decide +kernel
/-- SquareGrounds.cusps(I)I -/
theorem F74_eq (v0 : Nat) (v1 : Int32) (h : mHeap) : F 74 [.ref v0, .int v1] h = (vI 93 v0 [.int v1] h).bind fun q1 => if (q1.1 : Int32) = 0 then ((gR q1.2 v0 7 6).bind fun x2 => (vI 41 x2 [] q1.2).bind fun q3 => some (some (.int q3.1), q3.2)) else (some (some (.int q1.1), q1.2)) := by
  show D 74 0 (mEnt 74 [.ref v0, .int v1]) [] h 0 0 = _
  rw [show mEnt 74 [.ref v0, .int v1] = [some (.ref v0), some (.int v1), none] from rfl]
  refine e_aload_n (pc' := 1) k74_0 rfl rfl ?_
  refine e_iload_n (pc' := 2) k74_1 rfl rfl ?_
  refine e_vI (j' := 93) (as := [.int v1]) (rest := []) (pc' := 5) k74_2 rfl (show mCk 74 1 204 93 1 = true by decide +kernel) (Or.inl (by decide +kernel)) rfl (Nat.le_of_ble_eq_true rfl) (show 2 ≤ mL 93 by decide +kernel) (fun q1 => ?_)
  refine e_istore_n (pc' := 6) k74_5 rfl rfl ?_
  refine e_iload_n (pc' := 7) k74_6 rfl rfl ?_
  refine e_ifeq (t := 14) (pc' := 10) k74_7 rfl (by decide) (fun _ => ?_) (fun _ => ?_)
  · refine e_aload_n (pc' := 15) k74_14 rfl rfl ?_
    refine e_getR (pc' := 18) k74_15 rfl (ci := 7) (k := 6) (by decide +kernel) (by decide +kernel) (fun x2 => ?_)
    refine e_vI (j' := 41) (as := []) (rest := []) (pc' := 21) k74_18 rfl (show mCk 74 1 230 41 0 = true by decide +kernel) (Or.inl (by decide +kernel)) rfl (Nat.le_of_ble_eq_true rfl) (show 1 ≤ mL 41 by decide +kernel) (fun q3 => ?_)
    exact e_iret k74_21 (by decide +kernel)
  · refine e_iload_n (pc' := 11) k74_10 rfl rfl ?_
    refine e_goto (pc' := 21) k74_11 (by decide) ?_
    exact e_iret k74_21 (by decide +kernel)
theorem k75_0 : decode (mB 75) 0 = .ok (.aload_n 0, 1) := by decide +kernel
theorem k75_1 : decode (mB 75) 1 = .ok (.iload_n 1, 1) := by decide +kernel
theorem k75_2 : decode (mB 75) 2 = .ok (.invokevirtual 204, 3) := by decide +kernel
theorem k75_5 : decode (mB 75) 5 = .ok (.istore_n 3, 1) := by decide +kernel
theorem k75_6 : decode (mB 75) 6 = .ok (.iload_n 3, 1) := by decide +kernel
theorem k75_7 : decode (mB 75) 7 = .ok (.ifCond .eq 5, 3) := by decide +kernel
theorem k75_10 : decode (mB 75) 10 = .ok (.iload_n 3, 1) := by decide +kernel
theorem k75_11 : decode (mB 75) 11 = .ok (.ireturn, 1) := by decide +kernel
theorem k75_12 : decode (mB 75) 12 = .ok (.aload_n 0, 1) := by decide +kernel
theorem k75_13 : decode (mB 75) 13 = .ok (.getfield 50, 3) := by decide +kernel
theorem k75_16 : decode (mB 75) 16 = .ok (.iload_n 2, 1) := by decide +kernel
theorem k75_17 : decode (mB 75) 17 = .ok (.invokevirtual 233, 3) := by decide +kernel
theorem k75_20 : decode (mB 75) 20 = .ok (.istore 4, 2) := by decide +kernel
theorem k75_22 : decode (mB 75) 22 = .ok (.iload 4, 2) := by decide +kernel
theorem k75_24 : decode (mB 75) 24 = .ok (.ifCond .ne 8, 3) := by decide +kernel
theorem k75_27 : decode (mB 75) 27 = .ok (.bipush (-9), 2) := by decide +kernel
theorem k75_29 : decode (mB 75) 29 = .ok (.goto 5, 3) := by decide +kernel
theorem k75_32 : decode (mB 75) 32 = .ok (.iload 4, 2) := by decide +kernel
theorem k75_34 : decode (mB 75) 34 = .ok (.ireturn, 1) := by decide +kernel
/-- SquareGrounds.width(II)I -/
theorem F75_eq (v0 : Nat) (v1 : Int32) (v2 : Int32) (h : mHeap) : F 75 [.ref v0, .int v1, .int v2] h = (vI 93 v0 [.int v1] h).bind fun q1 => if (q1.1 : Int32) = 0 then ((gR q1.2 v0 7 6).bind fun x2 => (vI 42 x2 [.int v2] q1.2).bind fun q3 => if ¬ (q3.1 : Int32) = 0 then (some (some (.int q3.1), q3.2)) else (some (some (.int (-9)), q3.2))) else (some (some (.int q1.1), q1.2)) := by
  show D 75 0 (mEnt 75 [.ref v0, .int v1, .int v2]) [] h 0 0 = _
  rw [show mEnt 75 [.ref v0, .int v1, .int v2] = [some (.ref v0), some (.int v1), some (.int v2), none, none] from rfl]
  refine e_aload_n (pc' := 1) k75_0 rfl rfl ?_
  refine e_iload_n (pc' := 2) k75_1 rfl rfl ?_
  refine e_vI (j' := 93) (as := [.int v1]) (rest := []) (pc' := 5) k75_2 rfl (show mCk 75 1 204 93 1 = true by decide +kernel) (Or.inl (by decide +kernel)) rfl (Nat.le_of_ble_eq_true rfl) (show 2 ≤ mL 93 by decide +kernel) (fun q1 => ?_)
  refine e_istore_n (pc' := 6) k75_5 rfl rfl ?_
  refine e_iload_n (pc' := 7) k75_6 rfl rfl ?_
  refine e_ifeq (t := 12) (pc' := 10) k75_7 rfl (by decide) (fun _ => ?_) (fun _ => ?_)
  · refine e_aload_n (pc' := 13) k75_12 rfl rfl ?_
    refine e_getR (pc' := 16) k75_13 rfl (ci := 7) (k := 6) (by decide +kernel) (by decide +kernel) (fun x2 => ?_)
    refine e_iload_n (pc' := 17) k75_16 rfl rfl ?_
    refine e_vI (j' := 42) (as := [.int v2]) (rest := []) (pc' := 20) k75_17 rfl (show mCk 75 1 233 42 1 = true by decide +kernel) (Or.inl (by decide +kernel)) rfl (Nat.le_of_ble_eq_true rfl) (show 2 ≤ mL 42 by decide +kernel) (fun q3 => ?_)
    refine e_istore (pc' := 22) k75_20 rfl rfl ?_
    refine e_iload (pc' := 24) k75_22 rfl rfl ?_
    refine e_ifne (t := 32) (pc' := 27) k75_24 rfl (by decide) (fun _ => ?_) (fun _ => ?_)
    · refine e_iload (pc' := 34) k75_32 rfl rfl ?_
      exact e_iret k75_34 (by decide +kernel)
    · refine e_bipush (v := -9) (pc' := 29) k75_27 rfl rfl ?_
      refine e_goto (pc' := 34) k75_29 (by decide) ?_
      exact e_iret k75_34 (by decide +kernel)
  · refine e_iload_n (pc' := 11) k75_10 rfl rfl ?_
    exact e_iret k75_11 (by decide +kernel)
theorem k76_0 : decode (mB 76) 0 = .ok (.aload_n 0, 1) := by decide +kernel
theorem k76_1 : decode (mB 76) 1 = .ok (.iload_n 1, 1) := by decide +kernel
theorem k76_2 : decode (mB 76) 2 = .ok (.invokevirtual 204, 3) := by decide +kernel
theorem k76_5 : decode (mB 76) 5 = .ok (.istore_n 2, 1) := by decide +kernel
theorem k76_6 : decode (mB 76) 6 = .ok (.iload_n 2, 1) := by decide +kernel
theorem k76_7 : decode (mB 76) 7 = .ok (.ifCond .eq 5, 3) := by decide +kernel
theorem k76_10 : decode (mB 76) 10 = .ok (.iload_n 2, 1) := by decide +kernel
theorem k76_11 : decode (mB 76) 11 = .ok (.ireturn, 1) := by decide +kernel
theorem k76_12 : decode (mB 76) 12 = .ok (.aload_n 0, 1) := by decide +kernel
theorem k76_13 : decode (mB 76) 13 = .ok (.getfield 57, 3) := by decide +kernel
theorem k76_16 : decode (mB 76) 16 = .ok (.aload_n 0, 1) := by decide +kernel
theorem k76_17 : decode (mB 76) 17 = .ok (.invokevirtual 236, 3) := by decide +kernel
theorem k76_20 : decode (mB 76) 20 = .ok (.ldc2_w 198, 3) := by decide +kernel
theorem k76_23 : decode (mB 76) 23 = .ok (.aload_n 0, 1) := by decide +kernel
theorem k76_24 : decode (mB 76) 24 = .ok (.getfield 50, 3) := by decide +kernel
theorem k76_27 : decode (mB 76) 27 = .ok (.getfield 207, 3) := by decide +kernel
theorem k76_30 : decode (mB 76) 30 = .ok (.i2l, 1) := by decide +kernel
theorem k76_31 : decode (mB 76) 31 = .ok (.lmul, 1) := by decide +kernel
theorem k76_32 : decode (mB 76) 32 = .ok (.invokevirtual 200, 3) := by decide +kernel
theorem k76_35 : decode (mB 76) 35 = .ok (.iconst 1, 1) := by decide +kernel
theorem k76_36 : decode (mB 76) 36 = .ok (.ireturn, 1) := by decide +kernel
/-- SquareGrounds.meanShare(I)I -/
theorem F76_eq (v0 : Nat) (v1 : Int32) (h : mHeap) : F 76 [.ref v0, .int v1] h = (vI 93 v0 [.int v1] h).bind fun q1 => if (q1.1 : Int32) = 0 then ((gR q1.2 v0 7 7).bind fun x2 => (vL 96 v0 [] q1.2).bind fun q3 => (gR q3.2 v0 7 6).bind fun x4 => (gI q3.2 x4 5 6).bind fun x5 => (vV 16 x2 [.long q3.1, .long (840 * (Int32.toInt64 x5))] q3.2).bind fun h6 => some (some (.int 1), h6)) else (some (some (.int q1.1), q1.2)) := by
  show D 76 0 (mEnt 76 [.ref v0, .int v1]) [] h 0 0 = _
  rw [show mEnt 76 [.ref v0, .int v1] = [some (.ref v0), some (.int v1), none] from rfl]
  refine e_aload_n (pc' := 1) k76_0 rfl rfl ?_
  refine e_iload_n (pc' := 2) k76_1 rfl rfl ?_
  refine e_vI (j' := 93) (as := [.int v1]) (rest := []) (pc' := 5) k76_2 rfl (show mCk 76 1 204 93 1 = true by decide +kernel) (Or.inl (by decide +kernel)) rfl (Nat.le_of_ble_eq_true rfl) (show 2 ≤ mL 93 by decide +kernel) (fun q1 => ?_)
  refine e_istore_n (pc' := 6) k76_5 rfl rfl ?_
  refine e_iload_n (pc' := 7) k76_6 rfl rfl ?_
  refine e_ifeq (t := 12) (pc' := 10) k76_7 rfl (by decide) (fun _ => ?_) (fun _ => ?_)
  · refine e_aload_n (pc' := 13) k76_12 rfl rfl ?_
    refine e_getR (pc' := 16) k76_13 rfl (ci := 7) (k := 7) (by decide +kernel) (by decide +kernel) (fun x2 => ?_)
    refine e_aload_n (pc' := 17) k76_16 rfl rfl ?_
    refine e_vL (j' := 96) (as := []) (rest := [.ref x2]) (pc' := 20) k76_17 rfl (show mCk 76 1 236 96 0 = true by decide +kernel) (by decide +kernel) rfl (Nat.le_of_ble_eq_true rfl) (show 1 ≤ mL 96 by decide +kernel) (fun q3 => ?_)
    refine e_ldc2 (v := 840) (pc' := 23) k76_20 rfl (by decide +kernel) ?_
    refine e_aload_n (pc' := 24) k76_23 rfl rfl ?_
    refine e_getR (pc' := 27) k76_24 rfl (ci := 7) (k := 6) (by decide +kernel) (by decide +kernel) (fun x4 => ?_)
    refine e_getI (pc' := 30) k76_27 rfl (ci := 5) (k := 6) (by decide +kernel) (by decide +kernel) (fun x5 => ?_)
    refine e_i2l (pc' := 31) k76_30 rfl ?_
    refine e_lmul (pc' := 32) k76_31 rfl ?_
    refine e_vV (j' := 16) (as := [.long q3.1, .long (840 * (Int32.toInt64 x5))]) (rest := []) (pc' := 35) k76_32 rfl (show mCk 76 1 200 16 2 = true by decide +kernel) (by decide +kernel) rfl (Nat.le_of_ble_eq_true rfl) (show 5 ≤ mL 16 by decide +kernel) (fun h6 => ?_)
    refine e_iconst (v := 1) (pc' := 36) k76_35 rfl rfl ?_
    exact e_iret k76_36 (by decide +kernel)
  · refine e_iload_n (pc' := 11) k76_10 rfl rfl ?_
    exact e_iret k76_11 (by decide +kernel)
theorem k77_0 : decode (mB 77) 0 = .ok (.aload_n 0, 1) := by decide +kernel
theorem k77_1 : decode (mB 77) 1 = .ok (.iload_n 1, 1) := by decide +kernel
theorem k77_2 : decode (mB 77) 2 = .ok (.invokevirtual 204, 3) := by decide +kernel
theorem k77_5 : decode (mB 77) 5 = .ok (.istore_n 2, 1) := by decide +kernel
theorem k77_6 : decode (mB 77) 6 = .ok (.iload_n 2, 1) := by decide +kernel
theorem k77_7 : decode (mB 77) 7 = .ok (.ifCond .eq 5, 3) := by decide +kernel
theorem k77_10 : decode (mB 77) 10 = .ok (.iload_n 2, 1) := by decide +kernel
theorem k77_11 : decode (mB 77) 11 = .ok (.ireturn, 1) := by decide +kernel
theorem k77_12 : decode (mB 77) 12 = .ok (.aload_n 0, 1) := by decide +kernel
theorem k77_13 : decode (mB 77) 13 = .ok (.getfield 29, 3) := by decide +kernel
theorem k77_16 : decode (mB 77) 16 = .ok (.aload_n 0, 1) := by decide +kernel
theorem k77_17 : decode (mB 77) 17 = .ok (.getfield 17, 3) := by decide +kernel
theorem k77_20 : decode (mB 77) 20 = .ok (.iload_n 1, 1) := by decide +kernel
theorem k77_21 : decode (mB 77) 21 = .ok (.aaload, 1) := by decide +kernel
theorem k77_22 : decode (mB 77) 22 = .ok (.invokevirtual 132, 3) := by decide +kernel
theorem k77_25 : decode (mB 77) 25 = .ok (.aload_n 0, 1) := by decide +kernel
theorem k77_26 : decode (mB 77) 26 = .ok (.getfield 29, 3) := by decide +kernel
theorem k77_29 : decode (mB 77) 29 = .ok (.getfield 239, 3) := by decide +kernel
theorem k77_32 : decode (mB 77) 32 = .ok (.aload_n 0, 1) := by decide +kernel
theorem k77_33 : decode (mB 77) 33 = .ok (.getfield 50, 3) := by decide +kernel
theorem k77_36 : decode (mB 77) 36 = .ok (.getfield 207, 3) := by decide +kernel
theorem k77_39 : decode (mB 77) 39 = .ok (.i2l, 1) := by decide +kernel
theorem k77_40 : decode (mB 77) 40 = .ok (.lmul, 1) := by decide +kernel
theorem k77_41 : decode (mB 77) 41 = .ok (.lstore_n 3, 1) := by decide +kernel
theorem k77_42 : decode (mB 77) 42 = .ok (.aload_n 0, 1) := by decide +kernel
theorem k77_43 : decode (mB 77) 43 = .ok (.getfield 57, 3) := by decide +kernel
theorem k77_46 : decode (mB 77) 46 = .ok (.lload_n 3, 1) := by decide +kernel
theorem k77_47 : decode (mB 77) 47 = .ok (.ldc2_w 241, 3) := by decide +kernel
theorem k77_50 : decode (mB 77) 50 = .ok (.aload_n 0, 1) := by decide +kernel
theorem k77_51 : decode (mB 77) 51 = .ok (.invokevirtual 236, 3) := by decide +kernel
theorem k77_54 : decode (mB 77) 54 = .ok (.lmul, 1) := by decide +kernel
theorem k77_55 : decode (mB 77) 55 = .ok (.ladd, 1) := by decide +kernel
theorem k77_56 : decode (mB 77) 56 = .ok (.ldc2_w 243, 3) := by decide +kernel
theorem k77_59 : decode (mB 77) 59 = .ok (.aload_n 0, 1) := by decide +kernel
theorem k77_60 : decode (mB 77) 60 = .ok (.getfield 50, 3) := by decide +kernel
theorem k77_63 : decode (mB 77) 63 = .ok (.getfield 207, 3) := by decide +kernel
theorem k77_66 : decode (mB 77) 66 = .ok (.i2l, 1) := by decide +kernel
theorem k77_67 : decode (mB 77) 67 = .ok (.lmul, 1) := by decide +kernel
theorem k77_68 : decode (mB 77) 68 = .ok (.invokevirtual 200, 3) := by decide +kernel
theorem k77_71 : decode (mB 77) 71 = .ok (.iconst 1, 1) := by decide +kernel
theorem k77_72 : decode (mB 77) 72 = .ok (.ireturn, 1) := by decide +kernel
/-- SquareGrounds.twist(I)I -/
theorem F77_eq (v0 : Nat) (v1 : Int32) (h : mHeap) : F 77 [.ref v0, .int v1] h = (vI 93 v0 [.int v1] h).bind fun q1 => if (q1.1 : Int32) = 0 then ((gR q1.2 v0 7 3).bind fun x2 => (gR q1.2 v0 7 1).bind fun x3 => (cAldR q1.2 x3 v1).bind fun x4 => (vV 1 x2 [.ref x4] q1.2).bind fun h5 => (gR h5 v0 7 3).bind fun x6 => (gL h5 x6 0 6).bind fun x7 => (gR h5 v0 7 6).bind fun x8 => (gI h5 x8 5 6).bind fun x9 => (gR h5 v0 7 7).bind fun x10 => (vL 96 v0 [] h5).bind fun q11 => (gR q11.2 v0 7 6).bind fun x12 => (gI q11.2 x12 5 6).bind fun x13 => (vV 16 x10 [.long ((x7 * (Int32.toInt64 x9)) + (12 * q11.1)), .long (10080 * (Int32.toInt64 x13))] q11.2).bind fun h14 => some (some (.int 1), h14)) else (some (some (.int q1.1), q1.2)) := by
  show D 77 0 (mEnt 77 [.ref v0, .int v1]) [] h 0 0 = _
  rw [show mEnt 77 [.ref v0, .int v1] = [some (.ref v0), some (.int v1), none, none, none] from rfl]
  refine e_aload_n (pc' := 1) k77_0 rfl rfl ?_
  refine e_iload_n (pc' := 2) k77_1 rfl rfl ?_
  refine e_vI (j' := 93) (as := [.int v1]) (rest := []) (pc' := 5) k77_2 rfl (show mCk 77 1 204 93 1 = true by decide +kernel) (Or.inl (by decide +kernel)) rfl (Nat.le_of_ble_eq_true rfl) (show 2 ≤ mL 93 by decide +kernel) (fun q1 => ?_)
  refine e_istore_n (pc' := 6) k77_5 rfl rfl ?_
  refine e_iload_n (pc' := 7) k77_6 rfl rfl ?_
  refine e_ifeq (t := 12) (pc' := 10) k77_7 rfl (by decide) (fun _ => ?_) (fun _ => ?_)
  · refine e_aload_n (pc' := 13) k77_12 rfl rfl ?_
    refine e_getR (pc' := 16) k77_13 rfl (ci := 7) (k := 3) (by decide +kernel) (by decide +kernel) (fun x2 => ?_)
    refine e_aload_n (pc' := 17) k77_16 rfl rfl ?_
    refine e_getR (pc' := 20) k77_17 rfl (ci := 7) (k := 1) (by decide +kernel) (by decide +kernel) (fun x3 => ?_)
    refine e_iload_n (pc' := 21) k77_20 rfl rfl ?_
    refine e_aald (pc' := 22) k77_21 rfl (fun x4 => ?_)
    refine e_vV (j' := 1) (as := [.ref x4]) (rest := []) (pc' := 25) k77_22 rfl (show mCk 77 1 132 1 1 = true by decide +kernel) (by decide +kernel) rfl (Nat.le_of_ble_eq_true rfl) (show 2 ≤ mL 1 by decide +kernel) (fun h5 => ?_)
    refine e_aload_n (pc' := 26) k77_25 rfl rfl ?_
    refine e_getR (pc' := 29) k77_26 rfl (ci := 7) (k := 3) (by decide +kernel) (by decide +kernel) (fun x6 => ?_)
    refine e_getL (pc' := 32) k77_29 rfl (ci := 0) (k := 6) (by decide +kernel) (by decide +kernel) (fun x7 => ?_)
    refine e_aload_n (pc' := 33) k77_32 rfl rfl ?_
    refine e_getR (pc' := 36) k77_33 rfl (ci := 7) (k := 6) (by decide +kernel) (by decide +kernel) (fun x8 => ?_)
    refine e_getI (pc' := 39) k77_36 rfl (ci := 5) (k := 6) (by decide +kernel) (by decide +kernel) (fun x9 => ?_)
    refine e_i2l (pc' := 40) k77_39 rfl ?_
    refine e_lmul (pc' := 41) k77_40 rfl ?_
    refine e_lstore_n (pc' := 42) k77_41 rfl rfl ?_
    refine e_aload_n (pc' := 43) k77_42 rfl rfl ?_
    refine e_getR (pc' := 46) k77_43 rfl (ci := 7) (k := 7) (by decide +kernel) (by decide +kernel) (fun x10 => ?_)
    refine e_lload_n (pc' := 47) k77_46 rfl rfl ?_
    refine e_ldc2 (v := 12) (pc' := 50) k77_47 rfl (by decide +kernel) ?_
    refine e_aload_n (pc' := 51) k77_50 rfl rfl ?_
    refine e_vL (j' := 96) (as := []) (rest := [.long 12, .long (x7 * (Int32.toInt64 x9)), .ref x10]) (pc' := 54) k77_51 rfl (show mCk 77 1 236 96 0 = true by decide +kernel) (by decide +kernel) rfl (Nat.le_of_ble_eq_true rfl) (show 1 ≤ mL 96 by decide +kernel) (fun q11 => ?_)
    refine e_lmul (pc' := 55) k77_54 rfl ?_
    refine e_ladd (pc' := 56) k77_55 rfl ?_
    refine e_ldc2 (v := 10080) (pc' := 59) k77_56 rfl (by decide +kernel) ?_
    refine e_aload_n (pc' := 60) k77_59 rfl rfl ?_
    refine e_getR (pc' := 63) k77_60 rfl (ci := 7) (k := 6) (by decide +kernel) (by decide +kernel) (fun x12 => ?_)
    refine e_getI (pc' := 66) k77_63 rfl (ci := 5) (k := 6) (by decide +kernel) (by decide +kernel) (fun x13 => ?_)
    refine e_i2l (pc' := 67) k77_66 rfl ?_
    refine e_lmul (pc' := 68) k77_67 rfl ?_
    refine e_vV (j' := 16) (as := [.long ((x7 * (Int32.toInt64 x9)) + (12 * q11.1)), .long (10080 * (Int32.toInt64 x13))]) (rest := []) (pc' := 71) k77_68 rfl (show mCk 77 1 200 16 2 = true by decide +kernel) (by decide +kernel) rfl (Nat.le_of_ble_eq_true rfl) (show 5 ≤ mL 16 by decide +kernel) (fun h14 => ?_)
    refine e_iconst (v := 1) (pc' := 72) k77_71 rfl rfl ?_
    exact e_iret k77_72 (by decide +kernel)
  · refine e_iload_n (pc' := 11) k77_10 rfl rfl ?_
    exact e_iret k77_11 (by decide +kernel)
theorem k78_0 : decode (mB 78) 0 = .ok (.iload_n 1, 1) := by decide +kernel
theorem k78_1 : decode (mB 78) 1 = .ok (.invokestatic 106, 3) := by decide +kernel
theorem k78_4 : decode (mB 78) 4 = .ok (.ifCond .eq 10, 3) := by decide +kernel
theorem k78_7 : decode (mB 78) 7 = .ok (.iload_n 2, 1) := by decide +kernel
theorem k78_8 : decode (mB 78) 8 = .ok (.invokestatic 106, 3) := by decide +kernel
theorem k78_11 : decode (mB 78) 11 = .ok (.ifCond .ne 5, 3) := by decide +kernel
theorem k78_14 : decode (mB 78) 14 = .ok (.iconst (-1), 1) := by decide +kernel
theorem k78_15 : decode (mB 78) 15 = .ok (.ireturn, 1) := by decide +kernel
theorem k78_16 : decode (mB 78) 16 = .ok (.aload_n 0, 1) := by decide +kernel
theorem k78_17 : decode (mB 78) 17 = .ok (.getfield 17, 3) := by decide +kernel
theorem k78_20 : decode (mB 78) 20 = .ok (.iload_n 2, 1) := by decide +kernel
theorem k78_21 : decode (mB 78) 21 = .ok (.aaload, 1) := by decide +kernel
theorem k78_22 : decode (mB 78) 22 = .ok (.invokevirtual 120, 3) := by decide +kernel
theorem k78_25 : decode (mB 78) 25 = .ok (.ifCond .eq 9, 3) := by decide +kernel
theorem k78_28 : decode (mB 78) 28 = .ok (.aload_n 0, 1) := by decide +kernel
theorem k78_29 : decode (mB 78) 29 = .ok (.iconst 1, 1) := by decide +kernel
theorem k78_30 : decode (mB 78) 30 = .ok (.invokevirtual 74, 3) := by decide +kernel
theorem k78_33 : decode (mB 78) 33 = .ok (.ireturn, 1) := by decide +kernel
theorem k78_34 : decode (mB 78) 34 = .ok (.aload_n 0, 1) := by decide +kernel
theorem k78_35 : decode (mB 78) 35 = .ok (.iload_n 1, 1) := by decide +kernel
theorem k78_36 : decode (mB 78) 36 = .ok (.invokevirtual 204, 3) := by decide +kernel
theorem k78_39 : decode (mB 78) 39 = .ok (.istore_n 3, 1) := by decide +kernel
theorem k78_40 : decode (mB 78) 40 = .ok (.iload_n 3, 1) := by decide +kernel
theorem k78_41 : decode (mB 78) 41 = .ok (.ifCond .eq 5, 3) := by decide +kernel
theorem k78_44 : decode (mB 78) 44 = .ok (.iload_n 3, 1) := by decide +kernel
theorem k78_45 : decode (mB 78) 45 = .ok (.ireturn, 1) := by decide +kernel
theorem k78_46 : decode (mB 78) 46 = .ok (.aload_n 0, 1) := by decide +kernel
theorem k78_47 : decode (mB 78) 47 = .ok (.getfield 36, 3) := by decide +kernel
theorem k78_50 : decode (mB 78) 50 = .ok (.aload_n 0, 1) := by decide +kernel
theorem k78_51 : decode (mB 78) 51 = .ok (.getfield 17, 3) := by decide +kernel
theorem k78_54 : decode (mB 78) 54 = .ok (.iload_n 2, 1) := by decide +kernel
theorem k78_55 : decode (mB 78) 55 = .ok (.aaload, 1) := by decide +kernel
theorem k78_56 : decode (mB 78) 56 = .ok (.invokevirtual 126, 3) := by decide +kernel
theorem k78_59 : decode (mB 78) 59 = .ok (.aload_n 0, 1) := by decide +kernel
theorem k78_60 : decode (mB 78) 60 = .ok (.getfield 50, 3) := by decide +kernel
theorem k78_63 : decode (mB 78) 63 = .ok (.getfield 214, 3) := by decide +kernel
theorem k78_66 : decode (mB 78) 66 = .ok (.aload_n 0, 1) := by decide +kernel
theorem k78_67 : decode (mB 78) 67 = .ok (.getfield 17, 3) := by decide +kernel
theorem k78_70 : decode (mB 78) 70 = .ok (.iload_n 2, 1) := by decide +kernel
theorem k78_71 : decode (mB 78) 71 = .ok (.aaload, 1) := by decide +kernel
theorem k78_72 : decode (mB 78) 72 = .ok (.getfield 117, 3) := by decide +kernel
theorem k78_75 : decode (mB 78) 75 = .ok (.if_icmp .ne 20, 3) := by decide +kernel
theorem k78_78 : decode (mB 78) 78 = .ok (.aload_n 0, 1) := by decide +kernel
theorem k78_79 : decode (mB 78) 79 = .ok (.getfield 50, 3) := by decide +kernel
theorem k78_82 : decode (mB 78) 82 = .ok (.aload_n 0, 1) := by decide +kernel
theorem k78_83 : decode (mB 78) 83 = .ok (.getfield 36, 3) := by decide +kernel
theorem k78_86 : decode (mB 78) 86 = .ok (.getfield 160, 3) := by decide +kernel
theorem k78_89 : decode (mB 78) 89 = .ok (.invokevirtual 245, 3) := by decide +kernel
theorem k78_92 : decode (mB 78) 92 = .ok (.goto 4, 3) := by decide +kernel
theorem k78_95 : decode (mB 78) 95 = .ok (.iconst (-1), 1) := by decide +kernel
theorem k78_96 : decode (mB 78) 96 = .ok (.istore 4, 2) := by decide +kernel
theorem k78_98 : decode (mB 78) 98 = .ok (.iload 4, 2) := by decide +kernel
theorem k78_100 : decode (mB 78) 100 = .ok (.ifCond .ge 8, 3) := by decide +kernel
theorem k78_103 : decode (mB 78) 103 = .ok (.bipush (-9), 2) := by decide +kernel
theorem k78_105 : decode (mB 78) 105 = .ok (.goto 5, 3) := by decide +kernel
theorem k78_108 : decode (mB 78) 108 = .ok (.iload 4, 2) := by decide +kernel
theorem k78_110 : decode (mB 78) 110 = .ok (.ireturn, 1) := by decide +kernel
/-- SquareGrounds.comes(II)I -/
theorem F78_eq (v0 : Nat) (v1 : Int32) (v2 : Int32) (h : mHeap) : F 78 [.ref v0, .int v1, .int v2] h = (sI 86 [.int v1] h).bind fun q1 => if (q1.1 : Int32) = 0 then (some (some (.int (-1)), q1.2)) else ((sI 86 [.int v2] q1.2).bind fun q2 => if ¬ (q2.1 : Int32) = 0 then ((gR q2.2 v0 7 1).bind fun x3 => (cAldR q2.2 x3 v2).bind fun x4 => (vI 18 x4 [] q2.2).bind fun q5 => if (q5.1 : Int32) = 0 then ((vI 93 v0 [.int v1] q5.2).bind fun q6 => if (q6.1 : Int32) = 0 then ((gR q6.2 v0 7 4).bind fun x7 => (gR q6.2 v0 7 1).bind fun x8 => (cAldR q6.2 x8 v2).bind fun x9 => (vV 34 x7 [.ref x9] q6.2).bind fun h10 => (gR h10 v0 7 6).bind fun x11 => (gI h10 x11 5 5).bind fun x12 => (gR h10 v0 7 1).bind fun x13 => (cAldR h10 x13 v2).bind fun x14 => (gI h10 x14 3 0).bind fun x15 => if ¬ (x12 : Int32) = x15 then (if 0 ≤ ((-1) : Int32) then (some (some (.int (-1)), h10)) else (some (some (.int (-9)), h10))) else ((gR h10 v0 7 6).bind fun x16 => (gR h10 v0 7 4).bind fun x17 => (gL h10 x17 4 3).bind fun x18 => (vI 40 x16 [.long x18] h10).bind fun q19 => if 0 ≤ (q19.1 : Int32) then (some (some (.int q19.1), q19.2)) else (some (some (.int (-9)), q19.2)))) else (some (some (.int q6.1), q6.2))) else ((vI 92 v0 [.int 1] q5.2).bind fun q20 => some (some (.int q20.1), q20.2))) else (some (some (.int (-1)), q2.2))) := by
  show D 78 0 (mEnt 78 [.ref v0, .int v1, .int v2]) [] h 0 0 = _
  rw [show mEnt 78 [.ref v0, .int v1, .int v2] = [some (.ref v0), some (.int v1), some (.int v2), none, none] from rfl]
  refine e_iload_n (pc' := 1) k78_0 rfl rfl ?_
  refine e_sI (j' := 86) (as := [.int v1]) (rest := []) (pc' := 4) k78_1 rfl (show mCk 78 0 106 86 1 = true by decide +kernel) (Or.inr (by decide +kernel)) rfl (Nat.le_of_ble_eq_true rfl) (show 1 ≤ mL 86 by decide +kernel) (fun q1 => ?_)
  refine e_ifeq (t := 14) (pc' := 7) k78_4 rfl (by decide) (fun _ => ?_) (fun _ => ?_)
  · refine e_iconst (v := -1) (pc' := 15) k78_14 rfl rfl ?_
    exact e_iret k78_15 (by decide +kernel)
  · refine e_iload_n (pc' := 8) k78_7 rfl rfl ?_
    refine e_sI (j' := 86) (as := [.int v2]) (rest := []) (pc' := 11) k78_8 rfl (show mCk 78 0 106 86 1 = true by decide +kernel) (Or.inr (by decide +kernel)) rfl (Nat.le_of_ble_eq_true rfl) (show 1 ≤ mL 86 by decide +kernel) (fun q2 => ?_)
    refine e_ifne (t := 16) (pc' := 14) k78_11 rfl (by decide) (fun _ => ?_) (fun _ => ?_)
    · refine e_aload_n (pc' := 17) k78_16 rfl rfl ?_
      refine e_getR (pc' := 20) k78_17 rfl (ci := 7) (k := 1) (by decide +kernel) (by decide +kernel) (fun x3 => ?_)
      refine e_iload_n (pc' := 21) k78_20 rfl rfl ?_
      refine e_aald (pc' := 22) k78_21 rfl (fun x4 => ?_)
      refine e_vI (j' := 18) (as := []) (rest := []) (pc' := 25) k78_22 rfl (show mCk 78 1 120 18 0 = true by decide +kernel) (Or.inr (by decide +kernel)) rfl (Nat.le_of_ble_eq_true rfl) (show 1 ≤ mL 18 by decide +kernel) (fun q5 => ?_)
      refine e_ifeq (t := 34) (pc' := 28) k78_25 rfl (by decide) (fun _ => ?_) (fun _ => ?_)
      · refine e_aload_n (pc' := 35) k78_34 rfl rfl ?_
        refine e_iload_n (pc' := 36) k78_35 rfl rfl ?_
        refine e_vI (j' := 93) (as := [.int v1]) (rest := []) (pc' := 39) k78_36 rfl (show mCk 78 1 204 93 1 = true by decide +kernel) (Or.inl (by decide +kernel)) rfl (Nat.le_of_ble_eq_true rfl) (show 2 ≤ mL 93 by decide +kernel) (fun q6 => ?_)
        refine e_istore_n (pc' := 40) k78_39 rfl rfl ?_
        refine e_iload_n (pc' := 41) k78_40 rfl rfl ?_
        refine e_ifeq (t := 46) (pc' := 44) k78_41 rfl (by decide) (fun _ => ?_) (fun _ => ?_)
        · refine e_aload_n (pc' := 47) k78_46 rfl rfl ?_
          refine e_getR (pc' := 50) k78_47 rfl (ci := 7) (k := 4) (by decide +kernel) (by decide +kernel) (fun x7 => ?_)
          refine e_aload_n (pc' := 51) k78_50 rfl rfl ?_
          refine e_getR (pc' := 54) k78_51 rfl (ci := 7) (k := 1) (by decide +kernel) (by decide +kernel) (fun x8 => ?_)
          refine e_iload_n (pc' := 55) k78_54 rfl rfl ?_
          refine e_aald (pc' := 56) k78_55 rfl (fun x9 => ?_)
          refine e_vV (j' := 34) (as := [.ref x9]) (rest := []) (pc' := 59) k78_56 rfl (show mCk 78 1 126 34 1 = true by decide +kernel) (by decide +kernel) rfl (Nat.le_of_ble_eq_true rfl) (show 2 ≤ mL 34 by decide +kernel) (fun h10 => ?_)
          refine e_aload_n (pc' := 60) k78_59 rfl rfl ?_
          refine e_getR (pc' := 63) k78_60 rfl (ci := 7) (k := 6) (by decide +kernel) (by decide +kernel) (fun x11 => ?_)
          refine e_getI (pc' := 66) k78_63 rfl (ci := 5) (k := 5) (by decide +kernel) (by decide +kernel) (fun x12 => ?_)
          refine e_aload_n (pc' := 67) k78_66 rfl rfl ?_
          refine e_getR (pc' := 70) k78_67 rfl (ci := 7) (k := 1) (by decide +kernel) (by decide +kernel) (fun x13 => ?_)
          refine e_iload_n (pc' := 71) k78_70 rfl rfl ?_
          refine e_aald (pc' := 72) k78_71 rfl (fun x14 => ?_)
          refine e_getI (pc' := 75) k78_72 rfl (ci := 3) (k := 0) (by decide +kernel) (by decide +kernel) (fun x15 => ?_)
          refine e_icmpne (t := 95) (pc' := 78) k78_75 rfl (by decide) (fun _ => ?_) (fun _ => ?_)
          · refine e_iconst (v := -1) (pc' := 96) k78_95 rfl rfl ?_
            refine e_istore (pc' := 98) k78_96 rfl rfl ?_
            refine e_iload (pc' := 100) k78_98 rfl rfl ?_
            refine e_ifge (t := 108) (pc' := 103) k78_100 rfl (by decide) (fun _ => ?_) (fun _ => ?_)
            · refine e_iload (pc' := 110) k78_108 rfl rfl ?_
              exact e_iret k78_110 (by decide +kernel)
            · refine e_bipush (v := -9) (pc' := 105) k78_103 rfl rfl ?_
              refine e_goto (pc' := 110) k78_105 (by decide) ?_
              exact e_iret k78_110 (by decide +kernel)
          · refine e_aload_n (pc' := 79) k78_78 rfl rfl ?_
            refine e_getR (pc' := 82) k78_79 rfl (ci := 7) (k := 6) (by decide +kernel) (by decide +kernel) (fun x16 => ?_)
            refine e_aload_n (pc' := 83) k78_82 rfl rfl ?_
            refine e_getR (pc' := 86) k78_83 rfl (ci := 7) (k := 4) (by decide +kernel) (by decide +kernel) (fun x17 => ?_)
            refine e_getL (pc' := 89) k78_86 rfl (ci := 4) (k := 3) (by decide +kernel) (by decide +kernel) (fun x18 => ?_)
            refine e_vI (j' := 40) (as := [.long x18]) (rest := []) (pc' := 92) k78_89 rfl (show mCk 78 1 245 40 1 = true by decide +kernel) (Or.inl (by decide +kernel)) rfl (Nat.le_of_ble_eq_true rfl) (show 3 ≤ mL 40 by decide +kernel) (fun q19 => ?_)
            refine e_goto (pc' := 96) k78_92 (by decide) ?_
            refine e_istore (pc' := 98) k78_96 rfl rfl ?_
            refine e_iload (pc' := 100) k78_98 rfl rfl ?_
            refine e_ifge (t := 108) (pc' := 103) k78_100 rfl (by decide) (fun _ => ?_) (fun _ => ?_)
            · refine e_iload (pc' := 110) k78_108 rfl rfl ?_
              exact e_iret k78_110 (by decide +kernel)
            · refine e_bipush (v := -9) (pc' := 105) k78_103 rfl rfl ?_
              refine e_goto (pc' := 110) k78_105 (by decide) ?_
              exact e_iret k78_110 (by decide +kernel)
        · refine e_iload_n (pc' := 45) k78_44 rfl rfl ?_
          exact e_iret k78_45 (by decide +kernel)
      · refine e_aload_n (pc' := 29) k78_28 rfl rfl ?_
        refine e_iconst (v := 1) (pc' := 30) k78_29 rfl rfl ?_
        refine e_vI (j' := 92) (as := [.int 1]) (rest := []) (pc' := 33) k78_30 rfl (show mCk 78 1 74 92 1 = true by decide +kernel) (Or.inl (by decide +kernel)) rfl (Nat.le_of_ble_eq_true rfl) (show 2 ≤ mL 92 by decide +kernel) (fun q20 => ?_)
        exact e_iret k78_33 (by decide +kernel)
    · refine e_iconst (v := -1) (pc' := 15) k78_14 rfl rfl ?_
      exact e_iret k78_15 (by decide +kernel)
theorem k79_0 : decode (mB 79) 0 = .ok (.aload_n 0, 1) := by decide +kernel
theorem k79_1 : decode (mB 79) 1 = .ok (.getfield 57, 3) := by decide +kernel
theorem k79_4 : decode (mB 79) 4 = .ok (.getfield 249, 3) := by decide +kernel
theorem k79_7 : decode (mB 79) 7 = .ok (.lreturn, 1) := by decide +kernel
/-- SquareGrounds.upper()J -/
theorem F79_eq (v0 : Nat) (h : mHeap) : F 79 [.ref v0] h = (gR h v0 7 7).bind fun x1 => (gL h x1 2 0).bind fun x2 => some (some (.long x2), h) := by
  show D 79 0 (mEnt 79 [.ref v0]) [] h 0 0 = _
  rw [show mEnt 79 [.ref v0] = [some (.ref v0)] from rfl]
  refine e_aload_n (pc' := 1) k79_0 rfl rfl ?_
  refine e_getR (pc' := 4) k79_1 rfl (ci := 7) (k := 7) (by decide +kernel) (by decide +kernel) (fun x1 => ?_)
  refine e_getL (pc' := 7) k79_4 rfl (ci := 2) (k := 0) (by decide +kernel) (by decide +kernel) (fun x2 => ?_)
  exact e_lret k79_7 (by decide +kernel)
theorem k80_0 : decode (mB 80) 0 = .ok (.aload_n 0, 1) := by decide +kernel
theorem k80_1 : decode (mB 80) 1 = .ok (.getfield 57, 3) := by decide +kernel
theorem k80_4 : decode (mB 80) 4 = .ok (.getfield 252, 3) := by decide +kernel
theorem k80_7 : decode (mB 80) 7 = .ok (.lreturn, 1) := by decide +kernel
/-- SquareGrounds.lower()J -/
theorem F80_eq (v0 : Nat) (h : mHeap) : F 80 [.ref v0] h = (gR h v0 7 7).bind fun x1 => (gL h x1 2 1).bind fun x2 => some (some (.long x2), h) := by
  show D 80 0 (mEnt 80 [.ref v0]) [] h 0 0 = _
  rw [show mEnt 80 [.ref v0] = [some (.ref v0)] from rfl]
  refine e_aload_n (pc' := 1) k80_0 rfl rfl ?_
  refine e_getR (pc' := 4) k80_1 rfl (ci := 7) (k := 7) (by decide +kernel) (by decide +kernel) (fun x1 => ?_)
  refine e_getL (pc' := 7) k80_4 rfl (ci := 2) (k := 1) (by decide +kernel) (by decide +kernel) (fun x2 => ?_)
  exact e_lret k80_7 (by decide +kernel)
theorem k81_0 : decode (mB 81) 0 = .ok (.iload_n 1, 1) := by decide +kernel
theorem k81_1 : decode (mB 81) 1 = .ok (.ifCond .lt 8, 3) := by decide +kernel
theorem k81_4 : decode (mB 81) 4 = .ok (.iload_n 1, 1) := by decide +kernel
theorem k81_5 : decode (mB 81) 5 = .ok (.iconst 2, 1) := by decide +kernel
theorem k81_6 : decode (mB 81) 6 = .ok (.if_icmp .le 5, 3) := by decide +kernel
theorem k81_9 : decode (mB 81) 9 = .ok (.iconst (-1), 1) := by decide +kernel
theorem k81_10 : decode (mB 81) 10 = .ok (.ireturn, 1) := by decide +kernel
theorem k81_11 : decode (mB 81) 11 = .ok (.iload_n 1, 1) := by decide +kernel
theorem k81_12 : decode (mB 81) 12 = .ok (.ifCond .ne 10, 3) := by decide +kernel
theorem k81_15 : decode (mB 81) 15 = .ok (.aload_n 0, 1) := by decide +kernel
theorem k81_16 : decode (mB 81) 16 = .ok (.invokevirtual 255, 3) := by decide +kernel
theorem k81_19 : decode (mB 81) 19 = .ok (.goto 17, 3) := by decide +kernel
theorem k81_22 : decode (mB 81) 22 = .ok (.aload_n 0, 1) := by decide +kernel
theorem k81_23 : decode (mB 81) 23 = .ok (.iload_n 1, 1) := by decide +kernel
theorem k81_24 : decode (mB 81) 24 = .ok (.iconst 2, 1) := by decide +kernel
theorem k81_25 : decode (mB 81) 25 = .ok (.if_icmp .ne 7, 3) := by decide +kernel
theorem k81_28 : decode (mB 81) 28 = .ok (.iconst 1, 1) := by decide +kernel
theorem k81_29 : decode (mB 81) 29 = .ok (.goto 4, 3) := by decide +kernel
theorem k81_32 : decode (mB 81) 32 = .ok (.iconst 0, 1) := by decide +kernel
theorem k81_33 : decode (mB 81) 33 = .ok (.invokevirtual 258, 3) := by decide +kernel
theorem k81_36 : decode (mB 81) 36 = .ok (.ireturn, 1) := by decide +kernel
/-- SquareGrounds.count(I)I -/
theorem F81_eq (v0 : Nat) (v1 : Int32) (h : mHeap) : F 81 [.ref v0, .int v1] h = if (v1 : Int32) < 0 then (some (some (.int (-1)), h)) else (if (v1 : Int32) ≤ 2 then (if ¬ (v1 : Int32) = 0 then (if ¬ (v1 : Int32) = 2 then ((vI 98 v0 [.int 0] h).bind fun q1 => some (some (.int q1.1), q1.2)) else ((vI 98 v0 [.int 1] h).bind fun q2 => some (some (.int q2.1), q2.2))) else ((vI 97 v0 [] h).bind fun q3 => some (some (.int q3.1), q3.2))) else (some (some (.int (-1)), h))) := by
  show D 81 0 (mEnt 81 [.ref v0, .int v1]) [] h 0 0 = _
  rw [show mEnt 81 [.ref v0, .int v1] = [some (.ref v0), some (.int v1)] from rfl]
  refine e_iload_n (pc' := 1) k81_0 rfl rfl ?_
  refine e_iflt (t := 9) (pc' := 4) k81_1 rfl (by decide) (fun _ => ?_) (fun _ => ?_)
  · refine e_iconst (v := -1) (pc' := 10) k81_9 rfl rfl ?_
    exact e_iret k81_10 (by decide +kernel)
  · refine e_iload_n (pc' := 5) k81_4 rfl rfl ?_
    refine e_iconst (v := 2) (pc' := 6) k81_5 rfl rfl ?_
    refine e_icmple (t := 11) (pc' := 9) k81_6 rfl (by decide) (fun _ => ?_) (fun _ => ?_)
    · refine e_iload_n (pc' := 12) k81_11 rfl rfl ?_
      refine e_ifne (t := 22) (pc' := 15) k81_12 rfl (by decide) (fun _ => ?_) (fun _ => ?_)
      · refine e_aload_n (pc' := 23) k81_22 rfl rfl ?_
        refine e_iload_n (pc' := 24) k81_23 rfl rfl ?_
        refine e_iconst (v := 2) (pc' := 25) k81_24 rfl rfl ?_
        refine e_icmpne (t := 32) (pc' := 28) k81_25 rfl (by decide) (fun _ => ?_) (fun _ => ?_)
        · refine e_iconst (v := 0) (pc' := 33) k81_32 rfl rfl ?_
          refine e_vI (j' := 98) (as := [.int 0]) (rest := []) (pc' := 36) k81_33 rfl (show mCk 81 1 258 98 1 = true by decide +kernel) (Or.inl (by decide +kernel)) rfl (Nat.le_of_ble_eq_true rfl) (show 2 ≤ mL 98 by decide +kernel) (fun q1 => ?_)
          exact e_iret k81_36 (by decide +kernel)
        · refine e_iconst (v := 1) (pc' := 29) k81_28 rfl rfl ?_
          refine e_goto (pc' := 33) k81_29 (by decide) ?_
          refine e_vI (j' := 98) (as := [.int 1]) (rest := []) (pc' := 36) k81_33 rfl (show mCk 81 1 258 98 1 = true by decide +kernel) (Or.inl (by decide +kernel)) rfl (Nat.le_of_ble_eq_true rfl) (show 2 ≤ mL 98 by decide +kernel) (fun q2 => ?_)
          exact e_iret k81_36 (by decide +kernel)
      · refine e_aload_n (pc' := 16) k81_15 rfl rfl ?_
        refine e_vI (j' := 97) (as := []) (rest := []) (pc' := 19) k81_16 rfl (show mCk 81 1 255 97 0 = true by decide +kernel) (Or.inl (by decide +kernel)) rfl (Nat.le_of_ble_eq_true rfl) (show 1 ≤ mL 97 by decide +kernel) (fun q3 => ?_)
        refine e_goto (pc' := 36) k81_19 (by decide) ?_
        exact e_iret k81_36 (by decide +kernel)
    · refine e_iconst (v := -1) (pc' := 10) k81_9 rfl rfl ?_
      exact e_iret k81_10 (by decide +kernel)
theorem k82_0 : decode (mB 82) 0 = .ok (.aload_n 0, 1) := by decide +kernel
theorem k82_1 : decode (mB 82) 1 = .ok (.getfield 65, 3) := by decide +kernel
theorem k82_4 : decode (mB 82) 4 = .ok (.ireturn, 1) := by decide +kernel
/-- SquareGrounds.finding()I -/
theorem F82_eq (v0 : Nat) (h : mHeap) : F 82 [.ref v0] h = (gI h v0 7 9).bind fun x1 => some (some (.int x1), h) := by
  show D 82 0 (mEnt 82 [.ref v0]) [] h 0 0 = _
  rw [show mEnt 82 [.ref v0] = [some (.ref v0)] from rfl]
  refine e_aload_n (pc' := 1) k82_0 rfl rfl ?_
  refine e_getI (pc' := 4) k82_1 rfl (ci := 7) (k := 9) (by decide +kernel) (by decide +kernel) (fun x1 => ?_)
  exact e_iret k82_4 (by decide +kernel)
theorem k83_0 : decode (mB 83) 0 = .ok (.iload_n 1, 1) := by decide +kernel
theorem k83_1 : decode (mB 83) 1 = .ok (.iconst 1, 1) := by decide +kernel
theorem k83_2 : decode (mB 83) 2 = .ok (.if_icmp .lt 8, 3) := by decide +kernel
theorem k83_5 : decode (mB 83) 5 = .ok (.iload_n 1, 1) := by decide +kernel
theorem k83_6 : decode (mB 83) 6 = .ok (.iconst 5, 1) := by decide +kernel
theorem k83_7 : decode (mB 83) 7 = .ok (.if_icmp .le 7, 3) := by decide +kernel
theorem k83_10 : decode (mB 83) 10 = .ok (.iconst (-1), 1) := by decide +kernel
theorem k83_11 : decode (mB 83) 11 = .ok (.goto 9, 3) := by decide +kernel
theorem k83_14 : decode (mB 83) 14 = .ok (.aload_n 0, 1) := by decide +kernel
theorem k83_15 : decode (mB 83) 15 = .ok (.getfield 61, 3) := by decide +kernel
theorem k83_18 : decode (mB 83) 18 = .ok (.iload_n 1, 1) := by decide +kernel
theorem k83_19 : decode (mB 83) 19 = .ok (.iaload, 1) := by decide +kernel
theorem k83_20 : decode (mB 83) 20 = .ok (.ireturn, 1) := by decide +kernel
/-- SquareGrounds.findings(I)I -/
theorem F83_eq (v0 : Nat) (v1 : Int32) (h : mHeap) : F 83 [.ref v0, .int v1] h = if (v1 : Int32) < 1 then (some (some (.int (-1)), h)) else (if (v1 : Int32) ≤ 5 then ((gR h v0 7 8).bind fun x1 => (cAldI false h x1 v1).bind fun x2 => some (some (.int x2), h)) else (some (some (.int (-1)), h))) := by
  show D 83 0 (mEnt 83 [.ref v0, .int v1]) [] h 0 0 = _
  rw [show mEnt 83 [.ref v0, .int v1] = [some (.ref v0), some (.int v1)] from rfl]
  refine e_iload_n (pc' := 1) k83_0 rfl rfl ?_
  refine e_iconst (v := 1) (pc' := 2) k83_1 rfl rfl ?_
  refine e_icmplt (t := 10) (pc' := 5) k83_2 rfl (by decide) (fun _ => ?_) (fun _ => ?_)
  · refine e_iconst (v := -1) (pc' := 11) k83_10 rfl rfl ?_
    refine e_goto (pc' := 20) k83_11 (by decide) ?_
    exact e_iret k83_20 (by decide +kernel)
  · refine e_iload_n (pc' := 6) k83_5 rfl rfl ?_
    refine e_iconst (v := 5) (pc' := 7) k83_6 rfl rfl ?_
    refine e_icmple (t := 14) (pc' := 10) k83_7 rfl (by decide) (fun _ => ?_) (fun _ => ?_)
    · refine e_aload_n (pc' := 15) k83_14 rfl rfl ?_
      refine e_getR (pc' := 18) k83_15 rfl (ci := 7) (k := 8) (by decide +kernel) (by decide +kernel) (fun x1 => ?_)
      refine e_iload_n (pc' := 19) k83_18 rfl rfl ?_
      refine e_iald (pc' := 20) k83_19 rfl (lw := false) rfl (fun x2 => ?_)
      exact e_iret k83_20 (by decide +kernel)
    · refine e_iconst (v := -1) (pc' := 11) k83_10 rfl rfl ?_
      refine e_goto (pc' := 20) k83_11 (by decide) ?_
      exact e_iret k83_20 (by decide +kernel)
theorem k84_0 : decode (mB 84) 0 = .ok (.ldc2_w 262, 3) := by decide +kernel
theorem k84_3 : decode (mB 84) 3 = .ok (.lstore_n 1, 1) := by decide +kernel
theorem k84_4 : decode (mB 84) 4 = .ok (.iconst 0, 1) := by decide +kernel
theorem k84_5 : decode (mB 84) 5 = .ok (.istore_n 3, 1) := by decide +kernel
theorem k84_6 : decode (mB 84) 6 = .ok (.iload_n 3, 1) := by decide +kernel
theorem k84_7 : decode (mB 84) 7 = .ok (.bipush 10, 2) := by decide +kernel
theorem k84_9 : decode (mB 84) 9 = .ok (.if_icmp .ge 20, 3) := by decide +kernel
theorem k84_12 : decode (mB 84) 12 = .ok (.aload_n 0, 1) := by decide +kernel
theorem k84_13 : decode (mB 84) 13 = .ok (.getfield 17, 3) := by decide +kernel
theorem k84_16 : decode (mB 84) 16 = .ok (.iload_n 3, 1) := by decide +kernel
theorem k84_17 : decode (mB 84) 17 = .ok (.aaload, 1) := by decide +kernel
theorem k84_18 : decode (mB 84) 18 = .ok (.lload_n 1, 1) := by decide +kernel
theorem k84_19 : decode (mB 84) 19 = .ok (.invokevirtual 264, 3) := by decide +kernel
theorem k84_22 : decode (mB 84) 22 = .ok (.lstore_n 1, 1) := by decide +kernel
theorem k84_23 : decode (mB 84) 23 = .ok (.iinc 3 1, 3) := by decide +kernel
theorem k84_26 : decode (mB 84) 26 = .ok (.goto (-20), 3) := by decide +kernel
theorem k84_29 : decode (mB 84) 29 = .ok (.iconst 0, 1) := by decide +kernel
theorem k84_30 : decode (mB 84) 30 = .ok (.istore_n 3, 1) := by decide +kernel
theorem k84_31 : decode (mB 84) 31 = .ok (.iload_n 3, 1) := by decide +kernel
theorem k84_32 : decode (mB 84) 32 = .ok (.iconst 4, 1) := by decide +kernel
theorem k84_33 : decode (mB 84) 33 = .ok (.if_icmp .ge 20, 3) := by decide +kernel
theorem k84_36 : decode (mB 84) 36 = .ok (.aload_n 0, 1) := by decide +kernel
theorem k84_37 : decode (mB 84) 37 = .ok (.getfield 11, 3) := by decide +kernel
theorem k84_40 : decode (mB 84) 40 = .ok (.iload_n 3, 1) := by decide +kernel
theorem k84_41 : decode (mB 84) 41 = .ok (.aaload, 1) := by decide +kernel
theorem k84_42 : decode (mB 84) 42 = .ok (.lload_n 1, 1) := by decide +kernel
theorem k84_43 : decode (mB 84) 43 = .ok (.invokevirtual 268, 3) := by decide +kernel
theorem k84_46 : decode (mB 84) 46 = .ok (.lstore_n 1, 1) := by decide +kernel
theorem k84_47 : decode (mB 84) 47 = .ok (.iinc 3 1, 3) := by decide +kernel
theorem k84_50 : decode (mB 84) 50 = .ok (.goto (-19), 3) := by decide +kernel
theorem k84_53 : decode (mB 84) 53 = .ok (.lload_n 1, 1) := by decide +kernel
theorem k84_54 : decode (mB 84) 54 = .ok (.lreturn, 1) := by decide +kernel
/-- SquareGrounds.digest, loop at 6 -/
noncomputable def q84_6 (v0 : Nat) (v1 : Int64) (v3 : Int32) (h : mHeap) : mR' := E 84 6 [some (.ref v0), some (.long v1), none, some (.int v3)] [] h
/-- SquareGrounds.digest, loop at 31 -/
noncomputable def q84_31 (v0 : Nat) (v1 : Int64) (v3 : Int32) (h : mHeap) : mR' := E 84 31 [some (.ref v0), some (.long v1), none, some (.int v3)] [] h
theorem q84_6_eq (v0 : Nat) (v1 : Int64) (v3 : Int32) (h : mHeap) : q84_6 v0 v1 v3 h = if 10 ≤ (v3 : Int32) then (q84_31 v0 v1 0 h) else ((gR h v0 7 1).bind fun x1 => (cAldR h x1 v3).bind fun x2 => (vL 32 x2 [.long v1] h).bind fun q3 => q84_6 v0 q3.1 (v3 + 1) q3.2) := by
  unfold q84_6
  refine e_iload_n (pc' := 7) k84_6 rfl rfl ?_
  refine e_bipush (v := 10) (pc' := 9) k84_7 rfl rfl ?_
  refine e_icmpge (t := 29) (pc' := 12) k84_9 rfl (by decide) (fun _ => ?_) (fun _ => ?_)
  · refine e_iconst (v := 0) (pc' := 30) k84_29 rfl rfl ?_
    refine e_istore_n (pc' := 31) k84_30 rfl rfl ?_
    rfl
  · refine e_aload_n (pc' := 13) k84_12 rfl rfl ?_
    refine e_getR (pc' := 16) k84_13 rfl (ci := 7) (k := 1) (by decide +kernel) (by decide +kernel) (fun x1 => ?_)
    refine e_iload_n (pc' := 17) k84_16 rfl rfl ?_
    refine e_aald (pc' := 18) k84_17 rfl (fun x2 => ?_)
    refine e_lload_n (pc' := 19) k84_18 rfl rfl ?_
    refine e_vL (j' := 32) (as := [.long v1]) (rest := []) (pc' := 22) k84_19 rfl (show mCk 84 1 264 32 1 = true by decide +kernel) (by decide +kernel) rfl (Nat.le_of_ble_eq_true rfl) (show 3 ≤ mL 32 by decide +kernel) (fun q3 => ?_)
    refine e_lstore_n (pc' := 23) k84_22 rfl rfl ?_
    refine e_iinc (c := 1) (pc' := 26) k84_23 rfl rfl rfl rfl ?_
    refine e_goto (pc' := 6) k84_26 (by decide) ?_
    rfl
theorem q84_31_eq (v0 : Nat) (v1 : Int64) (v3 : Int32) (h : mHeap) : q84_31 v0 v1 v3 h = if 4 ≤ (v3 : Int32) then (some (some (.long v1), h)) else ((gR h v0 7 0).bind fun x1 => (cAldR h x1 v3).bind fun x2 => (vL 50 x2 [.long v1] h).bind fun q3 => q84_31 v0 q3.1 (v3 + 1) q3.2) := by
  unfold q84_31
  refine e_iload_n (pc' := 32) k84_31 rfl rfl ?_
  refine e_iconst (v := 4) (pc' := 33) k84_32 rfl rfl ?_
  refine e_icmpge (t := 53) (pc' := 36) k84_33 rfl (by decide) (fun _ => ?_) (fun _ => ?_)
  · refine e_lload_n (pc' := 54) k84_53 rfl rfl ?_
    exact e_lret k84_54 (by decide +kernel)
  · refine e_aload_n (pc' := 37) k84_36 rfl rfl ?_
    refine e_getR (pc' := 40) k84_37 rfl (ci := 7) (k := 0) (by decide +kernel) (by decide +kernel) (fun x1 => ?_)
    refine e_iload_n (pc' := 41) k84_40 rfl rfl ?_
    refine e_aald (pc' := 42) k84_41 rfl (fun x2 => ?_)
    refine e_lload_n (pc' := 43) k84_42 rfl rfl ?_
    refine e_vL (j' := 50) (as := [.long v1]) (rest := []) (pc' := 46) k84_43 rfl (show mCk 84 1 268 50 1 = true by decide +kernel) (by decide +kernel) rfl (Nat.le_of_ble_eq_true rfl) (show 3 ≤ mL 50 by decide +kernel) (fun q3 => ?_)
    refine e_lstore_n (pc' := 47) k84_46 rfl rfl ?_
    refine e_iinc (c := 1) (pc' := 50) k84_47 rfl rfl rfl rfl ?_
    refine e_goto (pc' := 31) k84_50 (by decide) ?_
    rfl
/-- SquareGrounds.digest()J -/
theorem F84_eq (v0 : Nat) (h : mHeap) : F 84 [.ref v0] h = q84_6 v0 17 0 h := by
  show D 84 0 (mEnt 84 [.ref v0]) [] h 0 0 = _
  rw [show mEnt 84 [.ref v0] = [some (.ref v0), none, none, none] from rfl]
  refine e_ldc2 (v := 17) (pc' := 3) k84_0 rfl (by decide +kernel) ?_
  refine e_lstore_n (pc' := 4) k84_3 rfl rfl ?_
  refine e_iconst (v := 0) (pc' := 5) k84_4 rfl rfl ?_
  refine e_istore_n (pc' := 6) k84_5 rfl rfl ?_
  rfl
theorem k85_0 : decode (mB 85) 0 = .ok (.iload_n 0, 1) := by decide +kernel
theorem k85_1 : decode (mB 85) 1 = .ok (.ifCond .lt 12, 3) := by decide +kernel
theorem k85_4 : decode (mB 85) 4 = .ok (.iload_n 0, 1) := by decide +kernel
theorem k85_5 : decode (mB 85) 5 = .ok (.iconst 4, 1) := by decide +kernel
theorem k85_6 : decode (mB 85) 6 = .ok (.if_icmp .ge 7, 3) := by decide +kernel
theorem k85_9 : decode (mB 85) 9 = .ok (.iconst 1, 1) := by decide +kernel
theorem k85_10 : decode (mB 85) 10 = .ok (.goto 4, 3) := by decide +kernel
theorem k85_13 : decode (mB 85) 13 = .ok (.iconst 0, 1) := by decide +kernel
theorem k85_14 : decode (mB 85) 14 = .ok (.ireturn, 1) := by decide +kernel
/-- SquareGrounds.isSheetNumber(I)Z -/
theorem F85_eq (v0 : Int32) (h : mHeap) : F 85 [.int v0] h = if (v0 : Int32) < 0 then (if narrow .boolean (.int 0) = .int 0 then some (some (.int 0), h) else none) else (if 4 ≤ (v0 : Int32) then (if narrow .boolean (.int 0) = .int 0 then some (some (.int 0), h) else none) else (if narrow .boolean (.int 1) = .int 1 then some (some (.int 1), h) else none)) := by
  show D 85 0 (mEnt 85 [.int v0]) [] h 0 0 = _
  rw [show mEnt 85 [.int v0] = [some (.int v0)] from rfl]
  refine e_iload_n (pc' := 1) k85_0 rfl rfl ?_
  refine e_iflt (t := 13) (pc' := 4) k85_1 rfl (by decide) (fun _ => ?_) (fun _ => ?_)
  · refine e_iconst (v := 0) (pc' := 14) k85_13 rfl rfl ?_
    exact e_zret k85_14 (by decide +kernel)
  · refine e_iload_n (pc' := 5) k85_4 rfl rfl ?_
    refine e_iconst (v := 4) (pc' := 6) k85_5 rfl rfl ?_
    refine e_icmpge (t := 13) (pc' := 9) k85_6 rfl (by decide) (fun _ => ?_) (fun _ => ?_)
    · refine e_iconst (v := 0) (pc' := 14) k85_13 rfl rfl ?_
      exact e_zret k85_14 (by decide +kernel)
    · refine e_iconst (v := 1) (pc' := 10) k85_9 rfl rfl ?_
      refine e_goto (pc' := 14) k85_10 (by decide) ?_
      exact e_zret k85_14 (by decide +kernel)
theorem k86_0 : decode (mB 86) 0 = .ok (.iload_n 0, 1) := by decide +kernel
theorem k86_1 : decode (mB 86) 1 = .ok (.ifCond .lt 13, 3) := by decide +kernel
theorem k86_4 : decode (mB 86) 4 = .ok (.iload_n 0, 1) := by decide +kernel
theorem k86_5 : decode (mB 86) 5 = .ok (.bipush 10, 2) := by decide +kernel
theorem k86_7 : decode (mB 86) 7 = .ok (.if_icmp .ge 7, 3) := by decide +kernel
theorem k86_10 : decode (mB 86) 10 = .ok (.iconst 1, 1) := by decide +kernel
theorem k86_11 : decode (mB 86) 11 = .ok (.goto 4, 3) := by decide +kernel
theorem k86_14 : decode (mB 86) 14 = .ok (.iconst 0, 1) := by decide +kernel
theorem k86_15 : decode (mB 86) 15 = .ok (.ireturn, 1) := by decide +kernel
/-- SquareGrounds.isGroundNumber(I)Z -/
theorem F86_eq (v0 : Int32) (h : mHeap) : F 86 [.int v0] h = if (v0 : Int32) < 0 then (if narrow .boolean (.int 0) = .int 0 then some (some (.int 0), h) else none) else (if 10 ≤ (v0 : Int32) then (if narrow .boolean (.int 0) = .int 0 then some (some (.int 0), h) else none) else (if narrow .boolean (.int 1) = .int 1 then some (some (.int 1), h) else none)) := by
  show D 86 0 (mEnt 86 [.int v0]) [] h 0 0 = _
  rw [show mEnt 86 [.int v0] = [some (.int v0)] from rfl]
  refine e_iload_n (pc' := 1) k86_0 rfl rfl ?_
  refine e_iflt (t := 14) (pc' := 4) k86_1 rfl (by decide) (fun _ => ?_) (fun _ => ?_)
  · refine e_iconst (v := 0) (pc' := 15) k86_14 rfl rfl ?_
    exact e_zret k86_15 (by decide +kernel)
  · refine e_iload_n (pc' := 5) k86_4 rfl rfl ?_
    refine e_bipush (v := 10) (pc' := 7) k86_5 rfl rfl ?_
    refine e_icmpge (t := 14) (pc' := 10) k86_7 rfl (by decide) (fun _ => ?_) (fun _ => ?_)
    · refine e_iconst (v := 0) (pc' := 15) k86_14 rfl rfl ?_
      exact e_zret k86_15 (by decide +kernel)
    · refine e_iconst (v := 1) (pc' := 11) k86_10 rfl rfl ?_
      refine e_goto (pc' := 15) k86_11 (by decide) ?_
      exact e_zret k86_15 (by decide +kernel)
theorem k87_0 : decode (mB 87) 0 = .ok (.iload_n 0, 1) := by decide +kernel
theorem k87_1 : decode (mB 87) 1 = .ok (.bipush (-50), 2) := by decide +kernel
theorem k87_3 : decode (mB 87) 3 = .ok (.if_icmp .lt 19, 3) := by decide +kernel
theorem k87_6 : decode (mB 87) 6 = .ok (.iload_n 0, 1) := by decide +kernel
theorem k87_7 : decode (mB 87) 7 = .ok (.bipush 50, 2) := by decide +kernel
theorem k87_9 : decode (mB 87) 9 = .ok (.if_icmp .gt 13, 3) := by decide +kernel
theorem k87_12 : decode (mB 87) 12 = .ok (.iload_n 1, 1) := by decide +kernel
theorem k87_13 : decode (mB 87) 13 = .ok (.ifCond .lt 9, 3) := by decide +kernel
theorem k87_16 : decode (mB 87) 16 = .ok (.iload_n 1, 1) := by decide +kernel
theorem k87_17 : decode (mB 87) 17 = .ok (.bipush 50, 2) := by decide +kernel
theorem k87_19 : decode (mB 87) 19 = .ok (.if_icmp .le 5, 3) := by decide +kernel
theorem k87_22 : decode (mB 87) 22 = .ok (.iconst 0, 1) := by decide +kernel
theorem k87_23 : decode (mB 87) 23 = .ok (.ireturn, 1) := by decide +kernel
theorem k87_24 : decode (mB 87) 24 = .ok (.iload_n 1, 1) := by decide +kernel
theorem k87_25 : decode (mB 87) 25 = .ok (.ifCond .ne 16, 3) := by decide +kernel
theorem k87_28 : decode (mB 87) 28 = .ok (.iload_n 0, 1) := by decide +kernel
theorem k87_29 : decode (mB 87) 29 = .ok (.iconst 1, 1) := by decide +kernel
theorem k87_30 : decode (mB 87) 30 = .ok (.if_icmp .ne 7, 3) := by decide +kernel
theorem k87_33 : decode (mB 87) 33 = .ok (.iconst 1, 1) := by decide +kernel
theorem k87_34 : decode (mB 87) 34 = .ok (.goto 27, 3) := by decide +kernel
theorem k87_37 : decode (mB 87) 37 = .ok (.iconst 0, 1) := by decide +kernel
theorem k87_38 : decode (mB 87) 38 = .ok (.goto 23, 3) := by decide +kernel
theorem k87_41 : decode (mB 87) 41 = .ok (.iload_n 0, 1) := by decide +kernel
theorem k87_42 : decode (mB 87) 42 = .ok (.invokestatic 269, 3) := by decide +kernel
theorem k87_45 : decode (mB 87) 45 = .ok (.i2l, 1) := by decide +kernel
theorem k87_46 : decode (mB 87) 46 = .ok (.iload_n 1, 1) := by decide +kernel
theorem k87_47 : decode (mB 87) 47 = .ok (.i2l, 1) := by decide +kernel
theorem k87_48 : decode (mB 87) 48 = .ok (.invokestatic 274, 3) := by decide +kernel
theorem k87_51 : decode (mB 87) 51 = .ok (.lconst 1, 1) := by decide +kernel
theorem k87_52 : decode (mB 87) 52 = .ok (.lcmp, 1) := by decide +kernel
theorem k87_53 : decode (mB 87) 53 = .ok (.ifCond .ne 7, 3) := by decide +kernel
theorem k87_56 : decode (mB 87) 56 = .ok (.iconst 1, 1) := by decide +kernel
theorem k87_57 : decode (mB 87) 57 = .ok (.goto 4, 3) := by decide +kernel
theorem k87_60 : decode (mB 87) 60 = .ok (.iconst 0, 1) := by decide +kernel
theorem k87_61 : decode (mB 87) 61 = .ok (.ireturn, 1) := by decide +kernel
/-- SquareGrounds.isSlope(II)Z -/
theorem F87_eq (v0 : Int32) (v1 : Int32) (h : mHeap) : F 87 [.int v0, .int v1] h = if (v0 : Int32) < (-50) then (if narrow .boolean (.int 0) = .int 0 then some (some (.int 0), h) else none) else (if 50 < (v0 : Int32) then (if narrow .boolean (.int 0) = .int 0 then some (some (.int 0), h) else none) else (if (v1 : Int32) < 0 then (if narrow .boolean (.int 0) = .int 0 then some (some (.int 0), h) else none) else (if (v1 : Int32) ≤ 50 then (if ¬ (v1 : Int32) = 0 then ((sI 173 [.int v0] h).bind fun q1 => (sL 88 [.long (Int32.toInt64 q1.1), .long (Int32.toInt64 v1)] q1.2).bind fun q2 => if ¬ ((lg_cmp q2.1 1) : Int32) = 0 then (if narrow .boolean (.int 0) = .int 0 then some (some (.int 0), q2.2) else none) else (if narrow .boolean (.int 1) = .int 1 then some (some (.int 1), q2.2) else none)) else (if ¬ (v0 : Int32) = 1 then (if narrow .boolean (.int 0) = .int 0 then some (some (.int 0), h) else none) else (if narrow .boolean (.int 1) = .int 1 then some (some (.int 1), h) else none))) else (if narrow .boolean (.int 0) = .int 0 then some (some (.int 0), h) else none)))) := by
  show D 87 0 (mEnt 87 [.int v0, .int v1]) [] h 0 0 = _
  rw [show mEnt 87 [.int v0, .int v1] = [some (.int v0), some (.int v1)] from rfl]
  refine e_iload_n (pc' := 1) k87_0 rfl rfl ?_
  refine e_bipush (v := -50) (pc' := 3) k87_1 rfl rfl ?_
  refine e_icmplt (t := 22) (pc' := 6) k87_3 rfl (by decide) (fun _ => ?_) (fun _ => ?_)
  · refine e_iconst (v := 0) (pc' := 23) k87_22 rfl rfl ?_
    exact e_zret k87_23 (by decide +kernel)
  · refine e_iload_n (pc' := 7) k87_6 rfl rfl ?_
    refine e_bipush (v := 50) (pc' := 9) k87_7 rfl rfl ?_
    refine e_icmpgt (t := 22) (pc' := 12) k87_9 rfl (by decide) (fun _ => ?_) (fun _ => ?_)
    · refine e_iconst (v := 0) (pc' := 23) k87_22 rfl rfl ?_
      exact e_zret k87_23 (by decide +kernel)
    · refine e_iload_n (pc' := 13) k87_12 rfl rfl ?_
      refine e_iflt (t := 22) (pc' := 16) k87_13 rfl (by decide) (fun _ => ?_) (fun _ => ?_)
      · refine e_iconst (v := 0) (pc' := 23) k87_22 rfl rfl ?_
        exact e_zret k87_23 (by decide +kernel)
      · refine e_iload_n (pc' := 17) k87_16 rfl rfl ?_
        refine e_bipush (v := 50) (pc' := 19) k87_17 rfl rfl ?_
        refine e_icmple (t := 24) (pc' := 22) k87_19 rfl (by decide) (fun _ => ?_) (fun _ => ?_)
        · refine e_iload_n (pc' := 25) k87_24 rfl rfl ?_
          refine e_ifne (t := 41) (pc' := 28) k87_25 rfl (by decide) (fun _ => ?_) (fun _ => ?_)
          · refine e_iload_n (pc' := 42) k87_41 rfl rfl ?_
            refine e_sI (j' := 173) (as := [.int v0]) (rest := []) (pc' := 45) k87_42 rfl (show mCk 87 0 269 173 1 = true by decide +kernel) (Or.inl (by decide +kernel)) rfl (Nat.le_of_ble_eq_true rfl) (show 1 ≤ mL 173 by decide +kernel) (fun q1 => ?_)
            refine e_i2l (pc' := 46) k87_45 rfl ?_
            refine e_iload_n (pc' := 47) k87_46 rfl rfl ?_
            refine e_i2l (pc' := 48) k87_47 rfl ?_
            refine e_sL (j' := 88) (as := [.long (Int32.toInt64 q1.1), .long (Int32.toInt64 v1)]) (rest := []) (pc' := 51) k87_48 rfl (show mCk 87 0 274 88 2 = true by decide +kernel) (by decide +kernel) rfl (Nat.le_of_ble_eq_true rfl) (show 4 ≤ mL 88 by decide +kernel) (fun q2 => ?_)
            refine e_lconst (v := 1) (pc' := 52) k87_51 rfl rfl ?_
            refine e_lcmp (pc' := 53) k87_52 rfl ?_
            refine e_ifne (t := 60) (pc' := 56) k87_53 rfl (by decide) (fun _ => ?_) (fun _ => ?_)
            · refine e_iconst (v := 0) (pc' := 61) k87_60 rfl rfl ?_
              exact e_zret k87_61 (by decide +kernel)
            · refine e_iconst (v := 1) (pc' := 57) k87_56 rfl rfl ?_
              refine e_goto (pc' := 61) k87_57 (by decide) ?_
              exact e_zret k87_61 (by decide +kernel)
          · refine e_iload_n (pc' := 29) k87_28 rfl rfl ?_
            refine e_iconst (v := 1) (pc' := 30) k87_29 rfl rfl ?_
            refine e_icmpne (t := 37) (pc' := 33) k87_30 rfl (by decide) (fun _ => ?_) (fun _ => ?_)
            · refine e_iconst (v := 0) (pc' := 38) k87_37 rfl rfl ?_
              refine e_goto (pc' := 61) k87_38 (by decide) ?_
              exact e_zret k87_61 (by decide +kernel)
            · refine e_iconst (v := 1) (pc' := 34) k87_33 rfl rfl ?_
              refine e_goto (pc' := 61) k87_34 (by decide) ?_
              exact e_zret k87_61 (by decide +kernel)
        · refine e_iconst (v := 0) (pc' := 23) k87_22 rfl rfl ?_
          exact e_zret k87_23 (by decide +kernel)
theorem k88_0 : decode (mB 88) 0 = .ok (.iconst 0, 1) := by decide +kernel
theorem k88_1 : decode (mB 88) 1 = .ok (.istore 4, 2) := by decide +kernel
theorem k88_3 : decode (mB 88) 3 = .ok (.iload 4, 2) := by decide +kernel
theorem k88_5 : decode (mB 88) 5 = .ok (.bipush 100, 2) := by decide +kernel
theorem k88_7 : decode (mB 88) 7 = .ok (.if_icmp .ge 25, 3) := by decide +kernel
theorem k88_10 : decode (mB 88) 10 = .ok (.lload_n 2, 1) := by decide +kernel
theorem k88_11 : decode (mB 88) 11 = .ok (.lconst 0, 1) := by decide +kernel
theorem k88_12 : decode (mB 88) 12 = .ok (.lcmp, 1) := by decide +kernel
theorem k88_13 : decode (mB 88) 13 = .ok (.ifCond .eq 19, 3) := by decide +kernel
theorem k88_16 : decode (mB 88) 16 = .ok (.lload_n 0, 1) := by decide +kernel
theorem k88_17 : decode (mB 88) 17 = .ok (.lload_n 2, 1) := by decide +kernel
theorem k88_18 : decode (mB 88) 18 = .ok (.lrem, 1) := by decide +kernel
theorem k88_19 : decode (mB 88) 19 = .ok (.lstore 5, 2) := by decide +kernel
theorem k88_21 : decode (mB 88) 21 = .ok (.lload_n 2, 1) := by decide +kernel
theorem k88_22 : decode (mB 88) 22 = .ok (.lstore_n 0, 1) := by decide +kernel
theorem k88_23 : decode (mB 88) 23 = .ok (.lload 5, 2) := by decide +kernel
theorem k88_25 : decode (mB 88) 25 = .ok (.lstore_n 2, 1) := by decide +kernel
theorem k88_26 : decode (mB 88) 26 = .ok (.iinc 4 1, 3) := by decide +kernel
theorem k88_29 : decode (mB 88) 29 = .ok (.goto (-26), 3) := by decide +kernel
theorem k88_32 : decode (mB 88) 32 = .ok (.lload_n 0, 1) := by decide +kernel
theorem k88_33 : decode (mB 88) 33 = .ok (.lreturn, 1) := by decide +kernel
/-- SquareGrounds.commonDivisor, loop at 3 -/
noncomputable def q88_3 (v0 : Int64) (v2 : Int64) (v4 : Int32) (d5 : Option Value) (d6 : Option Value) (h : mHeap) : mR' := E 88 3 [some (.long v0), none, some (.long v2), none, some (.int v4), d5, d6] [] h
theorem q88_3_eq (v0 : Int64) (v2 : Int64) (v4 : Int32) (d5 : Option Value) (d6 : Option Value) (h : mHeap) : q88_3 v0 v2 v4 d5 d6 h = if 100 ≤ (v4 : Int32) then (some (some (.long v0), h)) else (if ((lg_cmp v2 0) : Int32) = 0 then (some (some (.long v0), h)) else (if (v2 : Int64) = 0 then none else (q88_3 v2 (v0 - v0 / v2 * v2) (v4 + 1) (some (.long (v0 - v0 / v2 * v2))) none h))) := by
  unfold q88_3
  refine e_iload (pc' := 5) k88_3 rfl rfl ?_
  refine e_bipush (v := 100) (pc' := 7) k88_5 rfl rfl ?_
  refine e_icmpge (t := 32) (pc' := 10) k88_7 rfl (by decide) (fun _ => ?_) (fun _ => ?_)
  · refine e_lload_n (pc' := 33) k88_32 rfl rfl ?_
    exact e_lret k88_33 (by decide +kernel)
  · refine e_lload_n (pc' := 11) k88_10 rfl rfl ?_
    refine e_lconst (v := 0) (pc' := 12) k88_11 rfl rfl ?_
    refine e_lcmp (pc' := 13) k88_12 rfl ?_
    refine e_ifeq (t := 32) (pc' := 16) k88_13 rfl (by decide) (fun _ => ?_) (fun _ => ?_)
    · refine e_lload_n (pc' := 33) k88_32 rfl rfl ?_
      exact e_lret k88_33 (by decide +kernel)
    · refine e_lload_n (pc' := 17) k88_16 rfl rfl ?_
      refine e_lload_n (pc' := 18) k88_17 rfl rfl ?_
      refine e_lrem (pc' := 19) k88_18 rfl ?_
      refine e_lstore (pc' := 21) k88_19 rfl rfl ?_
      refine e_lload_n (pc' := 22) k88_21 rfl rfl ?_
      refine e_lstore_n (pc' := 23) k88_22 rfl rfl ?_
      refine e_lload (pc' := 25) k88_23 rfl rfl ?_
      refine e_lstore_n (pc' := 26) k88_25 rfl rfl ?_
      refine e_iinc (c := 1) (pc' := 29) k88_26 rfl rfl rfl rfl ?_
      refine e_goto (pc' := 3) k88_29 (by decide) ?_
      rfl
/-- SquareGrounds.commonDivisor(JJ)J -/
theorem F88_eq (v0 : Int64) (v2 : Int64) (h : mHeap) : F 88 [.long v0, .long v2] h = q88_3 v0 v2 0 none none h := by
  show D 88 0 (mEnt 88 [.long v0, .long v2]) [] h 0 0 = _
  rw [show mEnt 88 [.long v0, .long v2] = [some (.long v0), none, some (.long v2), none, none, none, none] from rfl]
  refine e_iconst (v := 0) (pc' := 1) k88_0 rfl rfl ?_
  refine e_istore (pc' := 3) k88_1 rfl rfl ?_
  rfl
theorem k89_0 : decode (mB 89) 0 = .ok (.lload_n 0, 1) := by decide +kernel
theorem k89_1 : decode (mB 89) 1 = .ok (.iconst 3, 1) := by decide +kernel
theorem k89_2 : decode (mB 89) 2 = .ok (.iconst 2, 1) := by decide +kernel
theorem k89_3 : decode (mB 89) 3 = .ok (.iload_n 2, 1) := by decide +kernel
theorem k89_4 : decode (mB 89) 4 = .ok (.imul, 1) := by decide +kernel
theorem k89_5 : decode (mB 89) 5 = .ok (.iconst 1, 1) := by decide +kernel
theorem k89_6 : decode (mB 89) 6 = .ok (.isub, 1) := by decide +kernel
theorem k89_7 : decode (mB 89) 7 = .ok (.iload_n 3, 1) := by decide +kernel
theorem k89_8 : decode (mB 89) 8 = .ok (.isub, 1) := by decide +kernel
theorem k89_9 : decode (mB 89) 9 = .ok (.imul, 1) := by decide +kernel
theorem k89_10 : decode (mB 89) 10 = .ok (.lshr, 1) := by decide +kernel
theorem k89_11 : decode (mB 89) 11 = .ok (.l2i, 1) := by decide +kernel
theorem k89_12 : decode (mB 89) 12 = .ok (.bipush 7, 2) := by decide +kernel
theorem k89_14 : decode (mB 89) 14 = .ok (.iand, 1) := by decide +kernel
theorem k89_15 : decode (mB 89) 15 = .ok (.ireturn, 1) := by decide +kernel
/-- SquareGrounds.place(JII)I -/
theorem F89_eq (v0 : Int64) (v2 : Int32) (v3 : Int32) (h : mHeap) : F 89 [.long v0, .int v2, .int v3] h = some (some (.int ((Int64.toInt32 (v0 >>> (Int32.toInt64 (3 * (((2 * v2) - 1) - v3)) &&& 63))) &&& 7)), h) := by
  show D 89 0 (mEnt 89 [.long v0, .int v2, .int v3]) [] h 0 0 = _
  rw [show mEnt 89 [.long v0, .int v2, .int v3] = [some (.long v0), none, some (.int v2), some (.int v3)] from rfl]
  refine e_lload_n (pc' := 1) k89_0 rfl rfl ?_
  refine e_iconst (v := 3) (pc' := 2) k89_1 rfl rfl ?_
  refine e_iconst (v := 2) (pc' := 3) k89_2 rfl rfl ?_
  refine e_iload_n (pc' := 4) k89_3 rfl rfl ?_
  refine e_imul (pc' := 5) k89_4 rfl ?_
  refine e_iconst (v := 1) (pc' := 6) k89_5 rfl rfl ?_
  refine e_isub (pc' := 7) k89_6 rfl ?_
  refine e_iload_n (pc' := 8) k89_7 rfl rfl ?_
  refine e_isub (pc' := 9) k89_8 rfl ?_
  refine e_imul (pc' := 10) k89_9 rfl ?_
  refine e_lshr (pc' := 11) k89_10 rfl ?_
  refine e_l2i (pc' := 12) k89_11 rfl ?_
  refine e_bipush (v := 7) (pc' := 14) k89_12 rfl rfl ?_
  refine e_iand (pc' := 15) k89_14 rfl ?_
  exact e_iret k89_15 (by decide +kernel)
theorem k90_0 : decode (mB 90) 0 = .ok (.aload_n 0, 1) := by decide +kernel
theorem k90_1 : decode (mB 90) 1 = .ok (.getfield 86, 3) := by decide +kernel
theorem k90_4 : decode (mB 90) 4 = .ok (.aload_n 1, 1) := by decide +kernel
theorem k90_5 : decode (mB 90) 5 = .ok (.getfield 86, 3) := by decide +kernel
theorem k90_8 : decode (mB 90) 8 = .ok (.if_icmp .ne 36, 3) := by decide +kernel
theorem k90_11 : decode (mB 90) 11 = .ok (.aload_n 0, 1) := by decide +kernel
theorem k90_12 : decode (mB 90) 12 = .ok (.getfield 86, 3) := by decide +kernel
theorem k90_15 : decode (mB 90) 15 = .ok (.ifCond .le 29, 3) := by decide +kernel
theorem k90_18 : decode (mB 90) 18 = .ok (.aload_n 0, 1) := by decide +kernel
theorem k90_19 : decode (mB 90) 19 = .ok (.invokevirtual 278, 3) := by decide +kernel
theorem k90_22 : decode (mB 90) 22 = .ok (.ifCond .eq 22, 3) := by decide +kernel
theorem k90_25 : decode (mB 90) 25 = .ok (.aload_n 1, 1) := by decide +kernel
theorem k90_26 : decode (mB 90) 26 = .ok (.invokevirtual 278, 3) := by decide +kernel
theorem k90_29 : decode (mB 90) 29 = .ok (.ifCond .eq 15, 3) := by decide +kernel
theorem k90_32 : decode (mB 90) 32 = .ok (.aload_n 0, 1) := by decide +kernel
theorem k90_33 : decode (mB 90) 33 = .ok (.aload_n 1, 1) := by decide +kernel
theorem k90_34 : decode (mB 90) 34 = .ok (.invokestatic 281, 3) := by decide +kernel
theorem k90_37 : decode (mB 90) 37 = .ok (.ifCond .eq 7, 3) := by decide +kernel
theorem k90_40 : decode (mB 90) 40 = .ok (.iconst 1, 1) := by decide +kernel
theorem k90_41 : decode (mB 90) 41 = .ok (.goto 4, 3) := by decide +kernel
theorem k90_44 : decode (mB 90) 44 = .ok (.iconst 0, 1) := by decide +kernel
theorem k90_45 : decode (mB 90) 45 = .ok (.ireturn, 1) := by decide +kernel
/-- SquareGrounds.tellGround(LSquareGrounds$Sheet;LSquareGrounds$Sheet;)Z -/
theorem F90_eq (v0 : Nat) (v1 : Nat) (h : mHeap) : F 90 [.ref v0, .ref v1] h = (gI h v0 6 0).bind fun x1 => (gI h v1 6 0).bind fun x2 => if ¬ (x1 : Int32) = x2 then (if narrow .boolean (.int 0) = .int 0 then some (some (.int 0), h) else none) else ((gI h v0 6 0).bind fun x3 => if (x3 : Int32) ≤ 0 then (if narrow .boolean (.int 0) = .int 0 then some (some (.int 0), h) else none) else ((vI 49 v0 [] h).bind fun q4 => if (q4.1 : Int32) = 0 then (if narrow .boolean (.int 0) = .int 0 then some (some (.int 0), q4.2) else none) else ((vI 49 v1 [] q4.2).bind fun q5 => if (q5.1 : Int32) = 0 then (if narrow .boolean (.int 0) = .int 0 then some (some (.int 0), q5.2) else none) else ((sI 91 [.ref v0, .ref v1] q5.2).bind fun q6 => if (q6.1 : Int32) = 0 then (if narrow .boolean (.int 0) = .int 0 then some (some (.int 0), q6.2) else none) else (if narrow .boolean (.int 1) = .int 1 then some (some (.int 1), q6.2) else none))))) := by
  show D 90 0 (mEnt 90 [.ref v0, .ref v1]) [] h 0 0 = _
  rw [show mEnt 90 [.ref v0, .ref v1] = [some (.ref v0), some (.ref v1)] from rfl]
  refine e_aload_n (pc' := 1) k90_0 rfl rfl ?_
  refine e_getI (pc' := 4) k90_1 rfl (ci := 6) (k := 0) (by decide +kernel) (by decide +kernel) (fun x1 => ?_)
  refine e_aload_n (pc' := 5) k90_4 rfl rfl ?_
  refine e_getI (pc' := 8) k90_5 rfl (ci := 6) (k := 0) (by decide +kernel) (by decide +kernel) (fun x2 => ?_)
  refine e_icmpne (t := 44) (pc' := 11) k90_8 rfl (by decide) (fun _ => ?_) (fun _ => ?_)
  · refine e_iconst (v := 0) (pc' := 45) k90_44 rfl rfl ?_
    exact e_zret k90_45 (by decide +kernel)
  · refine e_aload_n (pc' := 12) k90_11 rfl rfl ?_
    refine e_getI (pc' := 15) k90_12 rfl (ci := 6) (k := 0) (by decide +kernel) (by decide +kernel) (fun x3 => ?_)
    refine e_ifle (t := 44) (pc' := 18) k90_15 rfl (by decide) (fun _ => ?_) (fun _ => ?_)
    · refine e_iconst (v := 0) (pc' := 45) k90_44 rfl rfl ?_
      exact e_zret k90_45 (by decide +kernel)
    · refine e_aload_n (pc' := 19) k90_18 rfl rfl ?_
      refine e_vI (j' := 49) (as := []) (rest := []) (pc' := 22) k90_19 rfl (show mCk 90 1 278 49 0 = true by decide +kernel) (Or.inr (by decide +kernel)) rfl (Nat.le_of_ble_eq_true rfl) (show 1 ≤ mL 49 by decide +kernel) (fun q4 => ?_)
      refine e_ifeq (t := 44) (pc' := 25) k90_22 rfl (by decide) (fun _ => ?_) (fun _ => ?_)
      · refine e_iconst (v := 0) (pc' := 45) k90_44 rfl rfl ?_
        exact e_zret k90_45 (by decide +kernel)
      · refine e_aload_n (pc' := 26) k90_25 rfl rfl ?_
        refine e_vI (j' := 49) (as := []) (rest := []) (pc' := 29) k90_26 rfl (show mCk 90 1 278 49 0 = true by decide +kernel) (Or.inr (by decide +kernel)) rfl (Nat.le_of_ble_eq_true rfl) (show 1 ≤ mL 49 by decide +kernel) (fun q5 => ?_)
        refine e_ifeq (t := 44) (pc' := 32) k90_29 rfl (by decide) (fun _ => ?_) (fun _ => ?_)
        · refine e_iconst (v := 0) (pc' := 45) k90_44 rfl rfl ?_
          exact e_zret k90_45 (by decide +kernel)
        · refine e_aload_n (pc' := 33) k90_32 rfl rfl ?_
          refine e_aload_n (pc' := 34) k90_33 rfl rfl ?_
          refine e_sI (j' := 91) (as := [.ref v0, .ref v1]) (rest := []) (pc' := 37) k90_34 rfl (show mCk 90 0 281 91 2 = true by decide +kernel) (Or.inr (by decide +kernel)) rfl (Nat.le_of_ble_eq_true rfl) (show 2 ≤ mL 91 by decide +kernel) (fun q6 => ?_)
          refine e_ifeq (t := 44) (pc' := 40) k90_37 rfl (by decide) (fun _ => ?_) (fun _ => ?_)
          · refine e_iconst (v := 0) (pc' := 45) k90_44 rfl rfl ?_
            exact e_zret k90_45 (by decide +kernel)
          · refine e_iconst (v := 1) (pc' := 41) k90_40 rfl rfl ?_
            refine e_goto (pc' := 45) k90_41 (by decide) ?_
            exact e_zret k90_45 (by decide +kernel)
theorem k91_0 : decode (mB 91) 0 = .ok (.iconst 1, 1) := by decide +kernel
theorem k91_1 : decode (mB 91) 1 = .ok (.istore_n 2, 1) := by decide +kernel
theorem k91_2 : decode (mB 91) 2 = .ok (.iconst 1, 1) := by decide +kernel
theorem k91_3 : decode (mB 91) 3 = .ok (.istore_n 3, 1) := by decide +kernel
theorem k91_4 : decode (mB 91) 4 = .ok (.iload_n 3, 1) := by decide +kernel
theorem k91_5 : decode (mB 91) 5 = .ok (.aload_n 0, 1) := by decide +kernel
theorem k91_6 : decode (mB 91) 6 = .ok (.getfield 86, 3) := by decide +kernel
theorem k91_9 : decode (mB 91) 9 = .ok (.if_icmp .ge 59, 3) := by decide +kernel
theorem k91_12 : decode (mB 91) 12 = .ok (.iconst 0, 1) := by decide +kernel
theorem k91_13 : decode (mB 91) 13 = .ok (.istore 4, 2) := by decide +kernel
theorem k91_15 : decode (mB 91) 15 = .ok (.iload 4, 2) := by decide +kernel
theorem k91_17 : decode (mB 91) 17 = .ok (.aload_n 0, 1) := by decide +kernel
theorem k91_18 : decode (mB 91) 18 = .ok (.getfield 86, 3) := by decide +kernel
theorem k91_21 : decode (mB 91) 21 = .ok (.if_icmp .ge 41, 3) := by decide +kernel
theorem k91_24 : decode (mB 91) 24 = .ok (.iload_n 2, 1) := by decide +kernel
theorem k91_25 : decode (mB 91) 25 = .ok (.iload 4, 2) := by decide +kernel
theorem k91_27 : decode (mB 91) 27 = .ok (.ishr, 1) := by decide +kernel
theorem k91_28 : decode (mB 91) 28 = .ok (.iconst 1, 1) := by decide +kernel
theorem k91_29 : decode (mB 91) 29 = .ok (.iand, 1) := by decide +kernel
theorem k91_30 : decode (mB 91) 30 = .ok (.iconst 1, 1) := by decide +kernel
theorem k91_31 : decode (mB 91) 31 = .ok (.if_icmp .ne 25, 3) := by decide +kernel
theorem k91_34 : decode (mB 91) 34 = .ok (.iload_n 2, 1) := by decide +kernel
theorem k91_35 : decode (mB 91) 35 = .ok (.iconst 1, 1) := by decide +kernel
theorem k91_36 : decode (mB 91) 36 = .ok (.aload_n 0, 1) := by decide +kernel
theorem k91_37 : decode (mB 91) 37 = .ok (.getfield 89, 3) := by decide +kernel
theorem k91_40 : decode (mB 91) 40 = .ok (.iload 4, 2) := by decide +kernel
theorem k91_42 : decode (mB 91) 42 = .ok (.baload, 1) := by decide +kernel
theorem k91_43 : decode (mB 91) 43 = .ok (.ishl, 1) := by decide +kernel
theorem k91_44 : decode (mB 91) 44 = .ok (.iconst 1, 1) := by decide +kernel
theorem k91_45 : decode (mB 91) 45 = .ok (.aload_n 1, 1) := by decide +kernel
theorem k91_46 : decode (mB 91) 46 = .ok (.getfield 89, 3) := by decide +kernel
theorem k91_49 : decode (mB 91) 49 = .ok (.iload 4, 2) := by decide +kernel
theorem k91_51 : decode (mB 91) 51 = .ok (.baload, 1) := by decide +kernel
theorem k91_52 : decode (mB 91) 52 = .ok (.ishl, 1) := by decide +kernel
theorem k91_53 : decode (mB 91) 53 = .ok (.ior, 1) := by decide +kernel
theorem k91_54 : decode (mB 91) 54 = .ok (.ior, 1) := by decide +kernel
theorem k91_55 : decode (mB 91) 55 = .ok (.istore_n 2, 1) := by decide +kernel
theorem k91_56 : decode (mB 91) 56 = .ok (.iinc 4 1, 3) := by decide +kernel
theorem k91_59 : decode (mB 91) 59 = .ok (.goto (-44), 3) := by decide +kernel
theorem k91_62 : decode (mB 91) 62 = .ok (.iinc 3 1, 3) := by decide +kernel
theorem k91_65 : decode (mB 91) 65 = .ok (.goto (-61), 3) := by decide +kernel
theorem k91_68 : decode (mB 91) 68 = .ok (.iload_n 2, 1) := by decide +kernel
theorem k91_69 : decode (mB 91) 69 = .ok (.iconst 1, 1) := by decide +kernel
theorem k91_70 : decode (mB 91) 70 = .ok (.aload_n 0, 1) := by decide +kernel
theorem k91_71 : decode (mB 91) 71 = .ok (.getfield 86, 3) := by decide +kernel
theorem k91_74 : decode (mB 91) 74 = .ok (.ishl, 1) := by decide +kernel
theorem k91_75 : decode (mB 91) 75 = .ok (.iconst 1, 1) := by decide +kernel
theorem k91_76 : decode (mB 91) 76 = .ok (.isub, 1) := by decide +kernel
theorem k91_77 : decode (mB 91) 77 = .ok (.if_icmp .ne 7, 3) := by decide +kernel
theorem k91_80 : decode (mB 91) 80 = .ok (.iconst 1, 1) := by decide +kernel
theorem k91_81 : decode (mB 91) 81 = .ok (.goto 4, 3) := by decide +kernel
theorem k91_84 : decode (mB 91) 84 = .ok (.iconst 0, 1) := by decide +kernel
theorem k91_85 : decode (mB 91) 85 = .ok (.ireturn, 1) := by decide +kernel
/-- SquareGrounds.hangTogether, loop at 4 -/
noncomputable def q91_4 (v0 : Nat) (v1 : Nat) (v2 : Int32) (v3 : Int32) (d4 : Option Value) (h : mHeap) : mR' := E 91 4 [some (.ref v0), some (.ref v1), some (.int v2), some (.int v3), d4] [] h
/-- SquareGrounds.hangTogether, loop at 15 -/
noncomputable def q91_15 (v0 : Nat) (v1 : Nat) (v2 : Int32) (v3 : Int32) (v4 : Int32) (h : mHeap) : mR' := E 91 15 [some (.ref v0), some (.ref v1), some (.int v2), some (.int v3), some (.int v4)] [] h
theorem q91_4_eq (v0 : Nat) (v1 : Nat) (v2 : Int32) (v3 : Int32) (d4 : Option Value) (h : mHeap) : q91_4 v0 v1 v2 v3 d4 h = (gI h v0 6 0).bind fun x1 => if x1 ≤ (v3 : Int32) then ((gI h v0 6 0).bind fun x2 => if ¬ (v2 : Int32) = ((1 <<< (x2 &&& 31)) - 1) then (if narrow .boolean (.int 0) = .int 0 then some (some (.int 0), h) else none) else (if narrow .boolean (.int 1) = .int 1 then some (some (.int 1), h) else none)) else (q91_15 v0 v1 v2 v3 0 h) := by
  unfold q91_4
  refine e_iload_n (pc' := 5) k91_4 rfl rfl ?_
  refine e_aload_n (pc' := 6) k91_5 rfl rfl ?_
  refine e_getI (pc' := 9) k91_6 rfl (ci := 6) (k := 0) (by decide +kernel) (by decide +kernel) (fun x1 => ?_)
  refine e_icmpge (t := 68) (pc' := 12) k91_9 rfl (by decide) (fun _ => ?_) (fun _ => ?_)
  · refine e_iload_n (pc' := 69) k91_68 rfl rfl ?_
    refine e_iconst (v := 1) (pc' := 70) k91_69 rfl rfl ?_
    refine e_aload_n (pc' := 71) k91_70 rfl rfl ?_
    refine e_getI (pc' := 74) k91_71 rfl (ci := 6) (k := 0) (by decide +kernel) (by decide +kernel) (fun x2 => ?_)
    refine e_ishl (pc' := 75) k91_74 rfl ?_
    refine e_iconst (v := 1) (pc' := 76) k91_75 rfl rfl ?_
    refine e_isub (pc' := 77) k91_76 rfl ?_
    refine e_icmpne (t := 84) (pc' := 80) k91_77 rfl (by decide) (fun _ => ?_) (fun _ => ?_)
    · refine e_iconst (v := 0) (pc' := 85) k91_84 rfl rfl ?_
      exact e_zret k91_85 (by decide +kernel)
    · refine e_iconst (v := 1) (pc' := 81) k91_80 rfl rfl ?_
      refine e_goto (pc' := 85) k91_81 (by decide) ?_
      exact e_zret k91_85 (by decide +kernel)
  · refine e_iconst (v := 0) (pc' := 13) k91_12 rfl rfl ?_
    refine e_istore (pc' := 15) k91_13 rfl rfl ?_
    rfl
theorem q91_15_eq (v0 : Nat) (v1 : Nat) (v2 : Int32) (v3 : Int32) (v4 : Int32) (h : mHeap) : q91_15 v0 v1 v2 v3 v4 h = (gI h v0 6 0).bind fun x1 => if x1 ≤ (v4 : Int32) then (q91_4 v0 v1 v2 (v3 + 1) (some (.int v4)) h) else (if ¬ (((v2 >>> (v4 &&& 31)) &&& 1) : Int32) = 1 then (q91_15 v0 v1 v2 v3 (v4 + 1) h) else ((gR h v0 6 1).bind fun x2 => (cAldB h x2 v4).bind fun x3 => (gR h v1 6 1).bind fun x4 => (cAldB h x4 v4).bind fun x5 => q91_15 v0 v1 (v2 ||| ((1 <<< (x3 &&& 31)) ||| (1 <<< (x5 &&& 31)))) v3 (v4 + 1) h)) := by
  unfold q91_15
  refine e_iload (pc' := 17) k91_15 rfl rfl ?_
  refine e_aload_n (pc' := 18) k91_17 rfl rfl ?_
  refine e_getI (pc' := 21) k91_18 rfl (ci := 6) (k := 0) (by decide +kernel) (by decide +kernel) (fun x1 => ?_)
  refine e_icmpge (t := 62) (pc' := 24) k91_21 rfl (by decide) (fun _ => ?_) (fun _ => ?_)
  · refine e_iinc (c := 1) (pc' := 65) k91_62 rfl rfl rfl rfl ?_
    refine e_goto (pc' := 4) k91_65 (by decide) ?_
    rfl
  · refine e_iload_n (pc' := 25) k91_24 rfl rfl ?_
    refine e_iload (pc' := 27) k91_25 rfl rfl ?_
    refine e_ishr (pc' := 28) k91_27 rfl ?_
    refine e_iconst (v := 1) (pc' := 29) k91_28 rfl rfl ?_
    refine e_iand (pc' := 30) k91_29 rfl ?_
    refine e_iconst (v := 1) (pc' := 31) k91_30 rfl rfl ?_
    refine e_icmpne (t := 56) (pc' := 34) k91_31 rfl (by decide) (fun _ => ?_) (fun _ => ?_)
    · refine e_iinc (c := 1) (pc' := 59) k91_56 rfl rfl rfl rfl ?_
      refine e_goto (pc' := 15) k91_59 (by decide) ?_
      rfl
    · refine e_iload_n (pc' := 35) k91_34 rfl rfl ?_
      refine e_iconst (v := 1) (pc' := 36) k91_35 rfl rfl ?_
      refine e_aload_n (pc' := 37) k91_36 rfl rfl ?_
      refine e_getR (pc' := 40) k91_37 rfl (ci := 6) (k := 1) (by decide +kernel) (by decide +kernel) (fun x2 => ?_)
      refine e_iload (pc' := 42) k91_40 rfl rfl ?_
      refine e_bald (pc' := 43) k91_42 rfl (fun x3 => ?_)
      refine e_ishl (pc' := 44) k91_43 rfl ?_
      refine e_iconst (v := 1) (pc' := 45) k91_44 rfl rfl ?_
      refine e_aload_n (pc' := 46) k91_45 rfl rfl ?_
      refine e_getR (pc' := 49) k91_46 rfl (ci := 6) (k := 1) (by decide +kernel) (by decide +kernel) (fun x4 => ?_)
      refine e_iload (pc' := 51) k91_49 rfl rfl ?_
      refine e_bald (pc' := 52) k91_51 rfl (fun x5 => ?_)
      refine e_ishl (pc' := 53) k91_52 rfl ?_
      refine e_ior (pc' := 54) k91_53 rfl ?_
      refine e_ior (pc' := 55) k91_54 rfl ?_
      refine e_istore_n (pc' := 56) k91_55 rfl rfl ?_
      refine e_iinc (c := 1) (pc' := 59) k91_56 rfl rfl rfl rfl ?_
      refine e_goto (pc' := 15) k91_59 (by decide) ?_
      rfl
/-- SquareGrounds.hangTogether(LSquareGrounds$Sheet;LSquareGrounds$Sheet;)Z -/
theorem F91_eq (v0 : Nat) (v1 : Nat) (h : mHeap) : F 91 [.ref v0, .ref v1] h = q91_4 v0 v1 1 1 none h := by
  show D 91 0 (mEnt 91 [.ref v0, .ref v1]) [] h 0 0 = _
  rw [show mEnt 91 [.ref v0, .ref v1] = [some (.ref v0), some (.ref v1), none, none, none] from rfl]
  refine e_iconst (v := 1) (pc' := 1) k91_0 rfl rfl ?_
  refine e_istore_n (pc' := 2) k91_1 rfl rfl ?_
  refine e_iconst (v := 1) (pc' := 3) k91_2 rfl rfl ?_
  refine e_istore_n (pc' := 4) k91_3 rfl rfl ?_
  rfl
theorem k92_0 : decode (mB 92) 0 = .ok (.aload_n 0, 1) := by decide +kernel
theorem k92_1 : decode (mB 92) 1 = .ok (.iload_n 1, 1) := by decide +kernel
theorem k92_2 : decode (mB 92) 2 = .ok (.putfield 65, 3) := by decide +kernel
theorem k92_5 : decode (mB 92) 5 = .ok (.aload_n 0, 1) := by decide +kernel
theorem k92_6 : decode (mB 92) 6 = .ok (.getfield 61, 3) := by decide +kernel
theorem k92_9 : decode (mB 92) 9 = .ok (.iload_n 1, 1) := by decide +kernel
theorem k92_10 : decode (mB 92) 10 = .ok (.dup2, 1) := by decide +kernel
theorem k92_11 : decode (mB 92) 11 = .ok (.iaload, 1) := by decide +kernel
theorem k92_12 : decode (mB 92) 12 = .ok (.iconst 1, 1) := by decide +kernel
theorem k92_13 : decode (mB 92) 13 = .ok (.iadd, 1) := by decide +kernel
theorem k92_14 : decode (mB 92) 14 = .ok (.iastore, 1) := by decide +kernel
theorem k92_15 : decode (mB 92) 15 = .ok (.bipush (-3), 2) := by decide +kernel
theorem k92_17 : decode (mB 92) 17 = .ok (.ireturn, 1) := by decide +kernel
/-- SquareGrounds.found(I)I -/
theorem F92_eq (v0 : Nat) (v1 : Int32) (h : mHeap) : F 92 [.ref v0, .int v1] h = (cPut h v0 7 9 (.int v1)).bind fun h1 => (gR h1 v0 7 8).bind fun x2 => (cAldI false h1 x2 v1).bind fun x3 => (cAstI h1 x2 v1 (x3 + 1)).bind fun h4 => some (some (.int (-3)), h4) := by
  show D 92 0 (mEnt 92 [.ref v0, .int v1]) [] h 0 0 = _
  rw [show mEnt 92 [.ref v0, .int v1] = [some (.ref v0), some (.int v1)] from rfl]
  refine e_aload_n (pc' := 1) k92_0 rfl rfl ?_
  refine e_iload_n (pc' := 2) k92_1 rfl rfl ?_
  refine e_put (pc' := 5) k92_2 rfl (ci := 7) (k := 9) (by decide +kernel) (by decide +kernel) rfl (fun h1 => ?_)
  refine e_aload_n (pc' := 6) k92_5 rfl rfl ?_
  refine e_getR (pc' := 9) k92_6 rfl (ci := 7) (k := 8) (by decide +kernel) (by decide +kernel) (fun x2 => ?_)
  refine e_iload_n (pc' := 10) k92_9 rfl rfl ?_
  refine e_dup2 (pc' := 11) k92_10 rfl ⟨rfl, rfl⟩ ?_
  refine e_iald (pc' := 12) k92_11 rfl (lw := false) rfl (fun x3 => ?_)
  refine e_iconst (v := 1) (pc' := 13) k92_12 rfl rfl ?_
  refine e_iadd (pc' := 14) k92_13 rfl ?_
  refine e_iast (pc' := 15) k92_14 rfl (fun h4 => ?_)
  refine e_bipush (v := -3) (pc' := 17) k92_15 rfl rfl ?_
  exact e_iret k92_17 (by decide +kernel)
theorem k93_0 : decode (mB 93) 0 = .ok (.iload_n 1, 1) := by decide +kernel
theorem k93_1 : decode (mB 93) 1 = .ok (.invokestatic 106, 3) := by decide +kernel
theorem k93_4 : decode (mB 93) 4 = .ok (.ifCond .ne 5, 3) := by decide +kernel
theorem k93_7 : decode (mB 93) 7 = .ok (.iconst (-1), 1) := by decide +kernel
theorem k93_8 : decode (mB 93) 8 = .ok (.ireturn, 1) := by decide +kernel
theorem k93_9 : decode (mB 93) 9 = .ok (.aload_n 0, 1) := by decide +kernel
theorem k93_10 : decode (mB 93) 10 = .ok (.getfield 17, 3) := by decide +kernel
theorem k93_13 : decode (mB 93) 13 = .ok (.iload_n 1, 1) := by decide +kernel
theorem k93_14 : decode (mB 93) 14 = .ok (.aaload, 1) := by decide +kernel
theorem k93_15 : decode (mB 93) 15 = .ok (.invokevirtual 120, 3) := by decide +kernel
theorem k93_18 : decode (mB 93) 18 = .ok (.ifCond .eq 9, 3) := by decide +kernel
theorem k93_21 : decode (mB 93) 21 = .ok (.aload_n 0, 1) := by decide +kernel
theorem k93_22 : decode (mB 93) 22 = .ok (.iconst 1, 1) := by decide +kernel
theorem k93_23 : decode (mB 93) 23 = .ok (.invokevirtual 74, 3) := by decide +kernel
theorem k93_26 : decode (mB 93) 26 = .ok (.ireturn, 1) := by decide +kernel
theorem k93_27 : decode (mB 93) 27 = .ok (.aload_n 0, 1) := by decide +kernel
theorem k93_28 : decode (mB 93) 28 = .ok (.getfield 50, 3) := by decide +kernel
theorem k93_31 : decode (mB 93) 31 = .ok (.aload_n 0, 1) := by decide +kernel
theorem k93_32 : decode (mB 93) 32 = .ok (.getfield 17, 3) := by decide +kernel
theorem k93_35 : decode (mB 93) 35 = .ok (.iload_n 1, 1) := by decide +kernel
theorem k93_36 : decode (mB 93) 36 = .ok (.aaload, 1) := by decide +kernel
theorem k93_37 : decode (mB 93) 37 = .ok (.invokevirtual 284, 3) := by decide +kernel
theorem k93_40 : decode (mB 93) 40 = .ok (.aload_n 0, 1) := by decide +kernel
theorem k93_41 : decode (mB 93) 41 = .ok (.getfield 50, 3) := by decide +kernel
theorem k93_44 : decode (mB 93) 44 = .ok (.getfield 287, 3) := by decide +kernel
theorem k93_47 : decode (mB 93) 47 = .ok (.ifCond .eq 8, 3) := by decide +kernel
theorem k93_50 : decode (mB 93) 50 = .ok (.bipush (-6), 2) := by decide +kernel
theorem k93_52 : decode (mB 93) 52 = .ok (.goto 4, 3) := by decide +kernel
theorem k93_55 : decode (mB 93) 55 = .ok (.iconst 0, 1) := by decide +kernel
theorem k93_56 : decode (mB 93) 56 = .ok (.ireturn, 1) := by decide +kernel
/-- SquareGrounds.refusedReach(I)I -/
theorem F93_eq (v0 : Nat) (v1 : Int32) (h : mHeap) : F 93 [.ref v0, .int v1] h = (sI 86 [.int v1] h).bind fun q1 => if ¬ (q1.1 : Int32) = 0 then ((gR q1.2 v0 7 1).bind fun x2 => (cAldR q1.2 x2 v1).bind fun x3 => (vI 18 x3 [] q1.2).bind fun q4 => if (q4.1 : Int32) = 0 then ((gR q4.2 v0 7 6).bind fun x5 => (gR q4.2 v0 7 1).bind fun x6 => (cAldR q4.2 x6 v1).bind fun x7 => (vV 38 x5 [.ref x7] q4.2).bind fun h8 => (gR h8 v0 7 6).bind fun x9 => (gI h8 x9 5 7).bind fun x10 => if (x10 : Int32) = 0 then (some (some (.int 0), h8)) else (some (some (.int (-6)), h8))) else ((vI 92 v0 [.int 1] q4.2).bind fun q11 => some (some (.int q11.1), q11.2))) else (some (some (.int (-1)), q1.2)) := by
  show D 93 0 (mEnt 93 [.ref v0, .int v1]) [] h 0 0 = _
  rw [show mEnt 93 [.ref v0, .int v1] = [some (.ref v0), some (.int v1)] from rfl]
  refine e_iload_n (pc' := 1) k93_0 rfl rfl ?_
  refine e_sI (j' := 86) (as := [.int v1]) (rest := []) (pc' := 4) k93_1 rfl (show mCk 93 0 106 86 1 = true by decide +kernel) (Or.inr (by decide +kernel)) rfl (Nat.le_of_ble_eq_true rfl) (show 1 ≤ mL 86 by decide +kernel) (fun q1 => ?_)
  refine e_ifne (t := 9) (pc' := 7) k93_4 rfl (by decide) (fun _ => ?_) (fun _ => ?_)
  · refine e_aload_n (pc' := 10) k93_9 rfl rfl ?_
    refine e_getR (pc' := 13) k93_10 rfl (ci := 7) (k := 1) (by decide +kernel) (by decide +kernel) (fun x2 => ?_)
    refine e_iload_n (pc' := 14) k93_13 rfl rfl ?_
    refine e_aald (pc' := 15) k93_14 rfl (fun x3 => ?_)
    refine e_vI (j' := 18) (as := []) (rest := []) (pc' := 18) k93_15 rfl (show mCk 93 1 120 18 0 = true by decide +kernel) (Or.inr (by decide +kernel)) rfl (Nat.le_of_ble_eq_true rfl) (show 1 ≤ mL 18 by decide +kernel) (fun q4 => ?_)
    refine e_ifeq (t := 27) (pc' := 21) k93_18 rfl (by decide) (fun _ => ?_) (fun _ => ?_)
    · refine e_aload_n (pc' := 28) k93_27 rfl rfl ?_
      refine e_getR (pc' := 31) k93_28 rfl (ci := 7) (k := 6) (by decide +kernel) (by decide +kernel) (fun x5 => ?_)
      refine e_aload_n (pc' := 32) k93_31 rfl rfl ?_
      refine e_getR (pc' := 35) k93_32 rfl (ci := 7) (k := 1) (by decide +kernel) (by decide +kernel) (fun x6 => ?_)
      refine e_iload_n (pc' := 36) k93_35 rfl rfl ?_
      refine e_aald (pc' := 37) k93_36 rfl (fun x7 => ?_)
      refine e_vV (j' := 38) (as := [.ref x7]) (rest := []) (pc' := 40) k93_37 rfl (show mCk 93 1 284 38 1 = true by decide +kernel) (by decide +kernel) rfl (Nat.le_of_ble_eq_true rfl) (show 2 ≤ mL 38 by decide +kernel) (fun h8 => ?_)
      refine e_aload_n (pc' := 41) k93_40 rfl rfl ?_
      refine e_getR (pc' := 44) k93_41 rfl (ci := 7) (k := 6) (by decide +kernel) (by decide +kernel) (fun x9 => ?_)
      refine e_getI (pc' := 47) k93_44 rfl (ci := 5) (k := 7) (by decide +kernel) (by decide +kernel) (fun x10 => ?_)
      refine e_ifeq (t := 55) (pc' := 50) k93_47 rfl (by decide) (fun _ => ?_) (fun _ => ?_)
      · refine e_iconst (v := 0) (pc' := 56) k93_55 rfl rfl ?_
        exact e_iret k93_56 (by decide +kernel)
      · refine e_bipush (v := -6) (pc' := 52) k93_50 rfl rfl ?_
        refine e_goto (pc' := 56) k93_52 (by decide) ?_
        exact e_iret k93_56 (by decide +kernel)
    · refine e_aload_n (pc' := 22) k93_21 rfl rfl ?_
      refine e_iconst (v := 1) (pc' := 23) k93_22 rfl rfl ?_
      refine e_vI (j' := 92) (as := [.int 1]) (rest := []) (pc' := 26) k93_23 rfl (show mCk 93 1 74 92 1 = true by decide +kernel) (Or.inl (by decide +kernel)) rfl (Nat.le_of_ble_eq_true rfl) (show 2 ≤ mL 92 by decide +kernel) (fun q11 => ?_)
      exact e_iret k93_26 (by decide +kernel)
  · refine e_iconst (v := -1) (pc' := 8) k93_7 rfl rfl ?_
    exact e_iret k93_8 (by decide +kernel)
theorem k94_0 : decode (mB 94) 0 = .ok (.aload_n 0, 1) := by decide +kernel
theorem k94_1 : decode (mB 94) 1 = .ok (.getfield 36, 3) := by decide +kernel
theorem k94_4 : decode (mB 94) 4 = .ok (.aload_n 1, 1) := by decide +kernel
theorem k94_5 : decode (mB 94) 5 = .ok (.invokevirtual 126, 3) := by decide +kernel
theorem k94_8 : decode (mB 94) 8 = .ok (.aload_n 0, 1) := by decide +kernel
theorem k94_9 : decode (mB 94) 9 = .ok (.getfield 36, 3) := by decide +kernel
theorem k94_12 : decode (mB 94) 12 = .ok (.getfield 129, 3) := by decide +kernel
theorem k94_15 : decode (mB 94) 15 = .ok (.ireturn, 1) := by decide +kernel
/-- SquareGrounds.selvesOf(LSquareGrounds$Ground;)I -/
theorem F94_eq (v0 : Nat) (v1 : Nat) (h : mHeap) : F 94 [.ref v0, .ref v1] h = (gR h v0 7 4).bind fun x1 => (vV 34 x1 [.ref v1] h).bind fun h2 => (gR h2 v0 7 4).bind fun x3 => (gI h2 x3 4 4).bind fun x4 => some (some (.int x4), h2) := by
  show D 94 0 (mEnt 94 [.ref v0, .ref v1]) [] h 0 0 = _
  rw [show mEnt 94 [.ref v0, .ref v1] = [some (.ref v0), some (.ref v1)] from rfl]
  refine e_aload_n (pc' := 1) k94_0 rfl rfl ?_
  refine e_getR (pc' := 4) k94_1 rfl (ci := 7) (k := 4) (by decide +kernel) (by decide +kernel) (fun x1 => ?_)
  refine e_aload_n (pc' := 5) k94_4 rfl rfl ?_
  refine e_vV (j' := 34) (as := [.ref v1]) (rest := []) (pc' := 8) k94_5 rfl (show mCk 94 1 126 34 1 = true by decide +kernel) (by decide +kernel) rfl (Nat.le_of_ble_eq_true rfl) (show 2 ≤ mL 34 by decide +kernel) (fun h2 => ?_)
  refine e_aload_n (pc' := 9) k94_8 rfl rfl ?_
  refine e_getR (pc' := 12) k94_9 rfl (ci := 7) (k := 4) (by decide +kernel) (by decide +kernel) (fun x3 => ?_)
  refine e_getI (pc' := 15) k94_12 rfl (ci := 4) (k := 4) (by decide +kernel) (by decide +kernel) (fun x4 => ?_)
  exact e_iret k94_15 (by decide +kernel)
theorem k95_0 : decode (mB 95) 0 = .ok (.aload_n 0, 1) := by decide +kernel
theorem k95_1 : decode (mB 95) 1 = .ok (.getfield 43, 3) := by decide +kernel
theorem k95_4 : decode (mB 95) 4 = .ok (.aload_n 1, 1) := by decide +kernel
theorem k95_5 : decode (mB 95) 5 = .ok (.invokevirtual 184, 3) := by decide +kernel
theorem k95_8 : decode (mB 95) 8 = .ok (.aload_n 0, 1) := by decide +kernel
theorem k95_9 : decode (mB 95) 9 = .ok (.getfield 43, 3) := by decide +kernel
theorem k95_12 : decode (mB 95) 12 = .ok (.getfield 185, 3) := by decide +kernel
theorem k95_15 : decode (mB 95) 15 = .ok (.ireturn, 1) := by decide +kernel
/-- SquareGrounds.cylindersOf(LSquareGrounds$Ground;)I -/
theorem F95_eq (v0 : Nat) (v1 : Nat) (h : mHeap) : F 95 [.ref v0, .ref v1] h = (gR h v0 7 5).bind fun x1 => (vV 8 x1 [.ref v1] h).bind fun h2 => (gR h2 v0 7 5).bind fun x3 => (gI h2 x3 1 3).bind fun x4 => some (some (.int x4), h2) := by
  show D 95 0 (mEnt 95 [.ref v0, .ref v1]) [] h 0 0 = _
  rw [show mEnt 95 [.ref v0, .ref v1] = [some (.ref v0), some (.ref v1)] from rfl]
  refine e_aload_n (pc' := 1) k95_0 rfl rfl ?_
  refine e_getR (pc' := 4) k95_1 rfl (ci := 7) (k := 5) (by decide +kernel) (by decide +kernel) (fun x1 => ?_)
  refine e_aload_n (pc' := 5) k95_4 rfl rfl ?_
  refine e_vV (j' := 8) (as := [.ref v1]) (rest := []) (pc' := 8) k95_5 rfl (show mCk 95 1 184 8 1 = true by decide +kernel) (by decide +kernel) rfl (Nat.le_of_ble_eq_true rfl) (show 2 ≤ mL 8 by decide +kernel) (fun h2 => ?_)
  refine e_aload_n (pc' := 9) k95_8 rfl rfl ?_
  refine e_getR (pc' := 12) k95_9 rfl (ci := 7) (k := 5) (by decide +kernel) (by decide +kernel) (fun x3 => ?_)
  refine e_getI (pc' := 15) k95_12 rfl (ci := 1) (k := 3) (by decide +kernel) (by decide +kernel) (fun x4 => ?_)
  exact e_iret k95_15 (by decide +kernel)
theorem k96_0 : decode (mB 96) 0 = .ok (.lconst 0, 1) := by decide +kernel
theorem k96_1 : decode (mB 96) 1 = .ok (.lstore_n 1, 1) := by decide +kernel
theorem k96_2 : decode (mB 96) 2 = .ok (.iconst 0, 1) := by decide +kernel
theorem k96_3 : decode (mB 96) 3 = .ok (.istore_n 3, 1) := by decide +kernel
theorem k96_4 : decode (mB 96) 4 = .ok (.iload_n 3, 1) := by decide +kernel
theorem k96_5 : decode (mB 96) 5 = .ok (.aload_n 0, 1) := by decide +kernel
theorem k96_6 : decode (mB 96) 6 = .ok (.getfield 50, 3) := by decide +kernel
theorem k96_9 : decode (mB 96) 9 = .ok (.getfield 207, 3) := by decide +kernel
theorem k96_12 : decode (mB 96) 12 = .ok (.if_icmp .ge 53, 3) := by decide +kernel
theorem k96_15 : decode (mB 96) 15 = .ok (.aload_n 0, 1) := by decide +kernel
theorem k96_16 : decode (mB 96) 16 = .ok (.getfield 22, 3) := by decide +kernel
theorem k96_19 : decode (mB 96) 19 = .ok (.aload_n 0, 1) := by decide +kernel
theorem k96_20 : decode (mB 96) 20 = .ok (.getfield 50, 3) := by decide +kernel
theorem k96_23 : decode (mB 96) 23 = .ok (.getfield 214, 3) := by decide +kernel
theorem k96_26 : decode (mB 96) 26 = .ok (.aload_n 0, 1) := by decide +kernel
theorem k96_27 : decode (mB 96) 27 = .ok (.getfield 50, 3) := by decide +kernel
theorem k96_30 : decode (mB 96) 30 = .ok (.getfield 215, 3) := by decide +kernel
theorem k96_33 : decode (mB 96) 33 = .ok (.iload_n 3, 1) := by decide +kernel
theorem k96_34 : decode (mB 96) 34 = .ok (.laload, 1) := by decide +kernel
theorem k96_35 : decode (mB 96) 35 = .ok (.invokevirtual 219, 3) := by decide +kernel
theorem k96_38 : decode (mB 96) 38 = .ok (.aload_n 0, 1) := by decide +kernel
theorem k96_39 : decode (mB 96) 39 = .ok (.getfield 43, 3) := by decide +kernel
theorem k96_42 : decode (mB 96) 42 = .ok (.aload_n 0, 1) := by decide +kernel
theorem k96_43 : decode (mB 96) 43 = .ok (.getfield 22, 3) := by decide +kernel
theorem k96_46 : decode (mB 96) 46 = .ok (.invokevirtual 184, 3) := by decide +kernel
theorem k96_49 : decode (mB 96) 49 = .ok (.lload_n 1, 1) := by decide +kernel
theorem k96_50 : decode (mB 96) 50 = .ok (.aload_n 0, 1) := by decide +kernel
theorem k96_51 : decode (mB 96) 51 = .ok (.getfield 43, 3) := by decide +kernel
theorem k96_54 : decode (mB 96) 54 = .ok (.invokevirtual 194, 3) := by decide +kernel
theorem k96_57 : decode (mB 96) 57 = .ok (.ladd, 1) := by decide +kernel
theorem k96_58 : decode (mB 96) 58 = .ok (.lstore_n 1, 1) := by decide +kernel
theorem k96_59 : decode (mB 96) 59 = .ok (.iinc 3 1, 3) := by decide +kernel
theorem k96_62 : decode (mB 96) 62 = .ok (.goto (-58), 3) := by decide +kernel
theorem k96_65 : decode (mB 96) 65 = .ok (.lload_n 1, 1) := by decide +kernel
theorem k96_66 : decode (mB 96) 66 = .ok (.lreturn, 1) := by decide +kernel
/-- SquareGrounds.sharesInReach, loop at 4 -/
noncomputable def q96_4 (v0 : Nat) (v1 : Int64) (v3 : Int32) (h : mHeap) : mR' := E 96 4 [some (.ref v0), some (.long v1), none, some (.int v3)] [] h
theorem q96_4_eq (v0 : Nat) (v1 : Int64) (v3 : Int32) (h : mHeap) : q96_4 v0 v1 v3 h = (gR h v0 7 6).bind fun x1 => (gI h x1 5 6).bind fun x2 => if x2 ≤ (v3 : Int32) then (some (some (.long v1), h)) else ((gR h v0 7 2).bind fun x3 => (gR h v0 7 6).bind fun x4 => (gI h x4 5 5).bind fun x5 => (gR h v0 7 6).bind fun x6 => (gR h x6 5 0).bind fun x7 => (cAldL h x7 v3).bind fun x8 => (vV 22 x3 [.int x5, .long x8] h).bind fun h9 => (gR h9 v0 7 5).bind fun x10 => (gR h9 v0 7 2).bind fun x11 => (vV 8 x10 [.ref x11] h9).bind fun h12 => (gR h12 v0 7 5).bind fun x13 => (vL 14 x13 [] h12).bind fun q14 => q96_4 v0 (v1 + q14.1) (v3 + 1) q14.2) := by
  unfold q96_4
  refine e_iload_n (pc' := 5) k96_4 rfl rfl ?_
  refine e_aload_n (pc' := 6) k96_5 rfl rfl ?_
  refine e_getR (pc' := 9) k96_6 rfl (ci := 7) (k := 6) (by decide +kernel) (by decide +kernel) (fun x1 => ?_)
  refine e_getI (pc' := 12) k96_9 rfl (ci := 5) (k := 6) (by decide +kernel) (by decide +kernel) (fun x2 => ?_)
  refine e_icmpge (t := 65) (pc' := 15) k96_12 rfl (by decide) (fun _ => ?_) (fun _ => ?_)
  · refine e_lload_n (pc' := 66) k96_65 rfl rfl ?_
    exact e_lret k96_66 (by decide +kernel)
  · refine e_aload_n (pc' := 16) k96_15 rfl rfl ?_
    refine e_getR (pc' := 19) k96_16 rfl (ci := 7) (k := 2) (by decide +kernel) (by decide +kernel) (fun x3 => ?_)
    refine e_aload_n (pc' := 20) k96_19 rfl rfl ?_
    refine e_getR (pc' := 23) k96_20 rfl (ci := 7) (k := 6) (by decide +kernel) (by decide +kernel) (fun x4 => ?_)
    refine e_getI (pc' := 26) k96_23 rfl (ci := 5) (k := 5) (by decide +kernel) (by decide +kernel) (fun x5 => ?_)
    refine e_aload_n (pc' := 27) k96_26 rfl rfl ?_
    refine e_getR (pc' := 30) k96_27 rfl (ci := 7) (k := 6) (by decide +kernel) (by decide +kernel) (fun x6 => ?_)
    refine e_getR (pc' := 33) k96_30 rfl (ci := 5) (k := 0) (by decide +kernel) (by decide +kernel) (fun x7 => ?_)
    refine e_iload_n (pc' := 34) k96_33 rfl rfl ?_
    refine e_lald (pc' := 35) k96_34 rfl (fun x8 => ?_)
    refine e_vV (j' := 22) (as := [.int x5, .long x8]) (rest := []) (pc' := 38) k96_35 rfl (show mCk 96 1 219 22 2 = true by decide +kernel) (by decide +kernel) rfl (Nat.le_of_ble_eq_true rfl) (show 4 ≤ mL 22 by decide +kernel) (fun h9 => ?_)
    refine e_aload_n (pc' := 39) k96_38 rfl rfl ?_
    refine e_getR (pc' := 42) k96_39 rfl (ci := 7) (k := 5) (by decide +kernel) (by decide +kernel) (fun x10 => ?_)
    refine e_aload_n (pc' := 43) k96_42 rfl rfl ?_
    refine e_getR (pc' := 46) k96_43 rfl (ci := 7) (k := 2) (by decide +kernel) (by decide +kernel) (fun x11 => ?_)
    refine e_vV (j' := 8) (as := [.ref x11]) (rest := []) (pc' := 49) k96_46 rfl (show mCk 96 1 184 8 1 = true by decide +kernel) (by decide +kernel) rfl (Nat.le_of_ble_eq_true rfl) (show 2 ≤ mL 8 by decide +kernel) (fun h12 => ?_)
    refine e_lload_n (pc' := 50) k96_49 rfl rfl ?_
    refine e_aload_n (pc' := 51) k96_50 rfl rfl ?_
    refine e_getR (pc' := 54) k96_51 rfl (ci := 7) (k := 5) (by decide +kernel) (by decide +kernel) (fun x13 => ?_)
    refine e_vL (j' := 14) (as := []) (rest := [.long v1]) (pc' := 57) k96_54 rfl (show mCk 96 1 194 14 0 = true by decide +kernel) (by decide +kernel) rfl (Nat.le_of_ble_eq_true rfl) (show 1 ≤ mL 14 by decide +kernel) (fun q14 => ?_)
    refine e_ladd (pc' := 58) k96_57 rfl ?_
    refine e_lstore_n (pc' := 59) k96_58 rfl rfl ?_
    refine e_iinc (c := 1) (pc' := 62) k96_59 rfl rfl rfl rfl ?_
    refine e_goto (pc' := 4) k96_62 (by decide) ?_
    rfl
/-- SquareGrounds.sharesInReach()J -/
theorem F96_eq (v0 : Nat) (h : mHeap) : F 96 [.ref v0] h = q96_4 v0 0 0 h := by
  show D 96 0 (mEnt 96 [.ref v0]) [] h 0 0 = _
  rw [show mEnt 96 [.ref v0] = [some (.ref v0), none, none, none] from rfl]
  refine e_lconst (v := 0) (pc' := 1) k96_0 rfl rfl ?_
  refine e_lstore_n (pc' := 2) k96_1 rfl rfl ?_
  refine e_iconst (v := 0) (pc' := 3) k96_2 rfl rfl ?_
  refine e_istore_n (pc' := 4) k96_3 rfl rfl ?_
  rfl
theorem k97_0 : decode (mB 97) 0 = .ok (.iconst 0, 1) := by decide +kernel
theorem k97_1 : decode (mB 97) 1 = .ok (.istore_n 1, 1) := by decide +kernel
theorem k97_2 : decode (mB 97) 2 = .ok (.iconst 0, 1) := by decide +kernel
theorem k97_3 : decode (mB 97) 3 = .ok (.istore_n 2, 1) := by decide +kernel
theorem k97_4 : decode (mB 97) 4 = .ok (.iload_n 2, 1) := by decide +kernel
theorem k97_5 : decode (mB 97) 5 = .ok (.iconst 4, 1) := by decide +kernel
theorem k97_6 : decode (mB 97) 6 = .ok (.if_icmp .ge 29, 3) := by decide +kernel
theorem k97_9 : decode (mB 97) 9 = .ok (.iload_n 1, 1) := by decide +kernel
theorem k97_10 : decode (mB 97) 10 = .ok (.aload_n 0, 1) := by decide +kernel
theorem k97_11 : decode (mB 97) 11 = .ok (.getfield 11, 3) := by decide +kernel
theorem k97_14 : decode (mB 97) 14 = .ok (.iload_n 2, 1) := by decide +kernel
theorem k97_15 : decode (mB 97) 15 = .ok (.aaload, 1) := by decide +kernel
theorem k97_16 : decode (mB 97) 16 = .ok (.invokevirtual 82, 3) := by decide +kernel
theorem k97_19 : decode (mB 97) 19 = .ok (.ifCond .eq 7, 3) := by decide +kernel
theorem k97_22 : decode (mB 97) 22 = .ok (.iconst 0, 1) := by decide +kernel
theorem k97_23 : decode (mB 97) 23 = .ok (.goto 4, 3) := by decide +kernel
theorem k97_26 : decode (mB 97) 26 = .ok (.iconst 1, 1) := by decide +kernel
theorem k97_27 : decode (mB 97) 27 = .ok (.iadd, 1) := by decide +kernel
theorem k97_28 : decode (mB 97) 28 = .ok (.istore_n 1, 1) := by decide +kernel
theorem k97_29 : decode (mB 97) 29 = .ok (.iinc 2 1, 3) := by decide +kernel
theorem k97_32 : decode (mB 97) 32 = .ok (.goto (-28), 3) := by decide +kernel
theorem k97_35 : decode (mB 97) 35 = .ok (.iload_n 1, 1) := by decide +kernel
theorem k97_36 : decode (mB 97) 36 = .ok (.ireturn, 1) := by decide +kernel
/-- SquareGrounds.sheetsThere, loop at 4 -/
noncomputable def q97_4 (v0 : Nat) (v1 : Int32) (v2 : Int32) (h : mHeap) : mR' := E 97 4 [some (.ref v0), some (.int v1), some (.int v2)] [] h
theorem q97_4_eq (v0 : Nat) (v1 : Int32) (v2 : Int32) (h : mHeap) : q97_4 v0 v1 v2 h = if 4 ≤ (v2 : Int32) then (some (some (.int v1), h)) else ((gR h v0 7 0).bind fun x1 => (cAldR h x1 v2).bind fun x2 => (vI 45 x2 [] h).bind fun q3 => if (q3.1 : Int32) = 0 then (q97_4 v0 (v1 + 1) (v2 + 1) q3.2) else (q97_4 v0 (v1 + 0) (v2 + 1) q3.2)) := by
  unfold q97_4
  refine e_iload_n (pc' := 5) k97_4 rfl rfl ?_
  refine e_iconst (v := 4) (pc' := 6) k97_5 rfl rfl ?_
  refine e_icmpge (t := 35) (pc' := 9) k97_6 rfl (by decide) (fun _ => ?_) (fun _ => ?_)
  · refine e_iload_n (pc' := 36) k97_35 rfl rfl ?_
    exact e_iret k97_36 (by decide +kernel)
  · refine e_iload_n (pc' := 10) k97_9 rfl rfl ?_
    refine e_aload_n (pc' := 11) k97_10 rfl rfl ?_
    refine e_getR (pc' := 14) k97_11 rfl (ci := 7) (k := 0) (by decide +kernel) (by decide +kernel) (fun x1 => ?_)
    refine e_iload_n (pc' := 15) k97_14 rfl rfl ?_
    refine e_aald (pc' := 16) k97_15 rfl (fun x2 => ?_)
    refine e_vI (j' := 45) (as := []) (rest := [.int v1]) (pc' := 19) k97_16 rfl (show mCk 97 1 82 45 0 = true by decide +kernel) (Or.inr (by decide +kernel)) rfl (Nat.le_of_ble_eq_true rfl) (show 1 ≤ mL 45 by decide +kernel) (fun q3 => ?_)
    refine e_ifeq (t := 26) (pc' := 22) k97_19 rfl (by decide) (fun _ => ?_) (fun _ => ?_)
    · refine e_iconst (v := 1) (pc' := 27) k97_26 rfl rfl ?_
      refine e_iadd (pc' := 28) k97_27 rfl ?_
      refine e_istore_n (pc' := 29) k97_28 rfl rfl ?_
      refine e_iinc (c := 1) (pc' := 32) k97_29 rfl rfl rfl rfl ?_
      refine e_goto (pc' := 4) k97_32 (by decide) ?_
      rfl
    · refine e_iconst (v := 0) (pc' := 23) k97_22 rfl rfl ?_
      refine e_goto (pc' := 27) k97_23 (by decide) ?_
      refine e_iadd (pc' := 28) k97_27 rfl ?_
      refine e_istore_n (pc' := 29) k97_28 rfl rfl ?_
      refine e_iinc (c := 1) (pc' := 32) k97_29 rfl rfl rfl rfl ?_
      refine e_goto (pc' := 4) k97_32 (by decide) ?_
      rfl
/-- SquareGrounds.sheetsThere()I -/
theorem F97_eq (v0 : Nat) (h : mHeap) : F 97 [.ref v0] h = q97_4 v0 0 0 h := by
  show D 97 0 (mEnt 97 [.ref v0]) [] h 0 0 = _
  rw [show mEnt 97 [.ref v0] = [some (.ref v0), none, none] from rfl]
  refine e_iconst (v := 0) (pc' := 1) k97_0 rfl rfl ?_
  refine e_istore_n (pc' := 2) k97_1 rfl rfl ?_
  refine e_iconst (v := 0) (pc' := 3) k97_2 rfl rfl ?_
  refine e_istore_n (pc' := 4) k97_3 rfl rfl ?_
  rfl
theorem k98_0 : decode (mB 98) 0 = .ok (.iconst 0, 1) := by decide +kernel
theorem k98_1 : decode (mB 98) 1 = .ok (.istore_n 2, 1) := by decide +kernel
theorem k98_2 : decode (mB 98) 2 = .ok (.iconst 0, 1) := by decide +kernel
theorem k98_3 : decode (mB 98) 3 = .ok (.istore_n 3, 1) := by decide +kernel
theorem k98_4 : decode (mB 98) 4 = .ok (.iload_n 3, 1) := by decide +kernel
theorem k98_5 : decode (mB 98) 5 = .ok (.bipush 10, 2) := by decide +kernel
theorem k98_7 : decode (mB 98) 7 = .ok (.if_icmp .ge 41, 3) := by decide +kernel
theorem k98_10 : decode (mB 98) 10 = .ok (.aload_n 0, 1) := by decide +kernel
theorem k98_11 : decode (mB 98) 11 = .ok (.getfield 17, 3) := by decide +kernel
theorem k98_14 : decode (mB 98) 14 = .ok (.iload_n 3, 1) := by decide +kernel
theorem k98_15 : decode (mB 98) 15 = .ok (.aaload, 1) := by decide +kernel
theorem k98_16 : decode (mB 98) 16 = .ok (.invokevirtual 120, 3) := by decide +kernel
theorem k98_19 : decode (mB 98) 19 = .ok (.ifCond .ne 23, 3) := by decide +kernel
theorem k98_22 : decode (mB 98) 22 = .ok (.iload_n 2, 1) := by decide +kernel
theorem k98_23 : decode (mB 98) 23 = .ok (.iload_n 1, 1) := by decide +kernel
theorem k98_24 : decode (mB 98) 24 = .ok (.ifCond .eq 15, 3) := by decide +kernel
theorem k98_27 : decode (mB 98) 27 = .ok (.aload_n 0, 1) := by decide +kernel
theorem k98_28 : decode (mB 98) 28 = .ok (.getfield 17, 3) := by decide +kernel
theorem k98_31 : decode (mB 98) 31 = .ok (.iload_n 3, 1) := by decide +kernel
theorem k98_32 : decode (mB 98) 32 = .ok (.aaload, 1) := by decide +kernel
theorem k98_33 : decode (mB 98) 33 = .ok (.getfield 117, 3) := by decide +kernel
theorem k98_36 : decode (mB 98) 36 = .ok (.goto 4, 3) := by decide +kernel
theorem k98_39 : decode (mB 98) 39 = .ok (.iconst 1, 1) := by decide +kernel
theorem k98_40 : decode (mB 98) 40 = .ok (.iadd, 1) := by decide +kernel
theorem k98_41 : decode (mB 98) 41 = .ok (.istore_n 2, 1) := by decide +kernel
theorem k98_42 : decode (mB 98) 42 = .ok (.iinc 3 1, 3) := by decide +kernel
theorem k98_45 : decode (mB 98) 45 = .ok (.goto (-41), 3) := by decide +kernel
theorem k98_48 : decode (mB 98) 48 = .ok (.iload_n 2, 1) := by decide +kernel
theorem k98_49 : decode (mB 98) 49 = .ok (.ireturn, 1) := by decide +kernel
/-- SquareGrounds.groundsThere, loop at 4 -/
noncomputable def q98_4 (v0 : Nat) (v1 : Int32) (v2 : Int32) (v3 : Int32) (h : mHeap) : mR' := E 98 4 [some (.ref v0), some (.int v1), some (.int v2), some (.int v3)] [] h
theorem q98_4_eq (v0 : Nat) (v1 : Int32) (v2 : Int32) (v3 : Int32) (h : mHeap) : q98_4 v0 v1 v2 v3 h = if 10 ≤ (v3 : Int32) then (some (some (.int v2), h)) else ((gR h v0 7 1).bind fun x1 => (cAldR h x1 v3).bind fun x2 => (vI 18 x2 [] h).bind fun q3 => if ¬ (q3.1 : Int32) = 0 then (q98_4 v0 v1 v2 (v3 + 1) q3.2) else (if (v1 : Int32) = 0 then (q98_4 v0 v1 (v2 + 1) (v3 + 1) q3.2) else ((gR q3.2 v0 7 1).bind fun x4 => (cAldR q3.2 x4 v3).bind fun x5 => (gI q3.2 x5 3 0).bind fun x6 => q98_4 v0 v1 (v2 + x6) (v3 + 1) q3.2))) := by
  unfold q98_4
  refine e_iload_n (pc' := 5) k98_4 rfl rfl ?_
  refine e_bipush (v := 10) (pc' := 7) k98_5 rfl rfl ?_
  refine e_icmpge (t := 48) (pc' := 10) k98_7 rfl (by decide) (fun _ => ?_) (fun _ => ?_)
  · refine e_iload_n (pc' := 49) k98_48 rfl rfl ?_
    exact e_iret k98_49 (by decide +kernel)
  · refine e_aload_n (pc' := 11) k98_10 rfl rfl ?_
    refine e_getR (pc' := 14) k98_11 rfl (ci := 7) (k := 1) (by decide +kernel) (by decide +kernel) (fun x1 => ?_)
    refine e_iload_n (pc' := 15) k98_14 rfl rfl ?_
    refine e_aald (pc' := 16) k98_15 rfl (fun x2 => ?_)
    refine e_vI (j' := 18) (as := []) (rest := []) (pc' := 19) k98_16 rfl (show mCk 98 1 120 18 0 = true by decide +kernel) (Or.inr (by decide +kernel)) rfl (Nat.le_of_ble_eq_true rfl) (show 1 ≤ mL 18 by decide +kernel) (fun q3 => ?_)
    refine e_ifne (t := 42) (pc' := 22) k98_19 rfl (by decide) (fun _ => ?_) (fun _ => ?_)
    · refine e_iinc (c := 1) (pc' := 45) k98_42 rfl rfl rfl rfl ?_
      refine e_goto (pc' := 4) k98_45 (by decide) ?_
      rfl
    · refine e_iload_n (pc' := 23) k98_22 rfl rfl ?_
      refine e_iload_n (pc' := 24) k98_23 rfl rfl ?_
      refine e_ifeq (t := 39) (pc' := 27) k98_24 rfl (by decide) (fun _ => ?_) (fun _ => ?_)
      · refine e_iconst (v := 1) (pc' := 40) k98_39 rfl rfl ?_
        refine e_iadd (pc' := 41) k98_40 rfl ?_
        refine e_istore_n (pc' := 42) k98_41 rfl rfl ?_
        refine e_iinc (c := 1) (pc' := 45) k98_42 rfl rfl rfl rfl ?_
        refine e_goto (pc' := 4) k98_45 (by decide) ?_
        rfl
      · refine e_aload_n (pc' := 28) k98_27 rfl rfl ?_
        refine e_getR (pc' := 31) k98_28 rfl (ci := 7) (k := 1) (by decide +kernel) (by decide +kernel) (fun x4 => ?_)
        refine e_iload_n (pc' := 32) k98_31 rfl rfl ?_
        refine e_aald (pc' := 33) k98_32 rfl (fun x5 => ?_)
        refine e_getI (pc' := 36) k98_33 rfl (ci := 3) (k := 0) (by decide +kernel) (by decide +kernel) (fun x6 => ?_)
        refine e_goto (pc' := 40) k98_36 (by decide) ?_
        refine e_iadd (pc' := 41) k98_40 rfl ?_
        refine e_istore_n (pc' := 42) k98_41 rfl rfl ?_
        refine e_iinc (c := 1) (pc' := 45) k98_42 rfl rfl rfl rfl ?_
        refine e_goto (pc' := 4) k98_45 (by decide) ?_
        rfl
/-- SquareGrounds.groundsThere(Z)I -/
theorem F98_eq (v0 : Nat) (v1 : Int32) (h : mHeap) : F 98 [.ref v0, .int v1] h = q98_4 v0 v1 0 0 h := by
  show D 98 0 (mEnt 98 [.ref v0, .int v1]) [] h 0 0 = _
  rw [show mEnt 98 [.ref v0, .int v1] = [some (.ref v0), some (.int v1), none, none] from rfl]
  refine e_iconst (v := 0) (pc' := 1) k98_0 rfl rfl ?_
  refine e_istore_n (pc' := 2) k98_1 rfl rfl ?_
  refine e_iconst (v := 0) (pc' := 3) k98_2 rfl rfl ?_
  refine e_istore_n (pc' := 4) k98_3 rfl rfl ?_
  rfl
