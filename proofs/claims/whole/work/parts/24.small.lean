theorem k1_0 : decode (mB 1) 0 = .ok (.aload_n 0, 1) := by decide +kernel
theorem k1_1 : decode (mB 1) 1 = .ok (.iconst 0, 1) := by decide +kernel
theorem k1_2 : decode (mB 1) 2 = .ok (.putfield 15, 3) := by decide +kernel
theorem k1_5 : decode (mB 1) 5 = .ok (.aload_n 0, 1) := by decide +kernel
theorem k1_6 : decode (mB 1) 6 = .ok (.iconst 0, 1) := by decide +kernel
theorem k1_7 : decode (mB 1) 7 = .ok (.putfield 19, 3) := by decide +kernel
theorem k1_10 : decode (mB 1) 10 = .ok (.aload_n 0, 1) := by decide +kernel
theorem k1_11 : decode (mB 1) 11 = .ok (.iconst 0, 1) := by decide +kernel
theorem k1_12 : decode (mB 1) 12 = .ok (.putfield 22, 3) := by decide +kernel
theorem k1_15 : decode (mB 1) 15 = .ok (.aload_n 0, 1) := by decide +kernel
theorem k1_16 : decode (mB 1) 16 = .ok (.bipush 8, 2) := by decide +kernel
theorem k1_18 : decode (mB 1) 18 = .ok (.putfield 25, 3) := by decide +kernel
theorem k1_21 : decode (mB 1) 21 = .ok (.aload_n 0, 1) := by decide +kernel
theorem k1_22 : decode (mB 1) 22 = .ok (.iconst 0, 1) := by decide +kernel
theorem k1_23 : decode (mB 1) 23 = .ok (.putfield 28, 3) := by decide +kernel
theorem k1_26 : decode (mB 1) 26 = .ok (.aload_n 0, 1) := by decide +kernel
theorem k1_27 : decode (mB 1) 27 = .ok (.lconst 0, 1) := by decide +kernel
theorem k1_28 : decode (mB 1) 28 = .ok (.putfield 31, 3) := by decide +kernel
theorem k1_31 : decode (mB 1) 31 = .ok (.iconst 0, 1) := by decide +kernel
theorem k1_32 : decode (mB 1) 32 = .ok (.istore_n 2, 1) := by decide +kernel
theorem k1_33 : decode (mB 1) 33 = .ok (.iload_n 2, 1) := by decide +kernel
theorem k1_34 : decode (mB 1) 34 = .ok (.aload_n 1, 1) := by decide +kernel
theorem k1_35 : decode (mB 1) 35 = .ok (.getfield 35, 3) := by decide +kernel
theorem k1_38 : decode (mB 1) 38 = .ok (.if_icmp .ge 16, 3) := by decide +kernel
theorem k1_41 : decode (mB 1) 41 = .ok (.aload_n 0, 1) := by decide +kernel
theorem k1_42 : decode (mB 1) 42 = .ok (.getfield 9, 3) := by decide +kernel
theorem k1_45 : decode (mB 1) 45 = .ok (.iload_n 2, 1) := by decide +kernel
theorem k1_46 : decode (mB 1) 46 = .ok (.iconst (-1), 1) := by decide +kernel
theorem k1_47 : decode (mB 1) 47 = .ok (.iastore, 1) := by decide +kernel
theorem k1_48 : decode (mB 1) 48 = .ok (.iinc 2 1, 3) := by decide +kernel
theorem k1_51 : decode (mB 1) 51 = .ok (.goto (-18), 3) := by decide +kernel
theorem k1_54 : decode (mB 1) 54 = .ok (.iconst 0, 1) := by decide +kernel
theorem k1_55 : decode (mB 1) 55 = .ok (.istore_n 2, 1) := by decide +kernel
theorem k1_56 : decode (mB 1) 56 = .ok (.iload_n 2, 1) := by decide +kernel
theorem k1_57 : decode (mB 1) 57 = .ok (.aload_n 1, 1) := by decide +kernel
theorem k1_58 : decode (mB 1) 58 = .ok (.getfield 35, 3) := by decide +kernel
theorem k1_61 : decode (mB 1) 61 = .ok (.if_icmp .ge 28, 3) := by decide +kernel
theorem k1_64 : decode (mB 1) 64 = .ok (.aload_n 0, 1) := by decide +kernel
theorem k1_65 : decode (mB 1) 65 = .ok (.getfield 9, 3) := by decide +kernel
theorem k1_68 : decode (mB 1) 68 = .ok (.iload_n 2, 1) := by decide +kernel
theorem k1_69 : decode (mB 1) 69 = .ok (.iaload, 1) := by decide +kernel
theorem k1_70 : decode (mB 1) 70 = .ok (.ifCond .ge 13, 3) := by decide +kernel
theorem k1_73 : decode (mB 1) 73 = .ok (.aload_n 0, 1) := by decide +kernel
theorem k1_74 : decode (mB 1) 74 = .ok (.aload_n 0, 1) := by decide +kernel
theorem k1_75 : decode (mB 1) 75 = .ok (.aload_n 1, 1) := by decide +kernel
theorem k1_76 : decode (mB 1) 76 = .ok (.iload_n 2, 1) := by decide +kernel
theorem k1_77 : decode (mB 1) 77 = .ok (.invokevirtual 40, 3) := by decide +kernel
theorem k1_80 : decode (mB 1) 80 = .ok (.invokevirtual 44, 3) := by decide +kernel
theorem k1_83 : decode (mB 1) 83 = .ok (.iinc 2 1, 3) := by decide +kernel
theorem k1_86 : decode (mB 1) 86 = .ok (.goto (-30), 3) := by decide +kernel
theorem k1_89 : decode (mB 1) 89 = .ok (.return_, 1) := by decide +kernel
/-- Corners.look, loop at 33 -/
noncomputable def q1_33 (v0 : Nat) (v1 : Nat) (v2 : Int32) (h : mHeap) : mR' := E 1 33 [some (.ref v0), some (.ref v1), some (.int v2)] [] h
/-- Corners.look, loop at 56 -/
noncomputable def q1_56 (v0 : Nat) (v1 : Nat) (v2 : Int32) (h : mHeap) : mR' := E 1 56 [some (.ref v0), some (.ref v1), some (.int v2)] [] h
theorem q1_33_eq (v0 : Nat) (v1 : Nat) (v2 : Int32) (h : mHeap) : q1_33 v0 v1 v2 h = (gI h v1 3 0).bind fun x1 => if x1 ≤ (v2 : Int32) then (q1_56 v0 v1 0 h) else ((gR h v0 0 0).bind fun x2 => (cAstI h x2 v2 (-1)).bind fun h3 => q1_33 v0 v1 (v2 + 1) h3) := by
  unfold q1_33
  refine e_iload_n (pc' := 34) k1_33 rfl rfl ?_
  refine e_aload_n (pc' := 35) k1_34 rfl rfl ?_
  refine e_getI (pc' := 38) k1_35 rfl (ci := 3) (k := 0) (by decide +kernel) (by decide +kernel) (fun x1 => ?_)
  refine e_icmpge (t := 54) (pc' := 41) k1_38 rfl (by decide) (fun _ => ?_) (fun _ => ?_)
  · refine e_iconst (v := 0) (pc' := 55) k1_54 rfl rfl ?_
    refine e_istore_n (pc' := 56) k1_55 rfl rfl ?_
    rfl
  · refine e_aload_n (pc' := 42) k1_41 rfl rfl ?_
    refine e_getR (pc' := 45) k1_42 rfl (ci := 0) (k := 0) (by decide +kernel) (by decide +kernel) (fun x2 => ?_)
    refine e_iload_n (pc' := 46) k1_45 rfl rfl ?_
    refine e_iconst (v := -1) (pc' := 47) k1_46 rfl rfl ?_
    refine e_iast (pc' := 48) k1_47 rfl (fun h3 => ?_)
    refine e_iinc (c := 1) (pc' := 51) k1_48 rfl rfl rfl rfl ?_
    refine e_goto (pc' := 33) k1_51 (by decide) ?_
    rfl
theorem q1_56_eq (v0 : Nat) (v1 : Nat) (v2 : Int32) (h : mHeap) : q1_56 v0 v1 v2 h = (gI h v1 3 0).bind fun x1 => if x1 ≤ (v2 : Int32) then (some (none, h)) else ((gR h v0 0 0).bind fun x2 => (cAldI false h x2 v2).bind fun x3 => if 0 ≤ (x3 : Int32) then (q1_56 v0 v1 (v2 + 1) h) else ((vI 2 v0 [.ref v1, .int v2] h).bind fun q4 => (vV 3 v0 [.int q4.1] q4.2).bind fun h5 => q1_56 v0 v1 (v2 + 1) h5)) := by
  unfold q1_56
  refine e_iload_n (pc' := 57) k1_56 rfl rfl ?_
  refine e_aload_n (pc' := 58) k1_57 rfl rfl ?_
  refine e_getI (pc' := 61) k1_58 rfl (ci := 3) (k := 0) (by decide +kernel) (by decide +kernel) (fun x1 => ?_)
  refine e_icmpge (t := 89) (pc' := 64) k1_61 rfl (by decide) (fun _ => ?_) (fun _ => ?_)
  · exact e_vret k1_89 (by decide +kernel)
  · refine e_aload_n (pc' := 65) k1_64 rfl rfl ?_
    refine e_getR (pc' := 68) k1_65 rfl (ci := 0) (k := 0) (by decide +kernel) (by decide +kernel) (fun x2 => ?_)
    refine e_iload_n (pc' := 69) k1_68 rfl rfl ?_
    refine e_iald (pc' := 70) k1_69 rfl (lw := false) rfl (fun x3 => ?_)
    refine e_ifge (t := 83) (pc' := 73) k1_70 rfl (by decide) (fun _ => ?_) (fun _ => ?_)
    · refine e_iinc (c := 1) (pc' := 86) k1_83 rfl rfl rfl rfl ?_
      refine e_goto (pc' := 56) k1_86 (by decide) ?_
      rfl
    · refine e_aload_n (pc' := 74) k1_73 rfl rfl ?_
      refine e_aload_n (pc' := 75) k1_74 rfl rfl ?_
      refine e_aload_n (pc' := 76) k1_75 rfl rfl ?_
      refine e_iload_n (pc' := 77) k1_76 rfl rfl ?_
      refine e_vI (j' := 2) (as := [.ref v1, .int v2]) (rest := [.ref v0]) (pc' := 80) k1_77 rfl (show mCk 1 1 40 2 2 = true by decide +kernel) (Or.inl (by decide +kernel)) rfl (Nat.le_of_ble_eq_true rfl) (show 3 ≤ mL 2 by decide +kernel) (fun q4 => ?_)
      refine e_vV (j' := 3) (as := [.int q4.1]) (rest := []) (pc' := 83) k1_80 rfl (show mCk 1 1 44 3 1 = true by decide +kernel) (by decide +kernel) rfl (Nat.le_of_ble_eq_true rfl) (show 2 ≤ mL 3 by decide +kernel) (fun h5 => ?_)
      refine e_iinc (c := 1) (pc' := 86) k1_83 rfl rfl rfl rfl ?_
      refine e_goto (pc' := 56) k1_86 (by decide) ?_
      rfl
/-- Corners.look(LSquareGrounds$Ground;)V -/
theorem F1_eq (v0 : Nat) (v1 : Nat) (h : mHeap) : F 1 [.ref v0, .ref v1] h = (cPut h v0 0 1 (.int 0)).bind fun h1 => (cPut h1 v0 0 2 (.int 0)).bind fun h2 => (cPut h2 v0 0 3 (.int 0)).bind fun h3 => (cPut h3 v0 0 4 (.int 8)).bind fun h4 => (cPut h4 v0 0 5 (.int 0)).bind fun h5 => (cPut h5 v0 0 6 (.long 0)).bind fun h6 => q1_33 v0 v1 0 h6 := by
  show D 1 0 (mEnt 1 [.ref v0, .ref v1]) [] h 0 0 = _
  rw [show mEnt 1 [.ref v0, .ref v1] = [some (.ref v0), some (.ref v1), none] from rfl]
  refine e_aload_n (pc' := 1) k1_0 rfl rfl ?_
  refine e_iconst (v := 0) (pc' := 2) k1_1 rfl rfl ?_
  refine e_put (pc' := 5) k1_2 rfl (ci := 0) (k := 1) (by decide +kernel) (by decide +kernel) rfl (fun h1 => ?_)
  refine e_aload_n (pc' := 6) k1_5 rfl rfl ?_
  refine e_iconst (v := 0) (pc' := 7) k1_6 rfl rfl ?_
  refine e_put (pc' := 10) k1_7 rfl (ci := 0) (k := 2) (by decide +kernel) (by decide +kernel) rfl (fun h2 => ?_)
  refine e_aload_n (pc' := 11) k1_10 rfl rfl ?_
  refine e_iconst (v := 0) (pc' := 12) k1_11 rfl rfl ?_
  refine e_put (pc' := 15) k1_12 rfl (ci := 0) (k := 3) (by decide +kernel) (by decide +kernel) rfl (fun h3 => ?_)
  refine e_aload_n (pc' := 16) k1_15 rfl rfl ?_
  refine e_bipush (v := 8) (pc' := 18) k1_16 rfl rfl ?_
  refine e_put (pc' := 21) k1_18 rfl (ci := 0) (k := 4) (by decide +kernel) (by decide +kernel) rfl (fun h4 => ?_)
  refine e_aload_n (pc' := 22) k1_21 rfl rfl ?_
  refine e_iconst (v := 0) (pc' := 23) k1_22 rfl rfl ?_
  refine e_put (pc' := 26) k1_23 rfl (ci := 0) (k := 5) (by decide +kernel) (by decide +kernel) rfl (fun h5 => ?_)
  refine e_aload_n (pc' := 27) k1_26 rfl rfl ?_
  refine e_lconst (v := 0) (pc' := 28) k1_27 rfl rfl ?_
  refine e_put (pc' := 31) k1_28 rfl (ci := 0) (k := 6) (by decide +kernel) (by decide +kernel) rfl (fun h6 => ?_)
  refine e_iconst (v := 0) (pc' := 32) k1_31 rfl rfl ?_
  refine e_istore_n (pc' := 33) k1_32 rfl rfl ?_
  rfl
theorem k2_0 : decode (mB 2) 0 = .ok (.iconst 0, 1) := by decide +kernel
theorem k2_1 : decode (mB 2) 1 = .ok (.istore_n 3, 1) := by decide +kernel
theorem k2_2 : decode (mB 2) 2 = .ok (.aload_n 1, 1) := by decide +kernel
theorem k2_3 : decode (mB 2) 3 = .ok (.iload_n 2, 1) := by decide +kernel
theorem k2_4 : decode (mB 2) 4 = .ok (.invokevirtual 48, 3) := by decide +kernel
theorem k2_7 : decode (mB 2) 7 = .ok (.istore 4, 2) := by decide +kernel
theorem k2_9 : decode (mB 2) 9 = .ok (.iload_n 3, 1) := by decide +kernel
theorem k2_10 : decode (mB 2) 10 = .ok (.aload_n 1, 1) := by decide +kernel
theorem k2_11 : decode (mB 2) 11 = .ok (.getfield 35, 3) := by decide +kernel
theorem k2_14 : decode (mB 2) 14 = .ok (.iconst 1, 1) := by decide +kernel
theorem k2_15 : decode (mB 2) 15 = .ok (.isub, 1) := by decide +kernel
theorem k2_16 : decode (mB 2) 16 = .ok (.if_icmp .ge 23, 3) := by decide +kernel
theorem k2_19 : decode (mB 2) 19 = .ok (.iload 4, 2) := by decide +kernel
theorem k2_21 : decode (mB 2) 21 = .ok (.iload_n 2, 1) := by decide +kernel
theorem k2_22 : decode (mB 2) 22 = .ok (.if_icmp .eq 17, 3) := by decide +kernel
theorem k2_25 : decode (mB 2) 25 = .ok (.aload_n 1, 1) := by decide +kernel
theorem k2_26 : decode (mB 2) 26 = .ok (.iload 4, 2) := by decide +kernel
theorem k2_28 : decode (mB 2) 28 = .ok (.invokevirtual 48, 3) := by decide +kernel
theorem k2_31 : decode (mB 2) 31 = .ok (.istore 4, 2) := by decide +kernel
theorem k2_33 : decode (mB 2) 33 = .ok (.iinc 3 1, 3) := by decide +kernel
theorem k2_36 : decode (mB 2) 36 = .ok (.goto (-27), 3) := by decide +kernel
theorem k2_39 : decode (mB 2) 39 = .ok (.iconst 0, 1) := by decide +kernel
theorem k2_40 : decode (mB 2) 40 = .ok (.istore 5, 2) := by decide +kernel
theorem k2_42 : decode (mB 2) 42 = .ok (.iload 5, 2) := by decide +kernel
theorem k2_44 : decode (mB 2) 44 = .ok (.iload_n 3, 1) := by decide +kernel
theorem k2_45 : decode (mB 2) 45 = .ok (.if_icmp .gt 25, 3) := by decide +kernel
theorem k2_48 : decode (mB 2) 48 = .ok (.aload_n 0, 1) := by decide +kernel
theorem k2_49 : decode (mB 2) 49 = .ok (.getfield 9, 3) := by decide +kernel
theorem k2_52 : decode (mB 2) 52 = .ok (.iload 4, 2) := by decide +kernel
theorem k2_54 : decode (mB 2) 54 = .ok (.iload_n 3, 1) := by decide +kernel
theorem k2_55 : decode (mB 2) 55 = .ok (.iastore, 1) := by decide +kernel
theorem k2_56 : decode (mB 2) 56 = .ok (.aload_n 1, 1) := by decide +kernel
theorem k2_57 : decode (mB 2) 57 = .ok (.iload 4, 2) := by decide +kernel
theorem k2_59 : decode (mB 2) 59 = .ok (.invokevirtual 48, 3) := by decide +kernel
theorem k2_62 : decode (mB 2) 62 = .ok (.istore 4, 2) := by decide +kernel
theorem k2_64 : decode (mB 2) 64 = .ok (.iinc 5 1, 3) := by decide +kernel
theorem k2_67 : decode (mB 2) 67 = .ok (.goto (-25), 3) := by decide +kernel
theorem k2_70 : decode (mB 2) 70 = .ok (.iload_n 3, 1) := by decide +kernel
theorem k2_71 : decode (mB 2) 71 = .ok (.ireturn, 1) := by decide +kernel
/-- Corners.bendFrom, loop at 9 -/
noncomputable def q2_9 (v0 : Nat) (v1 : Nat) (v2 : Int32) (v3 : Int32) (v4 : Int32) (h : mHeap) : mR' := E 2 9 [some (.ref v0), some (.ref v1), some (.int v2), some (.int v3), some (.int v4), none] [] h
/-- Corners.bendFrom, loop at 42 -/
noncomputable def q2_42 (v0 : Nat) (v1 : Nat) (v2 : Int32) (v3 : Int32) (v4 : Int32) (v5 : Int32) (h : mHeap) : mR' := E 2 42 [some (.ref v0), some (.ref v1), some (.int v2), some (.int v3), some (.int v4), some (.int v5)] [] h
theorem q2_9_eq (v0 : Nat) (v1 : Nat) (v2 : Int32) (v3 : Int32) (v4 : Int32) (h : mHeap) : q2_9 v0 v1 v2 v3 v4 h = (gI h v1 3 0).bind fun x1 => if (x1 - 1) ≤ (v3 : Int32) then (q2_42 v0 v1 v2 v3 v4 0 h) else (if (v4 : Int32) = v2 then (q2_42 v0 v1 v2 v3 v4 0 h) else ((vI 31 v1 [.int v4] h).bind fun q2 => q2_9 v0 v1 v2 (v3 + 1) q2.1 q2.2)) := by
  unfold q2_9
  refine e_iload_n (pc' := 10) k2_9 rfl rfl ?_
  refine e_aload_n (pc' := 11) k2_10 rfl rfl ?_
  refine e_getI (pc' := 14) k2_11 rfl (ci := 3) (k := 0) (by decide +kernel) (by decide +kernel) (fun x1 => ?_)
  refine e_iconst (v := 1) (pc' := 15) k2_14 rfl rfl ?_
  refine e_isub (pc' := 16) k2_15 rfl ?_
  refine e_icmpge (t := 39) (pc' := 19) k2_16 rfl (by decide) (fun _ => ?_) (fun _ => ?_)
  · refine e_iconst (v := 0) (pc' := 40) k2_39 rfl rfl ?_
    refine e_istore (pc' := 42) k2_40 rfl rfl ?_
    rfl
  · refine e_iload (pc' := 21) k2_19 rfl rfl ?_
    refine e_iload_n (pc' := 22) k2_21 rfl rfl ?_
    refine e_icmpeq (t := 39) (pc' := 25) k2_22 rfl (by decide) (fun _ => ?_) (fun _ => ?_)
    · refine e_iconst (v := 0) (pc' := 40) k2_39 rfl rfl ?_
      refine e_istore (pc' := 42) k2_40 rfl rfl ?_
      rfl
    · refine e_aload_n (pc' := 26) k2_25 rfl rfl ?_
      refine e_iload (pc' := 28) k2_26 rfl rfl ?_
      refine e_vI (j' := 31) (as := [.int v4]) (rest := []) (pc' := 31) k2_28 rfl (show mCk 2 1 48 31 1 = true by decide +kernel) (Or.inl (by decide +kernel)) rfl (Nat.le_of_ble_eq_true rfl) (show 2 ≤ mL 31 by decide +kernel) (fun q2 => ?_)
      refine e_istore (pc' := 33) k2_31 rfl rfl ?_
      refine e_iinc (c := 1) (pc' := 36) k2_33 rfl rfl rfl rfl ?_
      refine e_goto (pc' := 9) k2_36 (by decide) ?_
      rfl
theorem q2_42_eq (v0 : Nat) (v1 : Nat) (v2 : Int32) (v3 : Int32) (v4 : Int32) (v5 : Int32) (h : mHeap) : q2_42 v0 v1 v2 v3 v4 v5 h = if v3 < (v5 : Int32) then (some (some (.int v3), h)) else ((gR h v0 0 0).bind fun x1 => (cAstI h x1 v4 v3).bind fun h2 => (vI 31 v1 [.int v4] h2).bind fun q3 => q2_42 v0 v1 v2 v3 q3.1 (v5 + 1) q3.2) := by
  unfold q2_42
  refine e_iload (pc' := 44) k2_42 rfl rfl ?_
  refine e_iload_n (pc' := 45) k2_44 rfl rfl ?_
  refine e_icmpgt (t := 70) (pc' := 48) k2_45 rfl (by decide) (fun _ => ?_) (fun _ => ?_)
  · refine e_iload_n (pc' := 71) k2_70 rfl rfl ?_
    exact e_iret k2_71 (by decide +kernel)
  · refine e_aload_n (pc' := 49) k2_48 rfl rfl ?_
    refine e_getR (pc' := 52) k2_49 rfl (ci := 0) (k := 0) (by decide +kernel) (by decide +kernel) (fun x1 => ?_)
    refine e_iload (pc' := 54) k2_52 rfl rfl ?_
    refine e_iload_n (pc' := 55) k2_54 rfl rfl ?_
    refine e_iast (pc' := 56) k2_55 rfl (fun h2 => ?_)
    refine e_aload_n (pc' := 57) k2_56 rfl rfl ?_
    refine e_iload (pc' := 59) k2_57 rfl rfl ?_
    refine e_vI (j' := 31) (as := [.int v4]) (rest := []) (pc' := 62) k2_59 rfl (show mCk 2 1 48 31 1 = true by decide +kernel) (Or.inl (by decide +kernel)) rfl (Nat.le_of_ble_eq_true rfl) (show 2 ≤ mL 31 by decide +kernel) (fun q3 => ?_)
    refine e_istore (pc' := 64) k2_62 rfl rfl ?_
    refine e_iinc (c := 1) (pc' := 67) k2_64 rfl rfl rfl rfl ?_
    refine e_goto (pc' := 42) k2_67 (by decide) ?_
    rfl
/-- Corners.bendFrom(LSquareGrounds$Ground;I)I -/
theorem F2_eq (v0 : Nat) (v1 : Nat) (v2 : Int32) (h : mHeap) : F 2 [.ref v0, .ref v1, .int v2] h = (vI 31 v1 [.int v2] h).bind fun q1 => q2_9 v0 v1 v2 0 q1.1 q1.2 := by
  show D 2 0 (mEnt 2 [.ref v0, .ref v1, .int v2]) [] h 0 0 = _
  rw [show mEnt 2 [.ref v0, .ref v1, .int v2] = [some (.ref v0), some (.ref v1), some (.int v2), none, none, none] from rfl]
  refine e_iconst (v := 0) (pc' := 1) k2_0 rfl rfl ?_
  refine e_istore_n (pc' := 2) k2_1 rfl rfl ?_
  refine e_aload_n (pc' := 3) k2_2 rfl rfl ?_
  refine e_iload_n (pc' := 4) k2_3 rfl rfl ?_
  refine e_vI (j' := 31) (as := [.int v2]) (rest := []) (pc' := 7) k2_4 rfl (show mCk 2 1 48 31 1 = true by decide +kernel) (Or.inl (by decide +kernel)) rfl (Nat.le_of_ble_eq_true rfl) (show 2 ≤ mL 31 by decide +kernel) (fun q1 => ?_)
  refine e_istore (pc' := 9) k2_7 rfl rfl ?_
  rfl
theorem k3_0 : decode (mB 3) 0 = .ok (.aload_n 0, 1) := by decide +kernel
theorem k3_1 : decode (mB 3) 1 = .ok (.dup, 1) := by decide +kernel
theorem k3_2 : decode (mB 3) 2 = .ok (.getfield 15, 3) := by decide +kernel
theorem k3_5 : decode (mB 3) 5 = .ok (.iconst 1, 1) := by decide +kernel
theorem k3_6 : decode (mB 3) 6 = .ok (.iadd, 1) := by decide +kernel
theorem k3_7 : decode (mB 3) 7 = .ok (.putfield 15, 3) := by decide +kernel
theorem k3_10 : decode (mB 3) 10 = .ok (.iload_n 1, 1) := by decide +kernel
theorem k3_11 : decode (mB 3) 11 = .ok (.ifCond .le 70, 3) := by decide +kernel
theorem k3_14 : decode (mB 3) 14 = .ok (.aload_n 0, 1) := by decide +kernel
theorem k3_15 : decode (mB 3) 15 = .ok (.dup, 1) := by decide +kernel
theorem k3_16 : decode (mB 3) 16 = .ok (.getfield 19, 3) := by decide +kernel
theorem k3_19 : decode (mB 3) 19 = .ok (.iconst 1, 1) := by decide +kernel
theorem k3_20 : decode (mB 3) 20 = .ok (.iadd, 1) := by decide +kernel
theorem k3_21 : decode (mB 3) 21 = .ok (.putfield 19, 3) := by decide +kernel
theorem k3_24 : decode (mB 3) 24 = .ok (.aload_n 0, 1) := by decide +kernel
theorem k3_25 : decode (mB 3) 25 = .ok (.dup, 1) := by decide +kernel
theorem k3_26 : decode (mB 3) 26 = .ok (.getfield 22, 3) := by decide +kernel
theorem k3_29 : decode (mB 3) 29 = .ok (.iload_n 1, 1) := by decide +kernel
theorem k3_30 : decode (mB 3) 30 = .ok (.iadd, 1) := by decide +kernel
theorem k3_31 : decode (mB 3) 31 = .ok (.putfield 22, 3) := by decide +kernel
theorem k3_34 : decode (mB 3) 34 = .ok (.aload_n 0, 1) := by decide +kernel
theorem k3_35 : decode (mB 3) 35 = .ok (.aload_n 0, 1) := by decide +kernel
theorem k3_36 : decode (mB 3) 36 = .ok (.getfield 25, 3) := by decide +kernel
theorem k3_39 : decode (mB 3) 39 = .ok (.iload_n 1, 1) := by decide +kernel
theorem k3_40 : decode (mB 3) 40 = .ok (.invokestatic 52, 3) := by decide +kernel
theorem k3_43 : decode (mB 3) 43 = .ok (.putfield 25, 3) := by decide +kernel
theorem k3_46 : decode (mB 3) 46 = .ok (.aload_n 0, 1) := by decide +kernel
theorem k3_47 : decode (mB 3) 47 = .ok (.aload_n 0, 1) := by decide +kernel
theorem k3_48 : decode (mB 3) 48 = .ok (.getfield 28, 3) := by decide +kernel
theorem k3_51 : decode (mB 3) 51 = .ok (.iload_n 1, 1) := by decide +kernel
theorem k3_52 : decode (mB 3) 52 = .ok (.invokestatic 58, 3) := by decide +kernel
theorem k3_55 : decode (mB 3) 55 = .ok (.putfield 28, 3) := by decide +kernel
theorem k3_58 : decode (mB 3) 58 = .ok (.aload_n 0, 1) := by decide +kernel
theorem k3_59 : decode (mB 3) 59 = .ok (.dup, 1) := by decide +kernel
theorem k3_60 : decode (mB 3) 60 = .ok (.getfield 31, 3) := by decide +kernel
theorem k3_63 : decode (mB 3) 63 = .ok (.iload_n 1, 1) := by decide +kernel
theorem k3_64 : decode (mB 3) 64 = .ok (.iload_n 1, 1) := by decide +kernel
theorem k3_65 : decode (mB 3) 65 = .ok (.iconst 2, 1) := by decide +kernel
theorem k3_66 : decode (mB 3) 66 = .ok (.iadd, 1) := by decide +kernel
theorem k3_67 : decode (mB 3) 67 = .ok (.imul, 1) := by decide +kernel
theorem k3_68 : decode (mB 3) 68 = .ok (.getstatic 61, 3) := by decide +kernel
theorem k3_71 : decode (mB 3) 71 = .ok (.iload_n 1, 1) := by decide +kernel
theorem k3_72 : decode (mB 3) 72 = .ok (.iconst 1, 1) := by decide +kernel
theorem k3_73 : decode (mB 3) 73 = .ok (.iadd, 1) := by decide +kernel
theorem k3_74 : decode (mB 3) 74 = .ok (.iaload, 1) := by decide +kernel
theorem k3_75 : decode (mB 3) 75 = .ok (.imul, 1) := by decide +kernel
theorem k3_76 : decode (mB 3) 76 = .ok (.i2l, 1) := by decide +kernel
theorem k3_77 : decode (mB 3) 77 = .ok (.ladd, 1) := by decide +kernel
theorem k3_78 : decode (mB 3) 78 = .ok (.putfield 31, 3) := by decide +kernel
theorem k3_81 : decode (mB 3) 81 = .ok (.return_, 1) := by decide +kernel
/-- Corners.note(I)V -/
theorem F3_eq (v0 : Nat) (v1 : Int32) (h : mHeap) : F 3 [.ref v0, .int v1] h = (gI h v0 0 1).bind fun x1 => (cPut h v0 0 1 (.int (x1 + 1))).bind fun h2 => if (v1 : Int32) ≤ 0 then (some (none, h2)) else ((gI h2 v0 0 2).bind fun x3 => (cPut h2 v0 0 2 (.int (x3 + 1))).bind fun h4 => (gI h4 v0 0 3).bind fun x5 => (cPut h4 v0 0 3 (.int (x5 + v1))).bind fun h6 => (gI h6 v0 0 4).bind fun x7 => (sI 175 [.int x7, .int v1] h6).bind fun q8 => (cPut q8.2 v0 0 4 (.int q8.1)).bind fun h9 => (gI h9 v0 0 5).bind fun x10 => (sI 174 [.int x10, .int v1] h9).bind fun q11 => (cPut q11.2 v0 0 5 (.int q11.1)).bind fun h12 => (gL h12 v0 0 6).bind fun x13 => (cAldI false h12 0 (v1 + 1)).bind fun x14 => (cPut h12 v0 0 6 (.long (x13 + (Int32.toInt64 ((v1 * (v1 + 2)) * x14))))).bind fun h15 => some (none, h15)) := by
  show D 3 0 (mEnt 3 [.ref v0, .int v1]) [] h 0 0 = _
  rw [show mEnt 3 [.ref v0, .int v1] = [some (.ref v0), some (.int v1)] from rfl]
  refine e_aload_n (pc' := 1) k3_0 rfl rfl ?_
  refine e_dup (pc' := 2) k3_1 rfl rfl ?_
  refine e_getI (pc' := 5) k3_2 rfl (ci := 0) (k := 1) (by decide +kernel) (by decide +kernel) (fun x1 => ?_)
  refine e_iconst (v := 1) (pc' := 6) k3_5 rfl rfl ?_
  refine e_iadd (pc' := 7) k3_6 rfl ?_
  refine e_put (pc' := 10) k3_7 rfl (ci := 0) (k := 1) (by decide +kernel) (by decide +kernel) rfl (fun h2 => ?_)
  refine e_iload_n (pc' := 11) k3_10 rfl rfl ?_
  refine e_ifle (t := 81) (pc' := 14) k3_11 rfl (by decide) (fun _ => ?_) (fun _ => ?_)
  · exact e_vret k3_81 (by decide +kernel)
  · refine e_aload_n (pc' := 15) k3_14 rfl rfl ?_
    refine e_dup (pc' := 16) k3_15 rfl rfl ?_
    refine e_getI (pc' := 19) k3_16 rfl (ci := 0) (k := 2) (by decide +kernel) (by decide +kernel) (fun x3 => ?_)
    refine e_iconst (v := 1) (pc' := 20) k3_19 rfl rfl ?_
    refine e_iadd (pc' := 21) k3_20 rfl ?_
    refine e_put (pc' := 24) k3_21 rfl (ci := 0) (k := 2) (by decide +kernel) (by decide +kernel) rfl (fun h4 => ?_)
    refine e_aload_n (pc' := 25) k3_24 rfl rfl ?_
    refine e_dup (pc' := 26) k3_25 rfl rfl ?_
    refine e_getI (pc' := 29) k3_26 rfl (ci := 0) (k := 3) (by decide +kernel) (by decide +kernel) (fun x5 => ?_)
    refine e_iload_n (pc' := 30) k3_29 rfl rfl ?_
    refine e_iadd (pc' := 31) k3_30 rfl ?_
    refine e_put (pc' := 34) k3_31 rfl (ci := 0) (k := 3) (by decide +kernel) (by decide +kernel) rfl (fun h6 => ?_)
    refine e_aload_n (pc' := 35) k3_34 rfl rfl ?_
    refine e_aload_n (pc' := 36) k3_35 rfl rfl ?_
    refine e_getI (pc' := 39) k3_36 rfl (ci := 0) (k := 4) (by decide +kernel) (by decide +kernel) (fun x7 => ?_)
    refine e_iload_n (pc' := 40) k3_39 rfl rfl ?_
    refine e_sI (j' := 175) (as := [.int x7, .int v1]) (rest := [.ref v0]) (pc' := 43) k3_40 rfl (show mCk 3 0 52 175 2 = true by decide +kernel) (Or.inl (by decide +kernel)) rfl (Nat.le_of_ble_eq_true rfl) (show 2 ≤ mL 175 by decide +kernel) (fun q8 => ?_)
    refine e_put (pc' := 46) k3_43 rfl (ci := 0) (k := 4) (by decide +kernel) (by decide +kernel) rfl (fun h9 => ?_)
    refine e_aload_n (pc' := 47) k3_46 rfl rfl ?_
    refine e_aload_n (pc' := 48) k3_47 rfl rfl ?_
    refine e_getI (pc' := 51) k3_48 rfl (ci := 0) (k := 5) (by decide +kernel) (by decide +kernel) (fun x10 => ?_)
    refine e_iload_n (pc' := 52) k3_51 rfl rfl ?_
    refine e_sI (j' := 174) (as := [.int x10, .int v1]) (rest := [.ref v0]) (pc' := 55) k3_52 rfl (show mCk 3 0 58 174 2 = true by decide +kernel) (Or.inl (by decide +kernel)) rfl (Nat.le_of_ble_eq_true rfl) (show 2 ≤ mL 174 by decide +kernel) (fun q11 => ?_)
    refine e_put (pc' := 58) k3_55 rfl (ci := 0) (k := 5) (by decide +kernel) (by decide +kernel) rfl (fun h12 => ?_)
    refine e_aload_n (pc' := 59) k3_58 rfl rfl ?_
    refine e_dup (pc' := 60) k3_59 rfl rfl ?_
    refine e_getL (pc' := 63) k3_60 rfl (ci := 0) (k := 6) (by decide +kernel) (by decide +kernel) (fun x13 => ?_)
    refine e_iload_n (pc' := 64) k3_63 rfl rfl ?_
    refine e_iload_n (pc' := 65) k3_64 rfl rfl ?_
    refine e_iconst (v := 2) (pc' := 66) k3_65 rfl rfl ?_
    refine e_iadd (pc' := 67) k3_66 rfl ?_
    refine e_imul (pc' := 68) k3_67 rfl ?_
    refine e_gets (pc' := 71) k3_68 rfl (by decide +kernel) ?_
    refine e_iload_n (pc' := 72) k3_71 rfl rfl ?_
    refine e_iconst (v := 1) (pc' := 73) k3_72 rfl rfl ?_
    refine e_iadd (pc' := 74) k3_73 rfl ?_
    refine e_iald (pc' := 75) k3_74 rfl (lw := false) rfl (fun x14 => ?_)
    refine e_imul (pc' := 76) k3_75 rfl ?_
    refine e_i2l (pc' := 77) k3_76 rfl ?_
    refine e_ladd (pc' := 78) k3_77 rfl ?_
    refine e_put (pc' := 81) k3_78 rfl (ci := 0) (k := 6) (by decide +kernel) (by decide +kernel) rfl (fun h15 => ?_)
    exact e_vret k3_81 (by decide +kernel)
theorem k4_0 : decode (mB 4) 0 = .ok (.aload_n 0, 1) := by decide +kernel
theorem k4_1 : decode (mB 4) 1 = .ok (.getfield 19, 3) := by decide +kernel
theorem k4_4 : decode (mB 4) 4 = .ok (.ifCond .ne 5, 3) := by decide +kernel
theorem k4_7 : decode (mB 4) 7 = .ok (.iconst 1, 1) := by decide +kernel
theorem k4_8 : decode (mB 4) 8 = .ok (.ireturn, 1) := by decide +kernel
theorem k4_9 : decode (mB 4) 9 = .ok (.aload_n 0, 1) := by decide +kernel
theorem k4_10 : decode (mB 4) 10 = .ok (.getfield 19, 3) := by decide +kernel
theorem k4_13 : decode (mB 4) 13 = .ok (.iconst 1, 1) := by decide +kernel
theorem k4_14 : decode (mB 4) 14 = .ok (.if_icmp .ne 5, 3) := by decide +kernel
theorem k4_17 : decode (mB 4) 17 = .ok (.iconst 2, 1) := by decide +kernel
theorem k4_18 : decode (mB 4) 18 = .ok (.ireturn, 1) := by decide +kernel
theorem k4_19 : decode (mB 4) 19 = .ok (.aload_n 0, 1) := by decide +kernel
theorem k4_20 : decode (mB 4) 20 = .ok (.getfield 19, 3) := by decide +kernel
theorem k4_23 : decode (mB 4) 23 = .ok (.iconst 2, 1) := by decide +kernel
theorem k4_24 : decode (mB 4) 24 = .ok (.if_icmp .ne 18, 3) := by decide +kernel
theorem k4_27 : decode (mB 4) 27 = .ok (.aload_n 0, 1) := by decide +kernel
theorem k4_28 : decode (mB 4) 28 = .ok (.getfield 25, 3) := by decide +kernel
theorem k4_31 : decode (mB 4) 31 = .ok (.aload_n 0, 1) := by decide +kernel
theorem k4_32 : decode (mB 4) 32 = .ok (.getfield 28, 3) := by decide +kernel
theorem k4_35 : decode (mB 4) 35 = .ok (.if_icmp .ne 7, 3) := by decide +kernel
theorem k4_38 : decode (mB 4) 38 = .ok (.iconst 3, 1) := by decide +kernel
theorem k4_39 : decode (mB 4) 39 = .ok (.goto 4, 3) := by decide +kernel
theorem k4_42 : decode (mB 4) 42 = .ok (.iconst 0, 1) := by decide +kernel
theorem k4_43 : decode (mB 4) 43 = .ok (.ireturn, 1) := by decide +kernel
/-- Corners.kind()I -/
theorem F4_eq (v0 : Nat) (h : mHeap) : F 4 [.ref v0] h = (gI h v0 0 2).bind fun x1 => if ¬ (x1 : Int32) = 0 then ((gI h v0 0 2).bind fun x2 => if ¬ (x2 : Int32) = 1 then ((gI h v0 0 2).bind fun x3 => if ¬ (x3 : Int32) = 2 then (some (some (.int 0), h)) else ((gI h v0 0 4).bind fun x4 => (gI h v0 0 5).bind fun x5 => if ¬ (x4 : Int32) = x5 then (some (some (.int 0), h)) else (some (some (.int 3), h)))) else (some (some (.int 2), h))) else (some (some (.int 1), h)) := by
  show D 4 0 (mEnt 4 [.ref v0]) [] h 0 0 = _
  rw [show mEnt 4 [.ref v0] = [some (.ref v0)] from rfl]
  refine e_aload_n (pc' := 1) k4_0 rfl rfl ?_
  refine e_getI (pc' := 4) k4_1 rfl (ci := 0) (k := 2) (by decide +kernel) (by decide +kernel) (fun x1 => ?_)
  refine e_ifne (t := 9) (pc' := 7) k4_4 rfl (by decide) (fun _ => ?_) (fun _ => ?_)
  · refine e_aload_n (pc' := 10) k4_9 rfl rfl ?_
    refine e_getI (pc' := 13) k4_10 rfl (ci := 0) (k := 2) (by decide +kernel) (by decide +kernel) (fun x2 => ?_)
    refine e_iconst (v := 1) (pc' := 14) k4_13 rfl rfl ?_
    refine e_icmpne (t := 19) (pc' := 17) k4_14 rfl (by decide) (fun _ => ?_) (fun _ => ?_)
    · refine e_aload_n (pc' := 20) k4_19 rfl rfl ?_
      refine e_getI (pc' := 23) k4_20 rfl (ci := 0) (k := 2) (by decide +kernel) (by decide +kernel) (fun x3 => ?_)
      refine e_iconst (v := 2) (pc' := 24) k4_23 rfl rfl ?_
      refine e_icmpne (t := 42) (pc' := 27) k4_24 rfl (by decide) (fun _ => ?_) (fun _ => ?_)
      · refine e_iconst (v := 0) (pc' := 43) k4_42 rfl rfl ?_
        exact e_iret k4_43 (by decide +kernel)
      · refine e_aload_n (pc' := 28) k4_27 rfl rfl ?_
        refine e_getI (pc' := 31) k4_28 rfl (ci := 0) (k := 4) (by decide +kernel) (by decide +kernel) (fun x4 => ?_)
        refine e_aload_n (pc' := 32) k4_31 rfl rfl ?_
        refine e_getI (pc' := 35) k4_32 rfl (ci := 0) (k := 5) (by decide +kernel) (by decide +kernel) (fun x5 => ?_)
        refine e_icmpne (t := 42) (pc' := 38) k4_35 rfl (by decide) (fun _ => ?_) (fun _ => ?_)
        · refine e_iconst (v := 0) (pc' := 43) k4_42 rfl rfl ?_
          exact e_iret k4_43 (by decide +kernel)
        · refine e_iconst (v := 3) (pc' := 39) k4_38 rfl rfl ?_
          refine e_goto (pc' := 43) k4_39 (by decide) ?_
          exact e_iret k4_43 (by decide +kernel)
    · refine e_iconst (v := 2) (pc' := 18) k4_17 rfl rfl ?_
      exact e_iret k4_18 (by decide +kernel)
  · refine e_iconst (v := 1) (pc' := 8) k4_7 rfl rfl ?_
    exact e_iret k4_8 (by decide +kernel)
theorem k5_0 : decode (mB 5) 0 = .ok (.aload_n 0, 1) := by decide +kernel
theorem k5_1 : decode (mB 5) 1 = .ok (.getfield 22, 3) := by decide +kernel
theorem k5_4 : decode (mB 5) 4 = .ok (.aload_n 0, 1) := by decide +kernel
theorem k5_5 : decode (mB 5) 5 = .ok (.getfield 19, 3) := by decide +kernel
theorem k5_8 : decode (mB 5) 8 = .ok (.iadd, 1) := by decide +kernel
theorem k5_9 : decode (mB 5) 9 = .ok (.ireturn, 1) := by decide +kernel
/-- Corners.bentSquares()I -/
theorem F5_eq (v0 : Nat) (h : mHeap) : F 5 [.ref v0] h = (gI h v0 0 3).bind fun x1 => (gI h v0 0 2).bind fun x2 => some (some (.int (x1 + x2)), h) := by
  show D 5 0 (mEnt 5 [.ref v0]) [] h 0 0 = _
  rw [show mEnt 5 [.ref v0] = [some (.ref v0)] from rfl]
  refine e_aload_n (pc' := 1) k5_0 rfl rfl ?_
  refine e_getI (pc' := 4) k5_1 rfl (ci := 0) (k := 3) (by decide +kernel) (by decide +kernel) (fun x1 => ?_)
  refine e_aload_n (pc' := 5) k5_4 rfl rfl ?_
  refine e_getI (pc' := 8) k5_5 rfl (ci := 0) (k := 2) (by decide +kernel) (by decide +kernel) (fun x2 => ?_)
  refine e_iadd (pc' := 9) k5_8 rfl ?_
  exact e_iret k5_9 (by decide +kernel)
theorem k8_0 : decode (mB 8) 0 = .ok (.aload_n 0, 1) := by decide +kernel
theorem k8_1 : decode (mB 8) 1 = .ok (.getfield 12, 3) := by decide +kernel
theorem k8_4 : decode (mB 8) 4 = .ok (.aload_n 1, 1) := by decide +kernel
theorem k8_5 : decode (mB 8) 5 = .ok (.invokevirtual 34, 3) := by decide +kernel
theorem k8_8 : decode (mB 8) 8 = .ok (.aload_n 0, 1) := by decide +kernel
theorem k8_9 : decode (mB 8) 9 = .ok (.aload_n 1, 1) := by decide +kernel
theorem k8_10 : decode (mB 8) 10 = .ok (.invokevirtual 38, 3) := by decide +kernel
theorem k8_13 : decode (mB 8) 13 = .ok (.iconst 0, 1) := by decide +kernel
theorem k8_14 : decode (mB 8) 14 = .ok (.istore_n 2, 1) := by decide +kernel
theorem k8_15 : decode (mB 8) 15 = .ok (.iload_n 2, 1) := by decide +kernel
theorem k8_16 : decode (mB 8) 16 = .ok (.aload_n 1, 1) := by decide +kernel
theorem k8_17 : decode (mB 8) 17 = .ok (.getfield 41, 3) := by decide +kernel
theorem k8_20 : decode (mB 8) 20 = .ok (.if_icmp .ge 53, 3) := by decide +kernel
theorem k8_23 : decode (mB 8) 23 = .ok (.aload_n 0, 1) := by decide +kernel
theorem k8_24 : decode (mB 8) 24 = .ok (.getfield 18, 3) := by decide +kernel
theorem k8_27 : decode (mB 8) 27 = .ok (.iload_n 2, 1) := by decide +kernel
theorem k8_28 : decode (mB 8) 28 = .ok (.iaload, 1) := by decide +kernel
theorem k8_29 : decode (mB 8) 29 = .ok (.iload_n 2, 1) := by decide +kernel
theorem k8_30 : decode (mB 8) 30 = .ok (.if_icmp .ne 37, 3) := by decide +kernel
theorem k8_33 : decode (mB 8) 33 = .ok (.aload_n 0, 1) := by decide +kernel
theorem k8_34 : decode (mB 8) 34 = .ok (.aload_n 1, 1) := by decide +kernel
theorem k8_35 : decode (mB 8) 35 = .ok (.iload_n 2, 1) := by decide +kernel
theorem k8_36 : decode (mB 8) 36 = .ok (.invokevirtual 47, 3) := by decide +kernel
theorem k8_39 : decode (mB 8) 39 = .ok (.ifCond .eq 28, 3) := by decide +kernel
theorem k8_42 : decode (mB 8) 42 = .ok (.aload_n 0, 1) := by decide +kernel
theorem k8_43 : decode (mB 8) 43 = .ok (.aload_n 1, 1) := by decide +kernel
theorem k8_44 : decode (mB 8) 44 = .ok (.getfield 41, 3) := by decide +kernel
theorem k8_47 : decode (mB 8) 47 = .ok (.aload_n 0, 1) := by decide +kernel
theorem k8_48 : decode (mB 8) 48 = .ok (.getfield 22, 3) := by decide +kernel
theorem k8_51 : decode (mB 8) 51 = .ok (.iload_n 2, 1) := by decide +kernel
theorem k8_52 : decode (mB 8) 52 = .ok (.iaload, 1) := by decide +kernel
theorem k8_53 : decode (mB 8) 53 = .ok (.aload_n 0, 1) := by decide +kernel
theorem k8_54 : decode (mB 8) 54 = .ok (.getfield 22, 3) := by decide +kernel
theorem k8_57 : decode (mB 8) 57 = .ok (.aload_n 1, 1) := by decide +kernel
theorem k8_58 : decode (mB 8) 58 = .ok (.getfield 51, 3) := by decide +kernel
theorem k8_61 : decode (mB 8) 61 = .ok (.iload_n 2, 1) := by decide +kernel
theorem k8_62 : decode (mB 8) 62 = .ok (.iaload, 1) := by decide +kernel
theorem k8_63 : decode (mB 8) 63 = .ok (.iaload, 1) := by decide +kernel
theorem k8_64 : decode (mB 8) 64 = .ok (.invokevirtual 54, 3) := by decide +kernel
theorem k8_67 : decode (mB 8) 67 = .ok (.iinc 2 1, 3) := by decide +kernel
theorem k8_70 : decode (mB 8) 70 = .ok (.goto (-55), 3) := by decide +kernel
theorem k8_73 : decode (mB 8) 73 = .ok (.aload_n 0, 1) := by decide +kernel
theorem k8_74 : decode (mB 8) 74 = .ok (.aload_n 1, 1) := by decide +kernel
theorem k8_75 : decode (mB 8) 75 = .ok (.invokevirtual 58, 3) := by decide +kernel
theorem k8_78 : decode (mB 8) 78 = .ok (.return_, 1) := by decide +kernel
/-- Cylinders.look, loop at 15 -/
noncomputable def q8_15 (v0 : Nat) (v1 : Nat) (v2 : Int32) (h : mHeap) : mR' := E 8 15 [some (.ref v0), some (.ref v1), some (.int v2)] [] h
theorem q8_15_eq (v0 : Nat) (v1 : Nat) (v2 : Int32) (h : mHeap) : q8_15 v0 v1 v2 h = (gI h v1 3 0).bind fun x1 => if x1 ≤ (v2 : Int32) then ((vV 12 v0 [.ref v1] h).bind fun h2 => some (none, h2)) else ((gR h v0 1 1).bind fun x3 => (cAldI false h x3 v2).bind fun x4 => if ¬ (x4 : Int32) = v2 then (q8_15 v0 v1 (v2 + 1) h) else ((vI 10 v0 [.ref v1, .int v2] h).bind fun q5 => if (q5.1 : Int32) = 0 then (q8_15 v0 v1 (v2 + 1) q5.2) else ((gI q5.2 v1 3 0).bind fun x6 => (gR q5.2 v0 1 2).bind fun x7 => (cAldI false q5.2 x7 v2).bind fun x8 => (gR q5.2 v0 1 2).bind fun x9 => (gR q5.2 v1 3 2).bind fun x10 => (cAldI false q5.2 x10 v2).bind fun x11 => (cAldI false q5.2 x9 x11).bind fun x12 => (vV 11 v0 [.int x6, .int x8, .int x12] q5.2).bind fun h13 => q8_15 v0 v1 (v2 + 1) h13))) := by
  unfold q8_15
  refine e_iload_n (pc' := 16) k8_15 rfl rfl ?_
  refine e_aload_n (pc' := 17) k8_16 rfl rfl ?_
  refine e_getI (pc' := 20) k8_17 rfl (ci := 3) (k := 0) (by decide +kernel) (by decide +kernel) (fun x1 => ?_)
  refine e_icmpge (t := 73) (pc' := 23) k8_20 rfl (by decide) (fun _ => ?_) (fun _ => ?_)
  · refine e_aload_n (pc' := 74) k8_73 rfl rfl ?_
    refine e_aload_n (pc' := 75) k8_74 rfl rfl ?_
    refine e_vV (j' := 12) (as := [.ref v1]) (rest := []) (pc' := 78) k8_75 rfl (show mCk 8 1 58 12 1 = true by decide +kernel) (by decide +kernel) rfl (Nat.le_of_ble_eq_true rfl) (show 2 ≤ mL 12 by decide +kernel) (fun h2 => ?_)
    exact e_vret k8_78 (by decide +kernel)
  · refine e_aload_n (pc' := 24) k8_23 rfl rfl ?_
    refine e_getR (pc' := 27) k8_24 rfl (ci := 1) (k := 1) (by decide +kernel) (by decide +kernel) (fun x3 => ?_)
    refine e_iload_n (pc' := 28) k8_27 rfl rfl ?_
    refine e_iald (pc' := 29) k8_28 rfl (lw := false) rfl (fun x4 => ?_)
    refine e_iload_n (pc' := 30) k8_29 rfl rfl ?_
    refine e_icmpne (t := 67) (pc' := 33) k8_30 rfl (by decide) (fun _ => ?_) (fun _ => ?_)
    · refine e_iinc (c := 1) (pc' := 70) k8_67 rfl rfl rfl rfl ?_
      refine e_goto (pc' := 15) k8_70 (by decide) ?_
      rfl
    · refine e_aload_n (pc' := 34) k8_33 rfl rfl ?_
      refine e_aload_n (pc' := 35) k8_34 rfl rfl ?_
      refine e_iload_n (pc' := 36) k8_35 rfl rfl ?_
      refine e_vI (j' := 10) (as := [.ref v1, .int v2]) (rest := []) (pc' := 39) k8_36 rfl (show mCk 8 1 47 10 2 = true by decide +kernel) (Or.inr (by decide +kernel)) rfl (Nat.le_of_ble_eq_true rfl) (show 3 ≤ mL 10 by decide +kernel) (fun q5 => ?_)
      refine e_ifeq (t := 67) (pc' := 42) k8_39 rfl (by decide) (fun _ => ?_) (fun _ => ?_)
      · refine e_iinc (c := 1) (pc' := 70) k8_67 rfl rfl rfl rfl ?_
        refine e_goto (pc' := 15) k8_70 (by decide) ?_
        rfl
      · refine e_aload_n (pc' := 43) k8_42 rfl rfl ?_
        refine e_aload_n (pc' := 44) k8_43 rfl rfl ?_
        refine e_getI (pc' := 47) k8_44 rfl (ci := 3) (k := 0) (by decide +kernel) (by decide +kernel) (fun x6 => ?_)
        refine e_aload_n (pc' := 48) k8_47 rfl rfl ?_
        refine e_getR (pc' := 51) k8_48 rfl (ci := 1) (k := 2) (by decide +kernel) (by decide +kernel) (fun x7 => ?_)
        refine e_iload_n (pc' := 52) k8_51 rfl rfl ?_
        refine e_iald (pc' := 53) k8_52 rfl (lw := false) rfl (fun x8 => ?_)
        refine e_aload_n (pc' := 54) k8_53 rfl rfl ?_
        refine e_getR (pc' := 57) k8_54 rfl (ci := 1) (k := 2) (by decide +kernel) (by decide +kernel) (fun x9 => ?_)
        refine e_aload_n (pc' := 58) k8_57 rfl rfl ?_
        refine e_getR (pc' := 61) k8_58 rfl (ci := 3) (k := 2) (by decide +kernel) (by decide +kernel) (fun x10 => ?_)
        refine e_iload_n (pc' := 62) k8_61 rfl rfl ?_
        refine e_iald (pc' := 63) k8_62 rfl (lw := false) rfl (fun x11 => ?_)
        refine e_iald (pc' := 64) k8_63 rfl (lw := false) rfl (fun x12 => ?_)
        refine e_vV (j' := 11) (as := [.int x6, .int x8, .int x12]) (rest := []) (pc' := 67) k8_64 rfl (show mCk 8 1 54 11 3 = true by decide +kernel) (by decide +kernel) rfl (Nat.le_of_ble_eq_true rfl) (show 4 ≤ mL 11 by decide +kernel) (fun h13 => ?_)
        refine e_iinc (c := 1) (pc' := 70) k8_67 rfl rfl rfl rfl ?_
        refine e_goto (pc' := 15) k8_70 (by decide) ?_
        rfl
/-- Cylinders.look(LSquareGrounds$Ground;)V -/
theorem F8_eq (v0 : Nat) (v1 : Nat) (h : mHeap) : F 8 [.ref v0, .ref v1] h = (gR h v0 1 0).bind fun x1 => (vV 1 x1 [.ref v1] h).bind fun h2 => (vV 9 v0 [.ref v1] h2).bind fun h3 => q8_15 v0 v1 0 h3 := by
  show D 8 0 (mEnt 8 [.ref v0, .ref v1]) [] h 0 0 = _
  rw [show mEnt 8 [.ref v0, .ref v1] = [some (.ref v0), some (.ref v1), none] from rfl]
  refine e_aload_n (pc' := 1) k8_0 rfl rfl ?_
  refine e_getR (pc' := 4) k8_1 rfl (ci := 1) (k := 0) (by decide +kernel) (by decide +kernel) (fun x1 => ?_)
  refine e_aload_n (pc' := 5) k8_4 rfl rfl ?_
  refine e_vV (j' := 1) (as := [.ref v1]) (rest := []) (pc' := 8) k8_5 rfl (show mCk 8 1 34 1 1 = true by decide +kernel) (by decide +kernel) rfl (Nat.le_of_ble_eq_true rfl) (show 2 ≤ mL 1 by decide +kernel) (fun h2 => ?_)
  refine e_aload_n (pc' := 9) k8_8 rfl rfl ?_
  refine e_aload_n (pc' := 10) k8_9 rfl rfl ?_
  refine e_vV (j' := 9) (as := [.ref v1]) (rest := []) (pc' := 13) k8_10 rfl (show mCk 8 1 38 9 1 = true by decide +kernel) (by decide +kernel) rfl (Nat.le_of_ble_eq_true rfl) (show 2 ≤ mL 9 by decide +kernel) (fun h3 => ?_)
  refine e_iconst (v := 0) (pc' := 14) k8_13 rfl rfl ?_
  refine e_istore_n (pc' := 15) k8_14 rfl rfl ?_
  rfl
theorem k9_0 : decode (mB 9) 0 = .ok (.iconst 0, 1) := by decide +kernel
theorem k9_1 : decode (mB 9) 1 = .ok (.istore_n 2, 1) := by decide +kernel
theorem k9_2 : decode (mB 9) 2 = .ok (.iload_n 2, 1) := by decide +kernel
theorem k9_3 : decode (mB 9) 3 = .ok (.aload_n 1, 1) := by decide +kernel
theorem k9_4 : decode (mB 9) 4 = .ok (.getfield 41, 3) := by decide +kernel
theorem k9_7 : decode (mB 9) 7 = .ok (.if_icmp .ge 16, 3) := by decide +kernel
theorem k9_10 : decode (mB 9) 10 = .ok (.aload_n 0, 1) := by decide +kernel
theorem k9_11 : decode (mB 9) 11 = .ok (.getfield 18, 3) := by decide +kernel
theorem k9_14 : decode (mB 9) 14 = .ok (.iload_n 2, 1) := by decide +kernel
theorem k9_15 : decode (mB 9) 15 = .ok (.iconst (-1), 1) := by decide +kernel
theorem k9_16 : decode (mB 9) 16 = .ok (.iastore, 1) := by decide +kernel
theorem k9_17 : decode (mB 9) 17 = .ok (.iinc 2 1, 3) := by decide +kernel
theorem k9_20 : decode (mB 9) 20 = .ok (.goto (-18), 3) := by decide +kernel
theorem k9_23 : decode (mB 9) 23 = .ok (.iconst 0, 1) := by decide +kernel
theorem k9_24 : decode (mB 9) 24 = .ok (.istore_n 2, 1) := by decide +kernel
theorem k9_25 : decode (mB 9) 25 = .ok (.iload_n 2, 1) := by decide +kernel
theorem k9_26 : decode (mB 9) 26 = .ok (.aload_n 1, 1) := by decide +kernel
theorem k9_27 : decode (mB 9) 27 = .ok (.getfield 41, 3) := by decide +kernel
theorem k9_30 : decode (mB 9) 30 = .ok (.if_icmp .ge 59, 3) := by decide +kernel
theorem k9_33 : decode (mB 9) 33 = .ok (.iload_n 2, 1) := by decide +kernel
theorem k9_34 : decode (mB 9) 34 = .ok (.istore_n 3, 1) := by decide +kernel
theorem k9_35 : decode (mB 9) 35 = .ok (.iconst 0, 1) := by decide +kernel
theorem k9_36 : decode (mB 9) 36 = .ok (.istore 4, 2) := by decide +kernel
theorem k9_38 : decode (mB 9) 38 = .ok (.iload 4, 2) := by decide +kernel
theorem k9_40 : decode (mB 9) 40 = .ok (.aload_n 1, 1) := by decide +kernel
theorem k9_41 : decode (mB 9) 41 = .ok (.getfield 41, 3) := by decide +kernel
theorem k9_44 : decode (mB 9) 44 = .ok (.if_icmp .ge 39, 3) := by decide +kernel
theorem k9_47 : decode (mB 9) 47 = .ok (.aload_n 0, 1) := by decide +kernel
theorem k9_48 : decode (mB 9) 48 = .ok (.getfield 18, 3) := by decide +kernel
theorem k9_51 : decode (mB 9) 51 = .ok (.iload_n 3, 1) := by decide +kernel
theorem k9_52 : decode (mB 9) 52 = .ok (.iaload, 1) := by decide +kernel
theorem k9_53 : decode (mB 9) 53 = .ok (.ifCond .ge 30, 3) := by decide +kernel
theorem k9_56 : decode (mB 9) 56 = .ok (.aload_n 0, 1) := by decide +kernel
theorem k9_57 : decode (mB 9) 57 = .ok (.getfield 18, 3) := by decide +kernel
theorem k9_60 : decode (mB 9) 60 = .ok (.iload_n 3, 1) := by decide +kernel
theorem k9_61 : decode (mB 9) 61 = .ok (.iload_n 2, 1) := by decide +kernel
theorem k9_62 : decode (mB 9) 62 = .ok (.iastore, 1) := by decide +kernel
theorem k9_63 : decode (mB 9) 63 = .ok (.aload_n 0, 1) := by decide +kernel
theorem k9_64 : decode (mB 9) 64 = .ok (.getfield 22, 3) := by decide +kernel
theorem k9_67 : decode (mB 9) 67 = .ok (.iload_n 3, 1) := by decide +kernel
theorem k9_68 : decode (mB 9) 68 = .ok (.iload_n 2, 1) := by decide +kernel
theorem k9_69 : decode (mB 9) 69 = .ok (.iastore, 1) := by decide +kernel
theorem k9_70 : decode (mB 9) 70 = .ok (.aload_n 1, 1) := by decide +kernel
theorem k9_71 : decode (mB 9) 71 = .ok (.getfield 61, 3) := by decide +kernel
theorem k9_74 : decode (mB 9) 74 = .ok (.iload_n 3, 1) := by decide +kernel
theorem k9_75 : decode (mB 9) 75 = .ok (.iaload, 1) := by decide +kernel
theorem k9_76 : decode (mB 9) 76 = .ok (.istore_n 3, 1) := by decide +kernel
theorem k9_77 : decode (mB 9) 77 = .ok (.iinc 4 1, 3) := by decide +kernel
theorem k9_80 : decode (mB 9) 80 = .ok (.goto (-42), 3) := by decide +kernel
theorem k9_83 : decode (mB 9) 83 = .ok (.iinc 2 1, 3) := by decide +kernel
theorem k9_86 : decode (mB 9) 86 = .ok (.goto (-61), 3) := by decide +kernel
theorem k9_89 : decode (mB 9) 89 = .ok (.return_, 1) := by decide +kernel
/-- Cylinders.partInRings, loop at 2 -/
noncomputable def q9_2 (v0 : Nat) (v1 : Nat) (v2 : Int32) (h : mHeap) : mR' := E 9 2 [some (.ref v0), some (.ref v1), some (.int v2), none, none] [] h
/-- Cylinders.partInRings, loop at 25 -/
noncomputable def q9_25 (v0 : Nat) (v1 : Nat) (v2 : Int32) (d3 : Option Value) (d4 : Option Value) (h : mHeap) : mR' := E 9 25 [some (.ref v0), some (.ref v1), some (.int v2), d3, d4] [] h
/-- Cylinders.partInRings, loop at 38 -/
noncomputable def q9_38 (v0 : Nat) (v1 : Nat) (v2 : Int32) (v3 : Int32) (v4 : Int32) (h : mHeap) : mR' := E 9 38 [some (.ref v0), some (.ref v1), some (.int v2), some (.int v3), some (.int v4)] [] h
theorem q9_2_eq (v0 : Nat) (v1 : Nat) (v2 : Int32) (h : mHeap) : q9_2 v0 v1 v2 h = (gI h v1 3 0).bind fun x1 => if x1 ≤ (v2 : Int32) then (q9_25 v0 v1 0 none none h) else ((gR h v0 1 1).bind fun x2 => (cAstI h x2 v2 (-1)).bind fun h3 => q9_2 v0 v1 (v2 + 1) h3) := by
  unfold q9_2
  refine e_iload_n (pc' := 3) k9_2 rfl rfl ?_
  refine e_aload_n (pc' := 4) k9_3 rfl rfl ?_
  refine e_getI (pc' := 7) k9_4 rfl (ci := 3) (k := 0) (by decide +kernel) (by decide +kernel) (fun x1 => ?_)
  refine e_icmpge (t := 23) (pc' := 10) k9_7 rfl (by decide) (fun _ => ?_) (fun _ => ?_)
  · refine e_iconst (v := 0) (pc' := 24) k9_23 rfl rfl ?_
    refine e_istore_n (pc' := 25) k9_24 rfl rfl ?_
    rfl
  · refine e_aload_n (pc' := 11) k9_10 rfl rfl ?_
    refine e_getR (pc' := 14) k9_11 rfl (ci := 1) (k := 1) (by decide +kernel) (by decide +kernel) (fun x2 => ?_)
    refine e_iload_n (pc' := 15) k9_14 rfl rfl ?_
    refine e_iconst (v := -1) (pc' := 16) k9_15 rfl rfl ?_
    refine e_iast (pc' := 17) k9_16 rfl (fun h3 => ?_)
    refine e_iinc (c := 1) (pc' := 20) k9_17 rfl rfl rfl rfl ?_
    refine e_goto (pc' := 2) k9_20 (by decide) ?_
    rfl
theorem q9_25_eq (v0 : Nat) (v1 : Nat) (v2 : Int32) (d3 : Option Value) (d4 : Option Value) (h : mHeap) : q9_25 v0 v1 v2 d3 d4 h = (gI h v1 3 0).bind fun x1 => if x1 ≤ (v2 : Int32) then (some (none, h)) else (q9_38 v0 v1 v2 v2 0 h) := by
  unfold q9_25
  refine e_iload_n (pc' := 26) k9_25 rfl rfl ?_
  refine e_aload_n (pc' := 27) k9_26 rfl rfl ?_
  refine e_getI (pc' := 30) k9_27 rfl (ci := 3) (k := 0) (by decide +kernel) (by decide +kernel) (fun x1 => ?_)
  refine e_icmpge (t := 89) (pc' := 33) k9_30 rfl (by decide) (fun _ => ?_) (fun _ => ?_)
  · exact e_vret k9_89 (by decide +kernel)
  · refine e_iload_n (pc' := 34) k9_33 rfl rfl ?_
    refine e_istore_n (pc' := 35) k9_34 rfl rfl ?_
    refine e_iconst (v := 0) (pc' := 36) k9_35 rfl rfl ?_
    refine e_istore (pc' := 38) k9_36 rfl rfl ?_
    rfl
theorem q9_38_eq (v0 : Nat) (v1 : Nat) (v2 : Int32) (v3 : Int32) (v4 : Int32) (h : mHeap) : q9_38 v0 v1 v2 v3 v4 h = (gI h v1 3 0).bind fun x1 => if x1 ≤ (v4 : Int32) then (q9_25 v0 v1 (v2 + 1) (some (.int v3)) (some (.int v4)) h) else ((gR h v0 1 1).bind fun x2 => (cAldI false h x2 v3).bind fun x3 => if 0 ≤ (x3 : Int32) then (q9_25 v0 v1 (v2 + 1) (some (.int v3)) (some (.int v4)) h) else ((gR h v0 1 1).bind fun x4 => (cAstI h x4 v3 v2).bind fun h5 => (gR h5 v0 1 2).bind fun x6 => (cAstI h5 x6 v3 v2).bind fun h7 => (gR h7 v1 3 1).bind fun x8 => (cAldI false h7 x8 v3).bind fun x9 => q9_38 v0 v1 v2 x9 (v4 + 1) h7)) := by
  unfold q9_38
  refine e_iload (pc' := 40) k9_38 rfl rfl ?_
  refine e_aload_n (pc' := 41) k9_40 rfl rfl ?_
  refine e_getI (pc' := 44) k9_41 rfl (ci := 3) (k := 0) (by decide +kernel) (by decide +kernel) (fun x1 => ?_)
  refine e_icmpge (t := 83) (pc' := 47) k9_44 rfl (by decide) (fun _ => ?_) (fun _ => ?_)
  · refine e_iinc (c := 1) (pc' := 86) k9_83 rfl rfl rfl rfl ?_
    refine e_goto (pc' := 25) k9_86 (by decide) ?_
    rfl
  · refine e_aload_n (pc' := 48) k9_47 rfl rfl ?_
    refine e_getR (pc' := 51) k9_48 rfl (ci := 1) (k := 1) (by decide +kernel) (by decide +kernel) (fun x2 => ?_)
    refine e_iload_n (pc' := 52) k9_51 rfl rfl ?_
    refine e_iald (pc' := 53) k9_52 rfl (lw := false) rfl (fun x3 => ?_)
    refine e_ifge (t := 83) (pc' := 56) k9_53 rfl (by decide) (fun _ => ?_) (fun _ => ?_)
    · refine e_iinc (c := 1) (pc' := 86) k9_83 rfl rfl rfl rfl ?_
      refine e_goto (pc' := 25) k9_86 (by decide) ?_
      rfl
    · refine e_aload_n (pc' := 57) k9_56 rfl rfl ?_
      refine e_getR (pc' := 60) k9_57 rfl (ci := 1) (k := 1) (by decide +kernel) (by decide +kernel) (fun x4 => ?_)
      refine e_iload_n (pc' := 61) k9_60 rfl rfl ?_
      refine e_iload_n (pc' := 62) k9_61 rfl rfl ?_
      refine e_iast (pc' := 63) k9_62 rfl (fun h5 => ?_)
      refine e_aload_n (pc' := 64) k9_63 rfl rfl ?_
      refine e_getR (pc' := 67) k9_64 rfl (ci := 1) (k := 2) (by decide +kernel) (by decide +kernel) (fun x6 => ?_)
      refine e_iload_n (pc' := 68) k9_67 rfl rfl ?_
      refine e_iload_n (pc' := 69) k9_68 rfl rfl ?_
      refine e_iast (pc' := 70) k9_69 rfl (fun h7 => ?_)
      refine e_aload_n (pc' := 71) k9_70 rfl rfl ?_
      refine e_getR (pc' := 74) k9_71 rfl (ci := 3) (k := 1) (by decide +kernel) (by decide +kernel) (fun x8 => ?_)
      refine e_iload_n (pc' := 75) k9_74 rfl rfl ?_
      refine e_iald (pc' := 76) k9_75 rfl (lw := false) rfl (fun x9 => ?_)
      refine e_istore_n (pc' := 77) k9_76 rfl rfl ?_
      refine e_iinc (c := 1) (pc' := 80) k9_77 rfl rfl rfl rfl ?_
      refine e_goto (pc' := 38) k9_80 (by decide) ?_
      rfl
/-- Cylinders.partInRings(LSquareGrounds$Ground;)V -/
theorem F9_eq (v0 : Nat) (v1 : Nat) (h : mHeap) : F 9 [.ref v0, .ref v1] h = q9_2 v0 v1 0 h := by
  show D 9 0 (mEnt 9 [.ref v0, .ref v1]) [] h 0 0 = _
  rw [show mEnt 9 [.ref v0, .ref v1] = [some (.ref v0), some (.ref v1), none, none, none] from rfl]
  refine e_iconst (v := 0) (pc' := 1) k9_0 rfl rfl ?_
  refine e_istore_n (pc' := 2) k9_1 rfl rfl ?_
  rfl
theorem k10_0 : decode (mB 10) 0 = .ok (.iload_n 2, 1) := by decide +kernel
theorem k10_1 : decode (mB 10) 1 = .ok (.istore_n 3, 1) := by decide +kernel
theorem k10_2 : decode (mB 10) 2 = .ok (.iload_n 3, 1) := by decide +kernel
theorem k10_3 : decode (mB 10) 3 = .ok (.aload_n 1, 1) := by decide +kernel
theorem k10_4 : decode (mB 10) 4 = .ok (.getfield 41, 3) := by decide +kernel
theorem k10_7 : decode (mB 10) 7 = .ok (.if_icmp .ge 33, 3) := by decide +kernel
theorem k10_10 : decode (mB 10) 10 = .ok (.aload_n 0, 1) := by decide +kernel
theorem k10_11 : decode (mB 10) 11 = .ok (.getfield 18, 3) := by decide +kernel
theorem k10_14 : decode (mB 10) 14 = .ok (.iload_n 3, 1) := by decide +kernel
theorem k10_15 : decode (mB 10) 15 = .ok (.iaload, 1) := by decide +kernel
theorem k10_16 : decode (mB 10) 16 = .ok (.iload_n 2, 1) := by decide +kernel
theorem k10_17 : decode (mB 10) 17 = .ok (.if_icmp .ne 17, 3) := by decide +kernel
theorem k10_20 : decode (mB 10) 20 = .ok (.aload_n 0, 1) := by decide +kernel
theorem k10_21 : decode (mB 10) 21 = .ok (.getfield 12, 3) := by decide +kernel
theorem k10_24 : decode (mB 10) 24 = .ok (.getfield 64, 3) := by decide +kernel
theorem k10_27 : decode (mB 10) 27 = .ok (.iload_n 3, 1) := by decide +kernel
theorem k10_28 : decode (mB 10) 28 = .ok (.iaload, 1) := by decide +kernel
theorem k10_29 : decode (mB 10) 29 = .ok (.ifCond .le 5, 3) := by decide +kernel
theorem k10_32 : decode (mB 10) 32 = .ok (.iconst 0, 1) := by decide +kernel
theorem k10_33 : decode (mB 10) 33 = .ok (.ireturn, 1) := by decide +kernel
theorem k10_34 : decode (mB 10) 34 = .ok (.iinc 3 1, 3) := by decide +kernel
theorem k10_37 : decode (mB 10) 37 = .ok (.goto (-35), 3) := by decide +kernel
theorem k10_40 : decode (mB 10) 40 = .ok (.iconst 1, 1) := by decide +kernel
theorem k10_41 : decode (mB 10) 41 = .ok (.ireturn, 1) := by decide +kernel
/-- Cylinders.liesFlatBelow, loop at 2 -/
noncomputable def q10_2 (v0 : Nat) (v1 : Nat) (v2 : Int32) (v3 : Int32) (h : mHeap) : mR' := E 10 2 [some (.ref v0), some (.ref v1), some (.int v2), some (.int v3)] [] h
theorem q10_2_eq (v0 : Nat) (v1 : Nat) (v2 : Int32) (v3 : Int32) (h : mHeap) : q10_2 v0 v1 v2 v3 h = (gI h v1 3 0).bind fun x1 => if x1 ≤ (v3 : Int32) then (if narrow .boolean (.int 1) = .int 1 then some (some (.int 1), h) else none) else ((gR h v0 1 1).bind fun x2 => (cAldI false h x2 v3).bind fun x3 => if ¬ (x3 : Int32) = v2 then (q10_2 v0 v1 v2 (v3 + 1) h) else ((gR h v0 1 0).bind fun x4 => (gR h x4 0 0).bind fun x5 => (cAldI false h x5 v3).bind fun x6 => if (x6 : Int32) ≤ 0 then (q10_2 v0 v1 v2 (v3 + 1) h) else (if narrow .boolean (.int 0) = .int 0 then some (some (.int 0), h) else none))) := by
  unfold q10_2
  refine e_iload_n (pc' := 3) k10_2 rfl rfl ?_
  refine e_aload_n (pc' := 4) k10_3 rfl rfl ?_
  refine e_getI (pc' := 7) k10_4 rfl (ci := 3) (k := 0) (by decide +kernel) (by decide +kernel) (fun x1 => ?_)
  refine e_icmpge (t := 40) (pc' := 10) k10_7 rfl (by decide) (fun _ => ?_) (fun _ => ?_)
  · refine e_iconst (v := 1) (pc' := 41) k10_40 rfl rfl ?_
    exact e_zret k10_41 (by decide +kernel)
  · refine e_aload_n (pc' := 11) k10_10 rfl rfl ?_
    refine e_getR (pc' := 14) k10_11 rfl (ci := 1) (k := 1) (by decide +kernel) (by decide +kernel) (fun x2 => ?_)
    refine e_iload_n (pc' := 15) k10_14 rfl rfl ?_
    refine e_iald (pc' := 16) k10_15 rfl (lw := false) rfl (fun x3 => ?_)
    refine e_iload_n (pc' := 17) k10_16 rfl rfl ?_
    refine e_icmpne (t := 34) (pc' := 20) k10_17 rfl (by decide) (fun _ => ?_) (fun _ => ?_)
    · refine e_iinc (c := 1) (pc' := 37) k10_34 rfl rfl rfl rfl ?_
      refine e_goto (pc' := 2) k10_37 (by decide) ?_
      rfl
    · refine e_aload_n (pc' := 21) k10_20 rfl rfl ?_
      refine e_getR (pc' := 24) k10_21 rfl (ci := 1) (k := 0) (by decide +kernel) (by decide +kernel) (fun x4 => ?_)
      refine e_getR (pc' := 27) k10_24 rfl (ci := 0) (k := 0) (by decide +kernel) (by decide +kernel) (fun x5 => ?_)
      refine e_iload_n (pc' := 28) k10_27 rfl rfl ?_
      refine e_iald (pc' := 29) k10_28 rfl (lw := false) rfl (fun x6 => ?_)
      refine e_ifle (t := 34) (pc' := 32) k10_29 rfl (by decide) (fun _ => ?_) (fun _ => ?_)
      · refine e_iinc (c := 1) (pc' := 37) k10_34 rfl rfl rfl rfl ?_
        refine e_goto (pc' := 2) k10_37 (by decide) ?_
        rfl
      · refine e_iconst (v := 0) (pc' := 33) k10_32 rfl rfl ?_
        exact e_zret k10_33 (by decide +kernel)
/-- Cylinders.liesFlatBelow(LSquareGrounds$Ground;I)Z -/
theorem F10_eq (v0 : Nat) (v1 : Nat) (v2 : Int32) (h : mHeap) : F 10 [.ref v0, .ref v1, .int v2] h = q10_2 v0 v1 v2 v2 h := by
  show D 10 0 (mEnt 10 [.ref v0, .ref v1, .int v2]) [] h 0 0 = _
  rw [show mEnt 10 [.ref v0, .ref v1, .int v2] = [some (.ref v0), some (.ref v1), some (.int v2), none] from rfl]
  refine e_iload_n (pc' := 1) k10_0 rfl rfl ?_
  refine e_istore_n (pc' := 2) k10_1 rfl rfl ?_
  rfl
theorem k11_0 : decode (mB 11) 0 = .ok (.iload_n 2, 1) := by decide +kernel
theorem k11_1 : decode (mB 11) 1 = .ok (.iload_n 3, 1) := by decide +kernel
theorem k11_2 : decode (mB 11) 2 = .ok (.invokestatic 67, 3) := by decide +kernel
theorem k11_5 : decode (mB 11) 5 = .ok (.istore 4, 2) := by decide +kernel
theorem k11_7 : decode (mB 11) 7 = .ok (.iload_n 2, 1) := by decide +kernel
theorem k11_8 : decode (mB 11) 8 = .ok (.iload_n 3, 1) := by decide +kernel
theorem k11_9 : decode (mB 11) 9 = .ok (.invokestatic 73, 3) := by decide +kernel
theorem k11_12 : decode (mB 11) 12 = .ok (.istore 5, 2) := by decide +kernel
theorem k11_14 : decode (mB 11) 14 = .ok (.iconst 0, 1) := by decide +kernel
theorem k11_15 : decode (mB 11) 15 = .ok (.istore 6, 2) := by decide +kernel
theorem k11_17 : decode (mB 11) 17 = .ok (.iload 6, 2) := by decide +kernel
theorem k11_19 : decode (mB 11) 19 = .ok (.iload_n 1, 1) := by decide +kernel
theorem k11_20 : decode (mB 11) 20 = .ok (.if_icmp .ge 30, 3) := by decide +kernel
theorem k11_23 : decode (mB 11) 23 = .ok (.aload_n 0, 1) := by decide +kernel
theorem k11_24 : decode (mB 11) 24 = .ok (.getfield 22, 3) := by decide +kernel
theorem k11_27 : decode (mB 11) 27 = .ok (.iload 6, 2) := by decide +kernel
theorem k11_29 : decode (mB 11) 29 = .ok (.iaload, 1) := by decide +kernel
theorem k11_30 : decode (mB 11) 30 = .ok (.iload 5, 2) := by decide +kernel
theorem k11_32 : decode (mB 11) 32 = .ok (.if_icmp .ne 12, 3) := by decide +kernel
theorem k11_35 : decode (mB 11) 35 = .ok (.aload_n 0, 1) := by decide +kernel
theorem k11_36 : decode (mB 11) 36 = .ok (.getfield 22, 3) := by decide +kernel
theorem k11_39 : decode (mB 11) 39 = .ok (.iload 6, 2) := by decide +kernel
theorem k11_41 : decode (mB 11) 41 = .ok (.iload 4, 2) := by decide +kernel
theorem k11_43 : decode (mB 11) 43 = .ok (.iastore, 1) := by decide +kernel
theorem k11_44 : decode (mB 11) 44 = .ok (.iinc 6 1, 3) := by decide +kernel
theorem k11_47 : decode (mB 11) 47 = .ok (.goto (-30), 3) := by decide +kernel
theorem k11_50 : decode (mB 11) 50 = .ok (.return_, 1) := by decide +kernel
/-- Cylinders.join, loop at 17 -/
noncomputable def q11_17 (v0 : Nat) (v1 : Int32) (v2 : Int32) (v3 : Int32) (v4 : Int32) (v5 : Int32) (v6 : Int32) (h : mHeap) : mR' := E 11 17 [some (.ref v0), some (.int v1), some (.int v2), some (.int v3), some (.int v4), some (.int v5), some (.int v6)] [] h
theorem q11_17_eq (v0 : Nat) (v1 : Int32) (v2 : Int32) (v3 : Int32) (v4 : Int32) (v5 : Int32) (v6 : Int32) (h : mHeap) : q11_17 v0 v1 v2 v3 v4 v5 v6 h = if v1 ≤ (v6 : Int32) then (some (none, h)) else ((gR h v0 1 2).bind fun x1 => (cAldI false h x1 v6).bind fun x2 => if ¬ (x2 : Int32) = v5 then (q11_17 v0 v1 v2 v3 v4 v5 (v6 + 1) h) else ((gR h v0 1 2).bind fun x3 => (cAstI h x3 v6 v4).bind fun h4 => q11_17 v0 v1 v2 v3 v4 v5 (v6 + 1) h4)) := by
  unfold q11_17
  refine e_iload (pc' := 19) k11_17 rfl rfl ?_
  refine e_iload_n (pc' := 20) k11_19 rfl rfl ?_
  refine e_icmpge (t := 50) (pc' := 23) k11_20 rfl (by decide) (fun _ => ?_) (fun _ => ?_)
  · exact e_vret k11_50 (by decide +kernel)
  · refine e_aload_n (pc' := 24) k11_23 rfl rfl ?_
    refine e_getR (pc' := 27) k11_24 rfl (ci := 1) (k := 2) (by decide +kernel) (by decide +kernel) (fun x1 => ?_)
    refine e_iload (pc' := 29) k11_27 rfl rfl ?_
    refine e_iald (pc' := 30) k11_29 rfl (lw := false) rfl (fun x2 => ?_)
    refine e_iload (pc' := 32) k11_30 rfl rfl ?_
    refine e_icmpne (t := 44) (pc' := 35) k11_32 rfl (by decide) (fun _ => ?_) (fun _ => ?_)
    · refine e_iinc (c := 1) (pc' := 47) k11_44 rfl rfl rfl rfl ?_
      refine e_goto (pc' := 17) k11_47 (by decide) ?_
      rfl
    · refine e_aload_n (pc' := 36) k11_35 rfl rfl ?_
      refine e_getR (pc' := 39) k11_36 rfl (ci := 1) (k := 2) (by decide +kernel) (by decide +kernel) (fun x3 => ?_)
      refine e_iload (pc' := 41) k11_39 rfl rfl ?_
      refine e_iload (pc' := 43) k11_41 rfl rfl ?_
      refine e_iast (pc' := 44) k11_43 rfl (fun h4 => ?_)
      refine e_iinc (c := 1) (pc' := 47) k11_44 rfl rfl rfl rfl ?_
      refine e_goto (pc' := 17) k11_47 (by decide) ?_
      rfl
/-- Cylinders.join(III)V -/
theorem F11_eq (v0 : Nat) (v1 : Int32) (v2 : Int32) (v3 : Int32) (h : mHeap) : F 11 [.ref v0, .int v1, .int v2, .int v3] h = (sI 175 [.int v2, .int v3] h).bind fun q1 => (sI 174 [.int v2, .int v3] q1.2).bind fun q2 => q11_17 v0 v1 v2 v3 q1.1 q2.1 0 q2.2 := by
  show D 11 0 (mEnt 11 [.ref v0, .int v1, .int v2, .int v3]) [] h 0 0 = _
  rw [show mEnt 11 [.ref v0, .int v1, .int v2, .int v3] = [some (.ref v0), some (.int v1), some (.int v2), some (.int v3), none, none, none] from rfl]
  refine e_iload_n (pc' := 1) k11_0 rfl rfl ?_
  refine e_iload_n (pc' := 2) k11_1 rfl rfl ?_
  refine e_sI (j' := 175) (as := [.int v2, .int v3]) (rest := []) (pc' := 5) k11_2 rfl (show mCk 11 0 67 175 2 = true by decide +kernel) (Or.inl (by decide +kernel)) rfl (Nat.le_of_ble_eq_true rfl) (show 2 ≤ mL 175 by decide +kernel) (fun q1 => ?_)
  refine e_istore (pc' := 7) k11_5 rfl rfl ?_
  refine e_iload_n (pc' := 8) k11_7 rfl rfl ?_
  refine e_iload_n (pc' := 9) k11_8 rfl rfl ?_
  refine e_sI (j' := 174) (as := [.int v2, .int v3]) (rest := []) (pc' := 12) k11_9 rfl (show mCk 11 0 73 174 2 = true by decide +kernel) (Or.inl (by decide +kernel)) rfl (Nat.le_of_ble_eq_true rfl) (show 2 ≤ mL 174 by decide +kernel) (fun q2 => ?_)
  refine e_istore (pc' := 14) k11_12 rfl rfl ?_
  refine e_iconst (v := 0) (pc' := 15) k11_14 rfl rfl ?_
  refine e_istore (pc' := 17) k11_15 rfl rfl ?_
  rfl
theorem k12_0 : decode (mB 12) 0 = .ok (.aload_n 0, 1) := by decide +kernel
theorem k12_1 : decode (mB 12) 1 = .ok (.iconst 0, 1) := by decide +kernel
theorem k12_2 : decode (mB 12) 2 = .ok (.putfield 76, 3) := by decide +kernel
theorem k12_5 : decode (mB 12) 5 = .ok (.iconst 0, 1) := by decide +kernel
theorem k12_6 : decode (mB 12) 6 = .ok (.istore_n 2, 1) := by decide +kernel
theorem k12_7 : decode (mB 12) 7 = .ok (.iload_n 2, 1) := by decide +kernel
theorem k12_8 : decode (mB 12) 8 = .ok (.aload_n 1, 1) := by decide +kernel
theorem k12_9 : decode (mB 12) 9 = .ok (.getfield 41, 3) := by decide +kernel
theorem k12_12 : decode (mB 12) 12 = .ok (.if_icmp .ge 71, 3) := by decide +kernel
theorem k12_15 : decode (mB 12) 15 = .ok (.aload_n 0, 1) := by decide +kernel
theorem k12_16 : decode (mB 12) 16 = .ok (.getfield 22, 3) := by decide +kernel
theorem k12_19 : decode (mB 12) 19 = .ok (.iload_n 2, 1) := by decide +kernel
theorem k12_20 : decode (mB 12) 20 = .ok (.iaload, 1) := by decide +kernel
theorem k12_21 : decode (mB 12) 21 = .ok (.iload_n 2, 1) := by decide +kernel
theorem k12_22 : decode (mB 12) 22 = .ok (.if_icmp .ne 55, 3) := by decide +kernel
theorem k12_25 : decode (mB 12) 25 = .ok (.aload_n 0, 1) := by decide +kernel
theorem k12_26 : decode (mB 12) 26 = .ok (.getfield 25, 3) := by decide +kernel
theorem k12_29 : decode (mB 12) 29 = .ok (.aload_n 0, 1) := by decide +kernel
theorem k12_30 : decode (mB 12) 30 = .ok (.getfield 76, 3) := by decide +kernel
theorem k12_33 : decode (mB 12) 33 = .ok (.aload_n 1, 1) := by decide +kernel
theorem k12_34 : decode (mB 12) 34 = .ok (.iload_n 2, 1) := by decide +kernel
theorem k12_35 : decode (mB 12) 35 = .ok (.invokevirtual 79, 3) := by decide +kernel
theorem k12_38 : decode (mB 12) 38 = .ok (.iastore, 1) := by decide +kernel
theorem k12_39 : decode (mB 12) 39 = .ok (.aload_n 0, 1) := by decide +kernel
theorem k12_40 : decode (mB 12) 40 = .ok (.getfield 28, 3) := by decide +kernel
theorem k12_43 : decode (mB 12) 43 = .ok (.aload_n 0, 1) := by decide +kernel
theorem k12_44 : decode (mB 12) 44 = .ok (.getfield 76, 3) := by decide +kernel
theorem k12_47 : decode (mB 12) 47 = .ok (.aload_n 0, 1) := by decide +kernel
theorem k12_48 : decode (mB 12) 48 = .ok (.aload_n 1, 1) := by decide +kernel
theorem k12_49 : decode (mB 12) 49 = .ok (.getfield 41, 3) := by decide +kernel
theorem k12_52 : decode (mB 12) 52 = .ok (.iload_n 2, 1) := by decide +kernel
theorem k12_53 : decode (mB 12) 53 = .ok (.invokevirtual 83, 3) := by decide +kernel
theorem k12_56 : decode (mB 12) 56 = .ok (.iastore, 1) := by decide +kernel
theorem k12_57 : decode (mB 12) 57 = .ok (.aload_n 0, 1) := by decide +kernel
theorem k12_58 : decode (mB 12) 58 = .ok (.getfield 31, 3) := by decide +kernel
theorem k12_61 : decode (mB 12) 61 = .ok (.aload_n 0, 1) := by decide +kernel
theorem k12_62 : decode (mB 12) 62 = .ok (.getfield 76, 3) := by decide +kernel
theorem k12_65 : decode (mB 12) 65 = .ok (.iload_n 2, 1) := by decide +kernel
theorem k12_66 : decode (mB 12) 66 = .ok (.iastore, 1) := by decide +kernel
theorem k12_67 : decode (mB 12) 67 = .ok (.aload_n 0, 1) := by decide +kernel
theorem k12_68 : decode (mB 12) 68 = .ok (.dup, 1) := by decide +kernel
theorem k12_69 : decode (mB 12) 69 = .ok (.getfield 76, 3) := by decide +kernel
theorem k12_72 : decode (mB 12) 72 = .ok (.iconst 1, 1) := by decide +kernel
theorem k12_73 : decode (mB 12) 73 = .ok (.iadd, 1) := by decide +kernel
theorem k12_74 : decode (mB 12) 74 = .ok (.putfield 76, 3) := by decide +kernel
theorem k12_77 : decode (mB 12) 77 = .ok (.iinc 2 1, 3) := by decide +kernel
theorem k12_80 : decode (mB 12) 80 = .ok (.goto (-73), 3) := by decide +kernel
theorem k12_83 : decode (mB 12) 83 = .ok (.return_, 1) := by decide +kernel
/-- Cylinders.list, loop at 7 -/
noncomputable def q12_7 (v0 : Nat) (v1 : Nat) (v2 : Int32) (h : mHeap) : mR' := E 12 7 [some (.ref v0), some (.ref v1), some (.int v2)] [] h
theorem q12_7_eq (v0 : Nat) (v1 : Nat) (v2 : Int32) (h : mHeap) : q12_7 v0 v1 v2 h = (gI h v1 3 0).bind fun x1 => if x1 ≤ (v2 : Int32) then (some (none, h)) else ((gR h v0 1 2).bind fun x2 => (cAldI false h x2 v2).bind fun x3 => if ¬ (x3 : Int32) = v2 then (q12_7 v0 v1 (v2 + 1) h) else ((gR h v0 1 4).bind fun x4 => (gI h v0 1 3).bind fun x5 => (vI 30 v1 [.int v2] h).bind fun q6 => (cAstI q6.2 x4 x5 q6.1).bind fun h7 => (gR h7 v0 1 5).bind fun x8 => (gI h7 v0 1 3).bind fun x9 => (gI h7 v1 3 0).bind fun x10 => (vI 13 v0 [.int x10, .int v2] h7).bind fun q11 => (cAstI q11.2 x8 x9 q11.1).bind fun h12 => (gR h12 v0 1 6).bind fun x13 => (gI h12 v0 1 3).bind fun x14 => (cAstI h12 x13 x14 v2).bind fun h15 => (gI h15 v0 1 3).bind fun x16 => (cPut h15 v0 1 3 (.int (x16 + 1))).bind fun h17 => q12_7 v0 v1 (v2 + 1) h17)) := by
  unfold q12_7
  refine e_iload_n (pc' := 8) k12_7 rfl rfl ?_
  refine e_aload_n (pc' := 9) k12_8 rfl rfl ?_
  refine e_getI (pc' := 12) k12_9 rfl (ci := 3) (k := 0) (by decide +kernel) (by decide +kernel) (fun x1 => ?_)
  refine e_icmpge (t := 83) (pc' := 15) k12_12 rfl (by decide) (fun _ => ?_) (fun _ => ?_)
  · exact e_vret k12_83 (by decide +kernel)
  · refine e_aload_n (pc' := 16) k12_15 rfl rfl ?_
    refine e_getR (pc' := 19) k12_16 rfl (ci := 1) (k := 2) (by decide +kernel) (by decide +kernel) (fun x2 => ?_)
    refine e_iload_n (pc' := 20) k12_19 rfl rfl ?_
    refine e_iald (pc' := 21) k12_20 rfl (lw := false) rfl (fun x3 => ?_)
    refine e_iload_n (pc' := 22) k12_21 rfl rfl ?_
    refine e_icmpne (t := 77) (pc' := 25) k12_22 rfl (by decide) (fun _ => ?_) (fun _ => ?_)
    · refine e_iinc (c := 1) (pc' := 80) k12_77 rfl rfl rfl rfl ?_
      refine e_goto (pc' := 7) k12_80 (by decide) ?_
      rfl
    · refine e_aload_n (pc' := 26) k12_25 rfl rfl ?_
      refine e_getR (pc' := 29) k12_26 rfl (ci := 1) (k := 4) (by decide +kernel) (by decide +kernel) (fun x4 => ?_)
      refine e_aload_n (pc' := 30) k12_29 rfl rfl ?_
      refine e_getI (pc' := 33) k12_30 rfl (ci := 1) (k := 3) (by decide +kernel) (by decide +kernel) (fun x5 => ?_)
      refine e_aload_n (pc' := 34) k12_33 rfl rfl ?_
      refine e_iload_n (pc' := 35) k12_34 rfl rfl ?_
      refine e_vI (j' := 30) (as := [.int v2]) (rest := [.int x5, .ref x4]) (pc' := 38) k12_35 rfl (show mCk 12 1 79 30 1 = true by decide +kernel) (Or.inl (by decide +kernel)) rfl (Nat.le_of_ble_eq_true rfl) (show 2 ≤ mL 30 by decide +kernel) (fun q6 => ?_)
      refine e_iast (pc' := 39) k12_38 rfl (fun h7 => ?_)
      refine e_aload_n (pc' := 40) k12_39 rfl rfl ?_
      refine e_getR (pc' := 43) k12_40 rfl (ci := 1) (k := 5) (by decide +kernel) (by decide +kernel) (fun x8 => ?_)
      refine e_aload_n (pc' := 44) k12_43 rfl rfl ?_
      refine e_getI (pc' := 47) k12_44 rfl (ci := 1) (k := 3) (by decide +kernel) (by decide +kernel) (fun x9 => ?_)
      refine e_aload_n (pc' := 48) k12_47 rfl rfl ?_
      refine e_aload_n (pc' := 49) k12_48 rfl rfl ?_
      refine e_getI (pc' := 52) k12_49 rfl (ci := 3) (k := 0) (by decide +kernel) (by decide +kernel) (fun x10 => ?_)
      refine e_iload_n (pc' := 53) k12_52 rfl rfl ?_
      refine e_vI (j' := 13) (as := [.int x10, .int v2]) (rest := [.int x9, .ref x8]) (pc' := 56) k12_53 rfl (show mCk 12 1 83 13 2 = true by decide +kernel) (Or.inl (by decide +kernel)) rfl (Nat.le_of_ble_eq_true rfl) (show 3 ≤ mL 13 by decide +kernel) (fun q11 => ?_)
      refine e_iast (pc' := 57) k12_56 rfl (fun h12 => ?_)
      refine e_aload_n (pc' := 58) k12_57 rfl rfl ?_
      refine e_getR (pc' := 61) k12_58 rfl (ci := 1) (k := 6) (by decide +kernel) (by decide +kernel) (fun x13 => ?_)
      refine e_aload_n (pc' := 62) k12_61 rfl rfl ?_
      refine e_getI (pc' := 65) k12_62 rfl (ci := 1) (k := 3) (by decide +kernel) (by decide +kernel) (fun x14 => ?_)
      refine e_iload_n (pc' := 66) k12_65 rfl rfl ?_
      refine e_iast (pc' := 67) k12_66 rfl (fun h15 => ?_)
      refine e_aload_n (pc' := 68) k12_67 rfl rfl ?_
      refine e_dup (pc' := 69) k12_68 rfl rfl ?_
      refine e_getI (pc' := 72) k12_69 rfl (ci := 1) (k := 3) (by decide +kernel) (by decide +kernel) (fun x16 => ?_)
      refine e_iconst (v := 1) (pc' := 73) k12_72 rfl rfl ?_
      refine e_iadd (pc' := 74) k12_73 rfl ?_
      refine e_put (pc' := 77) k12_74 rfl (ci := 1) (k := 3) (by decide +kernel) (by decide +kernel) rfl (fun h17 => ?_)
      refine e_iinc (c := 1) (pc' := 80) k12_77 rfl rfl rfl rfl ?_
      refine e_goto (pc' := 7) k12_80 (by decide) ?_
      rfl
/-- Cylinders.list(LSquareGrounds$Ground;)V -/
theorem F12_eq (v0 : Nat) (v1 : Nat) (h : mHeap) : F 12 [.ref v0, .ref v1] h = (cPut h v0 1 3 (.int 0)).bind fun h1 => q12_7 v0 v1 0 h1 := by
  show D 12 0 (mEnt 12 [.ref v0, .ref v1]) [] h 0 0 = _
  rw [show mEnt 12 [.ref v0, .ref v1] = [some (.ref v0), some (.ref v1), none] from rfl]
  refine e_aload_n (pc' := 1) k12_0 rfl rfl ?_
  refine e_iconst (v := 0) (pc' := 2) k12_1 rfl rfl ?_
  refine e_put (pc' := 5) k12_2 rfl (ci := 1) (k := 3) (by decide +kernel) (by decide +kernel) rfl (fun h1 => ?_)
  refine e_iconst (v := 0) (pc' := 6) k12_5 rfl rfl ?_
  refine e_istore_n (pc' := 7) k12_6 rfl rfl ?_
  rfl
theorem k13_0 : decode (mB 13) 0 = .ok (.iconst 0, 1) := by decide +kernel
theorem k13_1 : decode (mB 13) 1 = .ok (.istore_n 3, 1) := by decide +kernel
theorem k13_2 : decode (mB 13) 2 = .ok (.iload_n 2, 1) := by decide +kernel
theorem k13_3 : decode (mB 13) 3 = .ok (.istore 4, 2) := by decide +kernel
theorem k13_5 : decode (mB 13) 5 = .ok (.iload 4, 2) := by decide +kernel
theorem k13_7 : decode (mB 13) 7 = .ok (.iload_n 1, 1) := by decide +kernel
theorem k13_8 : decode (mB 13) 8 = .ok (.if_icmp .ge 35, 3) := by decide +kernel
theorem k13_11 : decode (mB 13) 11 = .ok (.aload_n 0, 1) := by decide +kernel
theorem k13_12 : decode (mB 13) 12 = .ok (.getfield 22, 3) := by decide +kernel
theorem k13_15 : decode (mB 13) 15 = .ok (.iload 4, 2) := by decide +kernel
theorem k13_17 : decode (mB 13) 17 = .ok (.iaload, 1) := by decide +kernel
theorem k13_18 : decode (mB 13) 18 = .ok (.iload_n 2, 1) := by decide +kernel
theorem k13_19 : decode (mB 13) 19 = .ok (.if_icmp .ne 18, 3) := by decide +kernel
theorem k13_22 : decode (mB 13) 22 = .ok (.aload_n 0, 1) := by decide +kernel
theorem k13_23 : decode (mB 13) 23 = .ok (.getfield 18, 3) := by decide +kernel
theorem k13_26 : decode (mB 13) 26 = .ok (.iload 4, 2) := by decide +kernel
theorem k13_28 : decode (mB 13) 28 = .ok (.iaload, 1) := by decide +kernel
theorem k13_29 : decode (mB 13) 29 = .ok (.iload 4, 2) := by decide +kernel
theorem k13_31 : decode (mB 13) 31 = .ok (.if_icmp .ne 6, 3) := by decide +kernel
theorem k13_34 : decode (mB 13) 34 = .ok (.iinc 3 1, 3) := by decide +kernel
theorem k13_37 : decode (mB 13) 37 = .ok (.iinc 4 1, 3) := by decide +kernel
theorem k13_40 : decode (mB 13) 40 = .ok (.goto (-35), 3) := by decide +kernel
theorem k13_43 : decode (mB 13) 43 = .ok (.iload_n 3, 1) := by decide +kernel
theorem k13_44 : decode (mB 13) 44 = .ok (.ireturn, 1) := by decide +kernel
/-- Cylinders.ringsIn, loop at 5 -/
noncomputable def q13_5 (v0 : Nat) (v1 : Int32) (v2 : Int32) (v3 : Int32) (v4 : Int32) (h : mHeap) : mR' := E 13 5 [some (.ref v0), some (.int v1), some (.int v2), some (.int v3), some (.int v4)] [] h
theorem q13_5_eq (v0 : Nat) (v1 : Int32) (v2 : Int32) (v3 : Int32) (v4 : Int32) (h : mHeap) : q13_5 v0 v1 v2 v3 v4 h = if v1 ≤ (v4 : Int32) then (some (some (.int v3), h)) else ((gR h v0 1 2).bind fun x1 => (cAldI false h x1 v4).bind fun x2 => if ¬ (x2 : Int32) = v2 then (q13_5 v0 v1 v2 v3 (v4 + 1) h) else ((gR h v0 1 1).bind fun x3 => (cAldI false h x3 v4).bind fun x4 => if ¬ (x4 : Int32) = v4 then (q13_5 v0 v1 v2 v3 (v4 + 1) h) else (q13_5 v0 v1 v2 (v3 + 1) (v4 + 1) h))) := by
  unfold q13_5
  refine e_iload (pc' := 7) k13_5 rfl rfl ?_
  refine e_iload_n (pc' := 8) k13_7 rfl rfl ?_
  refine e_icmpge (t := 43) (pc' := 11) k13_8 rfl (by decide) (fun _ => ?_) (fun _ => ?_)
  · refine e_iload_n (pc' := 44) k13_43 rfl rfl ?_
    exact e_iret k13_44 (by decide +kernel)
  · refine e_aload_n (pc' := 12) k13_11 rfl rfl ?_
    refine e_getR (pc' := 15) k13_12 rfl (ci := 1) (k := 2) (by decide +kernel) (by decide +kernel) (fun x1 => ?_)
    refine e_iload (pc' := 17) k13_15 rfl rfl ?_
    refine e_iald (pc' := 18) k13_17 rfl (lw := false) rfl (fun x2 => ?_)
    refine e_iload_n (pc' := 19) k13_18 rfl rfl ?_
    refine e_icmpne (t := 37) (pc' := 22) k13_19 rfl (by decide) (fun _ => ?_) (fun _ => ?_)
    · refine e_iinc (c := 1) (pc' := 40) k13_37 rfl rfl rfl rfl ?_
      refine e_goto (pc' := 5) k13_40 (by decide) ?_
      rfl
    · refine e_aload_n (pc' := 23) k13_22 rfl rfl ?_
      refine e_getR (pc' := 26) k13_23 rfl (ci := 1) (k := 1) (by decide +kernel) (by decide +kernel) (fun x3 => ?_)
      refine e_iload (pc' := 28) k13_26 rfl rfl ?_
      refine e_iald (pc' := 29) k13_28 rfl (lw := false) rfl (fun x4 => ?_)
      refine e_iload (pc' := 31) k13_29 rfl rfl ?_
      refine e_icmpne (t := 37) (pc' := 34) k13_31 rfl (by decide) (fun _ => ?_) (fun _ => ?_)
      · refine e_iinc (c := 1) (pc' := 40) k13_37 rfl rfl rfl rfl ?_
        refine e_goto (pc' := 5) k13_40 (by decide) ?_
        rfl
      · refine e_iinc (c := 1) (pc' := 37) k13_34 rfl rfl rfl rfl ?_
        refine e_iinc (c := 1) (pc' := 40) k13_37 rfl rfl rfl rfl ?_
        refine e_goto (pc' := 5) k13_40 (by decide) ?_
        rfl
/-- Cylinders.ringsIn(II)I -/
theorem F13_eq (v0 : Nat) (v1 : Int32) (v2 : Int32) (h : mHeap) : F 13 [.ref v0, .int v1, .int v2] h = q13_5 v0 v1 v2 0 v2 h := by
  show D 13 0 (mEnt 13 [.ref v0, .int v1, .int v2]) [] h 0 0 = _
  rw [show mEnt 13 [.ref v0, .int v1, .int v2] = [some (.ref v0), some (.int v1), some (.int v2), none, none] from rfl]
  refine e_iconst (v := 0) (pc' := 1) k13_0 rfl rfl ?_
  refine e_istore_n (pc' := 2) k13_1 rfl rfl ?_
  refine e_iload_n (pc' := 3) k13_2 rfl rfl ?_
  refine e_istore (pc' := 5) k13_3 rfl rfl ?_
  rfl
theorem k14_0 : decode (mB 14) 0 = .ok (.lconst 0, 1) := by decide +kernel
theorem k14_1 : decode (mB 14) 1 = .ok (.lstore_n 1, 1) := by decide +kernel
theorem k14_2 : decode (mB 14) 2 = .ok (.iconst 0, 1) := by decide +kernel
theorem k14_3 : decode (mB 14) 3 = .ok (.istore_n 3, 1) := by decide +kernel
theorem k14_4 : decode (mB 14) 4 = .ok (.iload_n 3, 1) := by decide +kernel
theorem k14_5 : decode (mB 14) 5 = .ok (.aload_n 0, 1) := by decide +kernel
theorem k14_6 : decode (mB 14) 6 = .ok (.getfield 76, 3) := by decide +kernel
theorem k14_9 : decode (mB 14) 9 = .ok (.if_icmp .ge 30, 3) := by decide +kernel
theorem k14_12 : decode (mB 14) 12 = .ok (.lload_n 1, 1) := by decide +kernel
theorem k14_13 : decode (mB 14) 13 = .ok (.aload_n 0, 1) := by decide +kernel
theorem k14_14 : decode (mB 14) 14 = .ok (.getfield 28, 3) := by decide +kernel
theorem k14_17 : decode (mB 14) 17 = .ok (.iload_n 3, 1) := by decide +kernel
theorem k14_18 : decode (mB 14) 18 = .ok (.iaload, 1) := by decide +kernel
theorem k14_19 : decode (mB 14) 19 = .ok (.getstatic 86, 3) := by decide +kernel
theorem k14_22 : decode (mB 14) 22 = .ok (.aload_n 0, 1) := by decide +kernel
theorem k14_23 : decode (mB 14) 23 = .ok (.getfield 25, 3) := by decide +kernel
theorem k14_26 : decode (mB 14) 26 = .ok (.iload_n 3, 1) := by decide +kernel
theorem k14_27 : decode (mB 14) 27 = .ok (.iaload, 1) := by decide +kernel
theorem k14_28 : decode (mB 14) 28 = .ok (.iaload, 1) := by decide +kernel
theorem k14_29 : decode (mB 14) 29 = .ok (.imul, 1) := by decide +kernel
theorem k14_30 : decode (mB 14) 30 = .ok (.i2l, 1) := by decide +kernel
theorem k14_31 : decode (mB 14) 31 = .ok (.ladd, 1) := by decide +kernel
theorem k14_32 : decode (mB 14) 32 = .ok (.lstore_n 1, 1) := by decide +kernel
theorem k14_33 : decode (mB 14) 33 = .ok (.iinc 3 1, 3) := by decide +kernel
theorem k14_36 : decode (mB 14) 36 = .ok (.goto (-32), 3) := by decide +kernel
theorem k14_39 : decode (mB 14) 39 = .ok (.lload_n 1, 1) := by decide +kernel
theorem k14_40 : decode (mB 14) 40 = .ok (.lreturn, 1) := by decide +kernel
/-- Cylinders.wholeParts, loop at 4 -/
noncomputable def q14_4 (v0 : Nat) (v1 : Int64) (v3 : Int32) (h : mHeap) : mR' := E 14 4 [some (.ref v0), some (.long v1), none, some (.int v3)] [] h
theorem q14_4_eq (v0 : Nat) (v1 : Int64) (v3 : Int32) (h : mHeap) : q14_4 v0 v1 v3 h = (gI h v0 1 3).bind fun x1 => if x1 ≤ (v3 : Int32) then (some (some (.long v1), h)) else ((gR h v0 1 5).bind fun x2 => (cAldI false h x2 v3).bind fun x3 => (gR h v0 1 4).bind fun x4 => (cAldI false h x4 v3).bind fun x5 => (cAldI false h 0 x5).bind fun x6 => q14_4 v0 (v1 + (Int32.toInt64 (x3 * x6))) (v3 + 1) h) := by
  unfold q14_4
  refine e_iload_n (pc' := 5) k14_4 rfl rfl ?_
  refine e_aload_n (pc' := 6) k14_5 rfl rfl ?_
  refine e_getI (pc' := 9) k14_6 rfl (ci := 1) (k := 3) (by decide +kernel) (by decide +kernel) (fun x1 => ?_)
  refine e_icmpge (t := 39) (pc' := 12) k14_9 rfl (by decide) (fun _ => ?_) (fun _ => ?_)
  · refine e_lload_n (pc' := 40) k14_39 rfl rfl ?_
    exact e_lret k14_40 (by decide +kernel)
  · refine e_lload_n (pc' := 13) k14_12 rfl rfl ?_
    refine e_aload_n (pc' := 14) k14_13 rfl rfl ?_
    refine e_getR (pc' := 17) k14_14 rfl (ci := 1) (k := 5) (by decide +kernel) (by decide +kernel) (fun x2 => ?_)
    refine e_iload_n (pc' := 18) k14_17 rfl rfl ?_
    refine e_iald (pc' := 19) k14_18 rfl (lw := false) rfl (fun x3 => ?_)
    refine e_gets (pc' := 22) k14_19 rfl (by decide +kernel) ?_
    refine e_aload_n (pc' := 23) k14_22 rfl rfl ?_
    refine e_getR (pc' := 26) k14_23 rfl (ci := 1) (k := 4) (by decide +kernel) (by decide +kernel) (fun x4 => ?_)
    refine e_iload_n (pc' := 27) k14_26 rfl rfl ?_
    refine e_iald (pc' := 28) k14_27 rfl (lw := false) rfl (fun x5 => ?_)
    refine e_iald (pc' := 29) k14_28 rfl (lw := false) rfl (fun x6 => ?_)
    refine e_imul (pc' := 30) k14_29 rfl ?_
    refine e_i2l (pc' := 31) k14_30 rfl ?_
    refine e_ladd (pc' := 32) k14_31 rfl ?_
    refine e_lstore_n (pc' := 33) k14_32 rfl rfl ?_
    refine e_iinc (c := 1) (pc' := 36) k14_33 rfl rfl rfl rfl ?_
    refine e_goto (pc' := 4) k14_36 (by decide) ?_
    rfl
/-- Cylinders.wholeParts()J -/
theorem F14_eq (v0 : Nat) (h : mHeap) : F 14 [.ref v0] h = q14_4 v0 0 0 h := by
  show D 14 0 (mEnt 14 [.ref v0]) [] h 0 0 = _
  rw [show mEnt 14 [.ref v0] = [some (.ref v0), none, none, none] from rfl]
  refine e_lconst (v := 0) (pc' := 1) k14_0 rfl rfl ?_
  refine e_lstore_n (pc' := 2) k14_1 rfl rfl ?_
  refine e_iconst (v := 0) (pc' := 3) k14_2 rfl rfl ?_
  refine e_istore_n (pc' := 4) k14_3 rfl rfl ?_
  rfl
theorem k16_0 : decode (mB 16) 0 = .ok (.lload_n 1, 1) := by decide +kernel
theorem k16_1 : decode (mB 16) 1 = .ok (.lload_n 3, 1) := by decide +kernel
theorem k16_2 : decode (mB 16) 2 = .ok (.invokestatic 16, 3) := by decide +kernel
theorem k16_5 : decode (mB 16) 5 = .ok (.lstore 5, 2) := by decide +kernel
theorem k16_7 : decode (mB 16) 7 = .ok (.lload 5, 2) := by decide +kernel
theorem k16_9 : decode (mB 16) 9 = .ok (.lconst 0, 1) := by decide +kernel
theorem k16_10 : decode (mB 16) 10 = .ok (.lcmp, 1) := by decide +kernel
theorem k16_11 : decode (mB 16) 11 = .ok (.ifCond .le 19, 3) := by decide +kernel
theorem k16_14 : decode (mB 16) 14 = .ok (.aload_n 0, 1) := by decide +kernel
theorem k16_15 : decode (mB 16) 15 = .ok (.lload_n 1, 1) := by decide +kernel
theorem k16_16 : decode (mB 16) 16 = .ok (.lload 5, 2) := by decide +kernel
theorem k16_18 : decode (mB 16) 18 = .ok (.ldiv, 1) := by decide +kernel
theorem k16_19 : decode (mB 16) 19 = .ok (.putfield 7, 3) := by decide +kernel
theorem k16_22 : decode (mB 16) 22 = .ok (.aload_n 0, 1) := by decide +kernel
theorem k16_23 : decode (mB 16) 23 = .ok (.lload_n 3, 1) := by decide +kernel
theorem k16_24 : decode (mB 16) 24 = .ok (.lload 5, 2) := by decide +kernel
theorem k16_26 : decode (mB 16) 26 = .ok (.ldiv, 1) := by decide +kernel
theorem k16_27 : decode (mB 16) 27 = .ok (.putfield 13, 3) := by decide +kernel
theorem k16_30 : decode (mB 16) 30 = .ok (.return_, 1) := by decide +kernel
/-- Fraction.tell(JJ)V -/
theorem F16_eq (v0 : Nat) (v1 : Int64) (v3 : Int64) (h : mHeap) : F 16 [.ref v0, .long v1, .long v3] h = (sL 88 [.long v1, .long v3] h).bind fun q1 => if ((lg_cmp q1.1 0) : Int32) ≤ 0 then (some (none, q1.2)) else (if (q1.1 : Int64) = 0 then none else ((cPut q1.2 v0 2 0 (.long (v1 / q1.1))).bind fun h2 => if (q1.1 : Int64) = 0 then none else ((cPut h2 v0 2 1 (.long (v3 / q1.1))).bind fun h3 => some (none, h3)))) := by
  show D 16 0 (mEnt 16 [.ref v0, .long v1, .long v3]) [] h 0 0 = _
  rw [show mEnt 16 [.ref v0, .long v1, .long v3] = [some (.ref v0), some (.long v1), none, some (.long v3), none, none, none] from rfl]
  refine e_lload_n (pc' := 1) k16_0 rfl rfl ?_
  refine e_lload_n (pc' := 2) k16_1 rfl rfl ?_
  refine e_sL (j' := 88) (as := [.long v1, .long v3]) (rest := []) (pc' := 5) k16_2 rfl (show mCk 16 0 16 88 2 = true by decide +kernel) (by decide +kernel) rfl (Nat.le_of_ble_eq_true rfl) (show 4 ≤ mL 88 by decide +kernel) (fun q1 => ?_)
  refine e_lstore (pc' := 7) k16_5 rfl rfl ?_
  refine e_lload (pc' := 9) k16_7 rfl rfl ?_
  refine e_lconst (v := 0) (pc' := 10) k16_9 rfl rfl ?_
  refine e_lcmp (pc' := 11) k16_10 rfl ?_
  refine e_ifle (t := 30) (pc' := 14) k16_11 rfl (by decide) (fun _ => ?_) (fun _ => ?_)
  · exact e_vret k16_30 (by decide +kernel)
  · refine e_aload_n (pc' := 15) k16_14 rfl rfl ?_
    refine e_lload_n (pc' := 16) k16_15 rfl rfl ?_
    refine e_lload (pc' := 18) k16_16 rfl rfl ?_
    refine e_ldiv (pc' := 19) k16_18 rfl ?_
    refine e_put (pc' := 22) k16_19 rfl (ci := 2) (k := 0) (by decide +kernel) (by decide +kernel) rfl (fun h2 => ?_)
    refine e_aload_n (pc' := 23) k16_22 rfl rfl ?_
    refine e_lload_n (pc' := 24) k16_23 rfl rfl ?_
    refine e_lload (pc' := 26) k16_24 rfl rfl ?_
    refine e_ldiv (pc' := 27) k16_26 rfl ?_
    refine e_put (pc' := 30) k16_27 rfl (ci := 2) (k := 1) (by decide +kernel) (by decide +kernel) rfl (fun h3 => ?_)
    exact e_vret k16_30 (by decide +kernel)
theorem k18_0 : decode (mB 18) 0 = .ok (.aload_n 0, 1) := by decide +kernel
theorem k18_1 : decode (mB 18) 1 = .ok (.getfield 9, 3) := by decide +kernel
theorem k18_4 : decode (mB 18) 4 = .ok (.ifCond .ge 7, 3) := by decide +kernel
theorem k18_7 : decode (mB 18) 7 = .ok (.iconst 1, 1) := by decide +kernel
theorem k18_8 : decode (mB 18) 8 = .ok (.goto 4, 3) := by decide +kernel
theorem k18_11 : decode (mB 18) 11 = .ok (.iconst 0, 1) := by decide +kernel
theorem k18_12 : decode (mB 18) 12 = .ok (.ireturn, 1) := by decide +kernel
/-- Ground.isMissing()Z -/
theorem F18_eq (v0 : Nat) (h : mHeap) : F 18 [.ref v0] h = (gI h v0 3 0).bind fun x1 => if 0 ≤ (x1 : Int32) then (if narrow .boolean (.int 0) = .int 0 then some (some (.int 0), h) else none) else (if narrow .boolean (.int 1) = .int 1 then some (some (.int 1), h) else none) := by
  show D 18 0 (mEnt 18 [.ref v0]) [] h 0 0 = _
  rw [show mEnt 18 [.ref v0] = [some (.ref v0)] from rfl]
  refine e_aload_n (pc' := 1) k18_0 rfl rfl ?_
  refine e_getI (pc' := 4) k18_1 rfl (ci := 3) (k := 0) (by decide +kernel) (by decide +kernel) (fun x1 => ?_)
  refine e_ifge (t := 11) (pc' := 7) k18_4 rfl (by decide) (fun _ => ?_) (fun _ => ?_)
  · refine e_iconst (v := 0) (pc' := 12) k18_11 rfl rfl ?_
    exact e_zret k18_12 (by decide +kernel)
  · refine e_iconst (v := 1) (pc' := 8) k18_7 rfl rfl ?_
    refine e_goto (pc' := 12) k18_8 (by decide) ?_
    exact e_zret k18_12 (by decide +kernel)
theorem k19_0 : decode (mB 19) 0 = .ok (.aload_n 0, 1) := by decide +kernel
theorem k19_1 : decode (mB 19) 1 = .ok (.iconst (-1), 1) := by decide +kernel
theorem k19_2 : decode (mB 19) 2 = .ok (.putfield 9, 3) := by decide +kernel
theorem k19_5 : decode (mB 19) 5 = .ok (.return_, 1) := by decide +kernel
/-- Ground.vanish()V -/
theorem F19_eq (v0 : Nat) (h : mHeap) : F 19 [.ref v0] h = (cPut h v0 3 0 (.int (-1))).bind fun h1 => some (none, h1) := by
  show D 19 0 (mEnt 19 [.ref v0]) [] h 0 0 = _
  rw [show mEnt 19 [.ref v0] = [some (.ref v0)] from rfl]
  refine e_aload_n (pc' := 1) k19_0 rfl rfl ?_
  refine e_iconst (v := -1) (pc' := 2) k19_1 rfl rfl ?_
  refine e_put (pc' := 5) k19_2 rfl (ci := 3) (k := 0) (by decide +kernel) (by decide +kernel) rfl (fun h1 => ?_)
  exact e_vret k19_5 (by decide +kernel)
theorem k20_0 : decode (mB 20) 0 = .ok (.iload_n 1, 1) := by decide +kernel
theorem k20_1 : decode (mB 20) 1 = .ok (.ifCond .lt 15, 3) := by decide +kernel
theorem k20_4 : decode (mB 20) 4 = .ok (.iload_n 1, 1) := by decide +kernel
theorem k20_5 : decode (mB 20) 5 = .ok (.aload_n 0, 1) := by decide +kernel
theorem k20_6 : decode (mB 20) 6 = .ok (.getfield 9, 3) := by decide +kernel
theorem k20_9 : decode (mB 20) 9 = .ok (.if_icmp .ge 7, 3) := by decide +kernel
theorem k20_12 : decode (mB 20) 12 = .ok (.iconst 1, 1) := by decide +kernel
theorem k20_13 : decode (mB 20) 13 = .ok (.goto 4, 3) := by decide +kernel
theorem k20_16 : decode (mB 20) 16 = .ok (.iconst 0, 1) := by decide +kernel
theorem k20_17 : decode (mB 20) 17 = .ok (.ireturn, 1) := by decide +kernel
/-- Ground.has(I)Z -/
theorem F20_eq (v0 : Nat) (v1 : Int32) (h : mHeap) : F 20 [.ref v0, .int v1] h = if (v1 : Int32) < 0 then (if narrow .boolean (.int 0) = .int 0 then some (some (.int 0), h) else none) else ((gI h v0 3 0).bind fun x1 => if x1 ≤ (v1 : Int32) then (if narrow .boolean (.int 0) = .int 0 then some (some (.int 0), h) else none) else (if narrow .boolean (.int 1) = .int 1 then some (some (.int 1), h) else none)) := by
  show D 20 0 (mEnt 20 [.ref v0, .int v1]) [] h 0 0 = _
  rw [show mEnt 20 [.ref v0, .int v1] = [some (.ref v0), some (.int v1)] from rfl]
  refine e_iload_n (pc' := 1) k20_0 rfl rfl ?_
  refine e_iflt (t := 16) (pc' := 4) k20_1 rfl (by decide) (fun _ => ?_) (fun _ => ?_)
  · refine e_iconst (v := 0) (pc' := 17) k20_16 rfl rfl ?_
    exact e_zret k20_17 (by decide +kernel)
  · refine e_iload_n (pc' := 5) k20_4 rfl rfl ?_
    refine e_aload_n (pc' := 6) k20_5 rfl rfl ?_
    refine e_getI (pc' := 9) k20_6 rfl (ci := 3) (k := 0) (by decide +kernel) (by decide +kernel) (fun x1 => ?_)
    refine e_icmpge (t := 16) (pc' := 12) k20_9 rfl (by decide) (fun _ => ?_) (fun _ => ?_)
    · refine e_iconst (v := 0) (pc' := 17) k20_16 rfl rfl ?_
      exact e_zret k20_17 (by decide +kernel)
    · refine e_iconst (v := 1) (pc' := 13) k20_12 rfl rfl ?_
      refine e_goto (pc' := 17) k20_13 (by decide) ?_
      exact e_zret k20_17 (by decide +kernel)
theorem k21_0 : decode (mB 21) 0 = .ok (.aload_n 0, 1) := by decide +kernel
theorem k21_1 : decode (mB 21) 1 = .ok (.aload_n 1, 1) := by decide +kernel
theorem k21_2 : decode (mB 21) 2 = .ok (.getfield 31, 3) := by decide +kernel
theorem k21_5 : decode (mB 21) 5 = .ok (.putfield 9, 3) := by decide +kernel
theorem k21_8 : decode (mB 21) 8 = .ok (.iconst 0, 1) := by decide +kernel
theorem k21_9 : decode (mB 21) 9 = .ok (.istore_n 3, 1) := by decide +kernel
theorem k21_10 : decode (mB 21) 10 = .ok (.iload_n 3, 1) := by decide +kernel
theorem k21_11 : decode (mB 21) 11 = .ok (.aload_n 0, 1) := by decide +kernel
theorem k21_12 : decode (mB 21) 12 = .ok (.getfield 9, 3) := by decide +kernel
theorem k21_15 : decode (mB 21) 15 = .ok (.if_icmp .ge 26, 3) := by decide +kernel
theorem k21_18 : decode (mB 21) 18 = .ok (.aload_n 0, 1) := by decide +kernel
theorem k21_19 : decode (mB 21) 19 = .ok (.iload_n 3, 1) := by decide +kernel
theorem k21_20 : decode (mB 21) 20 = .ok (.aload_n 1, 1) := by decide +kernel
theorem k21_21 : decode (mB 21) 21 = .ok (.getfield 36, 3) := by decide +kernel
theorem k21_24 : decode (mB 21) 24 = .ok (.iload_n 3, 1) := by decide +kernel
theorem k21_25 : decode (mB 21) 25 = .ok (.baload, 1) := by decide +kernel
theorem k21_26 : decode (mB 21) 26 = .ok (.aload_n 2, 1) := by decide +kernel
theorem k21_27 : decode (mB 21) 27 = .ok (.getfield 36, 3) := by decide +kernel
theorem k21_30 : decode (mB 21) 30 = .ok (.iload_n 3, 1) := by decide +kernel
theorem k21_31 : decode (mB 21) 31 = .ok (.baload, 1) := by decide +kernel
theorem k21_32 : decode (mB 21) 32 = .ok (.invokevirtual 40, 3) := by decide +kernel
theorem k21_35 : decode (mB 21) 35 = .ok (.iinc 3 1, 3) := by decide +kernel
theorem k21_38 : decode (mB 21) 38 = .ok (.goto (-28), 3) := by decide +kernel
theorem k21_41 : decode (mB 21) 41 = .ok (.return_, 1) := by decide +kernel
/-- Ground.layOut, loop at 10 -/
noncomputable def q21_10 (v0 : Nat) (v1 : Nat) (v2 : Nat) (v3 : Int32) (h : mHeap) : mR' := E 21 10 [some (.ref v0), some (.ref v1), some (.ref v2), some (.int v3)] [] h
theorem q21_10_eq (v0 : Nat) (v1 : Nat) (v2 : Nat) (v3 : Int32) (h : mHeap) : q21_10 v0 v1 v2 v3 h = (gI h v0 3 0).bind fun x1 => if x1 ≤ (v3 : Int32) then (some (none, h)) else ((gR h v1 6 1).bind fun x2 => (cAldB h x2 v3).bind fun x3 => (gR h v2 6 1).bind fun x4 => (cAldB h x4 v3).bind fun x5 => (vV 24 v0 [.int v3, .int x3, .int x5] h).bind fun h6 => q21_10 v0 v1 v2 (v3 + 1) h6) := by
  unfold q21_10
  refine e_iload_n (pc' := 11) k21_10 rfl rfl ?_
  refine e_aload_n (pc' := 12) k21_11 rfl rfl ?_
  refine e_getI (pc' := 15) k21_12 rfl (ci := 3) (k := 0) (by decide +kernel) (by decide +kernel) (fun x1 => ?_)
  refine e_icmpge (t := 41) (pc' := 18) k21_15 rfl (by decide) (fun _ => ?_) (fun _ => ?_)
  · exact e_vret k21_41 (by decide +kernel)
  · refine e_aload_n (pc' := 19) k21_18 rfl rfl ?_
    refine e_iload_n (pc' := 20) k21_19 rfl rfl ?_
    refine e_aload_n (pc' := 21) k21_20 rfl rfl ?_
    refine e_getR (pc' := 24) k21_21 rfl (ci := 6) (k := 1) (by decide +kernel) (by decide +kernel) (fun x2 => ?_)
    refine e_iload_n (pc' := 25) k21_24 rfl rfl ?_
    refine e_bald (pc' := 26) k21_25 rfl (fun x3 => ?_)
    refine e_aload_n (pc' := 27) k21_26 rfl rfl ?_
    refine e_getR (pc' := 30) k21_27 rfl (ci := 6) (k := 1) (by decide +kernel) (by decide +kernel) (fun x4 => ?_)
    refine e_iload_n (pc' := 31) k21_30 rfl rfl ?_
    refine e_bald (pc' := 32) k21_31 rfl (fun x5 => ?_)
    refine e_vV (j' := 24) (as := [.int v3, .int x3, .int x5]) (rest := []) (pc' := 35) k21_32 rfl (show mCk 21 1 40 24 3 = true by decide +kernel) (by decide +kernel) rfl (Nat.le_of_ble_eq_true rfl) (show 4 ≤ mL 24 by decide +kernel) (fun h6 => ?_)
    refine e_iinc (c := 1) (pc' := 38) k21_35 rfl rfl rfl rfl ?_
    refine e_goto (pc' := 10) k21_38 (by decide) ?_
    rfl
/-- Ground.layOut(LSquareGrounds$Sheet;LSquareGrounds$Sheet;)V -/
theorem F21_eq (v0 : Nat) (v1 : Nat) (v2 : Nat) (h : mHeap) : F 21 [.ref v0, .ref v1, .ref v2] h = (gI h v1 6 0).bind fun x1 => (cPut h v0 3 0 (.int x1)).bind fun h2 => q21_10 v0 v1 v2 0 h2 := by
  show D 21 0 (mEnt 21 [.ref v0, .ref v1, .ref v2]) [] h 0 0 = _
  rw [show mEnt 21 [.ref v0, .ref v1, .ref v2] = [some (.ref v0), some (.ref v1), some (.ref v2), none] from rfl]
  refine e_aload_n (pc' := 1) k21_0 rfl rfl ?_
  refine e_aload_n (pc' := 2) k21_1 rfl rfl ?_
  refine e_getI (pc' := 5) k21_2 rfl (ci := 6) (k := 0) (by decide +kernel) (by decide +kernel) (fun x1 => ?_)
  refine e_put (pc' := 8) k21_5 rfl (ci := 3) (k := 0) (by decide +kernel) (by decide +kernel) rfl (fun h2 => ?_)
  refine e_iconst (v := 0) (pc' := 9) k21_8 rfl rfl ?_
  refine e_istore_n (pc' := 10) k21_9 rfl rfl ?_
  rfl
theorem k22_0 : decode (mB 22) 0 = .ok (.aload_n 0, 1) := by decide +kernel
theorem k22_1 : decode (mB 22) 1 = .ok (.iload_n 1, 1) := by decide +kernel
theorem k22_2 : decode (mB 22) 2 = .ok (.putfield 9, 3) := by decide +kernel
theorem k22_5 : decode (mB 22) 5 = .ok (.iconst 0, 1) := by decide +kernel
theorem k22_6 : decode (mB 22) 6 = .ok (.istore 4, 2) := by decide +kernel
theorem k22_8 : decode (mB 22) 8 = .ok (.iload 4, 2) := by decide +kernel
theorem k22_10 : decode (mB 22) 10 = .ok (.aload_n 0, 1) := by decide +kernel
theorem k22_11 : decode (mB 22) 11 = .ok (.getfield 9, 3) := by decide +kernel
theorem k22_14 : decode (mB 22) 14 = .ok (.if_icmp .ge 40, 3) := by decide +kernel
theorem k22_17 : decode (mB 22) 17 = .ok (.aload_n 0, 1) := by decide +kernel
theorem k22_18 : decode (mB 22) 18 = .ok (.iload 4, 2) := by decide +kernel
theorem k22_20 : decode (mB 22) 20 = .ok (.lload_n 2, 1) := by decide +kernel
theorem k22_21 : decode (mB 22) 21 = .ok (.aload_n 0, 1) := by decide +kernel
theorem k22_22 : decode (mB 22) 22 = .ok (.getfield 9, 3) := by decide +kernel
theorem k22_25 : decode (mB 22) 25 = .ok (.iload 4, 2) := by decide +kernel
theorem k22_27 : decode (mB 22) 27 = .ok (.invokestatic 44, 3) := by decide +kernel
theorem k22_30 : decode (mB 22) 30 = .ok (.lload_n 2, 1) := by decide +kernel
theorem k22_31 : decode (mB 22) 31 = .ok (.aload_n 0, 1) := by decide +kernel
theorem k22_32 : decode (mB 22) 32 = .ok (.getfield 9, 3) := by decide +kernel
theorem k22_35 : decode (mB 22) 35 = .ok (.aload_n 0, 1) := by decide +kernel
theorem k22_36 : decode (mB 22) 36 = .ok (.getfield 9, 3) := by decide +kernel
theorem k22_39 : decode (mB 22) 39 = .ok (.iload 4, 2) := by decide +kernel
theorem k22_41 : decode (mB 22) 41 = .ok (.iadd, 1) := by decide +kernel
theorem k22_42 : decode (mB 22) 42 = .ok (.invokestatic 44, 3) := by decide +kernel
theorem k22_45 : decode (mB 22) 45 = .ok (.invokevirtual 40, 3) := by decide +kernel
theorem k22_48 : decode (mB 22) 48 = .ok (.iinc 4 1, 3) := by decide +kernel
theorem k22_51 : decode (mB 22) 51 = .ok (.goto (-43), 3) := by decide +kernel
theorem k22_54 : decode (mB 22) 54 = .ok (.return_, 1) := by decide +kernel
/-- Ground.unfold, loop at 8 -/
noncomputable def q22_8 (v0 : Nat) (v1 : Int32) (v2 : Int64) (v4 : Int32) (h : mHeap) : mR' := E 22 8 [some (.ref v0), some (.int v1), some (.long v2), none, some (.int v4)] [] h
theorem q22_8_eq (v0 : Nat) (v1 : Int32) (v2 : Int64) (v4 : Int32) (h : mHeap) : q22_8 v0 v1 v2 v4 h = (gI h v0 3 0).bind fun x1 => if x1 ≤ (v4 : Int32) then (some (none, h)) else ((gI h v0 3 0).bind fun x2 => (sI 89 [.long v2, .int x2, .int v4] h).bind fun q3 => (gI q3.2 v0 3 0).bind fun x4 => (gI q3.2 v0 3 0).bind fun x5 => (sI 89 [.long v2, .int x4, .int (x5 + v4)] q3.2).bind fun q6 => (vV 24 v0 [.int v4, .int q3.1, .int q6.1] q6.2).bind fun h7 => q22_8 v0 v1 v2 (v4 + 1) h7) := by
  unfold q22_8
  refine e_iload (pc' := 10) k22_8 rfl rfl ?_
  refine e_aload_n (pc' := 11) k22_10 rfl rfl ?_
  refine e_getI (pc' := 14) k22_11 rfl (ci := 3) (k := 0) (by decide +kernel) (by decide +kernel) (fun x1 => ?_)
  refine e_icmpge (t := 54) (pc' := 17) k22_14 rfl (by decide) (fun _ => ?_) (fun _ => ?_)
  · exact e_vret k22_54 (by decide +kernel)
  · refine e_aload_n (pc' := 18) k22_17 rfl rfl ?_
    refine e_iload (pc' := 20) k22_18 rfl rfl ?_
    refine e_lload_n (pc' := 21) k22_20 rfl rfl ?_
    refine e_aload_n (pc' := 22) k22_21 rfl rfl ?_
    refine e_getI (pc' := 25) k22_22 rfl (ci := 3) (k := 0) (by decide +kernel) (by decide +kernel) (fun x2 => ?_)
    refine e_iload (pc' := 27) k22_25 rfl rfl ?_
    refine e_sI (j' := 89) (as := [.long v2, .int x2, .int v4]) (rest := [.int v4, .ref v0]) (pc' := 30) k22_27 rfl (show mCk 22 0 44 89 3 = true by decide +kernel) (Or.inl (by decide +kernel)) rfl (Nat.le_of_ble_eq_true rfl) (show 4 ≤ mL 89 by decide +kernel) (fun q3 => ?_)
    refine e_lload_n (pc' := 31) k22_30 rfl rfl ?_
    refine e_aload_n (pc' := 32) k22_31 rfl rfl ?_
    refine e_getI (pc' := 35) k22_32 rfl (ci := 3) (k := 0) (by decide +kernel) (by decide +kernel) (fun x4 => ?_)
    refine e_aload_n (pc' := 36) k22_35 rfl rfl ?_
    refine e_getI (pc' := 39) k22_36 rfl (ci := 3) (k := 0) (by decide +kernel) (by decide +kernel) (fun x5 => ?_)
    refine e_iload (pc' := 41) k22_39 rfl rfl ?_
    refine e_iadd (pc' := 42) k22_41 rfl ?_
    refine e_sI (j' := 89) (as := [.long v2, .int x4, .int (x5 + v4)]) (rest := [.int q3.1, .int v4, .ref v0]) (pc' := 45) k22_42 rfl (show mCk 22 0 44 89 3 = true by decide +kernel) (Or.inl (by decide +kernel)) rfl (Nat.le_of_ble_eq_true rfl) (show 4 ≤ mL 89 by decide +kernel) (fun q6 => ?_)
    refine e_vV (j' := 24) (as := [.int v4, .int q3.1, .int q6.1]) (rest := []) (pc' := 48) k22_45 rfl (show mCk 22 1 40 24 3 = true by decide +kernel) (by decide +kernel) rfl (Nat.le_of_ble_eq_true rfl) (show 4 ≤ mL 24 by decide +kernel) (fun h7 => ?_)
    refine e_iinc (c := 1) (pc' := 51) k22_48 rfl rfl rfl rfl ?_
    refine e_goto (pc' := 8) k22_51 (by decide) ?_
    rfl
/-- Ground.unfold(IJ)V -/
theorem F22_eq (v0 : Nat) (v1 : Int32) (v2 : Int64) (h : mHeap) : F 22 [.ref v0, .int v1, .long v2] h = (cPut h v0 3 0 (.int v1)).bind fun h1 => q22_8 v0 v1 v2 0 h1 := by
  show D 22 0 (mEnt 22 [.ref v0, .int v1, .long v2]) [] h 0 0 = _
  rw [show mEnt 22 [.ref v0, .int v1, .long v2] = [some (.ref v0), some (.int v1), some (.long v2), none, none] from rfl]
  refine e_aload_n (pc' := 1) k22_0 rfl rfl ?_
  refine e_iload_n (pc' := 2) k22_1 rfl rfl ?_
  refine e_put (pc' := 5) k22_2 rfl (ci := 3) (k := 0) (by decide +kernel) (by decide +kernel) rfl (fun h1 => ?_)
  refine e_iconst (v := 0) (pc' := 6) k22_5 rfl rfl ?_
  refine e_istore (pc' := 8) k22_6 rfl rfl ?_
  rfl
theorem k23_0 : decode (mB 23) 0 = .ok (.aload_n 0, 1) := by decide +kernel
theorem k23_1 : decode (mB 23) 1 = .ok (.aload_n 1, 1) := by decide +kernel
theorem k23_2 : decode (mB 23) 2 = .ok (.getfield 9, 3) := by decide +kernel
theorem k23_5 : decode (mB 23) 5 = .ok (.putfield 9, 3) := by decide +kernel
theorem k23_8 : decode (mB 23) 8 = .ok (.iconst 0, 1) := by decide +kernel
theorem k23_9 : decode (mB 23) 9 = .ok (.istore_n 2, 1) := by decide +kernel
theorem k23_10 : decode (mB 23) 10 = .ok (.iload_n 2, 1) := by decide +kernel
theorem k23_11 : decode (mB 23) 11 = .ok (.aload_n 0, 1) := by decide +kernel
theorem k23_12 : decode (mB 23) 12 = .ok (.getfield 9, 3) := by decide +kernel
theorem k23_15 : decode (mB 23) 15 = .ok (.if_icmp .ge 26, 3) := by decide +kernel
theorem k23_18 : decode (mB 23) 18 = .ok (.aload_n 0, 1) := by decide +kernel
theorem k23_19 : decode (mB 23) 19 = .ok (.iload_n 2, 1) := by decide +kernel
theorem k23_20 : decode (mB 23) 20 = .ok (.aload_n 1, 1) := by decide +kernel
theorem k23_21 : decode (mB 23) 21 = .ok (.getfield 15, 3) := by decide +kernel
theorem k23_24 : decode (mB 23) 24 = .ok (.iload_n 2, 1) := by decide +kernel
theorem k23_25 : decode (mB 23) 25 = .ok (.iaload, 1) := by decide +kernel
theorem k23_26 : decode (mB 23) 26 = .ok (.aload_n 1, 1) := by decide +kernel
theorem k23_27 : decode (mB 23) 27 = .ok (.getfield 19, 3) := by decide +kernel
theorem k23_30 : decode (mB 23) 30 = .ok (.iload_n 2, 1) := by decide +kernel
theorem k23_31 : decode (mB 23) 31 = .ok (.iaload, 1) := by decide +kernel
theorem k23_32 : decode (mB 23) 32 = .ok (.invokevirtual 40, 3) := by decide +kernel
theorem k23_35 : decode (mB 23) 35 = .ok (.iinc 2 1, 3) := by decide +kernel
theorem k23_38 : decode (mB 23) 38 = .ok (.goto (-28), 3) := by decide +kernel
theorem k23_41 : decode (mB 23) 41 = .ok (.return_, 1) := by decide +kernel
/-- Ground.become, loop at 10 -/
noncomputable def q23_10 (v0 : Nat) (v1 : Nat) (v2 : Int32) (h : mHeap) : mR' := E 23 10 [some (.ref v0), some (.ref v1), some (.int v2)] [] h
theorem q23_10_eq (v0 : Nat) (v1 : Nat) (v2 : Int32) (h : mHeap) : q23_10 v0 v1 v2 h = (gI h v0 3 0).bind fun x1 => if x1 ≤ (v2 : Int32) then (some (none, h)) else ((gR h v1 3 1).bind fun x2 => (cAldI false h x2 v2).bind fun x3 => (gR h v1 3 2).bind fun x4 => (cAldI false h x4 v2).bind fun x5 => (vV 24 v0 [.int v2, .int x3, .int x5] h).bind fun h6 => q23_10 v0 v1 (v2 + 1) h6) := by
  unfold q23_10
  refine e_iload_n (pc' := 11) k23_10 rfl rfl ?_
  refine e_aload_n (pc' := 12) k23_11 rfl rfl ?_
  refine e_getI (pc' := 15) k23_12 rfl (ci := 3) (k := 0) (by decide +kernel) (by decide +kernel) (fun x1 => ?_)
  refine e_icmpge (t := 41) (pc' := 18) k23_15 rfl (by decide) (fun _ => ?_) (fun _ => ?_)
  · exact e_vret k23_41 (by decide +kernel)
  · refine e_aload_n (pc' := 19) k23_18 rfl rfl ?_
    refine e_iload_n (pc' := 20) k23_19 rfl rfl ?_
    refine e_aload_n (pc' := 21) k23_20 rfl rfl ?_
    refine e_getR (pc' := 24) k23_21 rfl (ci := 3) (k := 1) (by decide +kernel) (by decide +kernel) (fun x2 => ?_)
    refine e_iload_n (pc' := 25) k23_24 rfl rfl ?_
    refine e_iald (pc' := 26) k23_25 rfl (lw := false) rfl (fun x3 => ?_)
    refine e_aload_n (pc' := 27) k23_26 rfl rfl ?_
    refine e_getR (pc' := 30) k23_27 rfl (ci := 3) (k := 2) (by decide +kernel) (by decide +kernel) (fun x4 => ?_)
    refine e_iload_n (pc' := 31) k23_30 rfl rfl ?_
    refine e_iald (pc' := 32) k23_31 rfl (lw := false) rfl (fun x5 => ?_)
    refine e_vV (j' := 24) (as := [.int v2, .int x3, .int x5]) (rest := []) (pc' := 35) k23_32 rfl (show mCk 23 1 40 24 3 = true by decide +kernel) (by decide +kernel) rfl (Nat.le_of_ble_eq_true rfl) (show 4 ≤ mL 24 by decide +kernel) (fun h6 => ?_)
    refine e_iinc (c := 1) (pc' := 38) k23_35 rfl rfl rfl rfl ?_
    refine e_goto (pc' := 10) k23_38 (by decide) ?_
    rfl
/-- Ground.become(LSquareGrounds$Ground;)V -/
theorem F23_eq (v0 : Nat) (v1 : Nat) (h : mHeap) : F 23 [.ref v0, .ref v1] h = (gI h v1 3 0).bind fun x1 => (cPut h v0 3 0 (.int x1)).bind fun h2 => q23_10 v0 v1 0 h2 := by
  show D 23 0 (mEnt 23 [.ref v0, .ref v1]) [] h 0 0 = _
  rw [show mEnt 23 [.ref v0, .ref v1] = [some (.ref v0), some (.ref v1), none] from rfl]
  refine e_aload_n (pc' := 1) k23_0 rfl rfl ?_
  refine e_aload_n (pc' := 2) k23_1 rfl rfl ?_
  refine e_getI (pc' := 5) k23_2 rfl (ci := 3) (k := 0) (by decide +kernel) (by decide +kernel) (fun x1 => ?_)
  refine e_put (pc' := 8) k23_5 rfl (ci := 3) (k := 0) (by decide +kernel) (by decide +kernel) rfl (fun h2 => ?_)
  refine e_iconst (v := 0) (pc' := 9) k23_8 rfl rfl ?_
  refine e_istore_n (pc' := 10) k23_9 rfl rfl ?_
  rfl
theorem k24_0 : decode (mB 24) 0 = .ok (.aload_n 0, 1) := by decide +kernel
theorem k24_1 : decode (mB 24) 1 = .ok (.getfield 15, 3) := by decide +kernel
theorem k24_4 : decode (mB 24) 4 = .ok (.iload_n 1, 1) := by decide +kernel
theorem k24_5 : decode (mB 24) 5 = .ok (.iload_n 2, 1) := by decide +kernel
theorem k24_6 : decode (mB 24) 6 = .ok (.iastore, 1) := by decide +kernel
theorem k24_7 : decode (mB 24) 7 = .ok (.aload_n 0, 1) := by decide +kernel
theorem k24_8 : decode (mB 24) 8 = .ok (.getfield 22, 3) := by decide +kernel
theorem k24_11 : decode (mB 24) 11 = .ok (.iload_n 2, 1) := by decide +kernel
theorem k24_12 : decode (mB 24) 12 = .ok (.iload_n 1, 1) := by decide +kernel
theorem k24_13 : decode (mB 24) 13 = .ok (.iastore, 1) := by decide +kernel
theorem k24_14 : decode (mB 24) 14 = .ok (.aload_n 0, 1) := by decide +kernel
theorem k24_15 : decode (mB 24) 15 = .ok (.getfield 19, 3) := by decide +kernel
theorem k24_18 : decode (mB 24) 18 = .ok (.iload_n 1, 1) := by decide +kernel
theorem k24_19 : decode (mB 24) 19 = .ok (.iload_n 3, 1) := by decide +kernel
theorem k24_20 : decode (mB 24) 20 = .ok (.iastore, 1) := by decide +kernel
theorem k24_21 : decode (mB 24) 21 = .ok (.aload_n 0, 1) := by decide +kernel
theorem k24_22 : decode (mB 24) 22 = .ok (.getfield 25, 3) := by decide +kernel
theorem k24_25 : decode (mB 24) 25 = .ok (.iload_n 3, 1) := by decide +kernel
theorem k24_26 : decode (mB 24) 26 = .ok (.iload_n 1, 1) := by decide +kernel
theorem k24_27 : decode (mB 24) 27 = .ok (.iastore, 1) := by decide +kernel
theorem k24_28 : decode (mB 24) 28 = .ok (.return_, 1) := by decide +kernel
/-- Ground.glue(III)V -/
theorem F24_eq (v0 : Nat) (v1 : Int32) (v2 : Int32) (v3 : Int32) (h : mHeap) : F 24 [.ref v0, .int v1, .int v2, .int v3] h = (gR h v0 3 1).bind fun x1 => (cAstI h x1 v1 v2).bind fun h2 => (gR h2 v0 3 3).bind fun x3 => (cAstI h2 x3 v2 v1).bind fun h4 => (gR h4 v0 3 2).bind fun x5 => (cAstI h4 x5 v1 v3).bind fun h6 => (gR h6 v0 3 4).bind fun x7 => (cAstI h6 x7 v3 v1).bind fun h8 => some (none, h8) := by
  show D 24 0 (mEnt 24 [.ref v0, .int v1, .int v2, .int v3]) [] h 0 0 = _
  rw [show mEnt 24 [.ref v0, .int v1, .int v2, .int v3] = [some (.ref v0), some (.int v1), some (.int v2), some (.int v3)] from rfl]
  refine e_aload_n (pc' := 1) k24_0 rfl rfl ?_
  refine e_getR (pc' := 4) k24_1 rfl (ci := 3) (k := 1) (by decide +kernel) (by decide +kernel) (fun x1 => ?_)
  refine e_iload_n (pc' := 5) k24_4 rfl rfl ?_
  refine e_iload_n (pc' := 6) k24_5 rfl rfl ?_
  refine e_iast (pc' := 7) k24_6 rfl (fun h2 => ?_)
  refine e_aload_n (pc' := 8) k24_7 rfl rfl ?_
  refine e_getR (pc' := 11) k24_8 rfl (ci := 3) (k := 3) (by decide +kernel) (by decide +kernel) (fun x3 => ?_)
  refine e_iload_n (pc' := 12) k24_11 rfl rfl ?_
  refine e_iload_n (pc' := 13) k24_12 rfl rfl ?_
  refine e_iast (pc' := 14) k24_13 rfl (fun h4 => ?_)
  refine e_aload_n (pc' := 15) k24_14 rfl rfl ?_
  refine e_getR (pc' := 18) k24_15 rfl (ci := 3) (k := 2) (by decide +kernel) (by decide +kernel) (fun x5 => ?_)
  refine e_iload_n (pc' := 19) k24_18 rfl rfl ?_
  refine e_iload_n (pc' := 20) k24_19 rfl rfl ?_
  refine e_iast (pc' := 21) k24_20 rfl (fun h6 => ?_)
  refine e_aload_n (pc' := 22) k24_21 rfl rfl ?_
  refine e_getR (pc' := 25) k24_22 rfl (ci := 3) (k := 4) (by decide +kernel) (by decide +kernel) (fun x7 => ?_)
  refine e_iload_n (pc' := 26) k24_25 rfl rfl ?_
  refine e_iload_n (pc' := 27) k24_26 rfl rfl ?_
  refine e_iast (pc' := 28) k24_27 rfl (fun h8 => ?_)
  exact e_vret k24_28 (by decide +kernel)
theorem k25_0 : decode (mB 25) 0 = .ok (.iconst 0, 1) := by decide +kernel
theorem k25_1 : decode (mB 25) 1 = .ok (.istore_n 2, 1) := by decide +kernel
theorem k25_2 : decode (mB 25) 2 = .ok (.iload_n 2, 1) := by decide +kernel
theorem k25_3 : decode (mB 25) 3 = .ok (.iload_n 1, 1) := by decide +kernel
theorem k25_4 : decode (mB 25) 4 = .ok (.if_icmp .ge 21, 3) := by decide +kernel
theorem k25_7 : decode (mB 25) 7 = .ok (.aload_n 0, 1) := by decide +kernel
theorem k25_8 : decode (mB 25) 8 = .ok (.aload_n 0, 1) := by decide +kernel
theorem k25_9 : decode (mB 25) 9 = .ok (.getfield 22, 3) := by decide +kernel
theorem k25_12 : decode (mB 25) 12 = .ok (.aload_n 0, 1) := by decide +kernel
theorem k25_13 : decode (mB 25) 13 = .ok (.getfield 15, 3) := by decide +kernel
theorem k25_16 : decode (mB 25) 16 = .ok (.invokevirtual 48, 3) := by decide +kernel
theorem k25_19 : decode (mB 25) 19 = .ok (.iinc 2 1, 3) := by decide +kernel
theorem k25_22 : decode (mB 25) 22 = .ok (.goto (-20), 3) := by decide +kernel
theorem k25_25 : decode (mB 25) 25 = .ok (.iconst 0, 1) := by decide +kernel
theorem k25_26 : decode (mB 25) 26 = .ok (.istore_n 2, 1) := by decide +kernel
theorem k25_27 : decode (mB 25) 27 = .ok (.iload_n 2, 1) := by decide +kernel
theorem k25_28 : decode (mB 25) 28 = .ok (.iload_n 1, 1) := by decide +kernel
theorem k25_29 : decode (mB 25) 29 = .ok (.if_icmp .le 21, 3) := by decide +kernel
theorem k25_32 : decode (mB 25) 32 = .ok (.aload_n 0, 1) := by decide +kernel
theorem k25_33 : decode (mB 25) 33 = .ok (.aload_n 0, 1) := by decide +kernel
theorem k25_34 : decode (mB 25) 34 = .ok (.getfield 15, 3) := by decide +kernel
theorem k25_37 : decode (mB 25) 37 = .ok (.aload_n 0, 1) := by decide +kernel
theorem k25_38 : decode (mB 25) 38 = .ok (.getfield 22, 3) := by decide +kernel
theorem k25_41 : decode (mB 25) 41 = .ok (.invokevirtual 48, 3) := by decide +kernel
theorem k25_44 : decode (mB 25) 44 = .ok (.iinc 2 (-1), 3) := by decide +kernel
theorem k25_47 : decode (mB 25) 47 = .ok (.goto (-20), 3) := by decide +kernel
theorem k25_50 : decode (mB 25) 50 = .ok (.return_, 1) := by decide +kernel
/-- Ground.slide, loop at 2 -/
noncomputable def q25_2 (v0 : Nat) (v1 : Int32) (v2 : Int32) (h : mHeap) : mR' := E 25 2 [some (.ref v0), some (.int v1), some (.int v2)] [] h
/-- Ground.slide, loop at 27 -/
noncomputable def q25_27 (v0 : Nat) (v1 : Int32) (v2 : Int32) (h : mHeap) : mR' := E 25 27 [some (.ref v0), some (.int v1), some (.int v2)] [] h
theorem q25_2_eq (v0 : Nat) (v1 : Int32) (v2 : Int32) (h : mHeap) : q25_2 v0 v1 v2 h = if v1 ≤ (v2 : Int32) then (q25_27 v0 v1 0 h) else ((gR h v0 3 3).bind fun x1 => (gR h v0 3 1).bind fun x2 => (vV 26 v0 [.ref x1, .ref x2] h).bind fun h3 => q25_2 v0 v1 (v2 + 1) h3) := by
  unfold q25_2
  refine e_iload_n (pc' := 3) k25_2 rfl rfl ?_
  refine e_iload_n (pc' := 4) k25_3 rfl rfl ?_
  refine e_icmpge (t := 25) (pc' := 7) k25_4 rfl (by decide) (fun _ => ?_) (fun _ => ?_)
  · refine e_iconst (v := 0) (pc' := 26) k25_25 rfl rfl ?_
    refine e_istore_n (pc' := 27) k25_26 rfl rfl ?_
    rfl
  · refine e_aload_n (pc' := 8) k25_7 rfl rfl ?_
    refine e_aload_n (pc' := 9) k25_8 rfl rfl ?_
    refine e_getR (pc' := 12) k25_9 rfl (ci := 3) (k := 3) (by decide +kernel) (by decide +kernel) (fun x1 => ?_)
    refine e_aload_n (pc' := 13) k25_12 rfl rfl ?_
    refine e_getR (pc' := 16) k25_13 rfl (ci := 3) (k := 1) (by decide +kernel) (by decide +kernel) (fun x2 => ?_)
    refine e_vV (j' := 26) (as := [.ref x1, .ref x2]) (rest := []) (pc' := 19) k25_16 rfl (show mCk 25 1 48 26 2 = true by decide +kernel) (by decide +kernel) rfl (Nat.le_of_ble_eq_true rfl) (show 3 ≤ mL 26 by decide +kernel) (fun h3 => ?_)
    refine e_iinc (c := 1) (pc' := 22) k25_19 rfl rfl rfl rfl ?_
    refine e_goto (pc' := 2) k25_22 (by decide) ?_
    rfl
theorem q25_27_eq (v0 : Nat) (v1 : Int32) (v2 : Int32) (h : mHeap) : q25_27 v0 v1 v2 h = if (v2 : Int32) ≤ v1 then (some (none, h)) else ((gR h v0 3 1).bind fun x1 => (gR h v0 3 3).bind fun x2 => (vV 26 v0 [.ref x1, .ref x2] h).bind fun h3 => q25_27 v0 v1 (v2 + (-1)) h3) := by
  unfold q25_27
  refine e_iload_n (pc' := 28) k25_27 rfl rfl ?_
  refine e_iload_n (pc' := 29) k25_28 rfl rfl ?_
  refine e_icmple (t := 50) (pc' := 32) k25_29 rfl (by decide) (fun _ => ?_) (fun _ => ?_)
  · exact e_vret k25_50 (by decide +kernel)
  · refine e_aload_n (pc' := 33) k25_32 rfl rfl ?_
    refine e_aload_n (pc' := 34) k25_33 rfl rfl ?_
    refine e_getR (pc' := 37) k25_34 rfl (ci := 3) (k := 1) (by decide +kernel) (by decide +kernel) (fun x1 => ?_)
    refine e_aload_n (pc' := 38) k25_37 rfl rfl ?_
    refine e_getR (pc' := 41) k25_38 rfl (ci := 3) (k := 3) (by decide +kernel) (by decide +kernel) (fun x2 => ?_)
    refine e_vV (j' := 26) (as := [.ref x1, .ref x2]) (rest := []) (pc' := 44) k25_41 rfl (show mCk 25 1 48 26 2 = true by decide +kernel) (by decide +kernel) rfl (Nat.le_of_ble_eq_true rfl) (show 3 ≤ mL 26 by decide +kernel) (fun h3 => ?_)
    refine e_iinc (c := -1) (pc' := 47) k25_44 rfl rfl rfl rfl ?_
    refine e_goto (pc' := 27) k25_47 (by decide) ?_
    rfl
/-- Ground.slide(I)V -/
theorem F25_eq (v0 : Nat) (v1 : Int32) (h : mHeap) : F 25 [.ref v0, .int v1] h = q25_2 v0 v1 0 h := by
  show D 25 0 (mEnt 25 [.ref v0, .int v1]) [] h 0 0 = _
  rw [show mEnt 25 [.ref v0, .int v1] = [some (.ref v0), some (.int v1), none] from rfl]
  refine e_iconst (v := 0) (pc' := 1) k25_0 rfl rfl ?_
  refine e_istore_n (pc' := 2) k25_1 rfl rfl ?_
  rfl
theorem k26_0 : decode (mB 26) 0 = .ok (.iconst 0, 1) := by decide +kernel
theorem k26_1 : decode (mB 26) 1 = .ok (.istore_n 3, 1) := by decide +kernel
theorem k26_2 : decode (mB 26) 2 = .ok (.iload_n 3, 1) := by decide +kernel
theorem k26_3 : decode (mB 26) 3 = .ok (.aload_n 0, 1) := by decide +kernel
theorem k26_4 : decode (mB 26) 4 = .ok (.getfield 9, 3) := by decide +kernel
theorem k26_7 : decode (mB 26) 7 = .ok (.if_icmp .ge 23, 3) := by decide +kernel
theorem k26_10 : decode (mB 26) 10 = .ok (.aload_n 0, 1) := by decide +kernel
theorem k26_11 : decode (mB 26) 11 = .ok (.getfield 28, 3) := by decide +kernel
theorem k26_14 : decode (mB 26) 14 = .ok (.iload_n 3, 1) := by decide +kernel
theorem k26_15 : decode (mB 26) 15 = .ok (.aload_n 0, 1) := by decide +kernel
theorem k26_16 : decode (mB 26) 16 = .ok (.getfield 19, 3) := by decide +kernel
theorem k26_19 : decode (mB 26) 19 = .ok (.aload_n 1, 1) := by decide +kernel
theorem k26_20 : decode (mB 26) 20 = .ok (.iload_n 3, 1) := by decide +kernel
theorem k26_21 : decode (mB 26) 21 = .ok (.iaload, 1) := by decide +kernel
theorem k26_22 : decode (mB 26) 22 = .ok (.iaload, 1) := by decide +kernel
theorem k26_23 : decode (mB 26) 23 = .ok (.iastore, 1) := by decide +kernel
theorem k26_24 : decode (mB 26) 24 = .ok (.iinc 3 1, 3) := by decide +kernel
theorem k26_27 : decode (mB 26) 27 = .ok (.goto (-25), 3) := by decide +kernel
theorem k26_30 : decode (mB 26) 30 = .ok (.aload_n 0, 1) := by decide +kernel
theorem k26_31 : decode (mB 26) 31 = .ok (.getfield 28, 3) := by decide +kernel
theorem k26_34 : decode (mB 26) 34 = .ok (.astore_n 3, 1) := by decide +kernel
theorem k26_35 : decode (mB 26) 35 = .ok (.aload_n 0, 1) := by decide +kernel
theorem k26_36 : decode (mB 26) 36 = .ok (.aload_n 0, 1) := by decide +kernel
theorem k26_37 : decode (mB 26) 37 = .ok (.getfield 19, 3) := by decide +kernel
theorem k26_40 : decode (mB 26) 40 = .ok (.putfield 28, 3) := by decide +kernel
theorem k26_43 : decode (mB 26) 43 = .ok (.aload_n 0, 1) := by decide +kernel
theorem k26_44 : decode (mB 26) 44 = .ok (.aload_n 3, 1) := by decide +kernel
theorem k26_45 : decode (mB 26) 45 = .ok (.putfield 19, 3) := by decide +kernel
theorem k26_48 : decode (mB 26) 48 = .ok (.iconst 0, 1) := by decide +kernel
theorem k26_49 : decode (mB 26) 49 = .ok (.istore 4, 2) := by decide +kernel
theorem k26_51 : decode (mB 26) 51 = .ok (.iload 4, 2) := by decide +kernel
theorem k26_53 : decode (mB 26) 53 = .ok (.aload_n 0, 1) := by decide +kernel
theorem k26_54 : decode (mB 26) 54 = .ok (.getfield 9, 3) := by decide +kernel
theorem k26_57 : decode (mB 26) 57 = .ok (.if_icmp .ge 25, 3) := by decide +kernel
theorem k26_60 : decode (mB 26) 60 = .ok (.aload_n 0, 1) := by decide +kernel
theorem k26_61 : decode (mB 26) 61 = .ok (.getfield 28, 3) := by decide +kernel
theorem k26_64 : decode (mB 26) 64 = .ok (.iload 4, 2) := by decide +kernel
theorem k26_66 : decode (mB 26) 66 = .ok (.aload_n 2, 1) := by decide +kernel
theorem k26_67 : decode (mB 26) 67 = .ok (.aload_n 0, 1) := by decide +kernel
theorem k26_68 : decode (mB 26) 68 = .ok (.getfield 25, 3) := by decide +kernel
theorem k26_71 : decode (mB 26) 71 = .ok (.iload 4, 2) := by decide +kernel
theorem k26_73 : decode (mB 26) 73 = .ok (.iaload, 1) := by decide +kernel
theorem k26_74 : decode (mB 26) 74 = .ok (.iaload, 1) := by decide +kernel
theorem k26_75 : decode (mB 26) 75 = .ok (.iastore, 1) := by decide +kernel
theorem k26_76 : decode (mB 26) 76 = .ok (.iinc 4 1, 3) := by decide +kernel
theorem k26_79 : decode (mB 26) 79 = .ok (.goto (-28), 3) := by decide +kernel
theorem k26_82 : decode (mB 26) 82 = .ok (.aload_n 0, 1) := by decide +kernel
theorem k26_83 : decode (mB 26) 83 = .ok (.getfield 28, 3) := by decide +kernel
theorem k26_86 : decode (mB 26) 86 = .ok (.astore 4, 2) := by decide +kernel
theorem k26_88 : decode (mB 26) 88 = .ok (.aload_n 0, 1) := by decide +kernel
theorem k26_89 : decode (mB 26) 89 = .ok (.aload_n 0, 1) := by decide +kernel
theorem k26_90 : decode (mB 26) 90 = .ok (.getfield 25, 3) := by decide +kernel
theorem k26_93 : decode (mB 26) 93 = .ok (.putfield 28, 3) := by decide +kernel
theorem k26_96 : decode (mB 26) 96 = .ok (.aload_n 0, 1) := by decide +kernel
theorem k26_97 : decode (mB 26) 97 = .ok (.aload 4, 2) := by decide +kernel
theorem k26_99 : decode (mB 26) 99 = .ok (.putfield 25, 3) := by decide +kernel
theorem k26_102 : decode (mB 26) 102 = .ok (.return_, 1) := by decide +kernel
/-- Ground.slideOnce, loop at 2 -/
noncomputable def q26_2 (v0 : Nat) (v1 : Nat) (v2 : Nat) (v3 : Int32) (h : mHeap) : mR' := E 26 2 [some (.ref v0), some (.ref v1), some (.ref v2), some (.int v3), none] [] h
/-- Ground.slideOnce, loop at 51 -/
noncomputable def q26_51 (v0 : Nat) (v1 : Nat) (v2 : Nat) (v3 : Nat) (v4 : Int32) (h : mHeap) : mR' := E 26 51 [some (.ref v0), some (.ref v1), some (.ref v2), some (.ref v3), some (.int v4)] [] h
theorem q26_2_eq (v0 : Nat) (v1 : Nat) (v2 : Nat) (v3 : Int32) (h : mHeap) : q26_2 v0 v1 v2 v3 h = (gI h v0 3 0).bind fun x1 => if x1 ≤ (v3 : Int32) then ((gR h v0 3 5).bind fun x2 => (gR h v0 3 2).bind fun x3 => (cPut h v0 3 5 (.ref x3)).bind fun h4 => (cPut h4 v0 3 2 (.ref x2)).bind fun h5 => q26_51 v0 v1 v2 x2 0 h5) else ((gR h v0 3 5).bind fun x6 => (gR h v0 3 2).bind fun x7 => (cAldI false h v1 v3).bind fun x8 => (cAldI false h x7 x8).bind fun x9 => (cAstI h x6 v3 x9).bind fun h10 => q26_2 v0 v1 v2 (v3 + 1) h10) := by
  unfold q26_2
  refine e_iload_n (pc' := 3) k26_2 rfl rfl ?_
  refine e_aload_n (pc' := 4) k26_3 rfl rfl ?_
  refine e_getI (pc' := 7) k26_4 rfl (ci := 3) (k := 0) (by decide +kernel) (by decide +kernel) (fun x1 => ?_)
  refine e_icmpge (t := 30) (pc' := 10) k26_7 rfl (by decide) (fun _ => ?_) (fun _ => ?_)
  · refine e_aload_n (pc' := 31) k26_30 rfl rfl ?_
    refine e_getR (pc' := 34) k26_31 rfl (ci := 3) (k := 5) (by decide +kernel) (by decide +kernel) (fun x2 => ?_)
    refine e_astore_n (pc' := 35) k26_34 rfl rfl ?_
    refine e_aload_n (pc' := 36) k26_35 rfl rfl ?_
    refine e_aload_n (pc' := 37) k26_36 rfl rfl ?_
    refine e_getR (pc' := 40) k26_37 rfl (ci := 3) (k := 2) (by decide +kernel) (by decide +kernel) (fun x3 => ?_)
    refine e_put (pc' := 43) k26_40 rfl (ci := 3) (k := 5) (by decide +kernel) (by decide +kernel) rfl (fun h4 => ?_)
    refine e_aload_n (pc' := 44) k26_43 rfl rfl ?_
    refine e_aload_n (pc' := 45) k26_44 rfl rfl ?_
    refine e_put (pc' := 48) k26_45 rfl (ci := 3) (k := 2) (by decide +kernel) (by decide +kernel) rfl (fun h5 => ?_)
    refine e_iconst (v := 0) (pc' := 49) k26_48 rfl rfl ?_
    refine e_istore (pc' := 51) k26_49 rfl rfl ?_
    rfl
  · refine e_aload_n (pc' := 11) k26_10 rfl rfl ?_
    refine e_getR (pc' := 14) k26_11 rfl (ci := 3) (k := 5) (by decide +kernel) (by decide +kernel) (fun x6 => ?_)
    refine e_iload_n (pc' := 15) k26_14 rfl rfl ?_
    refine e_aload_n (pc' := 16) k26_15 rfl rfl ?_
    refine e_getR (pc' := 19) k26_16 rfl (ci := 3) (k := 2) (by decide +kernel) (by decide +kernel) (fun x7 => ?_)
    refine e_aload_n (pc' := 20) k26_19 rfl rfl ?_
    refine e_iload_n (pc' := 21) k26_20 rfl rfl ?_
    refine e_iald (pc' := 22) k26_21 rfl (lw := false) rfl (fun x8 => ?_)
    refine e_iald (pc' := 23) k26_22 rfl (lw := false) rfl (fun x9 => ?_)
    refine e_iast (pc' := 24) k26_23 rfl (fun h10 => ?_)
    refine e_iinc (c := 1) (pc' := 27) k26_24 rfl rfl rfl rfl ?_
    refine e_goto (pc' := 2) k26_27 (by decide) ?_
    rfl
theorem q26_51_eq (v0 : Nat) (v1 : Nat) (v2 : Nat) (v3 : Nat) (v4 : Int32) (h : mHeap) : q26_51 v0 v1 v2 v3 v4 h = (gI h v0 3 0).bind fun x1 => if x1 ≤ (v4 : Int32) then ((gR h v0 3 5).bind fun x2 => (gR h v0 3 4).bind fun x3 => (cPut h v0 3 5 (.ref x3)).bind fun h4 => (cPut h4 v0 3 4 (.ref x2)).bind fun h5 => some (none, h5)) else ((gR h v0 3 5).bind fun x6 => (gR h v0 3 4).bind fun x7 => (cAldI false h x7 v4).bind fun x8 => (cAldI false h v2 x8).bind fun x9 => (cAstI h x6 v4 x9).bind fun h10 => q26_51 v0 v1 v2 v3 (v4 + 1) h10) := by
  unfold q26_51
  refine e_iload (pc' := 53) k26_51 rfl rfl ?_
  refine e_aload_n (pc' := 54) k26_53 rfl rfl ?_
  refine e_getI (pc' := 57) k26_54 rfl (ci := 3) (k := 0) (by decide +kernel) (by decide +kernel) (fun x1 => ?_)
  refine e_icmpge (t := 82) (pc' := 60) k26_57 rfl (by decide) (fun _ => ?_) (fun _ => ?_)
  · refine e_aload_n (pc' := 83) k26_82 rfl rfl ?_
    refine e_getR (pc' := 86) k26_83 rfl (ci := 3) (k := 5) (by decide +kernel) (by decide +kernel) (fun x2 => ?_)
    refine e_astore (pc' := 88) k26_86 rfl rfl ?_
    refine e_aload_n (pc' := 89) k26_88 rfl rfl ?_
    refine e_aload_n (pc' := 90) k26_89 rfl rfl ?_
    refine e_getR (pc' := 93) k26_90 rfl (ci := 3) (k := 4) (by decide +kernel) (by decide +kernel) (fun x3 => ?_)
    refine e_put (pc' := 96) k26_93 rfl (ci := 3) (k := 5) (by decide +kernel) (by decide +kernel) rfl (fun h4 => ?_)
    refine e_aload_n (pc' := 97) k26_96 rfl rfl ?_
    refine e_aload (pc' := 99) k26_97 rfl rfl ?_
    refine e_put (pc' := 102) k26_99 rfl (ci := 3) (k := 4) (by decide +kernel) (by decide +kernel) rfl (fun h5 => ?_)
    exact e_vret k26_102 (by decide +kernel)
  · refine e_aload_n (pc' := 61) k26_60 rfl rfl ?_
    refine e_getR (pc' := 64) k26_61 rfl (ci := 3) (k := 5) (by decide +kernel) (by decide +kernel) (fun x6 => ?_)
    refine e_iload (pc' := 66) k26_64 rfl rfl ?_
    refine e_aload_n (pc' := 67) k26_66 rfl rfl ?_
    refine e_aload_n (pc' := 68) k26_67 rfl rfl ?_
    refine e_getR (pc' := 71) k26_68 rfl (ci := 3) (k := 4) (by decide +kernel) (by decide +kernel) (fun x7 => ?_)
    refine e_iload (pc' := 73) k26_71 rfl rfl ?_
    refine e_iald (pc' := 74) k26_73 rfl (lw := false) rfl (fun x8 => ?_)
    refine e_iald (pc' := 75) k26_74 rfl (lw := false) rfl (fun x9 => ?_)
    refine e_iast (pc' := 76) k26_75 rfl (fun h10 => ?_)
    refine e_iinc (c := 1) (pc' := 79) k26_76 rfl rfl rfl rfl ?_
    refine e_goto (pc' := 51) k26_79 (by decide) ?_
    rfl
/-- Ground.slideOnce([I[I)V -/
theorem F26_eq (v0 : Nat) (v1 : Nat) (v2 : Nat) (h : mHeap) : F 26 [.ref v0, .ref v1, .ref v2] h = q26_2 v0 v1 v2 0 h := by
  show D 26 0 (mEnt 26 [.ref v0, .ref v1, .ref v2]) [] h 0 0 = _
  rw [show mEnt 26 [.ref v0, .ref v1, .ref v2] = [some (.ref v0), some (.ref v1), some (.ref v2), none, none] from rfl]
  refine e_iconst (v := 0) (pc' := 1) k26_0 rfl rfl ?_
  refine e_istore_n (pc' := 2) k26_1 rfl rfl ?_
  rfl
theorem k27_0 : decode (mB 27) 0 = .ok (.aload_n 0, 1) := by decide +kernel
theorem k27_1 : decode (mB 27) 1 = .ok (.getfield 15, 3) := by decide +kernel
theorem k27_4 : decode (mB 27) 4 = .ok (.astore_n 1, 1) := by decide +kernel
theorem k27_5 : decode (mB 27) 5 = .ok (.aload_n 0, 1) := by decide +kernel
theorem k27_6 : decode (mB 27) 6 = .ok (.aload_n 0, 1) := by decide +kernel
theorem k27_7 : decode (mB 27) 7 = .ok (.getfield 25, 3) := by decide +kernel
theorem k27_10 : decode (mB 27) 10 = .ok (.putfield 15, 3) := by decide +kernel
theorem k27_13 : decode (mB 27) 13 = .ok (.aload_n 0, 1) := by decide +kernel
theorem k27_14 : decode (mB 27) 14 = .ok (.aload_n 0, 1) := by decide +kernel
theorem k27_15 : decode (mB 27) 15 = .ok (.getfield 22, 3) := by decide +kernel
theorem k27_18 : decode (mB 27) 18 = .ok (.putfield 25, 3) := by decide +kernel
theorem k27_21 : decode (mB 27) 21 = .ok (.aload_n 0, 1) := by decide +kernel
theorem k27_22 : decode (mB 27) 22 = .ok (.aload_n 0, 1) := by decide +kernel
theorem k27_23 : decode (mB 27) 23 = .ok (.getfield 19, 3) := by decide +kernel
theorem k27_26 : decode (mB 27) 26 = .ok (.putfield 22, 3) := by decide +kernel
theorem k27_29 : decode (mB 27) 29 = .ok (.aload_n 0, 1) := by decide +kernel
theorem k27_30 : decode (mB 27) 30 = .ok (.aload_n 1, 1) := by decide +kernel
theorem k27_31 : decode (mB 27) 31 = .ok (.putfield 19, 3) := by decide +kernel
theorem k27_34 : decode (mB 27) 34 = .ok (.return_, 1) := by decide +kernel
/-- Ground.quarter()V -/
theorem F27_eq (v0 : Nat) (h : mHeap) : F 27 [.ref v0] h = (gR h v0 3 1).bind fun x1 => (gR h v0 3 4).bind fun x2 => (cPut h v0 3 1 (.ref x2)).bind fun h3 => (gR h3 v0 3 3).bind fun x4 => (cPut h3 v0 3 4 (.ref x4)).bind fun h5 => (gR h5 v0 3 2).bind fun x6 => (cPut h5 v0 3 3 (.ref x6)).bind fun h7 => (cPut h7 v0 3 2 (.ref x1)).bind fun h8 => some (none, h8) := by
  show D 27 0 (mEnt 27 [.ref v0]) [] h 0 0 = _
  rw [show mEnt 27 [.ref v0] = [some (.ref v0), none] from rfl]
  refine e_aload_n (pc' := 1) k27_0 rfl rfl ?_
  refine e_getR (pc' := 4) k27_1 rfl (ci := 3) (k := 1) (by decide +kernel) (by decide +kernel) (fun x1 => ?_)
  refine e_astore_n (pc' := 5) k27_4 rfl rfl ?_
  refine e_aload_n (pc' := 6) k27_5 rfl rfl ?_
  refine e_aload_n (pc' := 7) k27_6 rfl rfl ?_
  refine e_getR (pc' := 10) k27_7 rfl (ci := 3) (k := 4) (by decide +kernel) (by decide +kernel) (fun x2 => ?_)
  refine e_put (pc' := 13) k27_10 rfl (ci := 3) (k := 1) (by decide +kernel) (by decide +kernel) rfl (fun h3 => ?_)
  refine e_aload_n (pc' := 14) k27_13 rfl rfl ?_
  refine e_aload_n (pc' := 15) k27_14 rfl rfl ?_
  refine e_getR (pc' := 18) k27_15 rfl (ci := 3) (k := 3) (by decide +kernel) (by decide +kernel) (fun x4 => ?_)
  refine e_put (pc' := 21) k27_18 rfl (ci := 3) (k := 4) (by decide +kernel) (by decide +kernel) rfl (fun h5 => ?_)
  refine e_aload_n (pc' := 22) k27_21 rfl rfl ?_
  refine e_aload_n (pc' := 23) k27_22 rfl rfl ?_
  refine e_getR (pc' := 26) k27_23 rfl (ci := 3) (k := 2) (by decide +kernel) (by decide +kernel) (fun x6 => ?_)
  refine e_put (pc' := 29) k27_26 rfl (ci := 3) (k := 3) (by decide +kernel) (by decide +kernel) rfl (fun h7 => ?_)
  refine e_aload_n (pc' := 30) k27_29 rfl rfl ?_
  refine e_aload_n (pc' := 31) k27_30 rfl rfl ?_
  refine e_put (pc' := 34) k27_31 rfl (ci := 3) (k := 2) (by decide +kernel) (by decide +kernel) rfl (fun h8 => ?_)
  exact e_vret k27_34 (by decide +kernel)
theorem k28_0 : decode (mB 28) 0 = .ok (.aload_n 0, 1) := by decide +kernel
theorem k28_1 : decode (mB 28) 1 = .ok (.getfield 15, 3) := by decide +kernel
theorem k28_4 : decode (mB 28) 4 = .ok (.astore_n 1, 1) := by decide +kernel
theorem k28_5 : decode (mB 28) 5 = .ok (.aload_n 0, 1) := by decide +kernel
theorem k28_6 : decode (mB 28) 6 = .ok (.aload_n 0, 1) := by decide +kernel
theorem k28_7 : decode (mB 28) 7 = .ok (.getfield 19, 3) := by decide +kernel
theorem k28_10 : decode (mB 28) 10 = .ok (.putfield 15, 3) := by decide +kernel
theorem k28_13 : decode (mB 28) 13 = .ok (.aload_n 0, 1) := by decide +kernel
theorem k28_14 : decode (mB 28) 14 = .ok (.aload_n 0, 1) := by decide +kernel
theorem k28_15 : decode (mB 28) 15 = .ok (.getfield 22, 3) := by decide +kernel
theorem k28_18 : decode (mB 28) 18 = .ok (.putfield 19, 3) := by decide +kernel
theorem k28_21 : decode (mB 28) 21 = .ok (.aload_n 0, 1) := by decide +kernel
theorem k28_22 : decode (mB 28) 22 = .ok (.aload_n 0, 1) := by decide +kernel
theorem k28_23 : decode (mB 28) 23 = .ok (.getfield 25, 3) := by decide +kernel
theorem k28_26 : decode (mB 28) 26 = .ok (.putfield 22, 3) := by decide +kernel
theorem k28_29 : decode (mB 28) 29 = .ok (.aload_n 0, 1) := by decide +kernel
theorem k28_30 : decode (mB 28) 30 = .ok (.aload_n 1, 1) := by decide +kernel
theorem k28_31 : decode (mB 28) 31 = .ok (.putfield 25, 3) := by decide +kernel
theorem k28_34 : decode (mB 28) 34 = .ok (.return_, 1) := by decide +kernel
/-- Ground.quarterBack()V -/
theorem F28_eq (v0 : Nat) (h : mHeap) : F 28 [.ref v0] h = (gR h v0 3 1).bind fun x1 => (gR h v0 3 2).bind fun x2 => (cPut h v0 3 1 (.ref x2)).bind fun h3 => (gR h3 v0 3 3).bind fun x4 => (cPut h3 v0 3 2 (.ref x4)).bind fun h5 => (gR h5 v0 3 4).bind fun x6 => (cPut h5 v0 3 3 (.ref x6)).bind fun h7 => (cPut h7 v0 3 4 (.ref x1)).bind fun h8 => some (none, h8) := by
  show D 28 0 (mEnt 28 [.ref v0]) [] h 0 0 = _
  rw [show mEnt 28 [.ref v0] = [some (.ref v0), none] from rfl]
  refine e_aload_n (pc' := 1) k28_0 rfl rfl ?_
  refine e_getR (pc' := 4) k28_1 rfl (ci := 3) (k := 1) (by decide +kernel) (by decide +kernel) (fun x1 => ?_)
  refine e_astore_n (pc' := 5) k28_4 rfl rfl ?_
  refine e_aload_n (pc' := 6) k28_5 rfl rfl ?_
  refine e_aload_n (pc' := 7) k28_6 rfl rfl ?_
  refine e_getR (pc' := 10) k28_7 rfl (ci := 3) (k := 2) (by decide +kernel) (by decide +kernel) (fun x2 => ?_)
  refine e_put (pc' := 13) k28_10 rfl (ci := 3) (k := 1) (by decide +kernel) (by decide +kernel) rfl (fun h3 => ?_)
  refine e_aload_n (pc' := 14) k28_13 rfl rfl ?_
  refine e_aload_n (pc' := 15) k28_14 rfl rfl ?_
  refine e_getR (pc' := 18) k28_15 rfl (ci := 3) (k := 3) (by decide +kernel) (by decide +kernel) (fun x4 => ?_)
  refine e_put (pc' := 21) k28_18 rfl (ci := 3) (k := 2) (by decide +kernel) (by decide +kernel) rfl (fun h5 => ?_)
  refine e_aload_n (pc' := 22) k28_21 rfl rfl ?_
  refine e_aload_n (pc' := 23) k28_22 rfl rfl ?_
  refine e_getR (pc' := 26) k28_23 rfl (ci := 3) (k := 4) (by decide +kernel) (by decide +kernel) (fun x6 => ?_)
  refine e_put (pc' := 29) k28_26 rfl (ci := 3) (k := 3) (by decide +kernel) (by decide +kernel) rfl (fun h7 => ?_)
  refine e_aload_n (pc' := 30) k28_29 rfl rfl ?_
  refine e_aload_n (pc' := 31) k28_30 rfl rfl ?_
  refine e_put (pc' := 34) k28_31 rfl (ci := 3) (k := 4) (by decide +kernel) (by decide +kernel) rfl (fun h8 => ?_)
  exact e_vret k28_34 (by decide +kernel)
theorem k29_0 : decode (mB 29) 0 = .ok (.iconst 0, 1) := by decide +kernel
theorem k29_1 : decode (mB 29) 1 = .ok (.istore_n 3, 1) := by decide +kernel
theorem k29_2 : decode (mB 29) 2 = .ok (.iload_n 3, 1) := by decide +kernel
theorem k29_3 : decode (mB 29) 3 = .ok (.bipush 50, 2) := by decide +kernel
theorem k29_5 : decode (mB 29) 5 = .ok (.if_icmp .gt 45, 3) := by decide +kernel
theorem k29_8 : decode (mB 29) 8 = .ok (.iload_n 2, 1) := by decide +kernel
theorem k29_9 : decode (mB 29) 9 = .ok (.ifCond .le 41, 3) := by decide +kernel
theorem k29_12 : decode (mB 29) 12 = .ok (.iload_n 1, 1) := by decide +kernel
theorem k29_13 : decode (mB 29) 13 = .ok (.iload_n 2, 1) := by decide +kernel
theorem k29_14 : decode (mB 29) 14 = .ok (.invokestatic 52, 3) := by decide +kernel
theorem k29_17 : decode (mB 29) 17 = .ok (.istore 4, 2) := by decide +kernel
theorem k29_19 : decode (mB 29) 19 = .ok (.aload_n 0, 1) := by decide +kernel
theorem k29_20 : decode (mB 29) 20 = .ok (.iload 4, 2) := by decide +kernel
theorem k29_22 : decode (mB 29) 22 = .ok (.ineg, 1) := by decide +kernel
theorem k29_23 : decode (mB 29) 23 = .ok (.invokevirtual 58, 3) := by decide +kernel
theorem k29_26 : decode (mB 29) 26 = .ok (.iload_n 1, 1) := by decide +kernel
theorem k29_27 : decode (mB 29) 27 = .ok (.iload_n 2, 1) := by decide +kernel
theorem k29_28 : decode (mB 29) 28 = .ok (.iload 4, 2) := by decide +kernel
theorem k29_30 : decode (mB 29) 30 = .ok (.imul, 1) := by decide +kernel
theorem k29_31 : decode (mB 29) 31 = .ok (.isub, 1) := by decide +kernel
theorem k29_32 : decode (mB 29) 32 = .ok (.istore 5, 2) := by decide +kernel
theorem k29_34 : decode (mB 29) 34 = .ok (.aload_n 0, 1) := by decide +kernel
theorem k29_35 : decode (mB 29) 35 = .ok (.invokevirtual 62, 3) := by decide +kernel
theorem k29_38 : decode (mB 29) 38 = .ok (.iload_n 2, 1) := by decide +kernel
theorem k29_39 : decode (mB 29) 39 = .ok (.ineg, 1) := by decide +kernel
theorem k29_40 : decode (mB 29) 40 = .ok (.istore_n 1, 1) := by decide +kernel
theorem k29_41 : decode (mB 29) 41 = .ok (.iload 5, 2) := by decide +kernel
theorem k29_43 : decode (mB 29) 43 = .ok (.istore_n 2, 1) := by decide +kernel
theorem k29_44 : decode (mB 29) 44 = .ok (.iinc 3 1, 3) := by decide +kernel
theorem k29_47 : decode (mB 29) 47 = .ok (.goto (-45), 3) := by decide +kernel
theorem k29_50 : decode (mB 29) 50 = .ok (.return_, 1) := by decide +kernel
/-- Ground.tilt, loop at 2 -/
noncomputable def q29_2 (v0 : Nat) (v1 : Int32) (v2 : Int32) (v3 : Int32) (d4 : Option Value) (d5 : Option Value) (h : mHeap) : mR' := E 29 2 [some (.ref v0), some (.int v1), some (.int v2), some (.int v3), d4, d5] [] h
theorem q29_2_eq (v0 : Nat) (v1 : Int32) (v2 : Int32) (v3 : Int32) (d4 : Option Value) (d5 : Option Value) (h : mHeap) : q29_2 v0 v1 v2 v3 d4 d5 h = if 50 < (v3 : Int32) then (some (none, h)) else (if (v2 : Int32) ≤ 0 then (some (none, h)) else ((sI 172 [.int v1, .int v2] h).bind fun q1 => (vV 25 v0 [.int (-q1.1)] q1.2).bind fun h2 => (vV 28 v0 [] h2).bind fun h3 => q29_2 v0 (-v2) (v1 - (v2 * q1.1)) (v3 + 1) (some (.int q1.1)) (some (.int (v1 - (v2 * q1.1)))) h3)) := by
  unfold q29_2
  refine e_iload_n (pc' := 3) k29_2 rfl rfl ?_
  refine e_bipush (v := 50) (pc' := 5) k29_3 rfl rfl ?_
  refine e_icmpgt (t := 50) (pc' := 8) k29_5 rfl (by decide) (fun _ => ?_) (fun _ => ?_)
  · exact e_vret k29_50 (by decide +kernel)
  · refine e_iload_n (pc' := 9) k29_8 rfl rfl ?_
    refine e_ifle (t := 50) (pc' := 12) k29_9 rfl (by decide) (fun _ => ?_) (fun _ => ?_)
    · exact e_vret k29_50 (by decide +kernel)
    · refine e_iload_n (pc' := 13) k29_12 rfl rfl ?_
      refine e_iload_n (pc' := 14) k29_13 rfl rfl ?_
      refine e_sI (j' := 172) (as := [.int v1, .int v2]) (rest := []) (pc' := 17) k29_14 rfl (show mCk 29 0 52 172 2 = true by decide +kernel) (Or.inl (by decide +kernel)) rfl (Nat.le_of_ble_eq_true rfl) (show 2 ≤ mL 172 by decide +kernel) (fun q1 => ?_)
      refine e_istore (pc' := 19) k29_17 rfl rfl ?_
      refine e_aload_n (pc' := 20) k29_19 rfl rfl ?_
      refine e_iload (pc' := 22) k29_20 rfl rfl ?_
      refine e_ineg (pc' := 23) k29_22 rfl ?_
      refine e_vV (j' := 25) (as := [.int (-q1.1)]) (rest := []) (pc' := 26) k29_23 rfl (show mCk 29 1 58 25 1 = true by decide +kernel) (by decide +kernel) rfl (Nat.le_of_ble_eq_true rfl) (show 2 ≤ mL 25 by decide +kernel) (fun h2 => ?_)
      refine e_iload_n (pc' := 27) k29_26 rfl rfl ?_
      refine e_iload_n (pc' := 28) k29_27 rfl rfl ?_
      refine e_iload (pc' := 30) k29_28 rfl rfl ?_
      refine e_imul (pc' := 31) k29_30 rfl ?_
      refine e_isub (pc' := 32) k29_31 rfl ?_
      refine e_istore (pc' := 34) k29_32 rfl rfl ?_
      refine e_aload_n (pc' := 35) k29_34 rfl rfl ?_
      refine e_vV (j' := 28) (as := []) (rest := []) (pc' := 38) k29_35 rfl (show mCk 29 1 62 28 0 = true by decide +kernel) (by decide +kernel) rfl (Nat.le_of_ble_eq_true rfl) (show 1 ≤ mL 28 by decide +kernel) (fun h3 => ?_)
      refine e_iload_n (pc' := 39) k29_38 rfl rfl ?_
      refine e_ineg (pc' := 40) k29_39 rfl ?_
      refine e_istore_n (pc' := 41) k29_40 rfl rfl ?_
      refine e_iload (pc' := 43) k29_41 rfl rfl ?_
      refine e_istore_n (pc' := 44) k29_43 rfl rfl ?_
      refine e_iinc (c := 1) (pc' := 47) k29_44 rfl rfl rfl rfl ?_
      refine e_goto (pc' := 2) k29_47 (by decide) ?_
      rfl
/-- Ground.tilt(II)V -/
theorem F29_eq (v0 : Nat) (v1 : Int32) (v2 : Int32) (h : mHeap) : F 29 [.ref v0, .int v1, .int v2] h = q29_2 v0 v1 v2 0 none none h := by
  show D 29 0 (mEnt 29 [.ref v0, .int v1, .int v2]) [] h 0 0 = _
  rw [show mEnt 29 [.ref v0, .int v1, .int v2] = [some (.ref v0), some (.int v1), some (.int v2), none, none, none] from rfl]
  refine e_iconst (v := 0) (pc' := 1) k29_0 rfl rfl ?_
  refine e_istore_n (pc' := 2) k29_1 rfl rfl ?_
  rfl
theorem k30_0 : decode (mB 30) 0 = .ok (.aload_n 0, 1) := by decide +kernel
theorem k30_1 : decode (mB 30) 1 = .ok (.getfield 15, 3) := by decide +kernel
theorem k30_4 : decode (mB 30) 4 = .ok (.iload_n 1, 1) := by decide +kernel
theorem k30_5 : decode (mB 30) 5 = .ok (.iaload, 1) := by decide +kernel
theorem k30_6 : decode (mB 30) 6 = .ok (.istore_n 2, 1) := by decide +kernel
theorem k30_7 : decode (mB 30) 7 = .ok (.iconst 1, 1) := by decide +kernel
theorem k30_8 : decode (mB 30) 8 = .ok (.istore_n 3, 1) := by decide +kernel
theorem k30_9 : decode (mB 30) 9 = .ok (.iload_n 3, 1) := by decide +kernel
theorem k30_10 : decode (mB 30) 10 = .ok (.aload_n 0, 1) := by decide +kernel
theorem k30_11 : decode (mB 30) 11 = .ok (.getfield 9, 3) := by decide +kernel
theorem k30_14 : decode (mB 30) 14 = .ok (.if_icmp .ge 21, 3) := by decide +kernel
theorem k30_17 : decode (mB 30) 17 = .ok (.iload_n 2, 1) := by decide +kernel
theorem k30_18 : decode (mB 30) 18 = .ok (.iload_n 1, 1) := by decide +kernel
theorem k30_19 : decode (mB 30) 19 = .ok (.if_icmp .eq 16, 3) := by decide +kernel
theorem k30_22 : decode (mB 30) 22 = .ok (.aload_n 0, 1) := by decide +kernel
theorem k30_23 : decode (mB 30) 23 = .ok (.getfield 15, 3) := by decide +kernel
theorem k30_26 : decode (mB 30) 26 = .ok (.iload_n 2, 1) := by decide +kernel
theorem k30_27 : decode (mB 30) 27 = .ok (.iaload, 1) := by decide +kernel
theorem k30_28 : decode (mB 30) 28 = .ok (.istore_n 2, 1) := by decide +kernel
theorem k30_29 : decode (mB 30) 29 = .ok (.iinc 3 1, 3) := by decide +kernel
theorem k30_32 : decode (mB 30) 32 = .ok (.goto (-23), 3) := by decide +kernel
theorem k30_35 : decode (mB 30) 35 = .ok (.iload_n 3, 1) := by decide +kernel
theorem k30_36 : decode (mB 30) 36 = .ok (.ireturn, 1) := by decide +kernel
/-- Ground.ringLength, loop at 9 -/
noncomputable def q30_9 (v0 : Nat) (v1 : Int32) (v2 : Int32) (v3 : Int32) (h : mHeap) : mR' := E 30 9 [some (.ref v0), some (.int v1), some (.int v2), some (.int v3)] [] h
theorem q30_9_eq (v0 : Nat) (v1 : Int32) (v2 : Int32) (v3 : Int32) (h : mHeap) : q30_9 v0 v1 v2 v3 h = (gI h v0 3 0).bind fun x1 => if x1 ≤ (v3 : Int32) then (some (some (.int v3), h)) else (if (v2 : Int32) = v1 then (some (some (.int v3), h)) else ((gR h v0 3 1).bind fun x2 => (cAldI false h x2 v2).bind fun x3 => q30_9 v0 v1 x3 (v3 + 1) h)) := by
  unfold q30_9
  refine e_iload_n (pc' := 10) k30_9 rfl rfl ?_
  refine e_aload_n (pc' := 11) k30_10 rfl rfl ?_
  refine e_getI (pc' := 14) k30_11 rfl (ci := 3) (k := 0) (by decide +kernel) (by decide +kernel) (fun x1 => ?_)
  refine e_icmpge (t := 35) (pc' := 17) k30_14 rfl (by decide) (fun _ => ?_) (fun _ => ?_)
  · refine e_iload_n (pc' := 36) k30_35 rfl rfl ?_
    exact e_iret k30_36 (by decide +kernel)
  · refine e_iload_n (pc' := 18) k30_17 rfl rfl ?_
    refine e_iload_n (pc' := 19) k30_18 rfl rfl ?_
    refine e_icmpeq (t := 35) (pc' := 22) k30_19 rfl (by decide) (fun _ => ?_) (fun _ => ?_)
    · refine e_iload_n (pc' := 36) k30_35 rfl rfl ?_
      exact e_iret k30_36 (by decide +kernel)
    · refine e_aload_n (pc' := 23) k30_22 rfl rfl ?_
      refine e_getR (pc' := 26) k30_23 rfl (ci := 3) (k := 1) (by decide +kernel) (by decide +kernel) (fun x2 => ?_)
      refine e_iload_n (pc' := 27) k30_26 rfl rfl ?_
      refine e_iald (pc' := 28) k30_27 rfl (lw := false) rfl (fun x3 => ?_)
      refine e_istore_n (pc' := 29) k30_28 rfl rfl ?_
      refine e_iinc (c := 1) (pc' := 32) k30_29 rfl rfl rfl rfl ?_
      refine e_goto (pc' := 9) k30_32 (by decide) ?_
      rfl
/-- Ground.ringLength(I)I -/
theorem F30_eq (v0 : Nat) (v1 : Int32) (h : mHeap) : F 30 [.ref v0, .int v1] h = (gR h v0 3 1).bind fun x1 => (cAldI false h x1 v1).bind fun x2 => q30_9 v0 v1 x2 1 h := by
  show D 30 0 (mEnt 30 [.ref v0, .int v1]) [] h 0 0 = _
  rw [show mEnt 30 [.ref v0, .int v1] = [some (.ref v0), some (.int v1), none, none] from rfl]
  refine e_aload_n (pc' := 1) k30_0 rfl rfl ?_
  refine e_getR (pc' := 4) k30_1 rfl (ci := 3) (k := 1) (by decide +kernel) (by decide +kernel) (fun x1 => ?_)
  refine e_iload_n (pc' := 5) k30_4 rfl rfl ?_
  refine e_iald (pc' := 6) k30_5 rfl (lw := false) rfl (fun x2 => ?_)
  refine e_istore_n (pc' := 7) k30_6 rfl rfl ?_
  refine e_iconst (v := 1) (pc' := 8) k30_7 rfl rfl ?_
  refine e_istore_n (pc' := 9) k30_8 rfl rfl ?_
  rfl
theorem k31_0 : decode (mB 31) 0 = .ok (.aload_n 0, 1) := by decide +kernel
theorem k31_1 : decode (mB 31) 1 = .ok (.getfield 25, 3) := by decide +kernel
theorem k31_4 : decode (mB 31) 4 = .ok (.aload_n 0, 1) := by decide +kernel
theorem k31_5 : decode (mB 31) 5 = .ok (.getfield 22, 3) := by decide +kernel
theorem k31_8 : decode (mB 31) 8 = .ok (.aload_n 0, 1) := by decide +kernel
theorem k31_9 : decode (mB 31) 9 = .ok (.getfield 19, 3) := by decide +kernel
theorem k31_12 : decode (mB 31) 12 = .ok (.aload_n 0, 1) := by decide +kernel
theorem k31_13 : decode (mB 31) 13 = .ok (.getfield 15, 3) := by decide +kernel
theorem k31_16 : decode (mB 31) 16 = .ok (.iload_n 1, 1) := by decide +kernel
theorem k31_17 : decode (mB 31) 17 = .ok (.iaload, 1) := by decide +kernel
theorem k31_18 : decode (mB 31) 18 = .ok (.iaload, 1) := by decide +kernel
theorem k31_19 : decode (mB 31) 19 = .ok (.iaload, 1) := by decide +kernel
theorem k31_20 : decode (mB 31) 20 = .ok (.iaload, 1) := by decide +kernel
theorem k31_21 : decode (mB 31) 21 = .ok (.ireturn, 1) := by decide +kernel
/-- Ground.aroundCorner(I)I -/
theorem F31_eq (v0 : Nat) (v1 : Int32) (h : mHeap) : F 31 [.ref v0, .int v1] h = (gR h v0 3 4).bind fun x1 => (gR h v0 3 3).bind fun x2 => (gR h v0 3 2).bind fun x3 => (gR h v0 3 1).bind fun x4 => (cAldI false h x4 v1).bind fun x5 => (cAldI false h x3 x5).bind fun x6 => (cAldI false h x2 x6).bind fun x7 => (cAldI false h x1 x7).bind fun x8 => some (some (.int x8), h) := by
  show D 31 0 (mEnt 31 [.ref v0, .int v1]) [] h 0 0 = _
  rw [show mEnt 31 [.ref v0, .int v1] = [some (.ref v0), some (.int v1)] from rfl]
  refine e_aload_n (pc' := 1) k31_0 rfl rfl ?_
  refine e_getR (pc' := 4) k31_1 rfl (ci := 3) (k := 4) (by decide +kernel) (by decide +kernel) (fun x1 => ?_)
  refine e_aload_n (pc' := 5) k31_4 rfl rfl ?_
  refine e_getR (pc' := 8) k31_5 rfl (ci := 3) (k := 3) (by decide +kernel) (by decide +kernel) (fun x2 => ?_)
  refine e_aload_n (pc' := 9) k31_8 rfl rfl ?_
  refine e_getR (pc' := 12) k31_9 rfl (ci := 3) (k := 2) (by decide +kernel) (by decide +kernel) (fun x3 => ?_)
  refine e_aload_n (pc' := 13) k31_12 rfl rfl ?_
  refine e_getR (pc' := 16) k31_13 rfl (ci := 3) (k := 1) (by decide +kernel) (by decide +kernel) (fun x4 => ?_)
  refine e_iload_n (pc' := 17) k31_16 rfl rfl ?_
  refine e_iald (pc' := 18) k31_17 rfl (lw := false) rfl (fun x5 => ?_)
  refine e_iald (pc' := 19) k31_18 rfl (lw := false) rfl (fun x6 => ?_)
  refine e_iald (pc' := 20) k31_19 rfl (lw := false) rfl (fun x7 => ?_)
  refine e_iald (pc' := 21) k31_20 rfl (lw := false) rfl (fun x8 => ?_)
  exact e_iret k31_21 (by decide +kernel)
theorem k32_0 : decode (mB 32) 0 = .ok (.ldc2_w 65, 3) := by decide +kernel
theorem k32_3 : decode (mB 32) 3 = .ok (.lload_n 1, 1) := by decide +kernel
theorem k32_4 : decode (mB 32) 4 = .ok (.lmul, 1) := by decide +kernel
theorem k32_5 : decode (mB 32) 5 = .ok (.aload_n 0, 1) := by decide +kernel
theorem k32_6 : decode (mB 32) 6 = .ok (.getfield 9, 3) := by decide +kernel
theorem k32_9 : decode (mB 32) 9 = .ok (.i2l, 1) := by decide +kernel
theorem k32_10 : decode (mB 32) 10 = .ok (.ladd, 1) := by decide +kernel
theorem k32_11 : decode (mB 32) 11 = .ok (.lstore_n 1, 1) := by decide +kernel
theorem k32_12 : decode (mB 32) 12 = .ok (.iconst 0, 1) := by decide +kernel
theorem k32_13 : decode (mB 32) 13 = .ok (.istore_n 3, 1) := by decide +kernel
theorem k32_14 : decode (mB 32) 14 = .ok (.iload_n 3, 1) := by decide +kernel
theorem k32_15 : decode (mB 32) 15 = .ok (.aload_n 0, 1) := by decide +kernel
theorem k32_16 : decode (mB 32) 16 = .ok (.getfield 9, 3) := by decide +kernel
theorem k32_19 : decode (mB 32) 19 = .ok (.if_icmp .ge 23, 3) := by decide +kernel
theorem k32_22 : decode (mB 32) 22 = .ok (.ldc2_w 65, 3) := by decide +kernel
theorem k32_25 : decode (mB 32) 25 = .ok (.lload_n 1, 1) := by decide +kernel
theorem k32_26 : decode (mB 32) 26 = .ok (.lmul, 1) := by decide +kernel
theorem k32_27 : decode (mB 32) 27 = .ok (.aload_n 0, 1) := by decide +kernel
theorem k32_28 : decode (mB 32) 28 = .ok (.getfield 15, 3) := by decide +kernel
theorem k32_31 : decode (mB 32) 31 = .ok (.iload_n 3, 1) := by decide +kernel
theorem k32_32 : decode (mB 32) 32 = .ok (.iaload, 1) := by decide +kernel
theorem k32_33 : decode (mB 32) 33 = .ok (.i2l, 1) := by decide +kernel
theorem k32_34 : decode (mB 32) 34 = .ok (.ladd, 1) := by decide +kernel
theorem k32_35 : decode (mB 32) 35 = .ok (.lstore_n 1, 1) := by decide +kernel
theorem k32_36 : decode (mB 32) 36 = .ok (.iinc 3 1, 3) := by decide +kernel
theorem k32_39 : decode (mB 32) 39 = .ok (.goto (-25), 3) := by decide +kernel
theorem k32_42 : decode (mB 32) 42 = .ok (.iconst 0, 1) := by decide +kernel
theorem k32_43 : decode (mB 32) 43 = .ok (.istore_n 3, 1) := by decide +kernel
theorem k32_44 : decode (mB 32) 44 = .ok (.iload_n 3, 1) := by decide +kernel
theorem k32_45 : decode (mB 32) 45 = .ok (.aload_n 0, 1) := by decide +kernel
theorem k32_46 : decode (mB 32) 46 = .ok (.getfield 9, 3) := by decide +kernel
theorem k32_49 : decode (mB 32) 49 = .ok (.if_icmp .ge 23, 3) := by decide +kernel
theorem k32_52 : decode (mB 32) 52 = .ok (.ldc2_w 65, 3) := by decide +kernel
theorem k32_55 : decode (mB 32) 55 = .ok (.lload_n 1, 1) := by decide +kernel
theorem k32_56 : decode (mB 32) 56 = .ok (.lmul, 1) := by decide +kernel
theorem k32_57 : decode (mB 32) 57 = .ok (.aload_n 0, 1) := by decide +kernel
theorem k32_58 : decode (mB 32) 58 = .ok (.getfield 19, 3) := by decide +kernel
theorem k32_61 : decode (mB 32) 61 = .ok (.iload_n 3, 1) := by decide +kernel
theorem k32_62 : decode (mB 32) 62 = .ok (.iaload, 1) := by decide +kernel
theorem k32_63 : decode (mB 32) 63 = .ok (.i2l, 1) := by decide +kernel
theorem k32_64 : decode (mB 32) 64 = .ok (.ladd, 1) := by decide +kernel
theorem k32_65 : decode (mB 32) 65 = .ok (.lstore_n 1, 1) := by decide +kernel
theorem k32_66 : decode (mB 32) 66 = .ok (.iinc 3 1, 3) := by decide +kernel
theorem k32_69 : decode (mB 32) 69 = .ok (.goto (-25), 3) := by decide +kernel
theorem k32_72 : decode (mB 32) 72 = .ok (.lload_n 1, 1) := by decide +kernel
theorem k32_73 : decode (mB 32) 73 = .ok (.lreturn, 1) := by decide +kernel
/-- Ground.mixInto, loop at 14 -/
noncomputable def q32_14 (v0 : Nat) (v1 : Int64) (v3 : Int32) (h : mHeap) : mR' := E 32 14 [some (.ref v0), some (.long v1), none, some (.int v3)] [] h
/-- Ground.mixInto, loop at 44 -/
noncomputable def q32_44 (v0 : Nat) (v1 : Int64) (v3 : Int32) (h : mHeap) : mR' := E 32 44 [some (.ref v0), some (.long v1), none, some (.int v3)] [] h
theorem q32_14_eq (v0 : Nat) (v1 : Int64) (v3 : Int32) (h : mHeap) : q32_14 v0 v1 v3 h = (gI h v0 3 0).bind fun x1 => if x1 ≤ (v3 : Int32) then (q32_44 v0 v1 0 h) else ((gR h v0 3 1).bind fun x2 => (cAldI false h x2 v3).bind fun x3 => q32_14 v0 ((31 * v1) + (Int32.toInt64 x3)) (v3 + 1) h) := by
  unfold q32_14
  refine e_iload_n (pc' := 15) k32_14 rfl rfl ?_
  refine e_aload_n (pc' := 16) k32_15 rfl rfl ?_
  refine e_getI (pc' := 19) k32_16 rfl (ci := 3) (k := 0) (by decide +kernel) (by decide +kernel) (fun x1 => ?_)
  refine e_icmpge (t := 42) (pc' := 22) k32_19 rfl (by decide) (fun _ => ?_) (fun _ => ?_)
  · refine e_iconst (v := 0) (pc' := 43) k32_42 rfl rfl ?_
    refine e_istore_n (pc' := 44) k32_43 rfl rfl ?_
    rfl
  · refine e_ldc2 (v := 31) (pc' := 25) k32_22 rfl (by decide +kernel) ?_
    refine e_lload_n (pc' := 26) k32_25 rfl rfl ?_
    refine e_lmul (pc' := 27) k32_26 rfl ?_
    refine e_aload_n (pc' := 28) k32_27 rfl rfl ?_
    refine e_getR (pc' := 31) k32_28 rfl (ci := 3) (k := 1) (by decide +kernel) (by decide +kernel) (fun x2 => ?_)
    refine e_iload_n (pc' := 32) k32_31 rfl rfl ?_
    refine e_iald (pc' := 33) k32_32 rfl (lw := false) rfl (fun x3 => ?_)
    refine e_i2l (pc' := 34) k32_33 rfl ?_
    refine e_ladd (pc' := 35) k32_34 rfl ?_
    refine e_lstore_n (pc' := 36) k32_35 rfl rfl ?_
    refine e_iinc (c := 1) (pc' := 39) k32_36 rfl rfl rfl rfl ?_
    refine e_goto (pc' := 14) k32_39 (by decide) ?_
    rfl
theorem q32_44_eq (v0 : Nat) (v1 : Int64) (v3 : Int32) (h : mHeap) : q32_44 v0 v1 v3 h = (gI h v0 3 0).bind fun x1 => if x1 ≤ (v3 : Int32) then (some (some (.long v1), h)) else ((gR h v0 3 2).bind fun x2 => (cAldI false h x2 v3).bind fun x3 => q32_44 v0 ((31 * v1) + (Int32.toInt64 x3)) (v3 + 1) h) := by
  unfold q32_44
  refine e_iload_n (pc' := 45) k32_44 rfl rfl ?_
  refine e_aload_n (pc' := 46) k32_45 rfl rfl ?_
  refine e_getI (pc' := 49) k32_46 rfl (ci := 3) (k := 0) (by decide +kernel) (by decide +kernel) (fun x1 => ?_)
  refine e_icmpge (t := 72) (pc' := 52) k32_49 rfl (by decide) (fun _ => ?_) (fun _ => ?_)
  · refine e_lload_n (pc' := 73) k32_72 rfl rfl ?_
    exact e_lret k32_73 (by decide +kernel)
  · refine e_ldc2 (v := 31) (pc' := 55) k32_52 rfl (by decide +kernel) ?_
    refine e_lload_n (pc' := 56) k32_55 rfl rfl ?_
    refine e_lmul (pc' := 57) k32_56 rfl ?_
    refine e_aload_n (pc' := 58) k32_57 rfl rfl ?_
    refine e_getR (pc' := 61) k32_58 rfl (ci := 3) (k := 2) (by decide +kernel) (by decide +kernel) (fun x2 => ?_)
    refine e_iload_n (pc' := 62) k32_61 rfl rfl ?_
    refine e_iald (pc' := 63) k32_62 rfl (lw := false) rfl (fun x3 => ?_)
    refine e_i2l (pc' := 64) k32_63 rfl ?_
    refine e_ladd (pc' := 65) k32_64 rfl ?_
    refine e_lstore_n (pc' := 66) k32_65 rfl rfl ?_
    refine e_iinc (c := 1) (pc' := 69) k32_66 rfl rfl rfl rfl ?_
    refine e_goto (pc' := 44) k32_69 (by decide) ?_
    rfl
/-- Ground.mixInto(J)J -/
theorem F32_eq (v0 : Nat) (v1 : Int64) (h : mHeap) : F 32 [.ref v0, .long v1] h = (gI h v0 3 0).bind fun x1 => q32_14 v0 ((31 * v1) + (Int32.toInt64 x1)) 0 h := by
  show D 32 0 (mEnt 32 [.ref v0, .long v1]) [] h 0 0 = _
  rw [show mEnt 32 [.ref v0, .long v1] = [some (.ref v0), some (.long v1), none, none] from rfl]
  refine e_ldc2 (v := 31) (pc' := 3) k32_0 rfl (by decide +kernel) ?_
  refine e_lload_n (pc' := 4) k32_3 rfl rfl ?_
  refine e_lmul (pc' := 5) k32_4 rfl ?_
  refine e_aload_n (pc' := 6) k32_5 rfl rfl ?_
  refine e_getI (pc' := 9) k32_6 rfl (ci := 3) (k := 0) (by decide +kernel) (by decide +kernel) (fun x1 => ?_)
  refine e_i2l (pc' := 10) k32_9 rfl ?_
  refine e_ladd (pc' := 11) k32_10 rfl ?_
  refine e_lstore_n (pc' := 12) k32_11 rfl rfl ?_
  refine e_iconst (v := 0) (pc' := 13) k32_12 rfl rfl ?_
  refine e_istore_n (pc' := 14) k32_13 rfl rfl ?_
  rfl
theorem k34_0 : decode (mB 34) 0 = .ok (.aload_n 0, 1) := by decide +kernel
theorem k34_1 : decode (mB 34) 1 = .ok (.ldc2_w 20, 3) := by decide +kernel
theorem k34_4 : decode (mB 34) 4 = .ok (.putfield 22, 3) := by decide +kernel
theorem k34_7 : decode (mB 34) 7 = .ok (.aload_n 0, 1) := by decide +kernel
theorem k34_8 : decode (mB 34) 8 = .ok (.iconst 0, 1) := by decide +kernel
theorem k34_9 : decode (mB 34) 9 = .ok (.putfield 26, 3) := by decide +kernel
theorem k34_12 : decode (mB 34) 12 = .ok (.iconst 0, 1) := by decide +kernel
theorem k34_13 : decode (mB 34) 13 = .ok (.istore_n 2, 1) := by decide +kernel
theorem k34_14 : decode (mB 34) 14 = .ok (.iload_n 2, 1) := by decide +kernel
theorem k34_15 : decode (mB 34) 15 = .ok (.aload_n 1, 1) := by decide +kernel
theorem k34_16 : decode (mB 34) 16 = .ok (.getfield 30, 3) := by decide +kernel
theorem k34_19 : decode (mB 34) 19 = .ok (.if_icmp .ge 54, 3) := by decide +kernel
theorem k34_22 : decode (mB 34) 22 = .ok (.aload_n 0, 1) := by decide +kernel
theorem k34_23 : decode (mB 34) 23 = .ok (.aload_n 1, 1) := by decide +kernel
theorem k34_24 : decode (mB 34) 24 = .ok (.iload_n 2, 1) := by decide +kernel
theorem k34_25 : decode (mB 34) 25 = .ok (.invokevirtual 35, 3) := by decide +kernel
theorem k34_28 : decode (mB 34) 28 = .ok (.lstore_n 3, 1) := by decide +kernel
theorem k34_29 : decode (mB 34) 29 = .ok (.lload_n 3, 1) := by decide +kernel
theorem k34_30 : decode (mB 34) 30 = .ok (.aload_n 0, 1) := by decide +kernel
theorem k34_31 : decode (mB 34) 31 = .ok (.getfield 22, 3) := by decide +kernel
theorem k34_34 : decode (mB 34) 34 = .ok (.lcmp, 1) := by decide +kernel
theorem k34_35 : decode (mB 34) 35 = .ok (.ifCond .ge 13, 3) := by decide +kernel
theorem k34_38 : decode (mB 34) 38 = .ok (.aload_n 0, 1) := by decide +kernel
theorem k34_39 : decode (mB 34) 39 = .ok (.lload_n 3, 1) := by decide +kernel
theorem k34_40 : decode (mB 34) 40 = .ok (.putfield 22, 3) := by decide +kernel
theorem k34_43 : decode (mB 34) 43 = .ok (.aload_n 0, 1) := by decide +kernel
theorem k34_44 : decode (mB 34) 44 = .ok (.iconst 0, 1) := by decide +kernel
theorem k34_45 : decode (mB 34) 45 = .ok (.putfield 26, 3) := by decide +kernel
theorem k34_48 : decode (mB 34) 48 = .ok (.lload_n 3, 1) := by decide +kernel
theorem k34_49 : decode (mB 34) 49 = .ok (.aload_n 0, 1) := by decide +kernel
theorem k34_50 : decode (mB 34) 50 = .ok (.getfield 22, 3) := by decide +kernel
theorem k34_53 : decode (mB 34) 53 = .ok (.lcmp, 1) := by decide +kernel
theorem k34_54 : decode (mB 34) 54 = .ok (.ifCond .ne 13, 3) := by decide +kernel
theorem k34_57 : decode (mB 34) 57 = .ok (.aload_n 0, 1) := by decide +kernel
theorem k34_58 : decode (mB 34) 58 = .ok (.dup, 1) := by decide +kernel
theorem k34_59 : decode (mB 34) 59 = .ok (.getfield 26, 3) := by decide +kernel
theorem k34_62 : decode (mB 34) 62 = .ok (.iconst 1, 1) := by decide +kernel
theorem k34_63 : decode (mB 34) 63 = .ok (.iadd, 1) := by decide +kernel
theorem k34_64 : decode (mB 34) 64 = .ok (.putfield 26, 3) := by decide +kernel
theorem k34_67 : decode (mB 34) 67 = .ok (.iinc 2 1, 3) := by decide +kernel
theorem k34_70 : decode (mB 34) 70 = .ok (.goto (-56), 3) := by decide +kernel
theorem k34_73 : decode (mB 34) 73 = .ok (.return_, 1) := by decide +kernel
/-- Naming.look, loop at 14 -/
noncomputable def q34_14 (v0 : Nat) (v1 : Nat) (v2 : Int32) (d3 : Option Value) (d4 : Option Value) (h : mHeap) : mR' := E 34 14 [some (.ref v0), some (.ref v1), some (.int v2), d3, d4] [] h
theorem q34_14_eq (v0 : Nat) (v1 : Nat) (v2 : Int32) (d3 : Option Value) (d4 : Option Value) (h : mHeap) : q34_14 v0 v1 v2 d3 d4 h = (gI h v1 3 0).bind fun x1 => if x1 ≤ (v2 : Int32) then (some (none, h)) else ((vL 35 v0 [.ref v1, .int v2] h).bind fun q2 => (gL q2.2 v0 4 3).bind fun x3 => if 0 ≤ ((lg_cmp q2.1 x3) : Int32) then ((gL q2.2 v0 4 3).bind fun x4 => if ¬ ((lg_cmp q2.1 x4) : Int32) = 0 then (q34_14 v0 v1 (v2 + 1) (some (.long q2.1)) none q2.2) else ((gI q2.2 v0 4 4).bind fun x5 => (cPut q2.2 v0 4 4 (.int (x5 + 1))).bind fun h6 => q34_14 v0 v1 (v2 + 1) (some (.long q2.1)) none h6)) else ((cPut q2.2 v0 4 3 (.long q2.1)).bind fun h7 => (cPut h7 v0 4 4 (.int 0)).bind fun h8 => (gL h8 v0 4 3).bind fun x9 => if ¬ ((lg_cmp q2.1 x9) : Int32) = 0 then (q34_14 v0 v1 (v2 + 1) (some (.long q2.1)) none h8) else ((gI h8 v0 4 4).bind fun x10 => (cPut h8 v0 4 4 (.int (x10 + 1))).bind fun h11 => q34_14 v0 v1 (v2 + 1) (some (.long q2.1)) none h11))) := by
  unfold q34_14
  refine e_iload_n (pc' := 15) k34_14 rfl rfl ?_
  refine e_aload_n (pc' := 16) k34_15 rfl rfl ?_
  refine e_getI (pc' := 19) k34_16 rfl (ci := 3) (k := 0) (by decide +kernel) (by decide +kernel) (fun x1 => ?_)
  refine e_icmpge (t := 73) (pc' := 22) k34_19 rfl (by decide) (fun _ => ?_) (fun _ => ?_)
  · exact e_vret k34_73 (by decide +kernel)
  · refine e_aload_n (pc' := 23) k34_22 rfl rfl ?_
    refine e_aload_n (pc' := 24) k34_23 rfl rfl ?_
    refine e_iload_n (pc' := 25) k34_24 rfl rfl ?_
    refine e_vL (j' := 35) (as := [.ref v1, .int v2]) (rest := []) (pc' := 28) k34_25 rfl (show mCk 34 1 35 35 2 = true by decide +kernel) (by decide +kernel) rfl (Nat.le_of_ble_eq_true rfl) (show 3 ≤ mL 35 by decide +kernel) (fun q2 => ?_)
    refine e_lstore_n (pc' := 29) k34_28 rfl rfl ?_
    refine e_lload_n (pc' := 30) k34_29 rfl rfl ?_
    refine e_aload_n (pc' := 31) k34_30 rfl rfl ?_
    refine e_getL (pc' := 34) k34_31 rfl (ci := 4) (k := 3) (by decide +kernel) (by decide +kernel) (fun x3 => ?_)
    refine e_lcmp (pc' := 35) k34_34 rfl ?_
    refine e_ifge (t := 48) (pc' := 38) k34_35 rfl (by decide) (fun _ => ?_) (fun _ => ?_)
    · refine e_lload_n (pc' := 49) k34_48 rfl rfl ?_
      refine e_aload_n (pc' := 50) k34_49 rfl rfl ?_
      refine e_getL (pc' := 53) k34_50 rfl (ci := 4) (k := 3) (by decide +kernel) (by decide +kernel) (fun x4 => ?_)
      refine e_lcmp (pc' := 54) k34_53 rfl ?_
      refine e_ifne (t := 67) (pc' := 57) k34_54 rfl (by decide) (fun _ => ?_) (fun _ => ?_)
      · refine e_iinc (c := 1) (pc' := 70) k34_67 rfl rfl rfl rfl ?_
        refine e_goto (pc' := 14) k34_70 (by decide) ?_
        rfl
      · refine e_aload_n (pc' := 58) k34_57 rfl rfl ?_
        refine e_dup (pc' := 59) k34_58 rfl rfl ?_
        refine e_getI (pc' := 62) k34_59 rfl (ci := 4) (k := 4) (by decide +kernel) (by decide +kernel) (fun x5 => ?_)
        refine e_iconst (v := 1) (pc' := 63) k34_62 rfl rfl ?_
        refine e_iadd (pc' := 64) k34_63 rfl ?_
        refine e_put (pc' := 67) k34_64 rfl (ci := 4) (k := 4) (by decide +kernel) (by decide +kernel) rfl (fun h6 => ?_)
        refine e_iinc (c := 1) (pc' := 70) k34_67 rfl rfl rfl rfl ?_
        refine e_goto (pc' := 14) k34_70 (by decide) ?_
        rfl
    · refine e_aload_n (pc' := 39) k34_38 rfl rfl ?_
      refine e_lload_n (pc' := 40) k34_39 rfl rfl ?_
      refine e_put (pc' := 43) k34_40 rfl (ci := 4) (k := 3) (by decide +kernel) (by decide +kernel) rfl (fun h7 => ?_)
      refine e_aload_n (pc' := 44) k34_43 rfl rfl ?_
      refine e_iconst (v := 0) (pc' := 45) k34_44 rfl rfl ?_
      refine e_put (pc' := 48) k34_45 rfl (ci := 4) (k := 4) (by decide +kernel) (by decide +kernel) rfl (fun h8 => ?_)
      refine e_lload_n (pc' := 49) k34_48 rfl rfl ?_
      refine e_aload_n (pc' := 50) k34_49 rfl rfl ?_
      refine e_getL (pc' := 53) k34_50 rfl (ci := 4) (k := 3) (by decide +kernel) (by decide +kernel) (fun x9 => ?_)
      refine e_lcmp (pc' := 54) k34_53 rfl ?_
      refine e_ifne (t := 67) (pc' := 57) k34_54 rfl (by decide) (fun _ => ?_) (fun _ => ?_)
      · refine e_iinc (c := 1) (pc' := 70) k34_67 rfl rfl rfl rfl ?_
        refine e_goto (pc' := 14) k34_70 (by decide) ?_
        rfl
      · refine e_aload_n (pc' := 58) k34_57 rfl rfl ?_
        refine e_dup (pc' := 59) k34_58 rfl rfl ?_
        refine e_getI (pc' := 62) k34_59 rfl (ci := 4) (k := 4) (by decide +kernel) (by decide +kernel) (fun x10 => ?_)
        refine e_iconst (v := 1) (pc' := 63) k34_62 rfl rfl ?_
        refine e_iadd (pc' := 64) k34_63 rfl ?_
        refine e_put (pc' := 67) k34_64 rfl (ci := 4) (k := 4) (by decide +kernel) (by decide +kernel) rfl (fun h11 => ?_)
        refine e_iinc (c := 1) (pc' := 70) k34_67 rfl rfl rfl rfl ?_
        refine e_goto (pc' := 14) k34_70 (by decide) ?_
        rfl
/-- Naming.look(LSquareGrounds$Ground;)V -/
theorem F34_eq (v0 : Nat) (v1 : Nat) (h : mHeap) : F 34 [.ref v0, .ref v1] h = (cPut h v0 4 3 (.long 9223372036854775807)).bind fun h1 => (cPut h1 v0 4 4 (.int 0)).bind fun h2 => q34_14 v0 v1 0 none none h2 := by
  show D 34 0 (mEnt 34 [.ref v0, .ref v1]) [] h 0 0 = _
  rw [show mEnt 34 [.ref v0, .ref v1] = [some (.ref v0), some (.ref v1), none, none, none] from rfl]
  refine e_aload_n (pc' := 1) k34_0 rfl rfl ?_
  refine e_ldc2 (v := 9223372036854775807) (pc' := 4) k34_1 rfl (by decide +kernel) ?_
  refine e_put (pc' := 7) k34_4 rfl (ci := 4) (k := 3) (by decide +kernel) (by decide +kernel) rfl (fun h1 => ?_)
  refine e_aload_n (pc' := 8) k34_7 rfl rfl ?_
  refine e_iconst (v := 0) (pc' := 9) k34_8 rfl rfl ?_
  refine e_put (pc' := 12) k34_9 rfl (ci := 4) (k := 4) (by decide +kernel) (by decide +kernel) rfl (fun h2 => ?_)
  refine e_iconst (v := 0) (pc' := 13) k34_12 rfl rfl ?_
  refine e_istore_n (pc' := 14) k34_13 rfl rfl ?_
  rfl
theorem k35_0 : decode (mB 35) 0 = .ok (.iconst 0, 1) := by decide +kernel
theorem k35_1 : decode (mB 35) 1 = .ok (.istore_n 3, 1) := by decide +kernel
theorem k35_2 : decode (mB 35) 2 = .ok (.iload_n 3, 1) := by decide +kernel
theorem k35_3 : decode (mB 35) 3 = .ok (.aload_n 1, 1) := by decide +kernel
theorem k35_4 : decode (mB 35) 4 = .ok (.getfield 30, 3) := by decide +kernel
theorem k35_7 : decode (mB 35) 7 = .ok (.if_icmp .ge 16, 3) := by decide +kernel
theorem k35_10 : decode (mB 35) 10 = .ok (.aload_n 0, 1) := by decide +kernel
theorem k35_11 : decode (mB 35) 11 = .ok (.getfield 9, 3) := by decide +kernel
theorem k35_14 : decode (mB 35) 14 = .ok (.iload_n 3, 1) := by decide +kernel
theorem k35_15 : decode (mB 35) 15 = .ok (.iconst (-1), 1) := by decide +kernel
theorem k35_16 : decode (mB 35) 16 = .ok (.iastore, 1) := by decide +kernel
theorem k35_17 : decode (mB 35) 17 = .ok (.iinc 3 1, 3) := by decide +kernel
theorem k35_20 : decode (mB 35) 20 = .ok (.goto (-18), 3) := by decide +kernel
theorem k35_23 : decode (mB 35) 23 = .ok (.aload_n 0, 1) := by decide +kernel
theorem k35_24 : decode (mB 35) 24 = .ok (.iconst 0, 1) := by decide +kernel
theorem k35_25 : decode (mB 35) 25 = .ok (.putfield 39, 3) := by decide +kernel
theorem k35_28 : decode (mB 35) 28 = .ok (.aload_n 0, 1) := by decide +kernel
theorem k35_29 : decode (mB 35) 29 = .ok (.iload_n 2, 1) := by decide +kernel
theorem k35_30 : decode (mB 35) 30 = .ok (.invokevirtual 42, 3) := by decide +kernel
theorem k35_33 : decode (mB 35) 33 = .ok (.i2l, 1) := by decide +kernel
theorem k35_34 : decode (mB 35) 34 = .ok (.lstore_n 3, 1) := by decide +kernel
theorem k35_35 : decode (mB 35) 35 = .ok (.lconst 0, 1) := by decide +kernel
theorem k35_36 : decode (mB 35) 36 = .ok (.lstore 5, 2) := by decide +kernel
theorem k35_38 : decode (mB 35) 38 = .ok (.iconst 0, 1) := by decide +kernel
theorem k35_39 : decode (mB 35) 39 = .ok (.istore 7, 2) := by decide +kernel
theorem k35_41 : decode (mB 35) 41 = .ok (.iload 7, 2) := by decide +kernel
theorem k35_43 : decode (mB 35) 43 = .ok (.aload_n 1, 1) := by decide +kernel
theorem k35_44 : decode (mB 35) 44 = .ok (.getfield 30, 3) := by decide +kernel
theorem k35_47 : decode (mB 35) 47 = .ok (.if_icmp .ge 54, 3) := by decide +kernel
theorem k35_50 : decode (mB 35) 50 = .ok (.aload_n 0, 1) := by decide +kernel
theorem k35_51 : decode (mB 35) 51 = .ok (.getfield 15, 3) := by decide +kernel
theorem k35_54 : decode (mB 35) 54 = .ok (.iload 7, 2) := by decide +kernel
theorem k35_56 : decode (mB 35) 56 = .ok (.iaload, 1) := by decide +kernel
theorem k35_57 : decode (mB 35) 57 = .ok (.istore 8, 2) := by decide +kernel
theorem k35_59 : decode (mB 35) 59 = .ok (.lload_n 3, 1) := by decide +kernel
theorem k35_60 : decode (mB 35) 60 = .ok (.iconst 3, 1) := by decide +kernel
theorem k35_61 : decode (mB 35) 61 = .ok (.lshl, 1) := by decide +kernel
theorem k35_62 : decode (mB 35) 62 = .ok (.aload_n 0, 1) := by decide +kernel
theorem k35_63 : decode (mB 35) 63 = .ok (.aload_n 1, 1) := by decide +kernel
theorem k35_64 : decode (mB 35) 64 = .ok (.getfield 46, 3) := by decide +kernel
theorem k35_67 : decode (mB 35) 67 = .ok (.iload 8, 2) := by decide +kernel
theorem k35_69 : decode (mB 35) 69 = .ok (.iaload, 1) := by decide +kernel
theorem k35_70 : decode (mB 35) 70 = .ok (.invokevirtual 42, 3) := by decide +kernel
theorem k35_73 : decode (mB 35) 73 = .ok (.i2l, 1) := by decide +kernel
theorem k35_74 : decode (mB 35) 74 = .ok (.lor, 1) := by decide +kernel
theorem k35_75 : decode (mB 35) 75 = .ok (.lstore_n 3, 1) := by decide +kernel
theorem k35_76 : decode (mB 35) 76 = .ok (.lload 5, 2) := by decide +kernel
theorem k35_78 : decode (mB 35) 78 = .ok (.iconst 3, 1) := by decide +kernel
theorem k35_79 : decode (mB 35) 79 = .ok (.lshl, 1) := by decide +kernel
theorem k35_80 : decode (mB 35) 80 = .ok (.aload_n 0, 1) := by decide +kernel
theorem k35_81 : decode (mB 35) 81 = .ok (.aload_n 1, 1) := by decide +kernel
theorem k35_82 : decode (mB 35) 82 = .ok (.getfield 49, 3) := by decide +kernel
theorem k35_85 : decode (mB 35) 85 = .ok (.iload 8, 2) := by decide +kernel
theorem k35_87 : decode (mB 35) 87 = .ok (.iaload, 1) := by decide +kernel
theorem k35_88 : decode (mB 35) 88 = .ok (.invokevirtual 42, 3) := by decide +kernel
theorem k35_91 : decode (mB 35) 91 = .ok (.i2l, 1) := by decide +kernel
theorem k35_92 : decode (mB 35) 92 = .ok (.lor, 1) := by decide +kernel
theorem k35_93 : decode (mB 35) 93 = .ok (.lstore 5, 2) := by decide +kernel
theorem k35_95 : decode (mB 35) 95 = .ok (.iinc 7 1, 3) := by decide +kernel
theorem k35_98 : decode (mB 35) 98 = .ok (.goto (-57), 3) := by decide +kernel
theorem k35_101 : decode (mB 35) 101 = .ok (.lload_n 3, 1) := by decide +kernel
theorem k35_102 : decode (mB 35) 102 = .ok (.iconst 3, 1) := by decide +kernel
theorem k35_103 : decode (mB 35) 103 = .ok (.aload_n 1, 1) := by decide +kernel
theorem k35_104 : decode (mB 35) 104 = .ok (.getfield 30, 3) := by decide +kernel
theorem k35_107 : decode (mB 35) 107 = .ok (.imul, 1) := by decide +kernel
theorem k35_108 : decode (mB 35) 108 = .ok (.lshl, 1) := by decide +kernel
theorem k35_109 : decode (mB 35) 109 = .ok (.lload 5, 2) := by decide +kernel
theorem k35_111 : decode (mB 35) 111 = .ok (.lor, 1) := by decide +kernel
theorem k35_112 : decode (mB 35) 112 = .ok (.lreturn, 1) := by decide +kernel
/-- Naming.rowFrom, loop at 2 -/
noncomputable def q35_2 (v0 : Nat) (v1 : Nat) (v2 : Int32) (v3 : Int32) (h : mHeap) : mR' := E 35 2 [some (.ref v0), some (.ref v1), some (.int v2), some (.int v3), none, none, none, none, none] [] h
/-- Naming.rowFrom, loop at 41 -/
noncomputable def q35_41 (v0 : Nat) (v1 : Nat) (v2 : Int32) (v3 : Int64) (v5 : Int64) (v7 : Int32) (d8 : Option Value) (h : mHeap) : mR' := E 35 41 [some (.ref v0), some (.ref v1), some (.int v2), some (.long v3), none, some (.long v5), none, some (.int v7), d8] [] h
theorem q35_2_eq (v0 : Nat) (v1 : Nat) (v2 : Int32) (v3 : Int32) (h : mHeap) : q35_2 v0 v1 v2 v3 h = (gI h v1 3 0).bind fun x1 => if x1 ≤ (v3 : Int32) then ((cPut h v0 4 2 (.int 0)).bind fun h2 => (vI 36 v0 [.int v2] h2).bind fun q3 => q35_41 v0 v1 v2 (Int32.toInt64 q3.1) 0 0 none q3.2) else ((gR h v0 4 0).bind fun x4 => (cAstI h x4 v3 (-1)).bind fun h5 => q35_2 v0 v1 v2 (v3 + 1) h5) := by
  unfold q35_2
  refine e_iload_n (pc' := 3) k35_2 rfl rfl ?_
  refine e_aload_n (pc' := 4) k35_3 rfl rfl ?_
  refine e_getI (pc' := 7) k35_4 rfl (ci := 3) (k := 0) (by decide +kernel) (by decide +kernel) (fun x1 => ?_)
  refine e_icmpge (t := 23) (pc' := 10) k35_7 rfl (by decide) (fun _ => ?_) (fun _ => ?_)
  · refine e_aload_n (pc' := 24) k35_23 rfl rfl ?_
    refine e_iconst (v := 0) (pc' := 25) k35_24 rfl rfl ?_
    refine e_put (pc' := 28) k35_25 rfl (ci := 4) (k := 2) (by decide +kernel) (by decide +kernel) rfl (fun h2 => ?_)
    refine e_aload_n (pc' := 29) k35_28 rfl rfl ?_
    refine e_iload_n (pc' := 30) k35_29 rfl rfl ?_
    refine e_vI (j' := 36) (as := [.int v2]) (rest := []) (pc' := 33) k35_30 rfl (show mCk 35 1 42 36 1 = true by decide +kernel) (Or.inl (by decide +kernel)) rfl (Nat.le_of_ble_eq_true rfl) (show 2 ≤ mL 36 by decide +kernel) (fun q3 => ?_)
    refine e_i2l (pc' := 34) k35_33 rfl ?_
    refine e_lstore_n (pc' := 35) k35_34 rfl rfl ?_
    refine e_lconst (v := 0) (pc' := 36) k35_35 rfl rfl ?_
    refine e_lstore (pc' := 38) k35_36 rfl rfl ?_
    refine e_iconst (v := 0) (pc' := 39) k35_38 rfl rfl ?_
    refine e_istore (pc' := 41) k35_39 rfl rfl ?_
    rfl
  · refine e_aload_n (pc' := 11) k35_10 rfl rfl ?_
    refine e_getR (pc' := 14) k35_11 rfl (ci := 4) (k := 0) (by decide +kernel) (by decide +kernel) (fun x4 => ?_)
    refine e_iload_n (pc' := 15) k35_14 rfl rfl ?_
    refine e_iconst (v := -1) (pc' := 16) k35_15 rfl rfl ?_
    refine e_iast (pc' := 17) k35_16 rfl (fun h5 => ?_)
    refine e_iinc (c := 1) (pc' := 20) k35_17 rfl rfl rfl rfl ?_
    refine e_goto (pc' := 2) k35_20 (by decide) ?_
    rfl
theorem q35_41_eq (v0 : Nat) (v1 : Nat) (v2 : Int32) (v3 : Int64) (v5 : Int64) (v7 : Int32) (d8 : Option Value) (h : mHeap) : q35_41 v0 v1 v2 v3 v5 v7 d8 h = (gI h v1 3 0).bind fun x1 => if x1 ≤ (v7 : Int32) then ((gI h v1 3 0).bind fun x2 => some (some (.long ((v3 <<< (Int32.toInt64 (3 * x2) &&& 63)) ||| v5)), h)) else ((gR h v0 4 1).bind fun x3 => (cAldI false h x3 v7).bind fun x4 => (gR h v1 3 1).bind fun x5 => (cAldI false h x5 x4).bind fun x6 => (vI 36 v0 [.int x6] h).bind fun q7 => (gR q7.2 v1 3 2).bind fun x8 => (cAldI false q7.2 x8 x4).bind fun x9 => (vI 36 v0 [.int x9] q7.2).bind fun q10 => q35_41 v0 v1 v2 ((v3 <<< (Int32.toInt64 3 &&& 63)) ||| (Int32.toInt64 q7.1)) ((v5 <<< (Int32.toInt64 3 &&& 63)) ||| (Int32.toInt64 q10.1)) (v7 + 1) (some (.int x4)) q10.2) := by
  unfold q35_41
  refine e_iload (pc' := 43) k35_41 rfl rfl ?_
  refine e_aload_n (pc' := 44) k35_43 rfl rfl ?_
  refine e_getI (pc' := 47) k35_44 rfl (ci := 3) (k := 0) (by decide +kernel) (by decide +kernel) (fun x1 => ?_)
  refine e_icmpge (t := 101) (pc' := 50) k35_47 rfl (by decide) (fun _ => ?_) (fun _ => ?_)
  · refine e_lload_n (pc' := 102) k35_101 rfl rfl ?_
    refine e_iconst (v := 3) (pc' := 103) k35_102 rfl rfl ?_
    refine e_aload_n (pc' := 104) k35_103 rfl rfl ?_
    refine e_getI (pc' := 107) k35_104 rfl (ci := 3) (k := 0) (by decide +kernel) (by decide +kernel) (fun x2 => ?_)
    refine e_imul (pc' := 108) k35_107 rfl ?_
    refine e_lshl (pc' := 109) k35_108 rfl ?_
    refine e_lload (pc' := 111) k35_109 rfl rfl ?_
    refine e_lor (pc' := 112) k35_111 rfl ?_
    exact e_lret k35_112 (by decide +kernel)
  · refine e_aload_n (pc' := 51) k35_50 rfl rfl ?_
    refine e_getR (pc' := 54) k35_51 rfl (ci := 4) (k := 1) (by decide +kernel) (by decide +kernel) (fun x3 => ?_)
    refine e_iload (pc' := 56) k35_54 rfl rfl ?_
    refine e_iald (pc' := 57) k35_56 rfl (lw := false) rfl (fun x4 => ?_)
    refine e_istore (pc' := 59) k35_57 rfl rfl ?_
    refine e_lload_n (pc' := 60) k35_59 rfl rfl ?_
    refine e_iconst (v := 3) (pc' := 61) k35_60 rfl rfl ?_
    refine e_lshl (pc' := 62) k35_61 rfl ?_
    refine e_aload_n (pc' := 63) k35_62 rfl rfl ?_
    refine e_aload_n (pc' := 64) k35_63 rfl rfl ?_
    refine e_getR (pc' := 67) k35_64 rfl (ci := 3) (k := 1) (by decide +kernel) (by decide +kernel) (fun x5 => ?_)
    refine e_iload (pc' := 69) k35_67 rfl rfl ?_
    refine e_iald (pc' := 70) k35_69 rfl (lw := false) rfl (fun x6 => ?_)
    refine e_vI (j' := 36) (as := [.int x6]) (rest := [.long (v3 <<< (Int32.toInt64 3 &&& 63))]) (pc' := 73) k35_70 rfl (show mCk 35 1 42 36 1 = true by decide +kernel) (Or.inl (by decide +kernel)) rfl (Nat.le_of_ble_eq_true rfl) (show 2 ≤ mL 36 by decide +kernel) (fun q7 => ?_)
    refine e_i2l (pc' := 74) k35_73 rfl ?_
    refine e_lor (pc' := 75) k35_74 rfl ?_
    refine e_lstore_n (pc' := 76) k35_75 rfl rfl ?_
    refine e_lload (pc' := 78) k35_76 rfl rfl ?_
    refine e_iconst (v := 3) (pc' := 79) k35_78 rfl rfl ?_
    refine e_lshl (pc' := 80) k35_79 rfl ?_
    refine e_aload_n (pc' := 81) k35_80 rfl rfl ?_
    refine e_aload_n (pc' := 82) k35_81 rfl rfl ?_
    refine e_getR (pc' := 85) k35_82 rfl (ci := 3) (k := 2) (by decide +kernel) (by decide +kernel) (fun x8 => ?_)
    refine e_iload (pc' := 87) k35_85 rfl rfl ?_
    refine e_iald (pc' := 88) k35_87 rfl (lw := false) rfl (fun x9 => ?_)
    refine e_vI (j' := 36) (as := [.int x9]) (rest := [.long (v5 <<< (Int32.toInt64 3 &&& 63))]) (pc' := 91) k35_88 rfl (show mCk 35 1 42 36 1 = true by decide +kernel) (Or.inl (by decide +kernel)) rfl (Nat.le_of_ble_eq_true rfl) (show 2 ≤ mL 36 by decide +kernel) (fun q10 => ?_)
    refine e_i2l (pc' := 92) k35_91 rfl ?_
    refine e_lor (pc' := 93) k35_92 rfl ?_
    refine e_lstore (pc' := 95) k35_93 rfl rfl ?_
    refine e_iinc (c := 1) (pc' := 98) k35_95 rfl rfl rfl rfl ?_
    refine e_goto (pc' := 41) k35_98 (by decide) ?_
    rfl
/-- Naming.rowFrom(LSquareGrounds$Ground;I)J -/
theorem F35_eq (v0 : Nat) (v1 : Nat) (v2 : Int32) (h : mHeap) : F 35 [.ref v0, .ref v1, .int v2] h = q35_2 v0 v1 v2 0 h := by
  show D 35 0 (mEnt 35 [.ref v0, .ref v1, .int v2]) [] h 0 0 = _
  rw [show mEnt 35 [.ref v0, .ref v1, .int v2] = [some (.ref v0), some (.ref v1), some (.int v2), none, none, none, none, none, none] from rfl]
  refine e_iconst (v := 0) (pc' := 1) k35_0 rfl rfl ?_
  refine e_istore_n (pc' := 2) k35_1 rfl rfl ?_
  rfl
theorem k36_0 : decode (mB 36) 0 = .ok (.aload_n 0, 1) := by decide +kernel
theorem k36_1 : decode (mB 36) 1 = .ok (.getfield 9, 3) := by decide +kernel
theorem k36_4 : decode (mB 36) 4 = .ok (.iload_n 1, 1) := by decide +kernel
theorem k36_5 : decode (mB 36) 5 = .ok (.iaload, 1) := by decide +kernel
theorem k36_6 : decode (mB 36) 6 = .ok (.ifCond .ge 33, 3) := by decide +kernel
theorem k36_9 : decode (mB 36) 9 = .ok (.aload_n 0, 1) := by decide +kernel
theorem k36_10 : decode (mB 36) 10 = .ok (.getfield 9, 3) := by decide +kernel
theorem k36_13 : decode (mB 36) 13 = .ok (.iload_n 1, 1) := by decide +kernel
theorem k36_14 : decode (mB 36) 14 = .ok (.aload_n 0, 1) := by decide +kernel
theorem k36_15 : decode (mB 36) 15 = .ok (.getfield 39, 3) := by decide +kernel
theorem k36_18 : decode (mB 36) 18 = .ok (.iastore, 1) := by decide +kernel
theorem k36_19 : decode (mB 36) 19 = .ok (.aload_n 0, 1) := by decide +kernel
theorem k36_20 : decode (mB 36) 20 = .ok (.getfield 15, 3) := by decide +kernel
theorem k36_23 : decode (mB 36) 23 = .ok (.aload_n 0, 1) := by decide +kernel
theorem k36_24 : decode (mB 36) 24 = .ok (.getfield 39, 3) := by decide +kernel
theorem k36_27 : decode (mB 36) 27 = .ok (.iload_n 1, 1) := by decide +kernel
theorem k36_28 : decode (mB 36) 28 = .ok (.iastore, 1) := by decide +kernel
theorem k36_29 : decode (mB 36) 29 = .ok (.aload_n 0, 1) := by decide +kernel
theorem k36_30 : decode (mB 36) 30 = .ok (.dup, 1) := by decide +kernel
theorem k36_31 : decode (mB 36) 31 = .ok (.getfield 39, 3) := by decide +kernel
theorem k36_34 : decode (mB 36) 34 = .ok (.iconst 1, 1) := by decide +kernel
theorem k36_35 : decode (mB 36) 35 = .ok (.iadd, 1) := by decide +kernel
theorem k36_36 : decode (mB 36) 36 = .ok (.putfield 39, 3) := by decide +kernel
theorem k36_39 : decode (mB 36) 39 = .ok (.aload_n 0, 1) := by decide +kernel
theorem k36_40 : decode (mB 36) 40 = .ok (.getfield 9, 3) := by decide +kernel
theorem k36_43 : decode (mB 36) 43 = .ok (.iload_n 1, 1) := by decide +kernel
theorem k36_44 : decode (mB 36) 44 = .ok (.iaload, 1) := by decide +kernel
theorem k36_45 : decode (mB 36) 45 = .ok (.ireturn, 1) := by decide +kernel
/-- Naming.number(I)I -/
theorem F36_eq (v0 : Nat) (v1 : Int32) (h : mHeap) : F 36 [.ref v0, .int v1] h = (gR h v0 4 0).bind fun x1 => (cAldI false h x1 v1).bind fun x2 => if 0 ≤ (x2 : Int32) then ((gR h v0 4 0).bind fun x3 => (cAldI false h x3 v1).bind fun x4 => some (some (.int x4), h)) else ((gR h v0 4 0).bind fun x5 => (gI h v0 4 2).bind fun x6 => (cAstI h x5 v1 x6).bind fun h7 => (gR h7 v0 4 1).bind fun x8 => (gI h7 v0 4 2).bind fun x9 => (cAstI h7 x8 x9 v1).bind fun h10 => (gI h10 v0 4 2).bind fun x11 => (cPut h10 v0 4 2 (.int (x11 + 1))).bind fun h12 => (gR h12 v0 4 0).bind fun x13 => (cAldI false h12 x13 v1).bind fun x14 => some (some (.int x14), h12)) := by
  show D 36 0 (mEnt 36 [.ref v0, .int v1]) [] h 0 0 = _
  rw [show mEnt 36 [.ref v0, .int v1] = [some (.ref v0), some (.int v1)] from rfl]
  refine e_aload_n (pc' := 1) k36_0 rfl rfl ?_
  refine e_getR (pc' := 4) k36_1 rfl (ci := 4) (k := 0) (by decide +kernel) (by decide +kernel) (fun x1 => ?_)
  refine e_iload_n (pc' := 5) k36_4 rfl rfl ?_
  refine e_iald (pc' := 6) k36_5 rfl (lw := false) rfl (fun x2 => ?_)
  refine e_ifge (t := 39) (pc' := 9) k36_6 rfl (by decide) (fun _ => ?_) (fun _ => ?_)
  · refine e_aload_n (pc' := 40) k36_39 rfl rfl ?_
    refine e_getR (pc' := 43) k36_40 rfl (ci := 4) (k := 0) (by decide +kernel) (by decide +kernel) (fun x3 => ?_)
    refine e_iload_n (pc' := 44) k36_43 rfl rfl ?_
    refine e_iald (pc' := 45) k36_44 rfl (lw := false) rfl (fun x4 => ?_)
    exact e_iret k36_45 (by decide +kernel)
  · refine e_aload_n (pc' := 10) k36_9 rfl rfl ?_
    refine e_getR (pc' := 13) k36_10 rfl (ci := 4) (k := 0) (by decide +kernel) (by decide +kernel) (fun x5 => ?_)
    refine e_iload_n (pc' := 14) k36_13 rfl rfl ?_
    refine e_aload_n (pc' := 15) k36_14 rfl rfl ?_
    refine e_getI (pc' := 18) k36_15 rfl (ci := 4) (k := 2) (by decide +kernel) (by decide +kernel) (fun x6 => ?_)
    refine e_iast (pc' := 19) k36_18 rfl (fun h7 => ?_)
    refine e_aload_n (pc' := 20) k36_19 rfl rfl ?_
    refine e_getR (pc' := 23) k36_20 rfl (ci := 4) (k := 1) (by decide +kernel) (by decide +kernel) (fun x8 => ?_)
    refine e_aload_n (pc' := 24) k36_23 rfl rfl ?_
    refine e_getI (pc' := 27) k36_24 rfl (ci := 4) (k := 2) (by decide +kernel) (by decide +kernel) (fun x9 => ?_)
    refine e_iload_n (pc' := 28) k36_27 rfl rfl ?_
    refine e_iast (pc' := 29) k36_28 rfl (fun h10 => ?_)
    refine e_aload_n (pc' := 30) k36_29 rfl rfl ?_
    refine e_dup (pc' := 31) k36_30 rfl rfl ?_
    refine e_getI (pc' := 34) k36_31 rfl (ci := 4) (k := 2) (by decide +kernel) (by decide +kernel) (fun x11 => ?_)
    refine e_iconst (v := 1) (pc' := 35) k36_34 rfl rfl ?_
    refine e_iadd (pc' := 36) k36_35 rfl ?_
    refine e_put (pc' := 39) k36_36 rfl (ci := 4) (k := 2) (by decide +kernel) (by decide +kernel) rfl (fun h12 => ?_)
    refine e_aload_n (pc' := 40) k36_39 rfl rfl ?_
    refine e_getR (pc' := 43) k36_40 rfl (ci := 4) (k := 0) (by decide +kernel) (by decide +kernel) (fun x13 => ?_)
    refine e_iload_n (pc' := 44) k36_43 rfl rfl ?_
    refine e_iald (pc' := 45) k36_44 rfl (lw := false) rfl (fun x14 => ?_)
    exact e_iret k36_45 (by decide +kernel)
theorem k38_0 : decode (mB 38) 0 = .ok (.aload_n 0, 1) := by decide +kernel
theorem k38_1 : decode (mB 38) 1 = .ok (.getfield 32, 3) := by decide +kernel
theorem k38_4 : decode (mB 38) 4 = .ok (.aload_n 1, 1) := by decide +kernel
theorem k38_5 : decode (mB 38) 5 = .ok (.invokevirtual 36, 3) := by decide +kernel
theorem k38_8 : decode (mB 38) 8 = .ok (.aload_n 0, 1) := by decide +kernel
theorem k38_9 : decode (mB 38) 9 = .ok (.getfield 40, 3) := by decide +kernel
theorem k38_12 : decode (mB 38) 12 = .ok (.aload_n 1, 1) := by decide +kernel
theorem k38_13 : decode (mB 38) 13 = .ok (.getfield 44, 3) := by decide +kernel
theorem k38_16 : decode (mB 38) 16 = .ok (.if_icmp .ne 28, 3) := by decide +kernel
theorem k38_19 : decode (mB 38) 19 = .ok (.aload_n 0, 1) := by decide +kernel
theorem k38_20 : decode (mB 38) 20 = .ok (.getfield 45, 3) := by decide +kernel
theorem k38_23 : decode (mB 38) 23 = .ok (.ifCond .le 21, 3) := by decide +kernel
theorem k38_26 : decode (mB 38) 26 = .ok (.aload_n 0, 1) := by decide +kernel
theorem k38_27 : decode (mB 38) 27 = .ok (.getfield 9, 3) := by decide +kernel
theorem k38_30 : decode (mB 38) 30 = .ok (.iconst 0, 1) := by decide +kernel
theorem k38_31 : decode (mB 38) 31 = .ok (.laload, 1) := by decide +kernel
theorem k38_32 : decode (mB 38) 32 = .ok (.aload_n 0, 1) := by decide +kernel
theorem k38_33 : decode (mB 38) 33 = .ok (.getfield 32, 3) := by decide +kernel
theorem k38_36 : decode (mB 38) 36 = .ok (.getfield 48, 3) := by decide +kernel
theorem k38_39 : decode (mB 38) 39 = .ok (.lcmp, 1) := by decide +kernel
theorem k38_40 : decode (mB 38) 40 = .ok (.ifCond .ne 4, 3) := by decide +kernel
theorem k38_43 : decode (mB 38) 43 = .ok (.return_, 1) := by decide +kernel
theorem k38_44 : decode (mB 38) 44 = .ok (.aload_n 0, 1) := by decide +kernel
theorem k38_45 : decode (mB 38) 45 = .ok (.aload_n 1, 1) := by decide +kernel
theorem k38_46 : decode (mB 38) 46 = .ok (.getfield 44, 3) := by decide +kernel
theorem k38_49 : decode (mB 38) 49 = .ok (.putfield 40, 3) := by decide +kernel
theorem k38_52 : decode (mB 38) 52 = .ok (.aload_n 0, 1) := by decide +kernel
theorem k38_53 : decode (mB 38) 53 = .ok (.getfield 9, 3) := by decide +kernel
theorem k38_56 : decode (mB 38) 56 = .ok (.iconst 0, 1) := by decide +kernel
theorem k38_57 : decode (mB 38) 57 = .ok (.aload_n 0, 1) := by decide +kernel
theorem k38_58 : decode (mB 38) 58 = .ok (.getfield 32, 3) := by decide +kernel
theorem k38_61 : decode (mB 38) 61 = .ok (.getfield 48, 3) := by decide +kernel
theorem k38_64 : decode (mB 38) 64 = .ok (.lastore, 1) := by decide +kernel
theorem k38_65 : decode (mB 38) 65 = .ok (.aload_n 0, 1) := by decide +kernel
theorem k38_66 : decode (mB 38) 66 = .ok (.iconst 1, 1) := by decide +kernel
theorem k38_67 : decode (mB 38) 67 = .ok (.putfield 45, 3) := by decide +kernel
theorem k38_70 : decode (mB 38) 70 = .ok (.aload_n 0, 1) := by decide +kernel
theorem k38_71 : decode (mB 38) 71 = .ok (.iconst 0, 1) := by decide +kernel
theorem k38_72 : decode (mB 38) 72 = .ok (.putfield 52, 3) := by decide +kernel
theorem k38_75 : decode (mB 38) 75 = .ok (.iconst 0, 1) := by decide +kernel
theorem k38_76 : decode (mB 38) 76 = .ok (.istore_n 2, 1) := by decide +kernel
theorem k38_77 : decode (mB 38) 77 = .ok (.iload_n 2, 1) := by decide +kernel
theorem k38_78 : decode (mB 38) 78 = .ok (.sipush 500, 3) := by decide +kernel
theorem k38_81 : decode (mB 38) 81 = .ok (.if_icmp .ge 84, 3) := by decide +kernel
theorem k38_84 : decode (mB 38) 84 = .ok (.iload_n 2, 1) := by decide +kernel
theorem k38_85 : decode (mB 38) 85 = .ok (.aload_n 0, 1) := by decide +kernel
theorem k38_86 : decode (mB 38) 86 = .ok (.getfield 45, 3) := by decide +kernel
theorem k38_89 : decode (mB 38) 89 = .ok (.if_icmp .ge 76, 3) := by decide +kernel
theorem k38_92 : decode (mB 38) 92 = .ok (.aload_n 0, 1) := by decide +kernel
theorem k38_93 : decode (mB 38) 93 = .ok (.getfield 52, 3) := by decide +kernel
theorem k38_96 : decode (mB 38) 96 = .ok (.ifCond .ne 69, 3) := by decide +kernel
theorem k38_99 : decode (mB 38) 99 = .ok (.aload_n 0, 1) := by decide +kernel
theorem k38_100 : decode (mB 38) 100 = .ok (.getfield 25, 3) := by decide +kernel
theorem k38_103 : decode (mB 38) 103 = .ok (.aload_n 0, 1) := by decide +kernel
theorem k38_104 : decode (mB 38) 104 = .ok (.getfield 40, 3) := by decide +kernel
theorem k38_107 : decode (mB 38) 107 = .ok (.aload_n 0, 1) := by decide +kernel
theorem k38_108 : decode (mB 38) 108 = .ok (.getfield 9, 3) := by decide +kernel
theorem k38_111 : decode (mB 38) 111 = .ok (.iload_n 2, 1) := by decide +kernel
theorem k38_112 : decode (mB 38) 112 = .ok (.laload, 1) := by decide +kernel
theorem k38_113 : decode (mB 38) 113 = .ok (.invokevirtual 56, 3) := by decide +kernel
theorem k38_116 : decode (mB 38) 116 = .ok (.aload_n 0, 1) := by decide +kernel
theorem k38_117 : decode (mB 38) 117 = .ok (.getfield 25, 3) := by decide +kernel
theorem k38_120 : decode (mB 38) 120 = .ok (.iconst 1, 1) := by decide +kernel
theorem k38_121 : decode (mB 38) 121 = .ok (.invokevirtual 60, 3) := by decide +kernel
theorem k38_124 : decode (mB 38) 124 = .ok (.aload_n 0, 1) := by decide +kernel
theorem k38_125 : decode (mB 38) 125 = .ok (.getfield 15, 3) := by decide +kernel
theorem k38_128 : decode (mB 38) 128 = .ok (.iload_n 2, 1) := by decide +kernel
theorem k38_129 : decode (mB 38) 129 = .ok (.aload_n 0, 1) := by decide +kernel
theorem k38_130 : decode (mB 38) 130 = .ok (.invokevirtual 64, 3) := by decide +kernel
theorem k38_133 : decode (mB 38) 133 = .ok (.iastore, 1) := by decide +kernel
theorem k38_134 : decode (mB 38) 134 = .ok (.aload_n 0, 1) := by decide +kernel
theorem k38_135 : decode (mB 38) 135 = .ok (.getfield 25, 3) := by decide +kernel
theorem k38_138 : decode (mB 38) 138 = .ok (.iconst (-1), 1) := by decide +kernel
theorem k38_139 : decode (mB 38) 139 = .ok (.invokevirtual 60, 3) := by decide +kernel
theorem k38_142 : decode (mB 38) 142 = .ok (.aload_n 0, 1) := by decide +kernel
theorem k38_143 : decode (mB 38) 143 = .ok (.getfield 25, 3) := by decide +kernel
theorem k38_146 : decode (mB 38) 146 = .ok (.invokevirtual 68, 3) := by decide +kernel
theorem k38_149 : decode (mB 38) 149 = .ok (.aload_n 0, 1) := by decide +kernel
theorem k38_150 : decode (mB 38) 150 = .ok (.getfield 19, 3) := by decide +kernel
theorem k38_153 : decode (mB 38) 153 = .ok (.iload_n 2, 1) := by decide +kernel
theorem k38_154 : decode (mB 38) 154 = .ok (.aload_n 0, 1) := by decide +kernel
theorem k38_155 : decode (mB 38) 155 = .ok (.invokevirtual 64, 3) := by decide +kernel
theorem k38_158 : decode (mB 38) 158 = .ok (.iastore, 1) := by decide +kernel
theorem k38_159 : decode (mB 38) 159 = .ok (.iinc 2 1, 3) := by decide +kernel
theorem k38_162 : decode (mB 38) 162 = .ok (.goto (-85), 3) := by decide +kernel
theorem k38_165 : decode (mB 38) 165 = .ok (.return_, 1) := by decide +kernel
/-- Reach.fill, loop at 77 -/
noncomputable def q38_77 (v0 : Nat) (v1 : Nat) (v2 : Int32) (h : mHeap) : mR' := E 38 77 [some (.ref v0), some (.ref v1), some (.int v2)] [] h
theorem q38_77_eq (v0 : Nat) (v1 : Nat) (v2 : Int32) (h : mHeap) : q38_77 v0 v1 v2 h = if 500 ≤ (v2 : Int32) then (some (none, h)) else ((gI h v0 5 6).bind fun x1 => if x1 ≤ (v2 : Int32) then (some (none, h)) else ((gI h v0 5 7).bind fun x2 => if ¬ (x2 : Int32) = 0 then (some (none, h)) else ((gR h v0 5 3).bind fun x3 => (gI h v0 5 5).bind fun x4 => (gR h v0 5 0).bind fun x5 => (cAldL h x5 v2).bind fun x6 => (vV 22 x3 [.int x4, .long x6] h).bind fun h7 => (gR h7 v0 5 3).bind fun x8 => (vV 25 x8 [.int 1] h7).bind fun h9 => (gR h9 v0 5 1).bind fun x10 => (vI 39 v0 [] h9).bind fun q11 => (cAstI q11.2 x10 v2 q11.1).bind fun h12 => (gR h12 v0 5 3).bind fun x13 => (vV 25 x13 [.int (-1)] h12).bind fun h14 => (gR h14 v0 5 3).bind fun x15 => (vV 27 x15 [] h14).bind fun h16 => (gR h16 v0 5 2).bind fun x17 => (vI 39 v0 [] h16).bind fun q18 => (cAstI q18.2 x17 v2 q18.1).bind fun h19 => q38_77 v0 v1 (v2 + 1) h19))) := by
  unfold q38_77
  refine e_iload_n (pc' := 78) k38_77 rfl rfl ?_
  refine e_sipush (v := 500) (pc' := 81) k38_78 rfl rfl ?_
  refine e_icmpge (t := 165) (pc' := 84) k38_81 rfl (by decide) (fun _ => ?_) (fun _ => ?_)
  · exact e_vret k38_165 (by decide +kernel)
  · refine e_iload_n (pc' := 85) k38_84 rfl rfl ?_
    refine e_aload_n (pc' := 86) k38_85 rfl rfl ?_
    refine e_getI (pc' := 89) k38_86 rfl (ci := 5) (k := 6) (by decide +kernel) (by decide +kernel) (fun x1 => ?_)
    refine e_icmpge (t := 165) (pc' := 92) k38_89 rfl (by decide) (fun _ => ?_) (fun _ => ?_)
    · exact e_vret k38_165 (by decide +kernel)
    · refine e_aload_n (pc' := 93) k38_92 rfl rfl ?_
      refine e_getI (pc' := 96) k38_93 rfl (ci := 5) (k := 7) (by decide +kernel) (by decide +kernel) (fun x2 => ?_)
      refine e_ifne (t := 165) (pc' := 99) k38_96 rfl (by decide) (fun _ => ?_) (fun _ => ?_)
      · exact e_vret k38_165 (by decide +kernel)
      · refine e_aload_n (pc' := 100) k38_99 rfl rfl ?_
        refine e_getR (pc' := 103) k38_100 rfl (ci := 5) (k := 3) (by decide +kernel) (by decide +kernel) (fun x3 => ?_)
        refine e_aload_n (pc' := 104) k38_103 rfl rfl ?_
        refine e_getI (pc' := 107) k38_104 rfl (ci := 5) (k := 5) (by decide +kernel) (by decide +kernel) (fun x4 => ?_)
        refine e_aload_n (pc' := 108) k38_107 rfl rfl ?_
        refine e_getR (pc' := 111) k38_108 rfl (ci := 5) (k := 0) (by decide +kernel) (by decide +kernel) (fun x5 => ?_)
        refine e_iload_n (pc' := 112) k38_111 rfl rfl ?_
        refine e_lald (pc' := 113) k38_112 rfl (fun x6 => ?_)
        refine e_vV (j' := 22) (as := [.int x4, .long x6]) (rest := []) (pc' := 116) k38_113 rfl (show mCk 38 1 56 22 2 = true by decide +kernel) (by decide +kernel) rfl (Nat.le_of_ble_eq_true rfl) (show 4 ≤ mL 22 by decide +kernel) (fun h7 => ?_)
        refine e_aload_n (pc' := 117) k38_116 rfl rfl ?_
        refine e_getR (pc' := 120) k38_117 rfl (ci := 5) (k := 3) (by decide +kernel) (by decide +kernel) (fun x8 => ?_)
        refine e_iconst (v := 1) (pc' := 121) k38_120 rfl rfl ?_
        refine e_vV (j' := 25) (as := [.int 1]) (rest := []) (pc' := 124) k38_121 rfl (show mCk 38 1 60 25 1 = true by decide +kernel) (by decide +kernel) rfl (Nat.le_of_ble_eq_true rfl) (show 2 ≤ mL 25 by decide +kernel) (fun h9 => ?_)
        refine e_aload_n (pc' := 125) k38_124 rfl rfl ?_
        refine e_getR (pc' := 128) k38_125 rfl (ci := 5) (k := 1) (by decide +kernel) (by decide +kernel) (fun x10 => ?_)
        refine e_iload_n (pc' := 129) k38_128 rfl rfl ?_
        refine e_aload_n (pc' := 130) k38_129 rfl rfl ?_
        refine e_vI (j' := 39) (as := []) (rest := [.int v2, .ref x10]) (pc' := 133) k38_130 rfl (show mCk 38 1 64 39 0 = true by decide +kernel) (Or.inl (by decide +kernel)) rfl (Nat.le_of_ble_eq_true rfl) (show 1 ≤ mL 39 by decide +kernel) (fun q11 => ?_)
        refine e_iast (pc' := 134) k38_133 rfl (fun h12 => ?_)
        refine e_aload_n (pc' := 135) k38_134 rfl rfl ?_
        refine e_getR (pc' := 138) k38_135 rfl (ci := 5) (k := 3) (by decide +kernel) (by decide +kernel) (fun x13 => ?_)
        refine e_iconst (v := -1) (pc' := 139) k38_138 rfl rfl ?_
        refine e_vV (j' := 25) (as := [.int (-1)]) (rest := []) (pc' := 142) k38_139 rfl (show mCk 38 1 60 25 1 = true by decide +kernel) (by decide +kernel) rfl (Nat.le_of_ble_eq_true rfl) (show 2 ≤ mL 25 by decide +kernel) (fun h14 => ?_)
        refine e_aload_n (pc' := 143) k38_142 rfl rfl ?_
        refine e_getR (pc' := 146) k38_143 rfl (ci := 5) (k := 3) (by decide +kernel) (by decide +kernel) (fun x15 => ?_)
        refine e_vV (j' := 27) (as := []) (rest := []) (pc' := 149) k38_146 rfl (show mCk 38 1 68 27 0 = true by decide +kernel) (by decide +kernel) rfl (Nat.le_of_ble_eq_true rfl) (show 1 ≤ mL 27 by decide +kernel) (fun h16 => ?_)
        refine e_aload_n (pc' := 150) k38_149 rfl rfl ?_
        refine e_getR (pc' := 153) k38_150 rfl (ci := 5) (k := 2) (by decide +kernel) (by decide +kernel) (fun x17 => ?_)
        refine e_iload_n (pc' := 154) k38_153 rfl rfl ?_
        refine e_aload_n (pc' := 155) k38_154 rfl rfl ?_
        refine e_vI (j' := 39) (as := []) (rest := [.int v2, .ref x17]) (pc' := 158) k38_155 rfl (show mCk 38 1 64 39 0 = true by decide +kernel) (Or.inl (by decide +kernel)) rfl (Nat.le_of_ble_eq_true rfl) (show 1 ≤ mL 39 by decide +kernel) (fun q18 => ?_)
        refine e_iast (pc' := 159) k38_158 rfl (fun h19 => ?_)
        refine e_iinc (c := 1) (pc' := 162) k38_159 rfl rfl rfl rfl ?_
        refine e_goto (pc' := 77) k38_162 (by decide) ?_
        rfl
/-- Reach.fill(LSquareGrounds$Ground;)V -/
theorem F38_eq (v0 : Nat) (v1 : Nat) (h : mHeap) : F 38 [.ref v0, .ref v1] h = (gR h v0 5 4).bind fun x1 => (vV 34 x1 [.ref v1] h).bind fun h2 => (gI h2 v0 5 5).bind fun x3 => (gI h2 v1 3 0).bind fun x4 => if ¬ (x3 : Int32) = x4 then ((gI h2 v1 3 0).bind fun x5 => (cPut h2 v0 5 5 (.int x5)).bind fun h6 => (gR h6 v0 5 0).bind fun x7 => (gR h6 v0 5 4).bind fun x8 => (gL h6 x8 4 3).bind fun x9 => (cAstL h6 x7 0 x9).bind fun h10 => (cPut h10 v0 5 6 (.int 1)).bind fun h11 => (cPut h11 v0 5 7 (.int 0)).bind fun h12 => q38_77 v0 v1 0 h12) else ((gI h2 v0 5 6).bind fun x13 => if (x13 : Int32) ≤ 0 then ((gI h2 v1 3 0).bind fun x14 => (cPut h2 v0 5 5 (.int x14)).bind fun h15 => (gR h15 v0 5 0).bind fun x16 => (gR h15 v0 5 4).bind fun x17 => (gL h15 x17 4 3).bind fun x18 => (cAstL h15 x16 0 x18).bind fun h19 => (cPut h19 v0 5 6 (.int 1)).bind fun h20 => (cPut h20 v0 5 7 (.int 0)).bind fun h21 => q38_77 v0 v1 0 h21) else ((gR h2 v0 5 0).bind fun x22 => (cAldL h2 x22 0).bind fun x23 => (gR h2 v0 5 4).bind fun x24 => (gL h2 x24 4 3).bind fun x25 => if ¬ ((lg_cmp x23 x25) : Int32) = 0 then ((gI h2 v1 3 0).bind fun x26 => (cPut h2 v0 5 5 (.int x26)).bind fun h27 => (gR h27 v0 5 0).bind fun x28 => (gR h27 v0 5 4).bind fun x29 => (gL h27 x29 4 3).bind fun x30 => (cAstL h27 x28 0 x30).bind fun h31 => (cPut h31 v0 5 6 (.int 1)).bind fun h32 => (cPut h32 v0 5 7 (.int 0)).bind fun h33 => q38_77 v0 v1 0 h33) else (some (none, h2)))) := by
  show D 38 0 (mEnt 38 [.ref v0, .ref v1]) [] h 0 0 = _
  rw [show mEnt 38 [.ref v0, .ref v1] = [some (.ref v0), some (.ref v1), none] from rfl]
  refine e_aload_n (pc' := 1) k38_0 rfl rfl ?_
  refine e_getR (pc' := 4) k38_1 rfl (ci := 5) (k := 4) (by decide +kernel) (by decide +kernel) (fun x1 => ?_)
  refine e_aload_n (pc' := 5) k38_4 rfl rfl ?_
  refine e_vV (j' := 34) (as := [.ref v1]) (rest := []) (pc' := 8) k38_5 rfl (show mCk 38 1 36 34 1 = true by decide +kernel) (by decide +kernel) rfl (Nat.le_of_ble_eq_true rfl) (show 2 ≤ mL 34 by decide +kernel) (fun h2 => ?_)
  refine e_aload_n (pc' := 9) k38_8 rfl rfl ?_
  refine e_getI (pc' := 12) k38_9 rfl (ci := 5) (k := 5) (by decide +kernel) (by decide +kernel) (fun x3 => ?_)
  refine e_aload_n (pc' := 13) k38_12 rfl rfl ?_
  refine e_getI (pc' := 16) k38_13 rfl (ci := 3) (k := 0) (by decide +kernel) (by decide +kernel) (fun x4 => ?_)
  refine e_icmpne (t := 44) (pc' := 19) k38_16 rfl (by decide) (fun _ => ?_) (fun _ => ?_)
  · refine e_aload_n (pc' := 45) k38_44 rfl rfl ?_
    refine e_aload_n (pc' := 46) k38_45 rfl rfl ?_
    refine e_getI (pc' := 49) k38_46 rfl (ci := 3) (k := 0) (by decide +kernel) (by decide +kernel) (fun x5 => ?_)
    refine e_put (pc' := 52) k38_49 rfl (ci := 5) (k := 5) (by decide +kernel) (by decide +kernel) rfl (fun h6 => ?_)
    refine e_aload_n (pc' := 53) k38_52 rfl rfl ?_
    refine e_getR (pc' := 56) k38_53 rfl (ci := 5) (k := 0) (by decide +kernel) (by decide +kernel) (fun x7 => ?_)
    refine e_iconst (v := 0) (pc' := 57) k38_56 rfl rfl ?_
    refine e_aload_n (pc' := 58) k38_57 rfl rfl ?_
    refine e_getR (pc' := 61) k38_58 rfl (ci := 5) (k := 4) (by decide +kernel) (by decide +kernel) (fun x8 => ?_)
    refine e_getL (pc' := 64) k38_61 rfl (ci := 4) (k := 3) (by decide +kernel) (by decide +kernel) (fun x9 => ?_)
    refine e_last (pc' := 65) k38_64 rfl (fun h10 => ?_)
    refine e_aload_n (pc' := 66) k38_65 rfl rfl ?_
    refine e_iconst (v := 1) (pc' := 67) k38_66 rfl rfl ?_
    refine e_put (pc' := 70) k38_67 rfl (ci := 5) (k := 6) (by decide +kernel) (by decide +kernel) rfl (fun h11 => ?_)
    refine e_aload_n (pc' := 71) k38_70 rfl rfl ?_
    refine e_iconst (v := 0) (pc' := 72) k38_71 rfl rfl ?_
    refine e_putZ (pc' := 75) k38_72 rfl (ci := 5) (k := 7) (by decide +kernel) (by decide +kernel) (by decide +kernel) (fun h12 => ?_)
    refine e_iconst (v := 0) (pc' := 76) k38_75 rfl rfl ?_
    refine e_istore_n (pc' := 77) k38_76 rfl rfl ?_
    rfl
  · refine e_aload_n (pc' := 20) k38_19 rfl rfl ?_
    refine e_getI (pc' := 23) k38_20 rfl (ci := 5) (k := 6) (by decide +kernel) (by decide +kernel) (fun x13 => ?_)
    refine e_ifle (t := 44) (pc' := 26) k38_23 rfl (by decide) (fun _ => ?_) (fun _ => ?_)
    · refine e_aload_n (pc' := 45) k38_44 rfl rfl ?_
      refine e_aload_n (pc' := 46) k38_45 rfl rfl ?_
      refine e_getI (pc' := 49) k38_46 rfl (ci := 3) (k := 0) (by decide +kernel) (by decide +kernel) (fun x14 => ?_)
      refine e_put (pc' := 52) k38_49 rfl (ci := 5) (k := 5) (by decide +kernel) (by decide +kernel) rfl (fun h15 => ?_)
      refine e_aload_n (pc' := 53) k38_52 rfl rfl ?_
      refine e_getR (pc' := 56) k38_53 rfl (ci := 5) (k := 0) (by decide +kernel) (by decide +kernel) (fun x16 => ?_)
      refine e_iconst (v := 0) (pc' := 57) k38_56 rfl rfl ?_
      refine e_aload_n (pc' := 58) k38_57 rfl rfl ?_
      refine e_getR (pc' := 61) k38_58 rfl (ci := 5) (k := 4) (by decide +kernel) (by decide +kernel) (fun x17 => ?_)
      refine e_getL (pc' := 64) k38_61 rfl (ci := 4) (k := 3) (by decide +kernel) (by decide +kernel) (fun x18 => ?_)
      refine e_last (pc' := 65) k38_64 rfl (fun h19 => ?_)
      refine e_aload_n (pc' := 66) k38_65 rfl rfl ?_
      refine e_iconst (v := 1) (pc' := 67) k38_66 rfl rfl ?_
      refine e_put (pc' := 70) k38_67 rfl (ci := 5) (k := 6) (by decide +kernel) (by decide +kernel) rfl (fun h20 => ?_)
      refine e_aload_n (pc' := 71) k38_70 rfl rfl ?_
      refine e_iconst (v := 0) (pc' := 72) k38_71 rfl rfl ?_
      refine e_putZ (pc' := 75) k38_72 rfl (ci := 5) (k := 7) (by decide +kernel) (by decide +kernel) (by decide +kernel) (fun h21 => ?_)
      refine e_iconst (v := 0) (pc' := 76) k38_75 rfl rfl ?_
      refine e_istore_n (pc' := 77) k38_76 rfl rfl ?_
      rfl
    · refine e_aload_n (pc' := 27) k38_26 rfl rfl ?_
      refine e_getR (pc' := 30) k38_27 rfl (ci := 5) (k := 0) (by decide +kernel) (by decide +kernel) (fun x22 => ?_)
      refine e_iconst (v := 0) (pc' := 31) k38_30 rfl rfl ?_
      refine e_lald (pc' := 32) k38_31 rfl (fun x23 => ?_)
      refine e_aload_n (pc' := 33) k38_32 rfl rfl ?_
      refine e_getR (pc' := 36) k38_33 rfl (ci := 5) (k := 4) (by decide +kernel) (by decide +kernel) (fun x24 => ?_)
      refine e_getL (pc' := 39) k38_36 rfl (ci := 4) (k := 3) (by decide +kernel) (by decide +kernel) (fun x25 => ?_)
      refine e_lcmp (pc' := 40) k38_39 rfl ?_
      refine e_ifne (t := 44) (pc' := 43) k38_40 rfl (by decide) (fun _ => ?_) (fun _ => ?_)
      · refine e_aload_n (pc' := 45) k38_44 rfl rfl ?_
        refine e_aload_n (pc' := 46) k38_45 rfl rfl ?_
        refine e_getI (pc' := 49) k38_46 rfl (ci := 3) (k := 0) (by decide +kernel) (by decide +kernel) (fun x26 => ?_)
        refine e_put (pc' := 52) k38_49 rfl (ci := 5) (k := 5) (by decide +kernel) (by decide +kernel) rfl (fun h27 => ?_)
        refine e_aload_n (pc' := 53) k38_52 rfl rfl ?_
        refine e_getR (pc' := 56) k38_53 rfl (ci := 5) (k := 0) (by decide +kernel) (by decide +kernel) (fun x28 => ?_)
        refine e_iconst (v := 0) (pc' := 57) k38_56 rfl rfl ?_
        refine e_aload_n (pc' := 58) k38_57 rfl rfl ?_
        refine e_getR (pc' := 61) k38_58 rfl (ci := 5) (k := 4) (by decide +kernel) (by decide +kernel) (fun x29 => ?_)
        refine e_getL (pc' := 64) k38_61 rfl (ci := 4) (k := 3) (by decide +kernel) (by decide +kernel) (fun x30 => ?_)
        refine e_last (pc' := 65) k38_64 rfl (fun h31 => ?_)
        refine e_aload_n (pc' := 66) k38_65 rfl rfl ?_
        refine e_iconst (v := 1) (pc' := 67) k38_66 rfl rfl ?_
        refine e_put (pc' := 70) k38_67 rfl (ci := 5) (k := 6) (by decide +kernel) (by decide +kernel) rfl (fun h32 => ?_)
        refine e_aload_n (pc' := 71) k38_70 rfl rfl ?_
        refine e_iconst (v := 0) (pc' := 72) k38_71 rfl rfl ?_
        refine e_putZ (pc' := 75) k38_72 rfl (ci := 5) (k := 7) (by decide +kernel) (by decide +kernel) (by decide +kernel) (fun h33 => ?_)
        refine e_iconst (v := 0) (pc' := 76) k38_75 rfl rfl ?_
        refine e_istore_n (pc' := 77) k38_76 rfl rfl ?_
        rfl
      · exact e_vret k38_43 (by decide +kernel)
theorem k39_0 : decode (mB 39) 0 = .ok (.aload_n 0, 1) := by decide +kernel
theorem k39_1 : decode (mB 39) 1 = .ok (.getfield 32, 3) := by decide +kernel
theorem k39_4 : decode (mB 39) 4 = .ok (.aload_n 0, 1) := by decide +kernel
theorem k39_5 : decode (mB 39) 5 = .ok (.getfield 25, 3) := by decide +kernel
theorem k39_8 : decode (mB 39) 8 = .ok (.invokevirtual 36, 3) := by decide +kernel
theorem k39_11 : decode (mB 39) 11 = .ok (.aload_n 0, 1) := by decide +kernel
theorem k39_12 : decode (mB 39) 12 = .ok (.aload_n 0, 1) := by decide +kernel
theorem k39_13 : decode (mB 39) 13 = .ok (.getfield 32, 3) := by decide +kernel
theorem k39_16 : decode (mB 39) 16 = .ok (.getfield 48, 3) := by decide +kernel
theorem k39_19 : decode (mB 39) 19 = .ok (.invokevirtual 71, 3) := by decide +kernel
theorem k39_22 : decode (mB 39) 22 = .ok (.istore_n 1, 1) := by decide +kernel
theorem k39_23 : decode (mB 39) 23 = .ok (.iload_n 1, 1) := by decide +kernel
theorem k39_24 : decode (mB 39) 24 = .ok (.ifCond .lt 5, 3) := by decide +kernel
theorem k39_27 : decode (mB 39) 27 = .ok (.iload_n 1, 1) := by decide +kernel
theorem k39_28 : decode (mB 39) 28 = .ok (.ireturn, 1) := by decide +kernel
theorem k39_29 : decode (mB 39) 29 = .ok (.aload_n 0, 1) := by decide +kernel
theorem k39_30 : decode (mB 39) 30 = .ok (.getfield 45, 3) := by decide +kernel
theorem k39_33 : decode (mB 39) 33 = .ok (.sipush 500, 3) := by decide +kernel
theorem k39_36 : decode (mB 39) 36 = .ok (.if_icmp .ne 10, 3) := by decide +kernel
theorem k39_39 : decode (mB 39) 39 = .ok (.aload_n 0, 1) := by decide +kernel
theorem k39_40 : decode (mB 39) 40 = .ok (.iconst 1, 1) := by decide +kernel
theorem k39_41 : decode (mB 39) 41 = .ok (.putfield 52, 3) := by decide +kernel
theorem k39_44 : decode (mB 39) 44 = .ok (.iconst (-1), 1) := by decide +kernel
theorem k39_45 : decode (mB 39) 45 = .ok (.ireturn, 1) := by decide +kernel
theorem k39_46 : decode (mB 39) 46 = .ok (.aload_n 0, 1) := by decide +kernel
theorem k39_47 : decode (mB 39) 47 = .ok (.getfield 9, 3) := by decide +kernel
theorem k39_50 : decode (mB 39) 50 = .ok (.aload_n 0, 1) := by decide +kernel
theorem k39_51 : decode (mB 39) 51 = .ok (.getfield 45, 3) := by decide +kernel
theorem k39_54 : decode (mB 39) 54 = .ok (.aload_n 0, 1) := by decide +kernel
theorem k39_55 : decode (mB 39) 55 = .ok (.getfield 32, 3) := by decide +kernel
theorem k39_58 : decode (mB 39) 58 = .ok (.getfield 48, 3) := by decide +kernel
theorem k39_61 : decode (mB 39) 61 = .ok (.lastore, 1) := by decide +kernel
theorem k39_62 : decode (mB 39) 62 = .ok (.aload_n 0, 1) := by decide +kernel
theorem k39_63 : decode (mB 39) 63 = .ok (.dup, 1) := by decide +kernel
theorem k39_64 : decode (mB 39) 64 = .ok (.getfield 45, 3) := by decide +kernel
theorem k39_67 : decode (mB 39) 67 = .ok (.iconst 1, 1) := by decide +kernel
theorem k39_68 : decode (mB 39) 68 = .ok (.iadd, 1) := by decide +kernel
theorem k39_69 : decode (mB 39) 69 = .ok (.putfield 45, 3) := by decide +kernel
theorem k39_72 : decode (mB 39) 72 = .ok (.aload_n 0, 1) := by decide +kernel
theorem k39_73 : decode (mB 39) 73 = .ok (.getfield 45, 3) := by decide +kernel
theorem k39_76 : decode (mB 39) 76 = .ok (.iconst 1, 1) := by decide +kernel
theorem k39_77 : decode (mB 39) 77 = .ok (.isub, 1) := by decide +kernel
theorem k39_78 : decode (mB 39) 78 = .ok (.ireturn, 1) := by decide +kernel
/-- Reach.numberOrNew()I -/
theorem F39_eq (v0 : Nat) (h : mHeap) : F 39 [.ref v0] h = (gR h v0 5 4).bind fun x1 => (gR h v0 5 3).bind fun x2 => (vV 34 x1 [.ref x2] h).bind fun h3 => (gR h3 v0 5 4).bind fun x4 => (gL h3 x4 4 3).bind fun x5 => (vI 40 v0 [.long x5] h3).bind fun q6 => if (q6.1 : Int32) < 0 then ((gI q6.2 v0 5 6).bind fun x7 => if ¬ (x7 : Int32) = 500 then ((gR q6.2 v0 5 0).bind fun x8 => (gI q6.2 v0 5 6).bind fun x9 => (gR q6.2 v0 5 4).bind fun x10 => (gL q6.2 x10 4 3).bind fun x11 => (cAstL q6.2 x8 x9 x11).bind fun h12 => (gI h12 v0 5 6).bind fun x13 => (cPut h12 v0 5 6 (.int (x13 + 1))).bind fun h14 => (gI h14 v0 5 6).bind fun x15 => some (some (.int (x15 - 1)), h14)) else ((cPut q6.2 v0 5 7 (.int 1)).bind fun h16 => some (some (.int (-1)), h16))) else (some (some (.int q6.1), q6.2)) := by
  show D 39 0 (mEnt 39 [.ref v0]) [] h 0 0 = _
  rw [show mEnt 39 [.ref v0] = [some (.ref v0), none] from rfl]
  refine e_aload_n (pc' := 1) k39_0 rfl rfl ?_
  refine e_getR (pc' := 4) k39_1 rfl (ci := 5) (k := 4) (by decide +kernel) (by decide +kernel) (fun x1 => ?_)
  refine e_aload_n (pc' := 5) k39_4 rfl rfl ?_
  refine e_getR (pc' := 8) k39_5 rfl (ci := 5) (k := 3) (by decide +kernel) (by decide +kernel) (fun x2 => ?_)
  refine e_vV (j' := 34) (as := [.ref x2]) (rest := []) (pc' := 11) k39_8 rfl (show mCk 39 1 36 34 1 = true by decide +kernel) (by decide +kernel) rfl (Nat.le_of_ble_eq_true rfl) (show 2 ≤ mL 34 by decide +kernel) (fun h3 => ?_)
  refine e_aload_n (pc' := 12) k39_11 rfl rfl ?_
  refine e_aload_n (pc' := 13) k39_12 rfl rfl ?_
  refine e_getR (pc' := 16) k39_13 rfl (ci := 5) (k := 4) (by decide +kernel) (by decide +kernel) (fun x4 => ?_)
  refine e_getL (pc' := 19) k39_16 rfl (ci := 4) (k := 3) (by decide +kernel) (by decide +kernel) (fun x5 => ?_)
  refine e_vI (j' := 40) (as := [.long x5]) (rest := []) (pc' := 22) k39_19 rfl (show mCk 39 1 71 40 1 = true by decide +kernel) (Or.inl (by decide +kernel)) rfl (Nat.le_of_ble_eq_true rfl) (show 3 ≤ mL 40 by decide +kernel) (fun q6 => ?_)
  refine e_istore_n (pc' := 23) k39_22 rfl rfl ?_
  refine e_iload_n (pc' := 24) k39_23 rfl rfl ?_
  refine e_iflt (t := 29) (pc' := 27) k39_24 rfl (by decide) (fun _ => ?_) (fun _ => ?_)
  · refine e_aload_n (pc' := 30) k39_29 rfl rfl ?_
    refine e_getI (pc' := 33) k39_30 rfl (ci := 5) (k := 6) (by decide +kernel) (by decide +kernel) (fun x7 => ?_)
    refine e_sipush (v := 500) (pc' := 36) k39_33 rfl rfl ?_
    refine e_icmpne (t := 46) (pc' := 39) k39_36 rfl (by decide) (fun _ => ?_) (fun _ => ?_)
    · refine e_aload_n (pc' := 47) k39_46 rfl rfl ?_
      refine e_getR (pc' := 50) k39_47 rfl (ci := 5) (k := 0) (by decide +kernel) (by decide +kernel) (fun x8 => ?_)
      refine e_aload_n (pc' := 51) k39_50 rfl rfl ?_
      refine e_getI (pc' := 54) k39_51 rfl (ci := 5) (k := 6) (by decide +kernel) (by decide +kernel) (fun x9 => ?_)
      refine e_aload_n (pc' := 55) k39_54 rfl rfl ?_
      refine e_getR (pc' := 58) k39_55 rfl (ci := 5) (k := 4) (by decide +kernel) (by decide +kernel) (fun x10 => ?_)
      refine e_getL (pc' := 61) k39_58 rfl (ci := 4) (k := 3) (by decide +kernel) (by decide +kernel) (fun x11 => ?_)
      refine e_last (pc' := 62) k39_61 rfl (fun h12 => ?_)
      refine e_aload_n (pc' := 63) k39_62 rfl rfl ?_
      refine e_dup (pc' := 64) k39_63 rfl rfl ?_
      refine e_getI (pc' := 67) k39_64 rfl (ci := 5) (k := 6) (by decide +kernel) (by decide +kernel) (fun x13 => ?_)
      refine e_iconst (v := 1) (pc' := 68) k39_67 rfl rfl ?_
      refine e_iadd (pc' := 69) k39_68 rfl ?_
      refine e_put (pc' := 72) k39_69 rfl (ci := 5) (k := 6) (by decide +kernel) (by decide +kernel) rfl (fun h14 => ?_)
      refine e_aload_n (pc' := 73) k39_72 rfl rfl ?_
      refine e_getI (pc' := 76) k39_73 rfl (ci := 5) (k := 6) (by decide +kernel) (by decide +kernel) (fun x15 => ?_)
      refine e_iconst (v := 1) (pc' := 77) k39_76 rfl rfl ?_
      refine e_isub (pc' := 78) k39_77 rfl ?_
      exact e_iret k39_78 (by decide +kernel)
    · refine e_aload_n (pc' := 40) k39_39 rfl rfl ?_
      refine e_iconst (v := 1) (pc' := 41) k39_40 rfl rfl ?_
      refine e_putZ (pc' := 44) k39_41 rfl (ci := 5) (k := 7) (by decide +kernel) (by decide +kernel) (by decide +kernel) (fun h16 => ?_)
      refine e_iconst (v := -1) (pc' := 45) k39_44 rfl rfl ?_
      exact e_iret k39_45 (by decide +kernel)
  · refine e_iload_n (pc' := 28) k39_27 rfl rfl ?_
    exact e_iret k39_28 (by decide +kernel)
theorem k40_0 : decode (mB 40) 0 = .ok (.iconst 0, 1) := by decide +kernel
theorem k40_1 : decode (mB 40) 1 = .ok (.istore_n 3, 1) := by decide +kernel
theorem k40_2 : decode (mB 40) 2 = .ok (.iload_n 3, 1) := by decide +kernel
theorem k40_3 : decode (mB 40) 3 = .ok (.aload_n 0, 1) := by decide +kernel
theorem k40_4 : decode (mB 40) 4 = .ok (.getfield 45, 3) := by decide +kernel
theorem k40_7 : decode (mB 40) 7 = .ok (.if_icmp .ge 22, 3) := by decide +kernel
theorem k40_10 : decode (mB 40) 10 = .ok (.aload_n 0, 1) := by decide +kernel
theorem k40_11 : decode (mB 40) 11 = .ok (.getfield 9, 3) := by decide +kernel
theorem k40_14 : decode (mB 40) 14 = .ok (.iload_n 3, 1) := by decide +kernel
theorem k40_15 : decode (mB 40) 15 = .ok (.laload, 1) := by decide +kernel
theorem k40_16 : decode (mB 40) 16 = .ok (.lload_n 1, 1) := by decide +kernel
theorem k40_17 : decode (mB 40) 17 = .ok (.lcmp, 1) := by decide +kernel
theorem k40_18 : decode (mB 40) 18 = .ok (.ifCond .ne 5, 3) := by decide +kernel
theorem k40_21 : decode (mB 40) 21 = .ok (.iload_n 3, 1) := by decide +kernel
theorem k40_22 : decode (mB 40) 22 = .ok (.ireturn, 1) := by decide +kernel
theorem k40_23 : decode (mB 40) 23 = .ok (.iinc 3 1, 3) := by decide +kernel
theorem k40_26 : decode (mB 40) 26 = .ok (.goto (-24), 3) := by decide +kernel
theorem k40_29 : decode (mB 40) 29 = .ok (.iconst (-1), 1) := by decide +kernel
theorem k40_30 : decode (mB 40) 30 = .ok (.ireturn, 1) := by decide +kernel
/-- Reach.numberOf, loop at 2 -/
noncomputable def q40_2 (v0 : Nat) (v1 : Int64) (v3 : Int32) (h : mHeap) : mR' := E 40 2 [some (.ref v0), some (.long v1), none, some (.int v3)] [] h
theorem q40_2_eq (v0 : Nat) (v1 : Int64) (v3 : Int32) (h : mHeap) : q40_2 v0 v1 v3 h = (gI h v0 5 6).bind fun x1 => if x1 ≤ (v3 : Int32) then (some (some (.int (-1)), h)) else ((gR h v0 5 0).bind fun x2 => (cAldL h x2 v3).bind fun x3 => if ¬ ((lg_cmp x3 v1) : Int32) = 0 then (q40_2 v0 v1 (v3 + 1) h) else (some (some (.int v3), h))) := by
  unfold q40_2
  refine e_iload_n (pc' := 3) k40_2 rfl rfl ?_
  refine e_aload_n (pc' := 4) k40_3 rfl rfl ?_
  refine e_getI (pc' := 7) k40_4 rfl (ci := 5) (k := 6) (by decide +kernel) (by decide +kernel) (fun x1 => ?_)
  refine e_icmpge (t := 29) (pc' := 10) k40_7 rfl (by decide) (fun _ => ?_) (fun _ => ?_)
  · refine e_iconst (v := -1) (pc' := 30) k40_29 rfl rfl ?_
    exact e_iret k40_30 (by decide +kernel)
  · refine e_aload_n (pc' := 11) k40_10 rfl rfl ?_
    refine e_getR (pc' := 14) k40_11 rfl (ci := 5) (k := 0) (by decide +kernel) (by decide +kernel) (fun x2 => ?_)
    refine e_iload_n (pc' := 15) k40_14 rfl rfl ?_
    refine e_lald (pc' := 16) k40_15 rfl (fun x3 => ?_)
    refine e_lload_n (pc' := 17) k40_16 rfl rfl ?_
    refine e_lcmp (pc' := 18) k40_17 rfl ?_
    refine e_ifne (t := 23) (pc' := 21) k40_18 rfl (by decide) (fun _ => ?_) (fun _ => ?_)
    · refine e_iinc (c := 1) (pc' := 26) k40_23 rfl rfl rfl rfl ?_
      refine e_goto (pc' := 2) k40_26 (by decide) ?_
      rfl
    · refine e_iload_n (pc' := 22) k40_21 rfl rfl ?_
      exact e_iret k40_22 (by decide +kernel)
/-- Reach.numberOf(J)I -/
theorem F40_eq (v0 : Nat) (v1 : Int64) (h : mHeap) : F 40 [.ref v0, .long v1] h = q40_2 v0 v1 0 h := by
  show D 40 0 (mEnt 40 [.ref v0, .long v1]) [] h 0 0 = _
  rw [show mEnt 40 [.ref v0, .long v1] = [some (.ref v0), some (.long v1), none, none] from rfl]
  refine e_iconst (v := 0) (pc' := 1) k40_0 rfl rfl ?_
  refine e_istore_n (pc' := 2) k40_1 rfl rfl ?_
  rfl
theorem k41_0 : decode (mB 41) 0 = .ok (.iconst 0, 1) := by decide +kernel
theorem k41_1 : decode (mB 41) 1 = .ok (.istore_n 1, 1) := by decide +kernel
theorem k41_2 : decode (mB 41) 2 = .ok (.iconst 0, 1) := by decide +kernel
theorem k41_3 : decode (mB 41) 3 = .ok (.istore_n 2, 1) := by decide +kernel
theorem k41_4 : decode (mB 41) 4 = .ok (.iload_n 2, 1) := by decide +kernel
theorem k41_5 : decode (mB 41) 5 = .ok (.aload_n 0, 1) := by decide +kernel
theorem k41_6 : decode (mB 41) 6 = .ok (.getfield 45, 3) := by decide +kernel
theorem k41_9 : decode (mB 41) 9 = .ok (.if_icmp .ge 20, 3) := by decide +kernel
theorem k41_12 : decode (mB 41) 12 = .ok (.aload_n 0, 1) := by decide +kernel
theorem k41_13 : decode (mB 41) 13 = .ok (.iload_n 2, 1) := by decide +kernel
theorem k41_14 : decode (mB 41) 14 = .ok (.invokevirtual 75, 3) := by decide +kernel
theorem k41_17 : decode (mB 41) 17 = .ok (.ifCond .le 6, 3) := by decide +kernel
theorem k41_20 : decode (mB 41) 20 = .ok (.iinc 1 1, 3) := by decide +kernel
theorem k41_23 : decode (mB 41) 23 = .ok (.iinc 2 1, 3) := by decide +kernel
theorem k41_26 : decode (mB 41) 26 = .ok (.goto (-22), 3) := by decide +kernel
theorem k41_29 : decode (mB 41) 29 = .ok (.iload_n 1, 1) := by decide +kernel
theorem k41_30 : decode (mB 41) 30 = .ok (.ireturn, 1) := by decide +kernel
/-- Reach.rounds, loop at 4 -/
noncomputable def q41_4 (v0 : Nat) (v1 : Int32) (v2 : Int32) (h : mHeap) : mR' := E 41 4 [some (.ref v0), some (.int v1), some (.int v2)] [] h
theorem q41_4_eq (v0 : Nat) (v1 : Int32) (v2 : Int32) (h : mHeap) : q41_4 v0 v1 v2 h = (gI h v0 5 6).bind fun x1 => if x1 ≤ (v2 : Int32) then (some (some (.int v1), h)) else ((vI 43 v0 [.int v2] h).bind fun q2 => if (q2.1 : Int32) ≤ 0 then (q41_4 v0 v1 (v2 + 1) q2.2) else (q41_4 v0 (v1 + 1) (v2 + 1) q2.2)) := by
  unfold q41_4
  refine e_iload_n (pc' := 5) k41_4 rfl rfl ?_
  refine e_aload_n (pc' := 6) k41_5 rfl rfl ?_
  refine e_getI (pc' := 9) k41_6 rfl (ci := 5) (k := 6) (by decide +kernel) (by decide +kernel) (fun x1 => ?_)
  refine e_icmpge (t := 29) (pc' := 12) k41_9 rfl (by decide) (fun _ => ?_) (fun _ => ?_)
  · refine e_iload_n (pc' := 30) k41_29 rfl rfl ?_
    exact e_iret k41_30 (by decide +kernel)
  · refine e_aload_n (pc' := 13) k41_12 rfl rfl ?_
    refine e_iload_n (pc' := 14) k41_13 rfl rfl ?_
    refine e_vI (j' := 43) (as := [.int v2]) (rest := []) (pc' := 17) k41_14 rfl (show mCk 41 1 75 43 1 = true by decide +kernel) (Or.inl (by decide +kernel)) rfl (Nat.le_of_ble_eq_true rfl) (show 2 ≤ mL 43 by decide +kernel) (fun q2 => ?_)
    refine e_ifle (t := 23) (pc' := 20) k41_17 rfl (by decide) (fun _ => ?_) (fun _ => ?_)
    · refine e_iinc (c := 1) (pc' := 26) k41_23 rfl rfl rfl rfl ?_
      refine e_goto (pc' := 4) k41_26 (by decide) ?_
      rfl
    · refine e_iinc (c := 1) (pc' := 23) k41_20 rfl rfl rfl rfl ?_
      refine e_iinc (c := 1) (pc' := 26) k41_23 rfl rfl rfl rfl ?_
      refine e_goto (pc' := 4) k41_26 (by decide) ?_
      rfl
/-- Reach.rounds()I -/
theorem F41_eq (v0 : Nat) (h : mHeap) : F 41 [.ref v0] h = q41_4 v0 0 0 h := by
  show D 41 0 (mEnt 41 [.ref v0]) [] h 0 0 = _
  rw [show mEnt 41 [.ref v0] = [some (.ref v0), none, none] from rfl]
  refine e_iconst (v := 0) (pc' := 1) k41_0 rfl rfl ?_
  refine e_istore_n (pc' := 2) k41_1 rfl rfl ?_
  refine e_iconst (v := 0) (pc' := 3) k41_2 rfl rfl ?_
  refine e_istore_n (pc' := 4) k41_3 rfl rfl ?_
  rfl
theorem k42_0 : decode (mB 42) 0 = .ok (.iconst 0, 1) := by decide +kernel
theorem k42_1 : decode (mB 42) 1 = .ok (.istore_n 2, 1) := by decide +kernel
theorem k42_2 : decode (mB 42) 2 = .ok (.iconst 0, 1) := by decide +kernel
theorem k42_3 : decode (mB 42) 3 = .ok (.istore_n 3, 1) := by decide +kernel
theorem k42_4 : decode (mB 42) 4 = .ok (.iload_n 3, 1) := by decide +kernel
theorem k42_5 : decode (mB 42) 5 = .ok (.aload_n 0, 1) := by decide +kernel
theorem k42_6 : decode (mB 42) 6 = .ok (.getfield 45, 3) := by decide +kernel
theorem k42_9 : decode (mB 42) 9 = .ok (.if_icmp .ge 32, 3) := by decide +kernel
theorem k42_12 : decode (mB 42) 12 = .ok (.aload_n 0, 1) := by decide +kernel
theorem k42_13 : decode (mB 42) 13 = .ok (.iload_n 3, 1) := by decide +kernel
theorem k42_14 : decode (mB 42) 14 = .ok (.invokevirtual 75, 3) := by decide +kernel
theorem k42_17 : decode (mB 42) 17 = .ok (.istore 4, 2) := by decide +kernel
theorem k42_19 : decode (mB 42) 19 = .ok (.iload 4, 2) := by decide +kernel
theorem k42_21 : decode (mB 42) 21 = .ok (.ifCond .le 14, 3) := by decide +kernel
theorem k42_24 : decode (mB 42) 24 = .ok (.iload_n 2, 1) := by decide +kernel
theorem k42_25 : decode (mB 42) 25 = .ok (.iload_n 1, 1) := by decide +kernel
theorem k42_26 : decode (mB 42) 26 = .ok (.if_icmp .ne 6, 3) := by decide +kernel
theorem k42_29 : decode (mB 42) 29 = .ok (.iload 4, 2) := by decide +kernel
theorem k42_31 : decode (mB 42) 31 = .ok (.ireturn, 1) := by decide +kernel
theorem k42_32 : decode (mB 42) 32 = .ok (.iinc 2 1, 3) := by decide +kernel
theorem k42_35 : decode (mB 42) 35 = .ok (.iinc 3 1, 3) := by decide +kernel
theorem k42_38 : decode (mB 42) 38 = .ok (.goto (-34), 3) := by decide +kernel
theorem k42_41 : decode (mB 42) 41 = .ok (.iconst 0, 1) := by decide +kernel
theorem k42_42 : decode (mB 42) 42 = .ok (.ireturn, 1) := by decide +kernel
/-- Reach.roundLength, loop at 4 -/
noncomputable def q42_4 (v0 : Nat) (v1 : Int32) (v2 : Int32) (v3 : Int32) (d4 : Option Value) (h : mHeap) : mR' := E 42 4 [some (.ref v0), some (.int v1), some (.int v2), some (.int v3), d4] [] h
theorem q42_4_eq (v0 : Nat) (v1 : Int32) (v2 : Int32) (v3 : Int32) (d4 : Option Value) (h : mHeap) : q42_4 v0 v1 v2 v3 d4 h = (gI h v0 5 6).bind fun x1 => if x1 ≤ (v3 : Int32) then (some (some (.int 0), h)) else ((vI 43 v0 [.int v3] h).bind fun q2 => if (q2.1 : Int32) ≤ 0 then (q42_4 v0 v1 v2 (v3 + 1) (some (.int q2.1)) q2.2) else (if ¬ (v2 : Int32) = v1 then (q42_4 v0 v1 (v2 + 1) (v3 + 1) (some (.int q2.1)) q2.2) else (some (some (.int q2.1), q2.2)))) := by
  unfold q42_4
  refine e_iload_n (pc' := 5) k42_4 rfl rfl ?_
  refine e_aload_n (pc' := 6) k42_5 rfl rfl ?_
  refine e_getI (pc' := 9) k42_6 rfl (ci := 5) (k := 6) (by decide +kernel) (by decide +kernel) (fun x1 => ?_)
  refine e_icmpge (t := 41) (pc' := 12) k42_9 rfl (by decide) (fun _ => ?_) (fun _ => ?_)
  · refine e_iconst (v := 0) (pc' := 42) k42_41 rfl rfl ?_
    exact e_iret k42_42 (by decide +kernel)
  · refine e_aload_n (pc' := 13) k42_12 rfl rfl ?_
    refine e_iload_n (pc' := 14) k42_13 rfl rfl ?_
    refine e_vI (j' := 43) (as := [.int v3]) (rest := []) (pc' := 17) k42_14 rfl (show mCk 42 1 75 43 1 = true by decide +kernel) (Or.inl (by decide +kernel)) rfl (Nat.le_of_ble_eq_true rfl) (show 2 ≤ mL 43 by decide +kernel) (fun q2 => ?_)
    refine e_istore (pc' := 19) k42_17 rfl rfl ?_
    refine e_iload (pc' := 21) k42_19 rfl rfl ?_
    refine e_ifle (t := 35) (pc' := 24) k42_21 rfl (by decide) (fun _ => ?_) (fun _ => ?_)
    · refine e_iinc (c := 1) (pc' := 38) k42_35 rfl rfl rfl rfl ?_
      refine e_goto (pc' := 4) k42_38 (by decide) ?_
      rfl
    · refine e_iload_n (pc' := 25) k42_24 rfl rfl ?_
      refine e_iload_n (pc' := 26) k42_25 rfl rfl ?_
      refine e_icmpne (t := 32) (pc' := 29) k42_26 rfl (by decide) (fun _ => ?_) (fun _ => ?_)
      · refine e_iinc (c := 1) (pc' := 35) k42_32 rfl rfl rfl rfl ?_
        refine e_iinc (c := 1) (pc' := 38) k42_35 rfl rfl rfl rfl ?_
        refine e_goto (pc' := 4) k42_38 (by decide) ?_
        rfl
      · refine e_iload (pc' := 31) k42_29 rfl rfl ?_
        exact e_iret k42_31 (by decide +kernel)
/-- Reach.roundLength(I)I -/
theorem F42_eq (v0 : Nat) (v1 : Int32) (h : mHeap) : F 42 [.ref v0, .int v1] h = q42_4 v0 v1 0 0 none h := by
  show D 42 0 (mEnt 42 [.ref v0, .int v1]) [] h 0 0 = _
  rw [show mEnt 42 [.ref v0, .int v1] = [some (.ref v0), some (.int v1), none, none, none] from rfl]
  refine e_iconst (v := 0) (pc' := 1) k42_0 rfl rfl ?_
  refine e_istore_n (pc' := 2) k42_1 rfl rfl ?_
  refine e_iconst (v := 0) (pc' := 3) k42_2 rfl rfl ?_
  refine e_istore_n (pc' := 4) k42_3 rfl rfl ?_
  rfl
theorem k43_0 : decode (mB 43) 0 = .ok (.aload_n 0, 1) := by decide +kernel
theorem k43_1 : decode (mB 43) 1 = .ok (.getfield 15, 3) := by decide +kernel
theorem k43_4 : decode (mB 43) 4 = .ok (.iload_n 1, 1) := by decide +kernel
theorem k43_5 : decode (mB 43) 5 = .ok (.iaload, 1) := by decide +kernel
theorem k43_6 : decode (mB 43) 6 = .ok (.istore_n 2, 1) := by decide +kernel
theorem k43_7 : decode (mB 43) 7 = .ok (.iconst 1, 1) := by decide +kernel
theorem k43_8 : decode (mB 43) 8 = .ok (.istore_n 3, 1) := by decide +kernel
theorem k43_9 : decode (mB 43) 9 = .ok (.iload_n 3, 1) := by decide +kernel
theorem k43_10 : decode (mB 43) 10 = .ok (.aload_n 0, 1) := by decide +kernel
theorem k43_11 : decode (mB 43) 11 = .ok (.getfield 45, 3) := by decide +kernel
theorem k43_14 : decode (mB 43) 14 = .ok (.if_icmp .ge 21, 3) := by decide +kernel
theorem k43_17 : decode (mB 43) 17 = .ok (.iload_n 2, 1) := by decide +kernel
theorem k43_18 : decode (mB 43) 18 = .ok (.iload_n 1, 1) := by decide +kernel
theorem k43_19 : decode (mB 43) 19 = .ok (.if_icmp .le 16, 3) := by decide +kernel
theorem k43_22 : decode (mB 43) 22 = .ok (.aload_n 0, 1) := by decide +kernel
theorem k43_23 : decode (mB 43) 23 = .ok (.getfield 15, 3) := by decide +kernel
theorem k43_26 : decode (mB 43) 26 = .ok (.iload_n 2, 1) := by decide +kernel
theorem k43_27 : decode (mB 43) 27 = .ok (.iaload, 1) := by decide +kernel
theorem k43_28 : decode (mB 43) 28 = .ok (.istore_n 2, 1) := by decide +kernel
theorem k43_29 : decode (mB 43) 29 = .ok (.iinc 3 1, 3) := by decide +kernel
theorem k43_32 : decode (mB 43) 32 = .ok (.goto (-23), 3) := by decide +kernel
theorem k43_35 : decode (mB 43) 35 = .ok (.iload_n 2, 1) := by decide +kernel
theorem k43_36 : decode (mB 43) 36 = .ok (.iload_n 1, 1) := by decide +kernel
theorem k43_37 : decode (mB 43) 37 = .ok (.if_icmp .ne 7, 3) := by decide +kernel
theorem k43_40 : decode (mB 43) 40 = .ok (.iload_n 3, 1) := by decide +kernel
theorem k43_41 : decode (mB 43) 41 = .ok (.goto 4, 3) := by decide +kernel
theorem k43_44 : decode (mB 43) 44 = .ok (.iconst 0, 1) := by decide +kernel
theorem k43_45 : decode (mB 43) 45 = .ok (.ireturn, 1) := by decide +kernel
/-- Reach.roundFrom, loop at 9 -/
noncomputable def q43_9 (v0 : Nat) (v1 : Int32) (v2 : Int32) (v3 : Int32) (h : mHeap) : mR' := E 43 9 [some (.ref v0), some (.int v1), some (.int v2), some (.int v3)] [] h
theorem q43_9_eq (v0 : Nat) (v1 : Int32) (v2 : Int32) (v3 : Int32) (h : mHeap) : q43_9 v0 v1 v2 v3 h = (gI h v0 5 6).bind fun x1 => if x1 ≤ (v3 : Int32) then (if ¬ (v2 : Int32) = v1 then (some (some (.int 0), h)) else (some (some (.int v3), h))) else (if (v2 : Int32) ≤ v1 then (if ¬ (v2 : Int32) = v1 then (some (some (.int 0), h)) else (some (some (.int v3), h))) else ((gR h v0 5 1).bind fun x2 => (cAldI false h x2 v2).bind fun x3 => q43_9 v0 v1 x3 (v3 + 1) h)) := by
  unfold q43_9
  refine e_iload_n (pc' := 10) k43_9 rfl rfl ?_
  refine e_aload_n (pc' := 11) k43_10 rfl rfl ?_
  refine e_getI (pc' := 14) k43_11 rfl (ci := 5) (k := 6) (by decide +kernel) (by decide +kernel) (fun x1 => ?_)
  refine e_icmpge (t := 35) (pc' := 17) k43_14 rfl (by decide) (fun _ => ?_) (fun _ => ?_)
  · refine e_iload_n (pc' := 36) k43_35 rfl rfl ?_
    refine e_iload_n (pc' := 37) k43_36 rfl rfl ?_
    refine e_icmpne (t := 44) (pc' := 40) k43_37 rfl (by decide) (fun _ => ?_) (fun _ => ?_)
    · refine e_iconst (v := 0) (pc' := 45) k43_44 rfl rfl ?_
      exact e_iret k43_45 (by decide +kernel)
    · refine e_iload_n (pc' := 41) k43_40 rfl rfl ?_
      refine e_goto (pc' := 45) k43_41 (by decide) ?_
      exact e_iret k43_45 (by decide +kernel)
  · refine e_iload_n (pc' := 18) k43_17 rfl rfl ?_
    refine e_iload_n (pc' := 19) k43_18 rfl rfl ?_
    refine e_icmple (t := 35) (pc' := 22) k43_19 rfl (by decide) (fun _ => ?_) (fun _ => ?_)
    · refine e_iload_n (pc' := 36) k43_35 rfl rfl ?_
      refine e_iload_n (pc' := 37) k43_36 rfl rfl ?_
      refine e_icmpne (t := 44) (pc' := 40) k43_37 rfl (by decide) (fun _ => ?_) (fun _ => ?_)
      · refine e_iconst (v := 0) (pc' := 45) k43_44 rfl rfl ?_
        exact e_iret k43_45 (by decide +kernel)
      · refine e_iload_n (pc' := 41) k43_40 rfl rfl ?_
        refine e_goto (pc' := 45) k43_41 (by decide) ?_
        exact e_iret k43_45 (by decide +kernel)
    · refine e_aload_n (pc' := 23) k43_22 rfl rfl ?_
      refine e_getR (pc' := 26) k43_23 rfl (ci := 5) (k := 1) (by decide +kernel) (by decide +kernel) (fun x2 => ?_)
      refine e_iload_n (pc' := 27) k43_26 rfl rfl ?_
      refine e_iald (pc' := 28) k43_27 rfl (lw := false) rfl (fun x3 => ?_)
      refine e_istore_n (pc' := 29) k43_28 rfl rfl ?_
      refine e_iinc (c := 1) (pc' := 32) k43_29 rfl rfl rfl rfl ?_
      refine e_goto (pc' := 9) k43_32 (by decide) ?_
      rfl
/-- Reach.roundFrom(I)I -/
theorem F43_eq (v0 : Nat) (v1 : Int32) (h : mHeap) : F 43 [.ref v0, .int v1] h = (gR h v0 5 1).bind fun x1 => (cAldI false h x1 v1).bind fun x2 => q43_9 v0 v1 x2 1 h := by
  show D 43 0 (mEnt 43 [.ref v0, .int v1]) [] h 0 0 = _
  rw [show mEnt 43 [.ref v0, .int v1] = [some (.ref v0), some (.int v1), none, none] from rfl]
  refine e_aload_n (pc' := 1) k43_0 rfl rfl ?_
  refine e_getR (pc' := 4) k43_1 rfl (ci := 5) (k := 1) (by decide +kernel) (by decide +kernel) (fun x1 => ?_)
  refine e_iload_n (pc' := 5) k43_4 rfl rfl ?_
  refine e_iald (pc' := 6) k43_5 rfl (lw := false) rfl (fun x2 => ?_)
  refine e_istore_n (pc' := 7) k43_6 rfl rfl ?_
  refine e_iconst (v := 1) (pc' := 8) k43_7 rfl rfl ?_
  refine e_istore_n (pc' := 9) k43_8 rfl rfl ?_
  rfl
theorem k45_0 : decode (mB 45) 0 = .ok (.aload_n 0, 1) := by decide +kernel
theorem k45_1 : decode (mB 45) 1 = .ok (.getfield 9, 3) := by decide +kernel
theorem k45_4 : decode (mB 45) 4 = .ok (.ifCond .ge 7, 3) := by decide +kernel
theorem k45_7 : decode (mB 45) 7 = .ok (.iconst 1, 1) := by decide +kernel
theorem k45_8 : decode (mB 45) 8 = .ok (.goto 4, 3) := by decide +kernel
theorem k45_11 : decode (mB 45) 11 = .ok (.iconst 0, 1) := by decide +kernel
theorem k45_12 : decode (mB 45) 12 = .ok (.ireturn, 1) := by decide +kernel
/-- Sheet.isMissing()Z -/
theorem F45_eq (v0 : Nat) (h : mHeap) : F 45 [.ref v0] h = (gI h v0 6 0).bind fun x1 => if 0 ≤ (x1 : Int32) then (if narrow .boolean (.int 0) = .int 0 then some (some (.int 0), h) else none) else (if narrow .boolean (.int 1) = .int 1 then some (some (.int 1), h) else none) := by
  show D 45 0 (mEnt 45 [.ref v0]) [] h 0 0 = _
  rw [show mEnt 45 [.ref v0] = [some (.ref v0)] from rfl]
  refine e_aload_n (pc' := 1) k45_0 rfl rfl ?_
  refine e_getI (pc' := 4) k45_1 rfl (ci := 6) (k := 0) (by decide +kernel) (by decide +kernel) (fun x1 => ?_)
  refine e_ifge (t := 11) (pc' := 7) k45_4 rfl (by decide) (fun _ => ?_) (fun _ => ?_)
  · refine e_iconst (v := 0) (pc' := 12) k45_11 rfl rfl ?_
    exact e_zret k45_12 (by decide +kernel)
  · refine e_iconst (v := 1) (pc' := 8) k45_7 rfl rfl ?_
    refine e_goto (pc' := 12) k45_8 (by decide) ?_
    exact e_zret k45_12 (by decide +kernel)
theorem k46_0 : decode (mB 46) 0 = .ok (.aload_n 0, 1) := by decide +kernel
theorem k46_1 : decode (mB 46) 1 = .ok (.iconst (-1), 1) := by decide +kernel
theorem k46_2 : decode (mB 46) 2 = .ok (.putfield 9, 3) := by decide +kernel
theorem k46_5 : decode (mB 46) 5 = .ok (.return_, 1) := by decide +kernel
/-- Sheet.vanish()V -/
theorem F46_eq (v0 : Nat) (h : mHeap) : F 46 [.ref v0] h = (cPut h v0 6 0 (.int (-1))).bind fun h1 => some (none, h1) := by
  show D 46 0 (mEnt 46 [.ref v0]) [] h 0 0 = _
  rw [show mEnt 46 [.ref v0] = [some (.ref v0)] from rfl]
  refine e_aload_n (pc' := 1) k46_0 rfl rfl ?_
  refine e_iconst (v := -1) (pc' := 2) k46_1 rfl rfl ?_
  refine e_put (pc' := 5) k46_2 rfl (ci := 6) (k := 0) (by decide +kernel) (by decide +kernel) rfl (fun h1 => ?_)
  exact e_vret k46_5 (by decide +kernel)
theorem k47_0 : decode (mB 47) 0 = .ok (.aload_n 0, 1) := by decide +kernel
theorem k47_1 : decode (mB 47) 1 = .ok (.iload_n 1, 1) := by decide +kernel
theorem k47_2 : decode (mB 47) 2 = .ok (.putfield 9, 3) := by decide +kernel
theorem k47_5 : decode (mB 47) 5 = .ok (.iconst 0, 1) := by decide +kernel
theorem k47_6 : decode (mB 47) 6 = .ok (.istore_n 2, 1) := by decide +kernel
theorem k47_7 : decode (mB 47) 7 = .ok (.iload_n 2, 1) := by decide +kernel
theorem k47_8 : decode (mB 47) 8 = .ok (.bipush 8, 2) := by decide +kernel
theorem k47_10 : decode (mB 47) 10 = .ok (.if_icmp .ge 16, 3) := by decide +kernel
theorem k47_13 : decode (mB 47) 13 = .ok (.aload_n 0, 1) := by decide +kernel
theorem k47_14 : decode (mB 47) 14 = .ok (.getfield 15, 3) := by decide +kernel
theorem k47_17 : decode (mB 47) 17 = .ok (.iload_n 2, 1) := by decide +kernel
theorem k47_18 : decode (mB 47) 18 = .ok (.iconst 0, 1) := by decide +kernel
theorem k47_19 : decode (mB 47) 19 = .ok (.bastore, 1) := by decide +kernel
theorem k47_20 : decode (mB 47) 20 = .ok (.iinc 2 1, 3) := by decide +kernel
theorem k47_23 : decode (mB 47) 23 = .ok (.goto (-16), 3) := by decide +kernel
theorem k47_26 : decode (mB 47) 26 = .ok (.return_, 1) := by decide +kernel
/-- Sheet.clear, loop at 7 -/
noncomputable def q47_7 (v0 : Nat) (v1 : Int32) (v2 : Int32) (h : mHeap) : mR' := E 47 7 [some (.ref v0), some (.int v1), some (.int v2)] [] h
theorem q47_7_eq (v0 : Nat) (v1 : Int32) (v2 : Int32) (h : mHeap) : q47_7 v0 v1 v2 h = if 8 ≤ (v2 : Int32) then (some (none, h)) else ((gR h v0 6 1).bind fun x1 => (cAstB h x1 v2 0).bind fun h2 => q47_7 v0 v1 (v2 + 1) h2) := by
  unfold q47_7
  refine e_iload_n (pc' := 8) k47_7 rfl rfl ?_
  refine e_bipush (v := 8) (pc' := 10) k47_8 rfl rfl ?_
  refine e_icmpge (t := 26) (pc' := 13) k47_10 rfl (by decide) (fun _ => ?_) (fun _ => ?_)
  · exact e_vret k47_26 (by decide +kernel)
  · refine e_aload_n (pc' := 14) k47_13 rfl rfl ?_
    refine e_getR (pc' := 17) k47_14 rfl (ci := 6) (k := 1) (by decide +kernel) (by decide +kernel) (fun x1 => ?_)
    refine e_iload_n (pc' := 18) k47_17 rfl rfl ?_
    refine e_iconst (v := 0) (pc' := 19) k47_18 rfl rfl ?_
    refine e_bast (pc' := 20) k47_19 rfl (fun h2 => ?_)
    refine e_iinc (c := 1) (pc' := 23) k47_20 rfl rfl rfl rfl ?_
    refine e_goto (pc' := 7) k47_23 (by decide) ?_
    rfl
/-- Sheet.clear(I)V -/
theorem F47_eq (v0 : Nat) (v1 : Int32) (h : mHeap) : F 47 [.ref v0, .int v1] h = (cPut h v0 6 0 (.int v1)).bind fun h1 => q47_7 v0 v1 0 h1 := by
  show D 47 0 (mEnt 47 [.ref v0, .int v1]) [] h 0 0 = _
  rw [show mEnt 47 [.ref v0, .int v1] = [some (.ref v0), some (.int v1), none] from rfl]
  refine e_aload_n (pc' := 1) k47_0 rfl rfl ?_
  refine e_iload_n (pc' := 2) k47_1 rfl rfl ?_
  refine e_put (pc' := 5) k47_2 rfl (ci := 6) (k := 0) (by decide +kernel) (by decide +kernel) rfl (fun h1 => ?_)
  refine e_iconst (v := 0) (pc' := 6) k47_5 rfl rfl ?_
  refine e_istore_n (pc' := 7) k47_6 rfl rfl ?_
  rfl
theorem k48_0 : decode (mB 48) 0 = .ok (.iload_n 1, 1) := by decide +kernel
theorem k48_1 : decode (mB 48) 1 = .ok (.ifCond .lt 25, 3) := by decide +kernel
theorem k48_4 : decode (mB 48) 4 = .ok (.iload_n 1, 1) := by decide +kernel
theorem k48_5 : decode (mB 48) 5 = .ok (.aload_n 0, 1) := by decide +kernel
theorem k48_6 : decode (mB 48) 6 = .ok (.getfield 9, 3) := by decide +kernel
theorem k48_9 : decode (mB 48) 9 = .ok (.if_icmp .gt 17, 3) := by decide +kernel
theorem k48_12 : decode (mB 48) 12 = .ok (.iload_n 2, 1) := by decide +kernel
theorem k48_13 : decode (mB 48) 13 = .ok (.aload_n 0, 1) := by decide +kernel
theorem k48_14 : decode (mB 48) 14 = .ok (.getfield 9, 3) := by decide +kernel
theorem k48_17 : decode (mB 48) 17 = .ok (.iload_n 1, 1) := by decide +kernel
theorem k48_18 : decode (mB 48) 18 = .ok (.isub, 1) := by decide +kernel
theorem k48_19 : decode (mB 48) 19 = .ok (.if_icmp .gt 7, 3) := by decide +kernel
theorem k48_22 : decode (mB 48) 22 = .ok (.iconst 1, 1) := by decide +kernel
theorem k48_23 : decode (mB 48) 23 = .ok (.goto 4, 3) := by decide +kernel
theorem k48_26 : decode (mB 48) 26 = .ok (.iconst 0, 1) := by decide +kernel
theorem k48_27 : decode (mB 48) 27 = .ok (.ireturn, 1) := by decide +kernel
/-- Sheet.has(II)Z -/
theorem F48_eq (v0 : Nat) (v1 : Int32) (v2 : Int32) (h : mHeap) : F 48 [.ref v0, .int v1, .int v2] h = if (v1 : Int32) < 0 then (if narrow .boolean (.int 0) = .int 0 then some (some (.int 0), h) else none) else ((gI h v0 6 0).bind fun x1 => if x1 < (v1 : Int32) then (if narrow .boolean (.int 0) = .int 0 then some (some (.int 0), h) else none) else ((gI h v0 6 0).bind fun x2 => if (x2 - v1) < (v2 : Int32) then (if narrow .boolean (.int 0) = .int 0 then some (some (.int 0), h) else none) else (if narrow .boolean (.int 1) = .int 1 then some (some (.int 1), h) else none))) := by
  show D 48 0 (mEnt 48 [.ref v0, .int v1, .int v2]) [] h 0 0 = _
  rw [show mEnt 48 [.ref v0, .int v1, .int v2] = [some (.ref v0), some (.int v1), some (.int v2)] from rfl]
  refine e_iload_n (pc' := 1) k48_0 rfl rfl ?_
  refine e_iflt (t := 26) (pc' := 4) k48_1 rfl (by decide) (fun _ => ?_) (fun _ => ?_)
  · refine e_iconst (v := 0) (pc' := 27) k48_26 rfl rfl ?_
    exact e_zret k48_27 (by decide +kernel)
  · refine e_iload_n (pc' := 5) k48_4 rfl rfl ?_
    refine e_aload_n (pc' := 6) k48_5 rfl rfl ?_
    refine e_getI (pc' := 9) k48_6 rfl (ci := 6) (k := 0) (by decide +kernel) (by decide +kernel) (fun x1 => ?_)
    refine e_icmpgt (t := 26) (pc' := 12) k48_9 rfl (by decide) (fun _ => ?_) (fun _ => ?_)
    · refine e_iconst (v := 0) (pc' := 27) k48_26 rfl rfl ?_
      exact e_zret k48_27 (by decide +kernel)
    · refine e_iload_n (pc' := 13) k48_12 rfl rfl ?_
      refine e_aload_n (pc' := 14) k48_13 rfl rfl ?_
      refine e_getI (pc' := 17) k48_14 rfl (ci := 6) (k := 0) (by decide +kernel) (by decide +kernel) (fun x2 => ?_)
      refine e_iload_n (pc' := 18) k48_17 rfl rfl ?_
      refine e_isub (pc' := 19) k48_18 rfl ?_
      refine e_icmpgt (t := 26) (pc' := 22) k48_19 rfl (by decide) (fun _ => ?_) (fun _ => ?_)
      · refine e_iconst (v := 0) (pc' := 27) k48_26 rfl rfl ?_
        exact e_zret k48_27 (by decide +kernel)
      · refine e_iconst (v := 1) (pc' := 23) k48_22 rfl rfl ?_
        refine e_goto (pc' := 27) k48_23 (by decide) ?_
        exact e_zret k48_27 (by decide +kernel)
theorem k49_0 : decode (mB 49) 0 = .ok (.iconst 0, 1) := by decide +kernel
theorem k49_1 : decode (mB 49) 1 = .ok (.istore_n 1, 1) := by decide +kernel
theorem k49_2 : decode (mB 49) 2 = .ok (.iconst 0, 1) := by decide +kernel
theorem k49_3 : decode (mB 49) 3 = .ok (.istore_n 2, 1) := by decide +kernel
theorem k49_4 : decode (mB 49) 4 = .ok (.iload_n 2, 1) := by decide +kernel
theorem k49_5 : decode (mB 49) 5 = .ok (.aload_n 0, 1) := by decide +kernel
theorem k49_6 : decode (mB 49) 6 = .ok (.getfield 9, 3) := by decide +kernel
theorem k49_9 : decode (mB 49) 9 = .ok (.if_icmp .ge 44, 3) := by decide +kernel
theorem k49_12 : decode (mB 49) 12 = .ok (.aload_n 0, 1) := by decide +kernel
theorem k49_13 : decode (mB 49) 13 = .ok (.getfield 15, 3) := by decide +kernel
theorem k49_16 : decode (mB 49) 16 = .ok (.iload_n 2, 1) := by decide +kernel
theorem k49_17 : decode (mB 49) 17 = .ok (.baload, 1) := by decide +kernel
theorem k49_18 : decode (mB 49) 18 = .ok (.ifCond .lt 16, 3) := by decide +kernel
theorem k49_21 : decode (mB 49) 21 = .ok (.aload_n 0, 1) := by decide +kernel
theorem k49_22 : decode (mB 49) 22 = .ok (.getfield 15, 3) := by decide +kernel
theorem k49_25 : decode (mB 49) 25 = .ok (.iload_n 2, 1) := by decide +kernel
theorem k49_26 : decode (mB 49) 26 = .ok (.baload, 1) := by decide +kernel
theorem k49_27 : decode (mB 49) 27 = .ok (.aload_n 0, 1) := by decide +kernel
theorem k49_28 : decode (mB 49) 28 = .ok (.getfield 9, 3) := by decide +kernel
theorem k49_31 : decode (mB 49) 31 = .ok (.if_icmp .lt 5, 3) := by decide +kernel
theorem k49_34 : decode (mB 49) 34 = .ok (.iconst 0, 1) := by decide +kernel
theorem k49_35 : decode (mB 49) 35 = .ok (.ireturn, 1) := by decide +kernel
theorem k49_36 : decode (mB 49) 36 = .ok (.iload_n 1, 1) := by decide +kernel
theorem k49_37 : decode (mB 49) 37 = .ok (.iconst 1, 1) := by decide +kernel
theorem k49_38 : decode (mB 49) 38 = .ok (.aload_n 0, 1) := by decide +kernel
theorem k49_39 : decode (mB 49) 39 = .ok (.getfield 15, 3) := by decide +kernel
theorem k49_42 : decode (mB 49) 42 = .ok (.iload_n 2, 1) := by decide +kernel
theorem k49_43 : decode (mB 49) 43 = .ok (.baload, 1) := by decide +kernel
theorem k49_44 : decode (mB 49) 44 = .ok (.ishl, 1) := by decide +kernel
theorem k49_45 : decode (mB 49) 45 = .ok (.ior, 1) := by decide +kernel
theorem k49_46 : decode (mB 49) 46 = .ok (.istore_n 1, 1) := by decide +kernel
theorem k49_47 : decode (mB 49) 47 = .ok (.iinc 2 1, 3) := by decide +kernel
theorem k49_50 : decode (mB 49) 50 = .ok (.goto (-46), 3) := by decide +kernel
theorem k49_53 : decode (mB 49) 53 = .ok (.iload_n 1, 1) := by decide +kernel
theorem k49_54 : decode (mB 49) 54 = .ok (.iconst 1, 1) := by decide +kernel
theorem k49_55 : decode (mB 49) 55 = .ok (.aload_n 0, 1) := by decide +kernel
theorem k49_56 : decode (mB 49) 56 = .ok (.getfield 9, 3) := by decide +kernel
theorem k49_59 : decode (mB 49) 59 = .ok (.ishl, 1) := by decide +kernel
theorem k49_60 : decode (mB 49) 60 = .ok (.iconst 1, 1) := by decide +kernel
theorem k49_61 : decode (mB 49) 61 = .ok (.isub, 1) := by decide +kernel
theorem k49_62 : decode (mB 49) 62 = .ok (.if_icmp .ne 7, 3) := by decide +kernel
theorem k49_65 : decode (mB 49) 65 = .ok (.iconst 1, 1) := by decide +kernel
theorem k49_66 : decode (mB 49) 66 = .ok (.goto 4, 3) := by decide +kernel
theorem k49_69 : decode (mB 49) 69 = .ok (.iconst 0, 1) := by decide +kernel
theorem k49_70 : decode (mB 49) 70 = .ok (.ireturn, 1) := by decide +kernel
/-- Sheet.hasEachOnce, loop at 4 -/
noncomputable def q49_4 (v0 : Nat) (v1 : Int32) (v2 : Int32) (h : mHeap) : mR' := E 49 4 [some (.ref v0), some (.int v1), some (.int v2)] [] h
theorem q49_4_eq (v0 : Nat) (v1 : Int32) (v2 : Int32) (h : mHeap) : q49_4 v0 v1 v2 h = (gI h v0 6 0).bind fun x1 => if x1 ≤ (v2 : Int32) then ((gI h v0 6 0).bind fun x2 => if ¬ (v1 : Int32) = ((1 <<< (x2 &&& 31)) - 1) then (if narrow .boolean (.int 0) = .int 0 then some (some (.int 0), h) else none) else (if narrow .boolean (.int 1) = .int 1 then some (some (.int 1), h) else none)) else ((gR h v0 6 1).bind fun x3 => (cAldB h x3 v2).bind fun x4 => if (x4 : Int32) < 0 then (if narrow .boolean (.int 0) = .int 0 then some (some (.int 0), h) else none) else ((gR h v0 6 1).bind fun x5 => (cAldB h x5 v2).bind fun x6 => (gI h v0 6 0).bind fun x7 => if (x6 : Int32) < x7 then ((gR h v0 6 1).bind fun x8 => (cAldB h x8 v2).bind fun x9 => q49_4 v0 (v1 ||| (1 <<< (x9 &&& 31))) (v2 + 1) h) else (if narrow .boolean (.int 0) = .int 0 then some (some (.int 0), h) else none))) := by
  unfold q49_4
  refine e_iload_n (pc' := 5) k49_4 rfl rfl ?_
  refine e_aload_n (pc' := 6) k49_5 rfl rfl ?_
  refine e_getI (pc' := 9) k49_6 rfl (ci := 6) (k := 0) (by decide +kernel) (by decide +kernel) (fun x1 => ?_)
  refine e_icmpge (t := 53) (pc' := 12) k49_9 rfl (by decide) (fun _ => ?_) (fun _ => ?_)
  · refine e_iload_n (pc' := 54) k49_53 rfl rfl ?_
    refine e_iconst (v := 1) (pc' := 55) k49_54 rfl rfl ?_
    refine e_aload_n (pc' := 56) k49_55 rfl rfl ?_
    refine e_getI (pc' := 59) k49_56 rfl (ci := 6) (k := 0) (by decide +kernel) (by decide +kernel) (fun x2 => ?_)
    refine e_ishl (pc' := 60) k49_59 rfl ?_
    refine e_iconst (v := 1) (pc' := 61) k49_60 rfl rfl ?_
    refine e_isub (pc' := 62) k49_61 rfl ?_
    refine e_icmpne (t := 69) (pc' := 65) k49_62 rfl (by decide) (fun _ => ?_) (fun _ => ?_)
    · refine e_iconst (v := 0) (pc' := 70) k49_69 rfl rfl ?_
      exact e_zret k49_70 (by decide +kernel)
    · refine e_iconst (v := 1) (pc' := 66) k49_65 rfl rfl ?_
      refine e_goto (pc' := 70) k49_66 (by decide) ?_
      exact e_zret k49_70 (by decide +kernel)
  · refine e_aload_n (pc' := 13) k49_12 rfl rfl ?_
    refine e_getR (pc' := 16) k49_13 rfl (ci := 6) (k := 1) (by decide +kernel) (by decide +kernel) (fun x3 => ?_)
    refine e_iload_n (pc' := 17) k49_16 rfl rfl ?_
    refine e_bald (pc' := 18) k49_17 rfl (fun x4 => ?_)
    refine e_iflt (t := 34) (pc' := 21) k49_18 rfl (by decide) (fun _ => ?_) (fun _ => ?_)
    · refine e_iconst (v := 0) (pc' := 35) k49_34 rfl rfl ?_
      exact e_zret k49_35 (by decide +kernel)
    · refine e_aload_n (pc' := 22) k49_21 rfl rfl ?_
      refine e_getR (pc' := 25) k49_22 rfl (ci := 6) (k := 1) (by decide +kernel) (by decide +kernel) (fun x5 => ?_)
      refine e_iload_n (pc' := 26) k49_25 rfl rfl ?_
      refine e_bald (pc' := 27) k49_26 rfl (fun x6 => ?_)
      refine e_aload_n (pc' := 28) k49_27 rfl rfl ?_
      refine e_getI (pc' := 31) k49_28 rfl (ci := 6) (k := 0) (by decide +kernel) (by decide +kernel) (fun x7 => ?_)
      refine e_icmplt (t := 36) (pc' := 34) k49_31 rfl (by decide) (fun _ => ?_) (fun _ => ?_)
      · refine e_iload_n (pc' := 37) k49_36 rfl rfl ?_
        refine e_iconst (v := 1) (pc' := 38) k49_37 rfl rfl ?_
        refine e_aload_n (pc' := 39) k49_38 rfl rfl ?_
        refine e_getR (pc' := 42) k49_39 rfl (ci := 6) (k := 1) (by decide +kernel) (by decide +kernel) (fun x8 => ?_)
        refine e_iload_n (pc' := 43) k49_42 rfl rfl ?_
        refine e_bald (pc' := 44) k49_43 rfl (fun x9 => ?_)
        refine e_ishl (pc' := 45) k49_44 rfl ?_
        refine e_ior (pc' := 46) k49_45 rfl ?_
        refine e_istore_n (pc' := 47) k49_46 rfl rfl ?_
        refine e_iinc (c := 1) (pc' := 50) k49_47 rfl rfl rfl rfl ?_
        refine e_goto (pc' := 4) k49_50 (by decide) ?_
        rfl
      · refine e_iconst (v := 0) (pc' := 35) k49_34 rfl rfl ?_
        exact e_zret k49_35 (by decide +kernel)
/-- Sheet.hasEachOnce()Z -/
theorem F49_eq (v0 : Nat) (h : mHeap) : F 49 [.ref v0] h = q49_4 v0 0 0 h := by
  show D 49 0 (mEnt 49 [.ref v0]) [] h 0 0 = _
  rw [show mEnt 49 [.ref v0] = [some (.ref v0), none, none] from rfl]
  refine e_iconst (v := 0) (pc' := 1) k49_0 rfl rfl ?_
  refine e_istore_n (pc' := 2) k49_1 rfl rfl ?_
  refine e_iconst (v := 0) (pc' := 3) k49_2 rfl rfl ?_
  refine e_istore_n (pc' := 4) k49_3 rfl rfl ?_
  rfl
theorem k50_0 : decode (mB 50) 0 = .ok (.ldc2_w 19, 3) := by decide +kernel
theorem k50_3 : decode (mB 50) 3 = .ok (.lload_n 1, 1) := by decide +kernel
theorem k50_4 : decode (mB 50) 4 = .ok (.lmul, 1) := by decide +kernel
theorem k50_5 : decode (mB 50) 5 = .ok (.aload_n 0, 1) := by decide +kernel
theorem k50_6 : decode (mB 50) 6 = .ok (.getfield 9, 3) := by decide +kernel
theorem k50_9 : decode (mB 50) 9 = .ok (.i2l, 1) := by decide +kernel
theorem k50_10 : decode (mB 50) 10 = .ok (.ladd, 1) := by decide +kernel
theorem k50_11 : decode (mB 50) 11 = .ok (.lstore_n 1, 1) := by decide +kernel
theorem k50_12 : decode (mB 50) 12 = .ok (.iconst 0, 1) := by decide +kernel
theorem k50_13 : decode (mB 50) 13 = .ok (.istore_n 3, 1) := by decide +kernel
theorem k50_14 : decode (mB 50) 14 = .ok (.iload_n 3, 1) := by decide +kernel
theorem k50_15 : decode (mB 50) 15 = .ok (.aload_n 0, 1) := by decide +kernel
theorem k50_16 : decode (mB 50) 16 = .ok (.getfield 9, 3) := by decide +kernel
theorem k50_19 : decode (mB 50) 19 = .ok (.if_icmp .ge 23, 3) := by decide +kernel
theorem k50_22 : decode (mB 50) 22 = .ok (.ldc2_w 19, 3) := by decide +kernel
theorem k50_25 : decode (mB 50) 25 = .ok (.lload_n 1, 1) := by decide +kernel
theorem k50_26 : decode (mB 50) 26 = .ok (.lmul, 1) := by decide +kernel
theorem k50_27 : decode (mB 50) 27 = .ok (.aload_n 0, 1) := by decide +kernel
theorem k50_28 : decode (mB 50) 28 = .ok (.getfield 15, 3) := by decide +kernel
theorem k50_31 : decode (mB 50) 31 = .ok (.iload_n 3, 1) := by decide +kernel
theorem k50_32 : decode (mB 50) 32 = .ok (.baload, 1) := by decide +kernel
theorem k50_33 : decode (mB 50) 33 = .ok (.i2l, 1) := by decide +kernel
theorem k50_34 : decode (mB 50) 34 = .ok (.ladd, 1) := by decide +kernel
theorem k50_35 : decode (mB 50) 35 = .ok (.lstore_n 1, 1) := by decide +kernel
theorem k50_36 : decode (mB 50) 36 = .ok (.iinc 3 1, 3) := by decide +kernel
theorem k50_39 : decode (mB 50) 39 = .ok (.goto (-25), 3) := by decide +kernel
theorem k50_42 : decode (mB 50) 42 = .ok (.lload_n 1, 1) := by decide +kernel
theorem k50_43 : decode (mB 50) 43 = .ok (.lreturn, 1) := by decide +kernel
/-- Sheet.mixInto, loop at 14 -/
noncomputable def q50_14 (v0 : Nat) (v1 : Int64) (v3 : Int32) (h : mHeap) : mR' := E 50 14 [some (.ref v0), some (.long v1), none, some (.int v3)] [] h
theorem q50_14_eq (v0 : Nat) (v1 : Int64) (v3 : Int32) (h : mHeap) : q50_14 v0 v1 v3 h = (gI h v0 6 0).bind fun x1 => if x1 ≤ (v3 : Int32) then (some (some (.long v1), h)) else ((gR h v0 6 1).bind fun x2 => (cAldB h x2 v3).bind fun x3 => q50_14 v0 ((31 * v1) + (Int32.toInt64 x3)) (v3 + 1) h) := by
  unfold q50_14
  refine e_iload_n (pc' := 15) k50_14 rfl rfl ?_
  refine e_aload_n (pc' := 16) k50_15 rfl rfl ?_
  refine e_getI (pc' := 19) k50_16 rfl (ci := 6) (k := 0) (by decide +kernel) (by decide +kernel) (fun x1 => ?_)
  refine e_icmpge (t := 42) (pc' := 22) k50_19 rfl (by decide) (fun _ => ?_) (fun _ => ?_)
  · refine e_lload_n (pc' := 43) k50_42 rfl rfl ?_
    exact e_lret k50_43 (by decide +kernel)
  · refine e_ldc2 (v := 31) (pc' := 25) k50_22 rfl (by decide +kernel) ?_
    refine e_lload_n (pc' := 26) k50_25 rfl rfl ?_
    refine e_lmul (pc' := 27) k50_26 rfl ?_
    refine e_aload_n (pc' := 28) k50_27 rfl rfl ?_
    refine e_getR (pc' := 31) k50_28 rfl (ci := 6) (k := 1) (by decide +kernel) (by decide +kernel) (fun x2 => ?_)
    refine e_iload_n (pc' := 32) k50_31 rfl rfl ?_
    refine e_bald (pc' := 33) k50_32 rfl (fun x3 => ?_)
    refine e_i2l (pc' := 34) k50_33 rfl ?_
    refine e_ladd (pc' := 35) k50_34 rfl ?_
    refine e_lstore_n (pc' := 36) k50_35 rfl rfl ?_
    refine e_iinc (c := 1) (pc' := 39) k50_36 rfl rfl rfl rfl ?_
    refine e_goto (pc' := 14) k50_39 (by decide) ?_
    rfl
/-- Sheet.mixInto(J)J -/
theorem F50_eq (v0 : Nat) (v1 : Int64) (h : mHeap) : F 50 [.ref v0, .long v1] h = (gI h v0 6 0).bind fun x1 => q50_14 v0 ((31 * v1) + (Int32.toInt64 x1)) 0 h := by
  show D 50 0 (mEnt 50 [.ref v0, .long v1]) [] h 0 0 = _
  rw [show mEnt 50 [.ref v0, .long v1] = [some (.ref v0), some (.long v1), none, none] from rfl]
  refine e_ldc2 (v := 31) (pc' := 3) k50_0 rfl (by decide +kernel) ?_
  refine e_lload_n (pc' := 4) k50_3 rfl rfl ?_
  refine e_lmul (pc' := 5) k50_4 rfl ?_
  refine e_aload_n (pc' := 6) k50_5 rfl rfl ?_
  refine e_getI (pc' := 9) k50_6 rfl (ci := 6) (k := 0) (by decide +kernel) (by decide +kernel) (fun x1 => ?_)
  refine e_i2l (pc' := 10) k50_9 rfl ?_
  refine e_ladd (pc' := 11) k50_10 rfl ?_
  refine e_lstore_n (pc' := 12) k50_11 rfl rfl ?_
  refine e_iconst (v := 0) (pc' := 13) k50_12 rfl rfl ?_
  refine e_istore_n (pc' := 14) k50_13 rfl rfl ?_
  rfl
