theorem k136_0 : decode (mB 136) 0 = .ok (.iconst 0, 1) := by decide +kernel
theorem k136_1 : decode (mB 136) 1 = .ok (.istore_n 2, 1) := by decide +kernel
theorem k136_2 : decode (mB 136) 2 = .ok (.iload_n 2, 1) := by decide +kernel
theorem k136_3 : decode (mB 136) 3 = .ok (.aload_n 0, 1) := by decide +kernel
theorem k136_4 : decode (mB 136) 4 = .ok (.getfield 105, 3) := by decide +kernel
theorem k136_7 : decode (mB 136) 7 = .ok (.if_icmp .ge 21, 3) := by decide +kernel
theorem k136_10 : decode (mB 136) 10 = .ok (.aload_n 0, 1) := by decide +kernel
theorem k136_11 : decode (mB 136) 11 = .ok (.getfield 58, 3) := by decide +kernel
theorem k136_14 : decode (mB 136) 14 = .ok (.iload_n 2, 1) := by decide +kernel
theorem k136_15 : decode (mB 136) 15 = .ok (.aload_n 0, 1) := by decide +kernel
theorem k136_16 : decode (mB 136) 16 = .ok (.getfield 25, 3) := by decide +kernel
theorem k136_19 : decode (mB 136) 19 = .ok (.iload_n 2, 1) := by decide +kernel
theorem k136_20 : decode (mB 136) 20 = .ok (.iaload, 1) := by decide +kernel
theorem k136_21 : decode (mB 136) 21 = .ok (.iastore, 1) := by decide +kernel
theorem k136_22 : decode (mB 136) 22 = .ok (.iinc 2 1, 3) := by decide +kernel
theorem k136_25 : decode (mB 136) 25 = .ok (.goto (-23), 3) := by decide +kernel
theorem k136_28 : decode (mB 136) 28 = .ok (.iconst 0, 1) := by decide +kernel
theorem k136_29 : decode (mB 136) 29 = .ok (.istore_n 2, 1) := by decide +kernel
theorem k136_30 : decode (mB 136) 30 = .ok (.iload_n 2, 1) := by decide +kernel
theorem k136_31 : decode (mB 136) 31 = .ok (.aload_n 0, 1) := by decide +kernel
theorem k136_32 : decode (mB 136) 32 = .ok (.getfield 105, 3) := by decide +kernel
theorem k136_35 : decode (mB 136) 35 = .ok (.if_icmp .ge 39, 3) := by decide +kernel
theorem k136_38 : decode (mB 136) 38 = .ok (.aload_n 0, 1) := by decide +kernel
theorem k136_39 : decode (mB 136) 39 = .ok (.getfield 25, 3) := by decide +kernel
theorem k136_42 : decode (mB 136) 42 = .ok (.iload_n 2, 1) := by decide +kernel
theorem k136_43 : decode (mB 136) 43 = .ok (.aload_n 0, 1) := by decide +kernel
theorem k136_44 : decode (mB 136) 44 = .ok (.getfield 58, 3) := by decide +kernel
theorem k136_47 : decode (mB 136) 47 = .ok (.iload_n 1, 1) := by decide +kernel
theorem k136_48 : decode (mB 136) 48 = .ok (.ifCond .eq 12, 3) := by decide +kernel
theorem k136_51 : decode (mB 136) 51 = .ok (.aload_n 0, 1) := by decide +kernel
theorem k136_52 : decode (mB 136) 52 = .ok (.getfield 22, 3) := by decide +kernel
theorem k136_55 : decode (mB 136) 55 = .ok (.iload_n 2, 1) := by decide +kernel
theorem k136_56 : decode (mB 136) 56 = .ok (.iaload, 1) := by decide +kernel
theorem k136_57 : decode (mB 136) 57 = .ok (.goto 9, 3) := by decide +kernel
theorem k136_60 : decode (mB 136) 60 = .ok (.aload_n 0, 1) := by decide +kernel
theorem k136_61 : decode (mB 136) 61 = .ok (.getfield 28, 3) := by decide +kernel
theorem k136_64 : decode (mB 136) 64 = .ok (.iload_n 2, 1) := by decide +kernel
theorem k136_65 : decode (mB 136) 65 = .ok (.iaload, 1) := by decide +kernel
theorem k136_66 : decode (mB 136) 66 = .ok (.iaload, 1) := by decide +kernel
theorem k136_67 : decode (mB 136) 67 = .ok (.iastore, 1) := by decide +kernel
theorem k136_68 : decode (mB 136) 68 = .ok (.iinc 2 1, 3) := by decide +kernel
theorem k136_71 : decode (mB 136) 71 = .ok (.goto (-41), 3) := by decide +kernel
theorem k136_74 : decode (mB 136) 74 = .ok (.aload_n 0, 1) := by decide +kernel
theorem k136_75 : decode (mB 136) 75 = .ok (.invokevirtual 115, 3) := by decide +kernel
theorem k136_78 : decode (mB 136) 78 = .ok (.return_, 1) := by decide +kernel
/-- SquareGroundsModel.shearOnce, loop at 2 -/
noncomputable def q136_2 (v0 : Nat) (v1 : Int32) (v2 : Int32) (h : mHeap) : mR' := E 136 2 [some (.ref v0), some (.int v1), some (.int v2)] [] h
/-- SquareGroundsModel.shearOnce, loop at 30 -/
noncomputable def q136_30 (v0 : Nat) (v1 : Int32) (v2 : Int32) (h : mHeap) : mR' := E 136 30 [some (.ref v0), some (.int v1), some (.int v2)] [] h
theorem q136_2_eq (v0 : Nat) (v1 : Int32) (v2 : Int32) (h : mHeap) : q136_2 v0 v1 v2 h = (gI h v0 8 5).bind fun x1 => if x1 ≤ (v2 : Int32) then (q136_30 v0 v1 0 h) else ((gR h v0 8 19).bind fun x2 => (gR h v0 8 7).bind fun x3 => (cAldI false h x3 v2).bind fun x4 => (cAstI h x2 v2 x4).bind fun h5 => q136_2 v0 v1 (v2 + 1) h5) := by
  unfold q136_2
  refine e_iload_n (pc' := 3) k136_2 rfl rfl ?_
  refine e_aload_n (pc' := 4) k136_3 rfl rfl ?_
  refine e_getI (pc' := 7) k136_4 rfl (ci := 8) (k := 5) (by decide +kernel) (by decide +kernel) (fun x1 => ?_)
  refine e_icmpge (t := 28) (pc' := 10) k136_7 rfl (by decide) (fun _ => ?_) (fun _ => ?_)
  · refine e_iconst (v := 0) (pc' := 29) k136_28 rfl rfl ?_
    refine e_istore_n (pc' := 30) k136_29 rfl rfl ?_
    rfl
  · refine e_aload_n (pc' := 11) k136_10 rfl rfl ?_
    refine e_getR (pc' := 14) k136_11 rfl (ci := 8) (k := 19) (by decide +kernel) (by decide +kernel) (fun x2 => ?_)
    refine e_iload_n (pc' := 15) k136_14 rfl rfl ?_
    refine e_aload_n (pc' := 16) k136_15 rfl rfl ?_
    refine e_getR (pc' := 19) k136_16 rfl (ci := 8) (k := 7) (by decide +kernel) (by decide +kernel) (fun x3 => ?_)
    refine e_iload_n (pc' := 20) k136_19 rfl rfl ?_
    refine e_iald (pc' := 21) k136_20 rfl (lw := false) rfl (fun x4 => ?_)
    refine e_iast (pc' := 22) k136_21 rfl (fun h5 => ?_)
    refine e_iinc (c := 1) (pc' := 25) k136_22 rfl rfl rfl rfl ?_
    refine e_goto (pc' := 2) k136_25 (by decide) ?_
    rfl
theorem q136_30_eq (v0 : Nat) (v1 : Int32) (v2 : Int32) (h : mHeap) : q136_30 v0 v1 v2 h = (gI h v0 8 5).bind fun x1 => if x1 ≤ (v2 : Int32) then ((vV 108 v0 [] h).bind fun h2 => some (none, h2)) else ((gR h v0 8 7).bind fun x3 => (gR h v0 8 19).bind fun x4 => if (v1 : Int32) = 0 then ((gR h v0 8 8).bind fun x5 => (cAldI false h x5 v2).bind fun x6 => (cAldI false h x4 x6).bind fun x7 => (cAstI h x3 v2 x7).bind fun h8 => q136_30 v0 v1 (v2 + 1) h8) else ((gR h v0 8 6).bind fun x9 => (cAldI false h x9 v2).bind fun x10 => (cAldI false h x4 x10).bind fun x11 => (cAstI h x3 v2 x11).bind fun h12 => q136_30 v0 v1 (v2 + 1) h12)) := by
  unfold q136_30
  refine e_iload_n (pc' := 31) k136_30 rfl rfl ?_
  refine e_aload_n (pc' := 32) k136_31 rfl rfl ?_
  refine e_getI (pc' := 35) k136_32 rfl (ci := 8) (k := 5) (by decide +kernel) (by decide +kernel) (fun x1 => ?_)
  refine e_icmpge (t := 74) (pc' := 38) k136_35 rfl (by decide) (fun _ => ?_) (fun _ => ?_)
  · refine e_aload_n (pc' := 75) k136_74 rfl rfl ?_
    refine e_vV (j' := 108) (as := []) (rest := []) (pc' := 78) k136_75 rfl (show mCk 136 1 115 108 0 = true by decide +kernel) (by decide +kernel) rfl (Nat.le_of_ble_eq_true rfl) (show 1 ≤ mL 108 by decide +kernel) (fun h2 => ?_)
    exact e_vret k136_78 (by decide +kernel)
  · refine e_aload_n (pc' := 39) k136_38 rfl rfl ?_
    refine e_getR (pc' := 42) k136_39 rfl (ci := 8) (k := 7) (by decide +kernel) (by decide +kernel) (fun x3 => ?_)
    refine e_iload_n (pc' := 43) k136_42 rfl rfl ?_
    refine e_aload_n (pc' := 44) k136_43 rfl rfl ?_
    refine e_getR (pc' := 47) k136_44 rfl (ci := 8) (k := 19) (by decide +kernel) (by decide +kernel) (fun x4 => ?_)
    refine e_iload_n (pc' := 48) k136_47 rfl rfl ?_
    refine e_ifeq (t := 60) (pc' := 51) k136_48 rfl (by decide) (fun _ => ?_) (fun _ => ?_)
    · refine e_aload_n (pc' := 61) k136_60 rfl rfl ?_
      refine e_getR (pc' := 64) k136_61 rfl (ci := 8) (k := 8) (by decide +kernel) (by decide +kernel) (fun x5 => ?_)
      refine e_iload_n (pc' := 65) k136_64 rfl rfl ?_
      refine e_iald (pc' := 66) k136_65 rfl (lw := false) rfl (fun x6 => ?_)
      refine e_iald (pc' := 67) k136_66 rfl (lw := false) rfl (fun x7 => ?_)
      refine e_iast (pc' := 68) k136_67 rfl (fun h8 => ?_)
      refine e_iinc (c := 1) (pc' := 71) k136_68 rfl rfl rfl rfl ?_
      refine e_goto (pc' := 30) k136_71 (by decide) ?_
      rfl
    · refine e_aload_n (pc' := 52) k136_51 rfl rfl ?_
      refine e_getR (pc' := 55) k136_52 rfl (ci := 8) (k := 6) (by decide +kernel) (by decide +kernel) (fun x9 => ?_)
      refine e_iload_n (pc' := 56) k136_55 rfl rfl ?_
      refine e_iald (pc' := 57) k136_56 rfl (lw := false) rfl (fun x10 => ?_)
      refine e_goto (pc' := 66) k136_57 (by decide) ?_
      refine e_iald (pc' := 67) k136_66 rfl (lw := false) rfl (fun x11 => ?_)
      refine e_iast (pc' := 68) k136_67 rfl (fun h12 => ?_)
      refine e_iinc (c := 1) (pc' := 71) k136_68 rfl rfl rfl rfl ?_
      refine e_goto (pc' := 30) k136_71 (by decide) ?_
      rfl
/-- SquareGroundsModel.shearOnce(Z)V -/
theorem F136_eq (v0 : Nat) (v1 : Int32) (h : mHeap) : F 136 [.ref v0, .int v1] h = q136_2 v0 v1 0 h := by
  show D 136 0 (mEnt 136 [.ref v0, .int v1]) [] h 0 0 = _
  rw [show mEnt 136 [.ref v0, .int v1] = [some (.ref v0), some (.int v1), none] from rfl]
  refine e_iconst (v := 0) (pc' := 1) k136_0 rfl rfl ?_
  refine e_istore_n (pc' := 2) k136_1 rfl rfl ?_
  rfl
theorem k137_0 : decode (mB 137) 0 = .ok (.iconst 0, 1) := by decide +kernel
theorem k137_1 : decode (mB 137) 1 = .ok (.istore_n 2, 1) := by decide +kernel
theorem k137_2 : decode (mB 137) 2 = .ok (.iload_n 2, 1) := by decide +kernel
theorem k137_3 : decode (mB 137) 3 = .ok (.iload_n 1, 1) := by decide +kernel
theorem k137_4 : decode (mB 137) 4 = .ok (.ifCond .ge 8, 3) := by decide +kernel
theorem k137_7 : decode (mB 137) 7 = .ok (.iload_n 1, 1) := by decide +kernel
theorem k137_8 : decode (mB 137) 8 = .ok (.ineg, 1) := by decide +kernel
theorem k137_9 : decode (mB 137) 9 = .ok (.goto 4, 3) := by decide +kernel
theorem k137_12 : decode (mB 137) 12 = .ok (.iload_n 1, 1) := by decide +kernel
theorem k137_13 : decode (mB 137) 13 = .ok (.if_icmp .ge 22, 3) := by decide +kernel
theorem k137_16 : decode (mB 137) 16 = .ok (.aload_n 0, 1) := by decide +kernel
theorem k137_17 : decode (mB 137) 17 = .ok (.iload_n 1, 1) := by decide +kernel
theorem k137_18 : decode (mB 137) 18 = .ok (.ifCond .ge 7, 3) := by decide +kernel
theorem k137_21 : decode (mB 137) 21 = .ok (.iconst 1, 1) := by decide +kernel
theorem k137_22 : decode (mB 137) 22 = .ok (.goto 4, 3) := by decide +kernel
theorem k137_25 : decode (mB 137) 25 = .ok (.iconst 0, 1) := by decide +kernel
theorem k137_26 : decode (mB 137) 26 = .ok (.invokevirtual 169, 3) := by decide +kernel
theorem k137_29 : decode (mB 137) 29 = .ok (.iinc 2 1, 3) := by decide +kernel
theorem k137_32 : decode (mB 137) 32 = .ok (.goto (-30), 3) := by decide +kernel
theorem k137_35 : decode (mB 137) 35 = .ok (.return_, 1) := by decide +kernel
/-- SquareGroundsModel.shearBy, loop at 2 -/
noncomputable def q137_2 (v0 : Nat) (v1 : Int32) (v2 : Int32) (h : mHeap) : mR' := E 137 2 [some (.ref v0), some (.int v1), some (.int v2)] [] h
theorem q137_2_eq (v0 : Nat) (v1 : Int32) (v2 : Int32) (h : mHeap) : q137_2 v0 v1 v2 h = if 0 ≤ (v1 : Int32) then (if v1 ≤ (v2 : Int32) then (some (none, h)) else (if 0 ≤ (v1 : Int32) then ((vV 136 v0 [.int 0] h).bind fun h1 => q137_2 v0 v1 (v2 + 1) h1) else ((vV 136 v0 [.int 1] h).bind fun h2 => q137_2 v0 v1 (v2 + 1) h2))) else (if (-v1) ≤ (v2 : Int32) then (some (none, h)) else (if 0 ≤ (v1 : Int32) then ((vV 136 v0 [.int 0] h).bind fun h3 => q137_2 v0 v1 (v2 + 1) h3) else ((vV 136 v0 [.int 1] h).bind fun h4 => q137_2 v0 v1 (v2 + 1) h4))) := by
  unfold q137_2
  refine e_iload_n (pc' := 3) k137_2 rfl rfl ?_
  refine e_iload_n (pc' := 4) k137_3 rfl rfl ?_
  refine e_ifge (t := 12) (pc' := 7) k137_4 rfl (by decide) (fun _ => ?_) (fun _ => ?_)
  · refine e_iload_n (pc' := 13) k137_12 rfl rfl ?_
    refine e_icmpge (t := 35) (pc' := 16) k137_13 rfl (by decide) (fun _ => ?_) (fun _ => ?_)
    · exact e_vret k137_35 (by decide +kernel)
    · refine e_aload_n (pc' := 17) k137_16 rfl rfl ?_
      refine e_iload_n (pc' := 18) k137_17 rfl rfl ?_
      refine e_ifge (t := 25) (pc' := 21) k137_18 rfl (by decide) (fun _ => ?_) (fun _ => ?_)
      · refine e_iconst (v := 0) (pc' := 26) k137_25 rfl rfl ?_
        refine e_vV (j' := 136) (as := [.int 0]) (rest := []) (pc' := 29) k137_26 rfl (show mCk 137 1 169 136 1 = true by decide +kernel) (by decide +kernel) rfl (Nat.le_of_ble_eq_true rfl) (show 2 ≤ mL 136 by decide +kernel) (fun h1 => ?_)
        refine e_iinc (c := 1) (pc' := 32) k137_29 rfl rfl rfl rfl ?_
        refine e_goto (pc' := 2) k137_32 (by decide) ?_
        rfl
      · refine e_iconst (v := 1) (pc' := 22) k137_21 rfl rfl ?_
        refine e_goto (pc' := 26) k137_22 (by decide) ?_
        refine e_vV (j' := 136) (as := [.int 1]) (rest := []) (pc' := 29) k137_26 rfl (show mCk 137 1 169 136 1 = true by decide +kernel) (by decide +kernel) rfl (Nat.le_of_ble_eq_true rfl) (show 2 ≤ mL 136 by decide +kernel) (fun h2 => ?_)
        refine e_iinc (c := 1) (pc' := 32) k137_29 rfl rfl rfl rfl ?_
        refine e_goto (pc' := 2) k137_32 (by decide) ?_
        rfl
  · refine e_iload_n (pc' := 8) k137_7 rfl rfl ?_
    refine e_ineg (pc' := 9) k137_8 rfl ?_
    refine e_goto (pc' := 13) k137_9 (by decide) ?_
    refine e_icmpge (t := 35) (pc' := 16) k137_13 rfl (by decide) (fun _ => ?_) (fun _ => ?_)
    · exact e_vret k137_35 (by decide +kernel)
    · refine e_aload_n (pc' := 17) k137_16 rfl rfl ?_
      refine e_iload_n (pc' := 18) k137_17 rfl rfl ?_
      refine e_ifge (t := 25) (pc' := 21) k137_18 rfl (by decide) (fun _ => ?_) (fun _ => ?_)
      · refine e_iconst (v := 0) (pc' := 26) k137_25 rfl rfl ?_
        refine e_vV (j' := 136) (as := [.int 0]) (rest := []) (pc' := 29) k137_26 rfl (show mCk 137 1 169 136 1 = true by decide +kernel) (by decide +kernel) rfl (Nat.le_of_ble_eq_true rfl) (show 2 ≤ mL 136 by decide +kernel) (fun h3 => ?_)
        refine e_iinc (c := 1) (pc' := 32) k137_29 rfl rfl rfl rfl ?_
        refine e_goto (pc' := 2) k137_32 (by decide) ?_
        rfl
      · refine e_iconst (v := 1) (pc' := 22) k137_21 rfl rfl ?_
        refine e_goto (pc' := 26) k137_22 (by decide) ?_
        refine e_vV (j' := 136) (as := [.int 1]) (rest := []) (pc' := 29) k137_26 rfl (show mCk 137 1 169 136 1 = true by decide +kernel) (by decide +kernel) rfl (Nat.le_of_ble_eq_true rfl) (show 2 ≤ mL 136 by decide +kernel) (fun h4 => ?_)
        refine e_iinc (c := 1) (pc' := 32) k137_29 rfl rfl rfl rfl ?_
        refine e_goto (pc' := 2) k137_32 (by decide) ?_
        rfl
/-- SquareGroundsModel.shearBy(I)V -/
theorem F137_eq (v0 : Nat) (v1 : Int32) (h : mHeap) : F 137 [.ref v0, .int v1] h = q137_2 v0 v1 0 h := by
  show D 137 0 (mEnt 137 [.ref v0, .int v1]) [] h 0 0 = _
  rw [show mEnt 137 [.ref v0, .int v1] = [some (.ref v0), some (.int v1), none] from rfl]
  refine e_iconst (v := 0) (pc' := 1) k137_0 rfl rfl ?_
  refine e_istore_n (pc' := 2) k137_1 rfl rfl ?_
  rfl
theorem k138_0 : decode (mB 138) 0 = .ok (.iconst 0, 1) := by decide +kernel
theorem k138_1 : decode (mB 138) 1 = .ok (.istore_n 2, 1) := by decide +kernel
theorem k138_2 : decode (mB 138) 2 = .ok (.iload_n 2, 1) := by decide +kernel
theorem k138_3 : decode (mB 138) 3 = .ok (.aload_n 0, 1) := by decide +kernel
theorem k138_4 : decode (mB 138) 4 = .ok (.getfield 105, 3) := by decide +kernel
theorem k138_7 : decode (mB 138) 7 = .ok (.if_icmp .ge 71, 3) := by decide +kernel
theorem k138_10 : decode (mB 138) 10 = .ok (.aload_n 0, 1) := by decide +kernel
theorem k138_11 : decode (mB 138) 11 = .ok (.getfield 58, 3) := by decide +kernel
theorem k138_14 : decode (mB 138) 14 = .ok (.iload_n 2, 1) := by decide +kernel
theorem k138_15 : decode (mB 138) 15 = .ok (.aload_n 0, 1) := by decide +kernel
theorem k138_16 : decode (mB 138) 16 = .ok (.getfield 22, 3) := by decide +kernel
theorem k138_19 : decode (mB 138) 19 = .ok (.iload_n 2, 1) := by decide +kernel
theorem k138_20 : decode (mB 138) 20 = .ok (.iaload, 1) := by decide +kernel
theorem k138_21 : decode (mB 138) 21 = .ok (.iastore, 1) := by decide +kernel
theorem k138_22 : decode (mB 138) 22 = .ok (.aload_n 0, 1) := by decide +kernel
theorem k138_23 : decode (mB 138) 23 = .ok (.getfield 22, 3) := by decide +kernel
theorem k138_26 : decode (mB 138) 26 = .ok (.iload_n 2, 1) := by decide +kernel
theorem k138_27 : decode (mB 138) 27 = .ok (.iload_n 1, 1) := by decide +kernel
theorem k138_28 : decode (mB 138) 28 = .ok (.ifCond .eq 12, 3) := by decide +kernel
theorem k138_31 : decode (mB 138) 31 = .ok (.aload_n 0, 1) := by decide +kernel
theorem k138_32 : decode (mB 138) 32 = .ok (.getfield 25, 3) := by decide +kernel
theorem k138_35 : decode (mB 138) 35 = .ok (.iload_n 2, 1) := by decide +kernel
theorem k138_36 : decode (mB 138) 36 = .ok (.iaload, 1) := by decide +kernel
theorem k138_37 : decode (mB 138) 37 = .ok (.goto 9, 3) := by decide +kernel
theorem k138_40 : decode (mB 138) 40 = .ok (.aload_n 0, 1) := by decide +kernel
theorem k138_41 : decode (mB 138) 41 = .ok (.getfield 31, 3) := by decide +kernel
theorem k138_44 : decode (mB 138) 44 = .ok (.iload_n 2, 1) := by decide +kernel
theorem k138_45 : decode (mB 138) 45 = .ok (.iaload, 1) := by decide +kernel
theorem k138_46 : decode (mB 138) 46 = .ok (.iastore, 1) := by decide +kernel
theorem k138_47 : decode (mB 138) 47 = .ok (.aload_n 0, 1) := by decide +kernel
theorem k138_48 : decode (mB 138) 48 = .ok (.getfield 25, 3) := by decide +kernel
theorem k138_51 : decode (mB 138) 51 = .ok (.iload_n 2, 1) := by decide +kernel
theorem k138_52 : decode (mB 138) 52 = .ok (.iload_n 1, 1) := by decide +kernel
theorem k138_53 : decode (mB 138) 53 = .ok (.ifCond .eq 12, 3) := by decide +kernel
theorem k138_56 : decode (mB 138) 56 = .ok (.aload_n 0, 1) := by decide +kernel
theorem k138_57 : decode (mB 138) 57 = .ok (.getfield 28, 3) := by decide +kernel
theorem k138_60 : decode (mB 138) 60 = .ok (.iload_n 2, 1) := by decide +kernel
theorem k138_61 : decode (mB 138) 61 = .ok (.iaload, 1) := by decide +kernel
theorem k138_62 : decode (mB 138) 62 = .ok (.goto 9, 3) := by decide +kernel
theorem k138_65 : decode (mB 138) 65 = .ok (.aload_n 0, 1) := by decide +kernel
theorem k138_66 : decode (mB 138) 66 = .ok (.getfield 58, 3) := by decide +kernel
theorem k138_69 : decode (mB 138) 69 = .ok (.iload_n 2, 1) := by decide +kernel
theorem k138_70 : decode (mB 138) 70 = .ok (.iaload, 1) := by decide +kernel
theorem k138_71 : decode (mB 138) 71 = .ok (.iastore, 1) := by decide +kernel
theorem k138_72 : decode (mB 138) 72 = .ok (.iinc 2 1, 3) := by decide +kernel
theorem k138_75 : decode (mB 138) 75 = .ok (.goto (-73), 3) := by decide +kernel
theorem k138_78 : decode (mB 138) 78 = .ok (.aload_n 0, 1) := by decide +kernel
theorem k138_79 : decode (mB 138) 79 = .ok (.invokevirtual 115, 3) := by decide +kernel
theorem k138_82 : decode (mB 138) 82 = .ok (.return_, 1) := by decide +kernel
/-- SquareGroundsModel.turnOnce, loop at 2 -/
noncomputable def q138_2 (v0 : Nat) (v1 : Int32) (v2 : Int32) (h : mHeap) : mR' := E 138 2 [some (.ref v0), some (.int v1), some (.int v2)] [] h
theorem q138_2_eq (v0 : Nat) (v1 : Int32) (v2 : Int32) (h : mHeap) : q138_2 v0 v1 v2 h = (gI h v0 8 5).bind fun x1 => if x1 ≤ (v2 : Int32) then ((vV 108 v0 [] h).bind fun h2 => some (none, h2)) else ((gR h v0 8 19).bind fun x3 => (gR h v0 8 6).bind fun x4 => (cAldI false h x4 v2).bind fun x5 => (cAstI h x3 v2 x5).bind fun h6 => (gR h6 v0 8 6).bind fun x7 => if (v1 : Int32) = 0 then ((gR h6 v0 8 9).bind fun x8 => (cAldI false h6 x8 v2).bind fun x9 => (cAstI h6 x7 v2 x9).bind fun h10 => (gR h10 v0 8 7).bind fun x11 => if (v1 : Int32) = 0 then ((gR h10 v0 8 19).bind fun x12 => (cAldI false h10 x12 v2).bind fun x13 => (cAstI h10 x11 v2 x13).bind fun h14 => q138_2 v0 v1 (v2 + 1) h14) else ((gR h10 v0 8 8).bind fun x15 => (cAldI false h10 x15 v2).bind fun x16 => (cAstI h10 x11 v2 x16).bind fun h17 => q138_2 v0 v1 (v2 + 1) h17)) else ((gR h6 v0 8 7).bind fun x18 => (cAldI false h6 x18 v2).bind fun x19 => (cAstI h6 x7 v2 x19).bind fun h20 => (gR h20 v0 8 7).bind fun x21 => if (v1 : Int32) = 0 then ((gR h20 v0 8 19).bind fun x22 => (cAldI false h20 x22 v2).bind fun x23 => (cAstI h20 x21 v2 x23).bind fun h24 => q138_2 v0 v1 (v2 + 1) h24) else ((gR h20 v0 8 8).bind fun x25 => (cAldI false h20 x25 v2).bind fun x26 => (cAstI h20 x21 v2 x26).bind fun h27 => q138_2 v0 v1 (v2 + 1) h27))) := by
  unfold q138_2
  refine e_iload_n (pc' := 3) k138_2 rfl rfl ?_
  refine e_aload_n (pc' := 4) k138_3 rfl rfl ?_
  refine e_getI (pc' := 7) k138_4 rfl (ci := 8) (k := 5) (by decide +kernel) (by decide +kernel) (fun x1 => ?_)
  refine e_icmpge (t := 78) (pc' := 10) k138_7 rfl (by decide) (fun _ => ?_) (fun _ => ?_)
  · refine e_aload_n (pc' := 79) k138_78 rfl rfl ?_
    refine e_vV (j' := 108) (as := []) (rest := []) (pc' := 82) k138_79 rfl (show mCk 138 1 115 108 0 = true by decide +kernel) (by decide +kernel) rfl (Nat.le_of_ble_eq_true rfl) (show 1 ≤ mL 108 by decide +kernel) (fun h2 => ?_)
    exact e_vret k138_82 (by decide +kernel)
  · refine e_aload_n (pc' := 11) k138_10 rfl rfl ?_
    refine e_getR (pc' := 14) k138_11 rfl (ci := 8) (k := 19) (by decide +kernel) (by decide +kernel) (fun x3 => ?_)
    refine e_iload_n (pc' := 15) k138_14 rfl rfl ?_
    refine e_aload_n (pc' := 16) k138_15 rfl rfl ?_
    refine e_getR (pc' := 19) k138_16 rfl (ci := 8) (k := 6) (by decide +kernel) (by decide +kernel) (fun x4 => ?_)
    refine e_iload_n (pc' := 20) k138_19 rfl rfl ?_
    refine e_iald (pc' := 21) k138_20 rfl (lw := false) rfl (fun x5 => ?_)
    refine e_iast (pc' := 22) k138_21 rfl (fun h6 => ?_)
    refine e_aload_n (pc' := 23) k138_22 rfl rfl ?_
    refine e_getR (pc' := 26) k138_23 rfl (ci := 8) (k := 6) (by decide +kernel) (by decide +kernel) (fun x7 => ?_)
    refine e_iload_n (pc' := 27) k138_26 rfl rfl ?_
    refine e_iload_n (pc' := 28) k138_27 rfl rfl ?_
    refine e_ifeq (t := 40) (pc' := 31) k138_28 rfl (by decide) (fun _ => ?_) (fun _ => ?_)
    · refine e_aload_n (pc' := 41) k138_40 rfl rfl ?_
      refine e_getR (pc' := 44) k138_41 rfl (ci := 8) (k := 9) (by decide +kernel) (by decide +kernel) (fun x8 => ?_)
      refine e_iload_n (pc' := 45) k138_44 rfl rfl ?_
      refine e_iald (pc' := 46) k138_45 rfl (lw := false) rfl (fun x9 => ?_)
      refine e_iast (pc' := 47) k138_46 rfl (fun h10 => ?_)
      refine e_aload_n (pc' := 48) k138_47 rfl rfl ?_
      refine e_getR (pc' := 51) k138_48 rfl (ci := 8) (k := 7) (by decide +kernel) (by decide +kernel) (fun x11 => ?_)
      refine e_iload_n (pc' := 52) k138_51 rfl rfl ?_
      refine e_iload_n (pc' := 53) k138_52 rfl rfl ?_
      refine e_ifeq (t := 65) (pc' := 56) k138_53 rfl (by decide) (fun _ => ?_) (fun _ => ?_)
      · refine e_aload_n (pc' := 66) k138_65 rfl rfl ?_
        refine e_getR (pc' := 69) k138_66 rfl (ci := 8) (k := 19) (by decide +kernel) (by decide +kernel) (fun x12 => ?_)
        refine e_iload_n (pc' := 70) k138_69 rfl rfl ?_
        refine e_iald (pc' := 71) k138_70 rfl (lw := false) rfl (fun x13 => ?_)
        refine e_iast (pc' := 72) k138_71 rfl (fun h14 => ?_)
        refine e_iinc (c := 1) (pc' := 75) k138_72 rfl rfl rfl rfl ?_
        refine e_goto (pc' := 2) k138_75 (by decide) ?_
        rfl
      · refine e_aload_n (pc' := 57) k138_56 rfl rfl ?_
        refine e_getR (pc' := 60) k138_57 rfl (ci := 8) (k := 8) (by decide +kernel) (by decide +kernel) (fun x15 => ?_)
        refine e_iload_n (pc' := 61) k138_60 rfl rfl ?_
        refine e_iald (pc' := 62) k138_61 rfl (lw := false) rfl (fun x16 => ?_)
        refine e_goto (pc' := 71) k138_62 (by decide) ?_
        refine e_iast (pc' := 72) k138_71 rfl (fun h17 => ?_)
        refine e_iinc (c := 1) (pc' := 75) k138_72 rfl rfl rfl rfl ?_
        refine e_goto (pc' := 2) k138_75 (by decide) ?_
        rfl
    · refine e_aload_n (pc' := 32) k138_31 rfl rfl ?_
      refine e_getR (pc' := 35) k138_32 rfl (ci := 8) (k := 7) (by decide +kernel) (by decide +kernel) (fun x18 => ?_)
      refine e_iload_n (pc' := 36) k138_35 rfl rfl ?_
      refine e_iald (pc' := 37) k138_36 rfl (lw := false) rfl (fun x19 => ?_)
      refine e_goto (pc' := 46) k138_37 (by decide) ?_
      refine e_iast (pc' := 47) k138_46 rfl (fun h20 => ?_)
      refine e_aload_n (pc' := 48) k138_47 rfl rfl ?_
      refine e_getR (pc' := 51) k138_48 rfl (ci := 8) (k := 7) (by decide +kernel) (by decide +kernel) (fun x21 => ?_)
      refine e_iload_n (pc' := 52) k138_51 rfl rfl ?_
      refine e_iload_n (pc' := 53) k138_52 rfl rfl ?_
      refine e_ifeq (t := 65) (pc' := 56) k138_53 rfl (by decide) (fun _ => ?_) (fun _ => ?_)
      · refine e_aload_n (pc' := 66) k138_65 rfl rfl ?_
        refine e_getR (pc' := 69) k138_66 rfl (ci := 8) (k := 19) (by decide +kernel) (by decide +kernel) (fun x22 => ?_)
        refine e_iload_n (pc' := 70) k138_69 rfl rfl ?_
        refine e_iald (pc' := 71) k138_70 rfl (lw := false) rfl (fun x23 => ?_)
        refine e_iast (pc' := 72) k138_71 rfl (fun h24 => ?_)
        refine e_iinc (c := 1) (pc' := 75) k138_72 rfl rfl rfl rfl ?_
        refine e_goto (pc' := 2) k138_75 (by decide) ?_
        rfl
      · refine e_aload_n (pc' := 57) k138_56 rfl rfl ?_
        refine e_getR (pc' := 60) k138_57 rfl (ci := 8) (k := 8) (by decide +kernel) (by decide +kernel) (fun x25 => ?_)
        refine e_iload_n (pc' := 61) k138_60 rfl rfl ?_
        refine e_iald (pc' := 62) k138_61 rfl (lw := false) rfl (fun x26 => ?_)
        refine e_goto (pc' := 71) k138_62 (by decide) ?_
        refine e_iast (pc' := 72) k138_71 rfl (fun h27 => ?_)
        refine e_iinc (c := 1) (pc' := 75) k138_72 rfl rfl rfl rfl ?_
        refine e_goto (pc' := 2) k138_75 (by decide) ?_
        rfl
/-- SquareGroundsModel.turnOnce(Z)V -/
theorem F138_eq (v0 : Nat) (v1 : Int32) (h : mHeap) : F 138 [.ref v0, .int v1] h = q138_2 v0 v1 0 h := by
  show D 138 0 (mEnt 138 [.ref v0, .int v1]) [] h 0 0 = _
  rw [show mEnt 138 [.ref v0, .int v1] = [some (.ref v0), some (.int v1), none] from rfl]
  refine e_iconst (v := 0) (pc' := 1) k138_0 rfl rfl ?_
  refine e_istore_n (pc' := 2) k138_1 rfl rfl ?_
  rfl
theorem k139_0 : decode (mB 139) 0 = .ok (.iload_n 2, 1) := by decide +kernel
theorem k139_1 : decode (mB 139) 1 = .ok (.bipush (-100), 2) := by decide +kernel
theorem k139_3 : decode (mB 139) 3 = .ok (.bipush 100, 2) := by decide +kernel
theorem k139_5 : decode (mB 139) 5 = .ok (.invokestatic 90, 3) := by decide +kernel
theorem k139_8 : decode (mB 139) 8 = .ok (.ifCond .ne 5, 3) := by decide +kernel
theorem k139_11 : decode (mB 139) 11 = .ok (.iconst (-1), 1) := by decide +kernel
theorem k139_12 : decode (mB 139) 12 = .ok (.ireturn, 1) := by decide +kernel
theorem k139_13 : decode (mB 139) 13 = .ok (.aload_n 0, 1) := by decide +kernel
theorem k139_14 : decode (mB 139) 14 = .ok (.iload_n 1, 1) := by decide +kernel
theorem k139_15 : decode (mB 139) 15 = .ok (.invokevirtual 128, 3) := by decide +kernel
theorem k139_18 : decode (mB 139) 18 = .ok (.istore_n 3, 1) := by decide +kernel
theorem k139_19 : decode (mB 139) 19 = .ok (.iload_n 3, 1) := by decide +kernel
theorem k139_20 : decode (mB 139) 20 = .ok (.ifCond .ge 5, 3) := by decide +kernel
theorem k139_23 : decode (mB 139) 23 = .ok (.iload_n 3, 1) := by decide +kernel
theorem k139_24 : decode (mB 139) 24 = .ok (.ireturn, 1) := by decide +kernel
theorem k139_25 : decode (mB 139) 25 = .ok (.aload_n 0, 1) := by decide +kernel
theorem k139_26 : decode (mB 139) 26 = .ok (.iload_n 2, 1) := by decide +kernel
theorem k139_27 : decode (mB 139) 27 = .ok (.invokevirtual 173, 3) := by decide +kernel
theorem k139_30 : decode (mB 139) 30 = .ok (.aload_n 0, 1) := by decide +kernel
theorem k139_31 : decode (mB 139) 31 = .ok (.iload_n 1, 1) := by decide +kernel
theorem k139_32 : decode (mB 139) 32 = .ok (.invokevirtual 125, 3) := by decide +kernel
theorem k139_35 : decode (mB 139) 35 = .ok (.ireturn, 1) := by decide +kernel
/-- SquareGroundsModel.shear(II)I -/
theorem F139_eq (v0 : Nat) (v1 : Int32) (v2 : Int32) (h : mHeap) : F 139 [.ref v0, .int v1, .int v2] h = (sI 100 [.int v2, .int (-100), .int 100] h).bind fun q1 => if ¬ (q1.1 : Int32) = 0 then ((vI 110 v0 [.int v1] q1.2).bind fun q2 => if 0 ≤ (q2.1 : Int32) then ((vV 137 v0 [.int v2] q2.2).bind fun h3 => (vI 112 v0 [.int v1] h3).bind fun q4 => some (some (.int q4.1), q4.2)) else (some (some (.int q2.1), q2.2))) else (some (some (.int (-1)), q1.2)) := by
  show D 139 0 (mEnt 139 [.ref v0, .int v1, .int v2]) [] h 0 0 = _
  rw [show mEnt 139 [.ref v0, .int v1, .int v2] = [some (.ref v0), some (.int v1), some (.int v2), none] from rfl]
  refine e_iload_n (pc' := 1) k139_0 rfl rfl ?_
  refine e_bipush (v := -100) (pc' := 3) k139_1 rfl rfl ?_
  refine e_bipush (v := 100) (pc' := 5) k139_3 rfl rfl ?_
  refine e_sI (j' := 100) (as := [.int v2, .int (-100), .int 100]) (rest := []) (pc' := 8) k139_5 rfl (show mCk 139 0 90 100 3 = true by decide +kernel) (Or.inr (by decide +kernel)) rfl (Nat.le_of_ble_eq_true rfl) (show 3 ≤ mL 100 by decide +kernel) (fun q1 => ?_)
  refine e_ifne (t := 13) (pc' := 11) k139_8 rfl (by decide) (fun _ => ?_) (fun _ => ?_)
  · refine e_aload_n (pc' := 14) k139_13 rfl rfl ?_
    refine e_iload_n (pc' := 15) k139_14 rfl rfl ?_
    refine e_vI (j' := 110) (as := [.int v1]) (rest := []) (pc' := 18) k139_15 rfl (show mCk 139 1 128 110 1 = true by decide +kernel) (Or.inl (by decide +kernel)) rfl (Nat.le_of_ble_eq_true rfl) (show 2 ≤ mL 110 by decide +kernel) (fun q2 => ?_)
    refine e_istore_n (pc' := 19) k139_18 rfl rfl ?_
    refine e_iload_n (pc' := 20) k139_19 rfl rfl ?_
    refine e_ifge (t := 25) (pc' := 23) k139_20 rfl (by decide) (fun _ => ?_) (fun _ => ?_)
    · refine e_aload_n (pc' := 26) k139_25 rfl rfl ?_
      refine e_iload_n (pc' := 27) k139_26 rfl rfl ?_
      refine e_vV (j' := 137) (as := [.int v2]) (rest := []) (pc' := 30) k139_27 rfl (show mCk 139 1 173 137 1 = true by decide +kernel) (by decide +kernel) rfl (Nat.le_of_ble_eq_true rfl) (show 2 ≤ mL 137 by decide +kernel) (fun h3 => ?_)
      refine e_aload_n (pc' := 31) k139_30 rfl rfl ?_
      refine e_iload_n (pc' := 32) k139_31 rfl rfl ?_
      refine e_vI (j' := 112) (as := [.int v1]) (rest := []) (pc' := 35) k139_32 rfl (show mCk 139 1 125 112 1 = true by decide +kernel) (Or.inl (by decide +kernel)) rfl (Nat.le_of_ble_eq_true rfl) (show 2 ≤ mL 112 by decide +kernel) (fun q4 => ?_)
      exact e_iret k139_35 (by decide +kernel)
    · refine e_iload_n (pc' := 24) k139_23 rfl rfl ?_
      exact e_iret k139_24 (by decide +kernel)
  · refine e_iconst (v := -1) (pc' := 12) k139_11 rfl rfl ?_
    exact e_iret k139_12 (by decide +kernel)
theorem k140_0 : decode (mB 140) 0 = .ok (.aload_n 0, 1) := by decide +kernel
theorem k140_1 : decode (mB 140) 1 = .ok (.iload_n 1, 1) := by decide +kernel
theorem k140_2 : decode (mB 140) 2 = .ok (.invokevirtual 128, 3) := by decide +kernel
theorem k140_5 : decode (mB 140) 5 = .ok (.istore_n 2, 1) := by decide +kernel
theorem k140_6 : decode (mB 140) 6 = .ok (.iload_n 2, 1) := by decide +kernel
theorem k140_7 : decode (mB 140) 7 = .ok (.ifCond .ge 5, 3) := by decide +kernel
theorem k140_10 : decode (mB 140) 10 = .ok (.iload_n 2, 1) := by decide +kernel
theorem k140_11 : decode (mB 140) 11 = .ok (.ireturn, 1) := by decide +kernel
theorem k140_12 : decode (mB 140) 12 = .ok (.aload_n 0, 1) := by decide +kernel
theorem k140_13 : decode (mB 140) 13 = .ok (.iconst 0, 1) := by decide +kernel
theorem k140_14 : decode (mB 140) 14 = .ok (.invokevirtual 176, 3) := by decide +kernel
theorem k140_17 : decode (mB 140) 17 = .ok (.aload_n 0, 1) := by decide +kernel
theorem k140_18 : decode (mB 140) 18 = .ok (.iload_n 1, 1) := by decide +kernel
theorem k140_19 : decode (mB 140) 19 = .ok (.invokevirtual 125, 3) := by decide +kernel
theorem k140_22 : decode (mB 140) 22 = .ok (.ireturn, 1) := by decide +kernel
/-- SquareGroundsModel.turn(I)I -/
theorem F140_eq (v0 : Nat) (v1 : Int32) (h : mHeap) : F 140 [.ref v0, .int v1] h = (vI 110 v0 [.int v1] h).bind fun q1 => if 0 ≤ (q1.1 : Int32) then ((vV 138 v0 [.int 0] q1.2).bind fun h2 => (vI 112 v0 [.int v1] h2).bind fun q3 => some (some (.int q3.1), q3.2)) else (some (some (.int q1.1), q1.2)) := by
  show D 140 0 (mEnt 140 [.ref v0, .int v1]) [] h 0 0 = _
  rw [show mEnt 140 [.ref v0, .int v1] = [some (.ref v0), some (.int v1), none] from rfl]
  refine e_aload_n (pc' := 1) k140_0 rfl rfl ?_
  refine e_iload_n (pc' := 2) k140_1 rfl rfl ?_
  refine e_vI (j' := 110) (as := [.int v1]) (rest := []) (pc' := 5) k140_2 rfl (show mCk 140 1 128 110 1 = true by decide +kernel) (Or.inl (by decide +kernel)) rfl (Nat.le_of_ble_eq_true rfl) (show 2 ≤ mL 110 by decide +kernel) (fun q1 => ?_)
  refine e_istore_n (pc' := 6) k140_5 rfl rfl ?_
  refine e_iload_n (pc' := 7) k140_6 rfl rfl ?_
  refine e_ifge (t := 12) (pc' := 10) k140_7 rfl (by decide) (fun _ => ?_) (fun _ => ?_)
  · refine e_aload_n (pc' := 13) k140_12 rfl rfl ?_
    refine e_iconst (v := 0) (pc' := 14) k140_13 rfl rfl ?_
    refine e_vV (j' := 138) (as := [.int 0]) (rest := []) (pc' := 17) k140_14 rfl (show mCk 140 1 176 138 1 = true by decide +kernel) (by decide +kernel) rfl (Nat.le_of_ble_eq_true rfl) (show 2 ≤ mL 138 by decide +kernel) (fun h2 => ?_)
    refine e_aload_n (pc' := 18) k140_17 rfl rfl ?_
    refine e_iload_n (pc' := 19) k140_18 rfl rfl ?_
    refine e_vI (j' := 112) (as := [.int v1]) (rest := []) (pc' := 22) k140_19 rfl (show mCk 140 1 125 112 1 = true by decide +kernel) (Or.inl (by decide +kernel)) rfl (Nat.le_of_ble_eq_true rfl) (show 2 ≤ mL 112 by decide +kernel) (fun q3 => ?_)
    exact e_iret k140_22 (by decide +kernel)
  · refine e_iload_n (pc' := 11) k140_10 rfl rfl ?_
    exact e_iret k140_11 (by decide +kernel)
theorem k141_0 : decode (mB 141) 0 = .ok (.iload_n 0, 1) := by decide +kernel
theorem k141_1 : decode (mB 141) 1 = .ok (.bipush (-50), 2) := by decide +kernel
theorem k141_3 : decode (mB 141) 3 = .ok (.bipush 50, 2) := by decide +kernel
theorem k141_5 : decode (mB 141) 5 = .ok (.invokestatic 90, 3) := by decide +kernel
theorem k141_8 : decode (mB 141) 8 = .ok (.ifCond .eq 13, 3) := by decide +kernel
theorem k141_11 : decode (mB 141) 11 = .ok (.iload_n 1, 1) := by decide +kernel
theorem k141_12 : decode (mB 141) 12 = .ok (.iconst 0, 1) := by decide +kernel
theorem k141_13 : decode (mB 141) 13 = .ok (.bipush 50, 2) := by decide +kernel
theorem k141_15 : decode (mB 141) 15 = .ok (.invokestatic 90, 3) := by decide +kernel
theorem k141_18 : decode (mB 141) 18 = .ok (.ifCond .ne 5, 3) := by decide +kernel
theorem k141_21 : decode (mB 141) 21 = .ok (.iconst 0, 1) := by decide +kernel
theorem k141_22 : decode (mB 141) 22 = .ok (.ireturn, 1) := by decide +kernel
theorem k141_23 : decode (mB 141) 23 = .ok (.iload_n 0, 1) := by decide +kernel
theorem k141_24 : decode (mB 141) 24 = .ok (.ifCond .ge 8, 3) := by decide +kernel
theorem k141_27 : decode (mB 141) 27 = .ok (.iload_n 0, 1) := by decide +kernel
theorem k141_28 : decode (mB 141) 28 = .ok (.ineg, 1) := by decide +kernel
theorem k141_29 : decode (mB 141) 29 = .ok (.goto 4, 3) := by decide +kernel
theorem k141_32 : decode (mB 141) 32 = .ok (.iload_n 0, 1) := by decide +kernel
theorem k141_33 : decode (mB 141) 33 = .ok (.istore_n 2, 1) := by decide +kernel
theorem k141_34 : decode (mB 141) 34 = .ok (.iload_n 1, 1) := by decide +kernel
theorem k141_35 : decode (mB 141) 35 = .ok (.istore_n 3, 1) := by decide +kernel
theorem k141_36 : decode (mB 141) 36 = .ok (.iload_n 3, 1) := by decide +kernel
theorem k141_37 : decode (mB 141) 37 = .ok (.ifCond .eq 16, 3) := by decide +kernel
theorem k141_40 : decode (mB 141) 40 = .ok (.iload_n 2, 1) := by decide +kernel
theorem k141_41 : decode (mB 141) 41 = .ok (.iload_n 3, 1) := by decide +kernel
theorem k141_42 : decode (mB 141) 42 = .ok (.irem, 1) := by decide +kernel
theorem k141_43 : decode (mB 141) 43 = .ok (.istore 4, 2) := by decide +kernel
theorem k141_45 : decode (mB 141) 45 = .ok (.iload_n 3, 1) := by decide +kernel
theorem k141_46 : decode (mB 141) 46 = .ok (.istore_n 2, 1) := by decide +kernel
theorem k141_47 : decode (mB 141) 47 = .ok (.iload 4, 2) := by decide +kernel
theorem k141_49 : decode (mB 141) 49 = .ok (.istore_n 3, 1) := by decide +kernel
theorem k141_50 : decode (mB 141) 50 = .ok (.goto (-14), 3) := by decide +kernel
theorem k141_53 : decode (mB 141) 53 = .ok (.iload_n 2, 1) := by decide +kernel
theorem k141_54 : decode (mB 141) 54 = .ok (.iconst 1, 1) := by decide +kernel
theorem k141_55 : decode (mB 141) 55 = .ok (.if_icmp .ne 16, 3) := by decide +kernel
theorem k141_58 : decode (mB 141) 58 = .ok (.iload_n 1, 1) := by decide +kernel
theorem k141_59 : decode (mB 141) 59 = .ok (.ifCond .gt 8, 3) := by decide +kernel
theorem k141_62 : decode (mB 141) 62 = .ok (.iload_n 0, 1) := by decide +kernel
theorem k141_63 : decode (mB 141) 63 = .ok (.iconst 1, 1) := by decide +kernel
theorem k141_64 : decode (mB 141) 64 = .ok (.if_icmp .ne 7, 3) := by decide +kernel
theorem k141_67 : decode (mB 141) 67 = .ok (.iconst 1, 1) := by decide +kernel
theorem k141_68 : decode (mB 141) 68 = .ok (.goto 4, 3) := by decide +kernel
theorem k141_71 : decode (mB 141) 71 = .ok (.iconst 0, 1) := by decide +kernel
theorem k141_72 : decode (mB 141) 72 = .ok (.ireturn, 1) := by decide +kernel
/-- SquareGroundsModel.isSlope, loop at 36 -/
noncomputable def q141_36 (v0 : Int32) (v1 : Int32) (v2 : Int32) (v3 : Int32) (d4 : Option Value) (h : mHeap) : mR' := E 141 36 [some (.int v0), some (.int v1), some (.int v2), some (.int v3), d4] [] h
theorem q141_36_eq (v0 : Int32) (v1 : Int32) (v2 : Int32) (v3 : Int32) (d4 : Option Value) (h : mHeap) : q141_36 v0 v1 v2 v3 d4 h = if (v3 : Int32) = 0 then (if ¬ (v2 : Int32) = 1 then (if narrow .boolean (.int 0) = .int 0 then some (some (.int 0), h) else none) else (if 0 < (v1 : Int32) then (if narrow .boolean (.int 1) = .int 1 then some (some (.int 1), h) else none) else (if ¬ (v0 : Int32) = 1 then (if narrow .boolean (.int 0) = .int 0 then some (some (.int 0), h) else none) else (if narrow .boolean (.int 1) = .int 1 then some (some (.int 1), h) else none)))) else (if (v3 : Int32) = 0 then none else (q141_36 v0 v1 v3 (v2 - v2 / v3 * v3) (some (.int (v2 - v2 / v3 * v3))) h)) := by
  unfold q141_36
  refine e_iload_n (pc' := 37) k141_36 rfl rfl ?_
  refine e_ifeq (t := 53) (pc' := 40) k141_37 rfl (by decide) (fun _ => ?_) (fun _ => ?_)
  · refine e_iload_n (pc' := 54) k141_53 rfl rfl ?_
    refine e_iconst (v := 1) (pc' := 55) k141_54 rfl rfl ?_
    refine e_icmpne (t := 71) (pc' := 58) k141_55 rfl (by decide) (fun _ => ?_) (fun _ => ?_)
    · refine e_iconst (v := 0) (pc' := 72) k141_71 rfl rfl ?_
      exact e_zret k141_72 (by decide +kernel)
    · refine e_iload_n (pc' := 59) k141_58 rfl rfl ?_
      refine e_ifgt (t := 67) (pc' := 62) k141_59 rfl (by decide) (fun _ => ?_) (fun _ => ?_)
      · refine e_iconst (v := 1) (pc' := 68) k141_67 rfl rfl ?_
        refine e_goto (pc' := 72) k141_68 (by decide) ?_
        exact e_zret k141_72 (by decide +kernel)
      · refine e_iload_n (pc' := 63) k141_62 rfl rfl ?_
        refine e_iconst (v := 1) (pc' := 64) k141_63 rfl rfl ?_
        refine e_icmpne (t := 71) (pc' := 67) k141_64 rfl (by decide) (fun _ => ?_) (fun _ => ?_)
        · refine e_iconst (v := 0) (pc' := 72) k141_71 rfl rfl ?_
          exact e_zret k141_72 (by decide +kernel)
        · refine e_iconst (v := 1) (pc' := 68) k141_67 rfl rfl ?_
          refine e_goto (pc' := 72) k141_68 (by decide) ?_
          exact e_zret k141_72 (by decide +kernel)
  · refine e_iload_n (pc' := 41) k141_40 rfl rfl ?_
    refine e_iload_n (pc' := 42) k141_41 rfl rfl ?_
    refine e_irem (pc' := 43) k141_42 rfl ?_
    refine e_istore (pc' := 45) k141_43 rfl rfl ?_
    refine e_iload_n (pc' := 46) k141_45 rfl rfl ?_
    refine e_istore_n (pc' := 47) k141_46 rfl rfl ?_
    refine e_iload (pc' := 49) k141_47 rfl rfl ?_
    refine e_istore_n (pc' := 50) k141_49 rfl rfl ?_
    refine e_goto (pc' := 36) k141_50 (by decide) ?_
    rfl
/-- SquareGroundsModel.isSlope(II)Z -/
theorem F141_eq (v0 : Int32) (v1 : Int32) (h : mHeap) : F 141 [.int v0, .int v1] h = (sI 100 [.int v0, .int (-50), .int 50] h).bind fun q1 => if (q1.1 : Int32) = 0 then (if narrow .boolean (.int 0) = .int 0 then some (some (.int 0), q1.2) else none) else ((sI 100 [.int v1, .int 0, .int 50] q1.2).bind fun q2 => if ¬ (q2.1 : Int32) = 0 then (if 0 ≤ (v0 : Int32) then (q141_36 v0 v1 v0 v1 none q2.2) else (q141_36 v0 v1 (-v0) v1 none q2.2)) else (if narrow .boolean (.int 0) = .int 0 then some (some (.int 0), q2.2) else none)) := by
  show D 141 0 (mEnt 141 [.int v0, .int v1]) [] h 0 0 = _
  rw [show mEnt 141 [.int v0, .int v1] = [some (.int v0), some (.int v1), none, none, none] from rfl]
  refine e_iload_n (pc' := 1) k141_0 rfl rfl ?_
  refine e_bipush (v := -50) (pc' := 3) k141_1 rfl rfl ?_
  refine e_bipush (v := 50) (pc' := 5) k141_3 rfl rfl ?_
  refine e_sI (j' := 100) (as := [.int v0, .int (-50), .int 50]) (rest := []) (pc' := 8) k141_5 rfl (show mCk 141 0 90 100 3 = true by decide +kernel) (Or.inr (by decide +kernel)) rfl (Nat.le_of_ble_eq_true rfl) (show 3 ≤ mL 100 by decide +kernel) (fun q1 => ?_)
  refine e_ifeq (t := 21) (pc' := 11) k141_8 rfl (by decide) (fun _ => ?_) (fun _ => ?_)
  · refine e_iconst (v := 0) (pc' := 22) k141_21 rfl rfl ?_
    exact e_zret k141_22 (by decide +kernel)
  · refine e_iload_n (pc' := 12) k141_11 rfl rfl ?_
    refine e_iconst (v := 0) (pc' := 13) k141_12 rfl rfl ?_
    refine e_bipush (v := 50) (pc' := 15) k141_13 rfl rfl ?_
    refine e_sI (j' := 100) (as := [.int v1, .int 0, .int 50]) (rest := []) (pc' := 18) k141_15 rfl (show mCk 141 0 90 100 3 = true by decide +kernel) (Or.inr (by decide +kernel)) rfl (Nat.le_of_ble_eq_true rfl) (show 3 ≤ mL 100 by decide +kernel) (fun q2 => ?_)
    refine e_ifne (t := 23) (pc' := 21) k141_18 rfl (by decide) (fun _ => ?_) (fun _ => ?_)
    · refine e_iload_n (pc' := 24) k141_23 rfl rfl ?_
      refine e_ifge (t := 32) (pc' := 27) k141_24 rfl (by decide) (fun _ => ?_) (fun _ => ?_)
      · refine e_iload_n (pc' := 33) k141_32 rfl rfl ?_
        refine e_istore_n (pc' := 34) k141_33 rfl rfl ?_
        refine e_iload_n (pc' := 35) k141_34 rfl rfl ?_
        refine e_istore_n (pc' := 36) k141_35 rfl rfl ?_
        rfl
      · refine e_iload_n (pc' := 28) k141_27 rfl rfl ?_
        refine e_ineg (pc' := 29) k141_28 rfl ?_
        refine e_goto (pc' := 33) k141_29 (by decide) ?_
        refine e_istore_n (pc' := 34) k141_33 rfl rfl ?_
        refine e_iload_n (pc' := 35) k141_34 rfl rfl ?_
        refine e_istore_n (pc' := 36) k141_35 rfl rfl ?_
        rfl
    · refine e_iconst (v := 0) (pc' := 22) k141_21 rfl rfl ?_
      exact e_zret k141_22 (by decide +kernel)
theorem k142_0 : decode (mB 142) 0 = .ok (.iload_n 1, 1) := by decide +kernel
theorem k142_1 : decode (mB 142) 1 = .ok (.istore_n 3, 1) := by decide +kernel
theorem k142_2 : decode (mB 142) 2 = .ok (.iload_n 2, 1) := by decide +kernel
theorem k142_3 : decode (mB 142) 3 = .ok (.istore 4, 2) := by decide +kernel
theorem k142_5 : decode (mB 142) 5 = .ok (.iload 4, 2) := by decide +kernel
theorem k142_7 : decode (mB 142) 7 = .ok (.ifCond .le 61, 3) := by decide +kernel
theorem k142_10 : decode (mB 142) 10 = .ok (.iload_n 3, 1) := by decide +kernel
theorem k142_11 : decode (mB 142) 11 = .ok (.iload 4, 2) := by decide +kernel
theorem k142_13 : decode (mB 142) 13 = .ok (.idiv, 1) := by decide +kernel
theorem k142_14 : decode (mB 142) 14 = .ok (.istore 5, 2) := by decide +kernel
theorem k142_16 : decode (mB 142) 16 = .ok (.iload_n 3, 1) := by decide +kernel
theorem k142_17 : decode (mB 142) 17 = .ok (.iload 4, 2) := by decide +kernel
theorem k142_19 : decode (mB 142) 19 = .ok (.irem, 1) := by decide +kernel
theorem k142_20 : decode (mB 142) 20 = .ok (.ifCond .ge 10, 3) := by decide +kernel
theorem k142_23 : decode (mB 142) 23 = .ok (.iload 5, 2) := by decide +kernel
theorem k142_25 : decode (mB 142) 25 = .ok (.iconst 1, 1) := by decide +kernel
theorem k142_26 : decode (mB 142) 26 = .ok (.isub, 1) := by decide +kernel
theorem k142_27 : decode (mB 142) 27 = .ok (.goto 5, 3) := by decide +kernel
theorem k142_30 : decode (mB 142) 30 = .ok (.iload 5, 2) := by decide +kernel
theorem k142_32 : decode (mB 142) 32 = .ok (.istore 5, 2) := by decide +kernel
theorem k142_34 : decode (mB 142) 34 = .ok (.aload_n 0, 1) := by decide +kernel
theorem k142_35 : decode (mB 142) 35 = .ok (.iload 5, 2) := by decide +kernel
theorem k142_37 : decode (mB 142) 37 = .ok (.ineg, 1) := by decide +kernel
theorem k142_38 : decode (mB 142) 38 = .ok (.invokevirtual 173, 3) := by decide +kernel
theorem k142_41 : decode (mB 142) 41 = .ok (.iload_n 3, 1) := by decide +kernel
theorem k142_42 : decode (mB 142) 42 = .ok (.iload 4, 2) := by decide +kernel
theorem k142_44 : decode (mB 142) 44 = .ok (.iload 5, 2) := by decide +kernel
theorem k142_46 : decode (mB 142) 46 = .ok (.imul, 1) := by decide +kernel
theorem k142_47 : decode (mB 142) 47 = .ok (.isub, 1) := by decide +kernel
theorem k142_48 : decode (mB 142) 48 = .ok (.istore_n 3, 1) := by decide +kernel
theorem k142_49 : decode (mB 142) 49 = .ok (.aload_n 0, 1) := by decide +kernel
theorem k142_50 : decode (mB 142) 50 = .ok (.iconst 1, 1) := by decide +kernel
theorem k142_51 : decode (mB 142) 51 = .ok (.invokevirtual 176, 3) := by decide +kernel
theorem k142_54 : decode (mB 142) 54 = .ok (.iload 4, 2) := by decide +kernel
theorem k142_56 : decode (mB 142) 56 = .ok (.ineg, 1) := by decide +kernel
theorem k142_57 : decode (mB 142) 57 = .ok (.istore 6, 2) := by decide +kernel
theorem k142_59 : decode (mB 142) 59 = .ok (.iload_n 3, 1) := by decide +kernel
theorem k142_60 : decode (mB 142) 60 = .ok (.istore 4, 2) := by decide +kernel
theorem k142_62 : decode (mB 142) 62 = .ok (.iload 6, 2) := by decide +kernel
theorem k142_64 : decode (mB 142) 64 = .ok (.istore_n 3, 1) := by decide +kernel
theorem k142_65 : decode (mB 142) 65 = .ok (.goto (-60), 3) := by decide +kernel
theorem k142_68 : decode (mB 142) 68 = .ok (.return_, 1) := by decide +kernel
/-- SquareGroundsModel.seeIn, loop at 5 -/
noncomputable def q142_5 (v0 : Nat) (v1 : Int32) (v2 : Int32) (v3 : Int32) (v4 : Int32) (d5 : Option Value) (d6 : Option Value) (h : mHeap) : mR' := E 142 5 [some (.ref v0), some (.int v1), some (.int v2), some (.int v3), some (.int v4), d5, d6] [] h
theorem q142_5_eq (v0 : Nat) (v1 : Int32) (v2 : Int32) (v3 : Int32) (v4 : Int32) (d5 : Option Value) (d6 : Option Value) (h : mHeap) : q142_5 v0 v1 v2 v3 v4 d5 d6 h = if (v4 : Int32) ≤ 0 then (some (none, h)) else (if (v4 : Int32) = 0 then none else (if (v4 : Int32) = 0 then none else (if 0 ≤ ((v3 - v3 / v4 * v4) : Int32) then ((vV 137 v0 [.int (-(v3 / v4))] h).bind fun h1 => (vV 138 v0 [.int 1] h1).bind fun h2 => q142_5 v0 v1 v2 (-v4) (v3 - (v4 * (v3 / v4))) (some (.int (v3 / v4))) (some (.int (-v4))) h2) else ((vV 137 v0 [.int (-((v3 / v4) - 1))] h).bind fun h3 => (vV 138 v0 [.int 1] h3).bind fun h4 => q142_5 v0 v1 v2 (-v4) (v3 - (v4 * ((v3 / v4) - 1))) (some (.int ((v3 / v4) - 1))) (some (.int (-v4))) h4)))) := by
  unfold q142_5
  refine e_iload (pc' := 7) k142_5 rfl rfl ?_
  refine e_ifle (t := 68) (pc' := 10) k142_7 rfl (by decide) (fun _ => ?_) (fun _ => ?_)
  · exact e_vret k142_68 (by decide +kernel)
  · refine e_iload_n (pc' := 11) k142_10 rfl rfl ?_
    refine e_iload (pc' := 13) k142_11 rfl rfl ?_
    refine e_idiv (pc' := 14) k142_13 rfl ?_
    refine e_istore (pc' := 16) k142_14 rfl rfl ?_
    refine e_iload_n (pc' := 17) k142_16 rfl rfl ?_
    refine e_iload (pc' := 19) k142_17 rfl rfl ?_
    refine e_irem (pc' := 20) k142_19 rfl ?_
    refine e_ifge (t := 30) (pc' := 23) k142_20 rfl (by decide) (fun _ => ?_) (fun _ => ?_)
    · refine e_iload (pc' := 32) k142_30 rfl rfl ?_
      refine e_istore (pc' := 34) k142_32 rfl rfl ?_
      refine e_aload_n (pc' := 35) k142_34 rfl rfl ?_
      refine e_iload (pc' := 37) k142_35 rfl rfl ?_
      refine e_ineg (pc' := 38) k142_37 rfl ?_
      refine e_vV (j' := 137) (as := [.int (-(v3 / v4))]) (rest := []) (pc' := 41) k142_38 rfl (show mCk 142 1 173 137 1 = true by decide +kernel) (by decide +kernel) rfl (Nat.le_of_ble_eq_true rfl) (show 2 ≤ mL 137 by decide +kernel) (fun h1 => ?_)
      refine e_iload_n (pc' := 42) k142_41 rfl rfl ?_
      refine e_iload (pc' := 44) k142_42 rfl rfl ?_
      refine e_iload (pc' := 46) k142_44 rfl rfl ?_
      refine e_imul (pc' := 47) k142_46 rfl ?_
      refine e_isub (pc' := 48) k142_47 rfl ?_
      refine e_istore_n (pc' := 49) k142_48 rfl rfl ?_
      refine e_aload_n (pc' := 50) k142_49 rfl rfl ?_
      refine e_iconst (v := 1) (pc' := 51) k142_50 rfl rfl ?_
      refine e_vV (j' := 138) (as := [.int 1]) (rest := []) (pc' := 54) k142_51 rfl (show mCk 142 1 176 138 1 = true by decide +kernel) (by decide +kernel) rfl (Nat.le_of_ble_eq_true rfl) (show 2 ≤ mL 138 by decide +kernel) (fun h2 => ?_)
      refine e_iload (pc' := 56) k142_54 rfl rfl ?_
      refine e_ineg (pc' := 57) k142_56 rfl ?_
      refine e_istore (pc' := 59) k142_57 rfl rfl ?_
      refine e_iload_n (pc' := 60) k142_59 rfl rfl ?_
      refine e_istore (pc' := 62) k142_60 rfl rfl ?_
      refine e_iload (pc' := 64) k142_62 rfl rfl ?_
      refine e_istore_n (pc' := 65) k142_64 rfl rfl ?_
      refine e_goto (pc' := 5) k142_65 (by decide) ?_
      rfl
    · refine e_iload (pc' := 25) k142_23 rfl rfl ?_
      refine e_iconst (v := 1) (pc' := 26) k142_25 rfl rfl ?_
      refine e_isub (pc' := 27) k142_26 rfl ?_
      refine e_goto (pc' := 32) k142_27 (by decide) ?_
      refine e_istore (pc' := 34) k142_32 rfl rfl ?_
      refine e_aload_n (pc' := 35) k142_34 rfl rfl ?_
      refine e_iload (pc' := 37) k142_35 rfl rfl ?_
      refine e_ineg (pc' := 38) k142_37 rfl ?_
      refine e_vV (j' := 137) (as := [.int (-((v3 / v4) - 1))]) (rest := []) (pc' := 41) k142_38 rfl (show mCk 142 1 173 137 1 = true by decide +kernel) (by decide +kernel) rfl (Nat.le_of_ble_eq_true rfl) (show 2 ≤ mL 137 by decide +kernel) (fun h3 => ?_)
      refine e_iload_n (pc' := 42) k142_41 rfl rfl ?_
      refine e_iload (pc' := 44) k142_42 rfl rfl ?_
      refine e_iload (pc' := 46) k142_44 rfl rfl ?_
      refine e_imul (pc' := 47) k142_46 rfl ?_
      refine e_isub (pc' := 48) k142_47 rfl ?_
      refine e_istore_n (pc' := 49) k142_48 rfl rfl ?_
      refine e_aload_n (pc' := 50) k142_49 rfl rfl ?_
      refine e_iconst (v := 1) (pc' := 51) k142_50 rfl rfl ?_
      refine e_vV (j' := 138) (as := [.int 1]) (rest := []) (pc' := 54) k142_51 rfl (show mCk 142 1 176 138 1 = true by decide +kernel) (by decide +kernel) rfl (Nat.le_of_ble_eq_true rfl) (show 2 ≤ mL 138 by decide +kernel) (fun h4 => ?_)
      refine e_iload (pc' := 56) k142_54 rfl rfl ?_
      refine e_ineg (pc' := 57) k142_56 rfl ?_
      refine e_istore (pc' := 59) k142_57 rfl rfl ?_
      refine e_iload_n (pc' := 60) k142_59 rfl rfl ?_
      refine e_istore (pc' := 62) k142_60 rfl rfl ?_
      refine e_iload (pc' := 64) k142_62 rfl rfl ?_
      refine e_istore_n (pc' := 65) k142_64 rfl rfl ?_
      refine e_goto (pc' := 5) k142_65 (by decide) ?_
      rfl
/-- SquareGroundsModel.seeIn(II)V -/
theorem F142_eq (v0 : Nat) (v1 : Int32) (v2 : Int32) (h : mHeap) : F 142 [.ref v0, .int v1, .int v2] h = q142_5 v0 v1 v2 v1 v2 none none h := by
  show D 142 0 (mEnt 142 [.ref v0, .int v1, .int v2]) [] h 0 0 = _
  rw [show mEnt 142 [.ref v0, .int v1, .int v2] = [some (.ref v0), some (.int v1), some (.int v2), none, none, none, none] from rfl]
  refine e_iload_n (pc' := 1) k142_0 rfl rfl ?_
  refine e_istore_n (pc' := 2) k142_1 rfl rfl ?_
  refine e_iload_n (pc' := 3) k142_2 rfl rfl ?_
  refine e_istore (pc' := 5) k142_3 rfl rfl ?_
  rfl
theorem k143_0 : decode (mB 143) 0 = .ok (.iload_n 2, 1) := by decide +kernel
theorem k143_1 : decode (mB 143) 1 = .ok (.iload_n 3, 1) := by decide +kernel
theorem k143_2 : decode (mB 143) 2 = .ok (.invokestatic 179, 3) := by decide +kernel
theorem k143_5 : decode (mB 143) 5 = .ok (.ifCond .ne 5, 3) := by decide +kernel
theorem k143_8 : decode (mB 143) 8 = .ok (.iconst (-1), 1) := by decide +kernel
theorem k143_9 : decode (mB 143) 9 = .ok (.ireturn, 1) := by decide +kernel
theorem k143_10 : decode (mB 143) 10 = .ok (.aload_n 0, 1) := by decide +kernel
theorem k143_11 : decode (mB 143) 11 = .ok (.iload_n 1, 1) := by decide +kernel
theorem k143_12 : decode (mB 143) 12 = .ok (.invokevirtual 128, 3) := by decide +kernel
theorem k143_15 : decode (mB 143) 15 = .ok (.istore 4, 2) := by decide +kernel
theorem k143_17 : decode (mB 143) 17 = .ok (.iload 4, 2) := by decide +kernel
theorem k143_19 : decode (mB 143) 19 = .ok (.ifCond .ge 6, 3) := by decide +kernel
theorem k143_22 : decode (mB 143) 22 = .ok (.iload 4, 2) := by decide +kernel
theorem k143_24 : decode (mB 143) 24 = .ok (.ireturn, 1) := by decide +kernel
theorem k143_25 : decode (mB 143) 25 = .ok (.aload_n 0, 1) := by decide +kernel
theorem k143_26 : decode (mB 143) 26 = .ok (.iload_n 2, 1) := by decide +kernel
theorem k143_27 : decode (mB 143) 27 = .ok (.iload_n 3, 1) := by decide +kernel
theorem k143_28 : decode (mB 143) 28 = .ok (.invokevirtual 182, 3) := by decide +kernel
theorem k143_31 : decode (mB 143) 31 = .ok (.aload_n 0, 1) := by decide +kernel
theorem k143_32 : decode (mB 143) 32 = .ok (.iload_n 1, 1) := by decide +kernel
theorem k143_33 : decode (mB 143) 33 = .ok (.invokevirtual 125, 3) := by decide +kernel
theorem k143_36 : decode (mB 143) 36 = .ok (.ireturn, 1) := by decide +kernel
/-- SquareGroundsModel.see(III)I -/
theorem F143_eq (v0 : Nat) (v1 : Int32) (v2 : Int32) (v3 : Int32) (h : mHeap) : F 143 [.ref v0, .int v1, .int v2, .int v3] h = (sI 141 [.int v2, .int v3] h).bind fun q1 => if ¬ (q1.1 : Int32) = 0 then ((vI 110 v0 [.int v1] q1.2).bind fun q2 => if 0 ≤ (q2.1 : Int32) then ((vV 142 v0 [.int v2, .int v3] q2.2).bind fun h3 => (vI 112 v0 [.int v1] h3).bind fun q4 => some (some (.int q4.1), q4.2)) else (some (some (.int q2.1), q2.2))) else (some (some (.int (-1)), q1.2)) := by
  show D 143 0 (mEnt 143 [.ref v0, .int v1, .int v2, .int v3]) [] h 0 0 = _
  rw [show mEnt 143 [.ref v0, .int v1, .int v2, .int v3] = [some (.ref v0), some (.int v1), some (.int v2), some (.int v3), none] from rfl]
  refine e_iload_n (pc' := 1) k143_0 rfl rfl ?_
  refine e_iload_n (pc' := 2) k143_1 rfl rfl ?_
  refine e_sI (j' := 141) (as := [.int v2, .int v3]) (rest := []) (pc' := 5) k143_2 rfl (show mCk 143 0 179 141 2 = true by decide +kernel) (Or.inr (by decide +kernel)) rfl (Nat.le_of_ble_eq_true rfl) (show 2 ≤ mL 141 by decide +kernel) (fun q1 => ?_)
  refine e_ifne (t := 10) (pc' := 8) k143_5 rfl (by decide) (fun _ => ?_) (fun _ => ?_)
  · refine e_aload_n (pc' := 11) k143_10 rfl rfl ?_
    refine e_iload_n (pc' := 12) k143_11 rfl rfl ?_
    refine e_vI (j' := 110) (as := [.int v1]) (rest := []) (pc' := 15) k143_12 rfl (show mCk 143 1 128 110 1 = true by decide +kernel) (Or.inl (by decide +kernel)) rfl (Nat.le_of_ble_eq_true rfl) (show 2 ≤ mL 110 by decide +kernel) (fun q2 => ?_)
    refine e_istore (pc' := 17) k143_15 rfl rfl ?_
    refine e_iload (pc' := 19) k143_17 rfl rfl ?_
    refine e_ifge (t := 25) (pc' := 22) k143_19 rfl (by decide) (fun _ => ?_) (fun _ => ?_)
    · refine e_aload_n (pc' := 26) k143_25 rfl rfl ?_
      refine e_iload_n (pc' := 27) k143_26 rfl rfl ?_
      refine e_iload_n (pc' := 28) k143_27 rfl rfl ?_
      refine e_vV (j' := 142) (as := [.int v2, .int v3]) (rest := []) (pc' := 31) k143_28 rfl (show mCk 143 1 182 142 2 = true by decide +kernel) (by decide +kernel) rfl (Nat.le_of_ble_eq_true rfl) (show 3 ≤ mL 142 by decide +kernel) (fun h3 => ?_)
      refine e_aload_n (pc' := 32) k143_31 rfl rfl ?_
      refine e_iload_n (pc' := 33) k143_32 rfl rfl ?_
      refine e_vI (j' := 112) (as := [.int v1]) (rest := []) (pc' := 36) k143_33 rfl (show mCk 143 1 125 112 1 = true by decide +kernel) (Or.inl (by decide +kernel)) rfl (Nat.le_of_ble_eq_true rfl) (show 2 ≤ mL 112 by decide +kernel) (fun q4 => ?_)
      exact e_iret k143_36 (by decide +kernel)
    · refine e_iload (pc' := 24) k143_22 rfl rfl ?_
      exact e_iret k143_24 (by decide +kernel)
  · refine e_iconst (v := -1) (pc' := 9) k143_8 rfl rfl ?_
    exact e_iret k143_9 (by decide +kernel)
theorem k144_0 : decode (mB 144) 0 = .ok (.iconst 0, 1) := by decide +kernel
theorem k144_1 : decode (mB 144) 1 = .ok (.istore_n 1, 1) := by decide +kernel
theorem k144_2 : decode (mB 144) 2 = .ok (.iload_n 1, 1) := by decide +kernel
theorem k144_3 : decode (mB 144) 3 = .ok (.aload_n 0, 1) := by decide +kernel
theorem k144_4 : decode (mB 144) 4 = .ok (.getfield 105, 3) := by decide +kernel
theorem k144_7 : decode (mB 144) 7 = .ok (.if_icmp .ge 16, 3) := by decide +kernel
theorem k144_10 : decode (mB 144) 10 = .ok (.aload_n 0, 1) := by decide +kernel
theorem k144_11 : decode (mB 144) 11 = .ok (.getfield 61, 3) := by decide +kernel
theorem k144_14 : decode (mB 144) 14 = .ok (.iload_n 1, 1) := by decide +kernel
theorem k144_15 : decode (mB 144) 15 = .ok (.iload_n 1, 1) := by decide +kernel
theorem k144_16 : decode (mB 144) 16 = .ok (.iastore, 1) := by decide +kernel
theorem k144_17 : decode (mB 144) 17 = .ok (.iinc 1 1, 3) := by decide +kernel
theorem k144_20 : decode (mB 144) 20 = .ok (.goto (-18), 3) := by decide +kernel
theorem k144_23 : decode (mB 144) 23 = .ok (.iconst 1, 1) := by decide +kernel
theorem k144_24 : decode (mB 144) 24 = .ok (.istore_n 1, 1) := by decide +kernel
theorem k144_25 : decode (mB 144) 25 = .ok (.iload_n 1, 1) := by decide +kernel
theorem k144_26 : decode (mB 144) 26 = .ok (.ifCond .eq 80, 3) := by decide +kernel
theorem k144_29 : decode (mB 144) 29 = .ok (.iconst 0, 1) := by decide +kernel
theorem k144_30 : decode (mB 144) 30 = .ok (.istore_n 1, 1) := by decide +kernel
theorem k144_31 : decode (mB 144) 31 = .ok (.iconst 0, 1) := by decide +kernel
theorem k144_32 : decode (mB 144) 32 = .ok (.istore_n 2, 1) := by decide +kernel
theorem k144_33 : decode (mB 144) 33 = .ok (.iload_n 2, 1) := by decide +kernel
theorem k144_34 : decode (mB 144) 34 = .ok (.aload_n 0, 1) := by decide +kernel
theorem k144_35 : decode (mB 144) 35 = .ok (.getfield 105, 3) := by decide +kernel
theorem k144_38 : decode (mB 144) 38 = .ok (.if_icmp .ge 65, 3) := by decide +kernel
theorem k144_41 : decode (mB 144) 41 = .ok (.aload_n 0, 1) := by decide +kernel
theorem k144_42 : decode (mB 144) 42 = .ok (.iload_n 2, 1) := by decide +kernel
theorem k144_43 : decode (mB 144) 43 = .ok (.aload_n 0, 1) := by decide +kernel
theorem k144_44 : decode (mB 144) 44 = .ok (.getfield 22, 3) := by decide +kernel
theorem k144_47 : decode (mB 144) 47 = .ok (.iload_n 2, 1) := by decide +kernel
theorem k144_48 : decode (mB 144) 48 = .ok (.iaload, 1) := by decide +kernel
theorem k144_49 : decode (mB 144) 49 = .ok (.invokevirtual 186, 3) := by decide +kernel
theorem k144_52 : decode (mB 144) 52 = .ok (.ifCond .ne 7, 3) := by decide +kernel
theorem k144_55 : decode (mB 144) 55 = .ok (.iload_n 1, 1) := by decide +kernel
theorem k144_56 : decode (mB 144) 56 = .ok (.ifCond .eq 7, 3) := by decide +kernel
theorem k144_59 : decode (mB 144) 59 = .ok (.iconst 1, 1) := by decide +kernel
theorem k144_60 : decode (mB 144) 60 = .ok (.goto 4, 3) := by decide +kernel
theorem k144_63 : decode (mB 144) 63 = .ok (.iconst 0, 1) := by decide +kernel
theorem k144_64 : decode (mB 144) 64 = .ok (.istore_n 1, 1) := by decide +kernel
theorem k144_65 : decode (mB 144) 65 = .ok (.aload_n 0, 1) := by decide +kernel
theorem k144_66 : decode (mB 144) 66 = .ok (.iload_n 2, 1) := by decide +kernel
theorem k144_67 : decode (mB 144) 67 = .ok (.invokevirtual 189, 3) := by decide +kernel
theorem k144_70 : decode (mB 144) 70 = .ok (.ifCond .eq 17, 3) := by decide +kernel
theorem k144_73 : decode (mB 144) 73 = .ok (.aload_n 0, 1) := by decide +kernel
theorem k144_74 : decode (mB 144) 74 = .ok (.iload_n 2, 1) := by decide +kernel
theorem k144_75 : decode (mB 144) 75 = .ok (.aload_n 0, 1) := by decide +kernel
theorem k144_76 : decode (mB 144) 76 = .ok (.getfield 25, 3) := by decide +kernel
theorem k144_79 : decode (mB 144) 79 = .ok (.iload_n 2, 1) := by decide +kernel
theorem k144_80 : decode (mB 144) 80 = .ok (.iaload, 1) := by decide +kernel
theorem k144_81 : decode (mB 144) 81 = .ok (.invokevirtual 186, 3) := by decide +kernel
theorem k144_84 : decode (mB 144) 84 = .ok (.ifCond .ne 7, 3) := by decide +kernel
theorem k144_87 : decode (mB 144) 87 = .ok (.iload_n 1, 1) := by decide +kernel
theorem k144_88 : decode (mB 144) 88 = .ok (.ifCond .eq 7, 3) := by decide +kernel
theorem k144_91 : decode (mB 144) 91 = .ok (.iconst 1, 1) := by decide +kernel
theorem k144_92 : decode (mB 144) 92 = .ok (.goto 4, 3) := by decide +kernel
theorem k144_95 : decode (mB 144) 95 = .ok (.iconst 0, 1) := by decide +kernel
theorem k144_96 : decode (mB 144) 96 = .ok (.istore_n 1, 1) := by decide +kernel
theorem k144_97 : decode (mB 144) 97 = .ok (.iinc 2 1, 3) := by decide +kernel
theorem k144_100 : decode (mB 144) 100 = .ok (.goto (-67), 3) := by decide +kernel
theorem k144_103 : decode (mB 144) 103 = .ok (.goto (-78), 3) := by decide +kernel
theorem k144_106 : decode (mB 144) 106 = .ok (.iconst 0, 1) := by decide +kernel
theorem k144_107 : decode (mB 144) 107 = .ok (.istore_n 2, 1) := by decide +kernel
theorem k144_108 : decode (mB 144) 108 = .ok (.iconst 0, 1) := by decide +kernel
theorem k144_109 : decode (mB 144) 109 = .ok (.istore_n 3, 1) := by decide +kernel
theorem k144_110 : decode (mB 144) 110 = .ok (.iload_n 3, 1) := by decide +kernel
theorem k144_111 : decode (mB 144) 111 = .ok (.aload_n 0, 1) := by decide +kernel
theorem k144_112 : decode (mB 144) 112 = .ok (.getfield 105, 3) := by decide +kernel
theorem k144_115 : decode (mB 144) 115 = .ok (.if_icmp .ge 27, 3) := by decide +kernel
theorem k144_118 : decode (mB 144) 118 = .ok (.iload_n 2, 1) := by decide +kernel
theorem k144_119 : decode (mB 144) 119 = .ok (.aload_n 0, 1) := by decide +kernel
theorem k144_120 : decode (mB 144) 120 = .ok (.getfield 61, 3) := by decide +kernel
theorem k144_123 : decode (mB 144) 123 = .ok (.iload_n 3, 1) := by decide +kernel
theorem k144_124 : decode (mB 144) 124 = .ok (.iaload, 1) := by decide +kernel
theorem k144_125 : decode (mB 144) 125 = .ok (.iload_n 3, 1) := by decide +kernel
theorem k144_126 : decode (mB 144) 126 = .ok (.if_icmp .ne 7, 3) := by decide +kernel
theorem k144_129 : decode (mB 144) 129 = .ok (.iconst 1, 1) := by decide +kernel
theorem k144_130 : decode (mB 144) 130 = .ok (.goto 4, 3) := by decide +kernel
theorem k144_133 : decode (mB 144) 133 = .ok (.iconst 0, 1) := by decide +kernel
theorem k144_134 : decode (mB 144) 134 = .ok (.iadd, 1) := by decide +kernel
theorem k144_135 : decode (mB 144) 135 = .ok (.istore_n 2, 1) := by decide +kernel
theorem k144_136 : decode (mB 144) 136 = .ok (.iinc 3 1, 3) := by decide +kernel
theorem k144_139 : decode (mB 144) 139 = .ok (.goto (-29), 3) := by decide +kernel
theorem k144_142 : decode (mB 144) 142 = .ok (.iload_n 2, 1) := by decide +kernel
theorem k144_143 : decode (mB 144) 143 = .ok (.ireturn, 1) := by decide +kernel
/-- SquareGroundsModel.setCylinders, loop at 2 -/
noncomputable def q144_2 (v0 : Nat) (v1 : Int32) (h : mHeap) : mR' := E 144 2 [some (.ref v0), some (.int v1), none, none] [] h
/-- SquareGroundsModel.setCylinders, loop at 25 -/
noncomputable def q144_25 (v0 : Nat) (v1 : Int32) (d2 : Option Value) (h : mHeap) : mR' := E 144 25 [some (.ref v0), some (.int v1), d2, none] [] h
/-- SquareGroundsModel.setCylinders, loop at 33 -/
noncomputable def q144_33 (v0 : Nat) (v1 : Int32) (v2 : Int32) (h : mHeap) : mR' := E 144 33 [some (.ref v0), some (.int v1), some (.int v2), none] [] h
/-- SquareGroundsModel.setCylinders, loop at 110 -/
noncomputable def q144_110 (v0 : Nat) (v1 : Int32) (v2 : Int32) (v3 : Int32) (h : mHeap) : mR' := E 144 110 [some (.ref v0), some (.int v1), some (.int v2), some (.int v3)] [] h
theorem q144_2_eq (v0 : Nat) (v1 : Int32) (h : mHeap) : q144_2 v0 v1 h = (gI h v0 8 5).bind fun x1 => if x1 ≤ (v1 : Int32) then (q144_25 v0 1 none h) else ((gR h v0 8 20).bind fun x2 => (cAstI h x2 v1 v1).bind fun h3 => q144_2 v0 (v1 + 1) h3) := by
  unfold q144_2
  refine e_iload_n (pc' := 3) k144_2 rfl rfl ?_
  refine e_aload_n (pc' := 4) k144_3 rfl rfl ?_
  refine e_getI (pc' := 7) k144_4 rfl (ci := 8) (k := 5) (by decide +kernel) (by decide +kernel) (fun x1 => ?_)
  refine e_icmpge (t := 23) (pc' := 10) k144_7 rfl (by decide) (fun _ => ?_) (fun _ => ?_)
  · refine e_iconst (v := 1) (pc' := 24) k144_23 rfl rfl ?_
    refine e_istore_n (pc' := 25) k144_24 rfl rfl ?_
    rfl
  · refine e_aload_n (pc' := 11) k144_10 rfl rfl ?_
    refine e_getR (pc' := 14) k144_11 rfl (ci := 8) (k := 20) (by decide +kernel) (by decide +kernel) (fun x2 => ?_)
    refine e_iload_n (pc' := 15) k144_14 rfl rfl ?_
    refine e_iload_n (pc' := 16) k144_15 rfl rfl ?_
    refine e_iast (pc' := 17) k144_16 rfl (fun h3 => ?_)
    refine e_iinc (c := 1) (pc' := 20) k144_17 rfl rfl rfl rfl ?_
    refine e_goto (pc' := 2) k144_20 (by decide) ?_
    rfl
theorem q144_25_eq (v0 : Nat) (v1 : Int32) (d2 : Option Value) (h : mHeap) : q144_25 v0 v1 d2 h = if (v1 : Int32) = 0 then (q144_110 v0 v1 0 0 h) else (q144_33 v0 0 0 h) := by
  unfold q144_25
  refine e_iload_n (pc' := 26) k144_25 rfl rfl ?_
  refine e_ifeq (t := 106) (pc' := 29) k144_26 rfl (by decide) (fun _ => ?_) (fun _ => ?_)
  · refine e_iconst (v := 0) (pc' := 107) k144_106 rfl rfl ?_
    refine e_istore_n (pc' := 108) k144_107 rfl rfl ?_
    refine e_iconst (v := 0) (pc' := 109) k144_108 rfl rfl ?_
    refine e_istore_n (pc' := 110) k144_109 rfl rfl ?_
    rfl
  · refine e_iconst (v := 0) (pc' := 30) k144_29 rfl rfl ?_
    refine e_istore_n (pc' := 31) k144_30 rfl rfl ?_
    refine e_iconst (v := 0) (pc' := 32) k144_31 rfl rfl ?_
    refine e_istore_n (pc' := 33) k144_32 rfl rfl ?_
    rfl
theorem q144_33_eq (v0 : Nat) (v1 : Int32) (v2 : Int32) (h : mHeap) : q144_33 v0 v1 v2 h = (gI h v0 8 5).bind fun x1 => if x1 ≤ (v2 : Int32) then (q144_25 v0 v1 (some (.int v2)) h) else ((gR h v0 8 6).bind fun x2 => (cAldI false h x2 v2).bind fun x3 => (vI 145 v0 [.int v2, .int x3] h).bind fun q4 => if ¬ (q4.1 : Int32) = 0 then ((vI 146 v0 [.int v2] q4.2).bind fun q5 => if (q5.1 : Int32) = 0 then (if (1 : Int32) = 0 then (q144_33 v0 0 (v2 + 1) q5.2) else (q144_33 v0 1 (v2 + 1) q5.2)) else ((gR q5.2 v0 8 7).bind fun x6 => (cAldI false q5.2 x6 v2).bind fun x7 => (vI 145 v0 [.int v2, .int x7] q5.2).bind fun q8 => if ¬ (q8.1 : Int32) = 0 then (q144_33 v0 1 (v2 + 1) q8.2) else (if (1 : Int32) = 0 then (q144_33 v0 0 (v2 + 1) q8.2) else (q144_33 v0 1 (v2 + 1) q8.2)))) else (if (v1 : Int32) = 0 then ((vI 146 v0 [.int v2] q4.2).bind fun q9 => if (q9.1 : Int32) = 0 then (if (0 : Int32) = 0 then (q144_33 v0 0 (v2 + 1) q9.2) else (q144_33 v0 1 (v2 + 1) q9.2)) else ((gR q9.2 v0 8 7).bind fun x10 => (cAldI false q9.2 x10 v2).bind fun x11 => (vI 145 v0 [.int v2, .int x11] q9.2).bind fun q12 => if ¬ (q12.1 : Int32) = 0 then (q144_33 v0 1 (v2 + 1) q12.2) else (if (0 : Int32) = 0 then (q144_33 v0 0 (v2 + 1) q12.2) else (q144_33 v0 1 (v2 + 1) q12.2)))) else ((vI 146 v0 [.int v2] q4.2).bind fun q13 => if (q13.1 : Int32) = 0 then (if (1 : Int32) = 0 then (q144_33 v0 0 (v2 + 1) q13.2) else (q144_33 v0 1 (v2 + 1) q13.2)) else ((gR q13.2 v0 8 7).bind fun x14 => (cAldI false q13.2 x14 v2).bind fun x15 => (vI 145 v0 [.int v2, .int x15] q13.2).bind fun q16 => if ¬ (q16.1 : Int32) = 0 then (q144_33 v0 1 (v2 + 1) q16.2) else (if (1 : Int32) = 0 then (q144_33 v0 0 (v2 + 1) q16.2) else (q144_33 v0 1 (v2 + 1) q16.2)))))) := by
  unfold q144_33
  refine e_iload_n (pc' := 34) k144_33 rfl rfl ?_
  refine e_aload_n (pc' := 35) k144_34 rfl rfl ?_
  refine e_getI (pc' := 38) k144_35 rfl (ci := 8) (k := 5) (by decide +kernel) (by decide +kernel) (fun x1 => ?_)
  refine e_icmpge (t := 103) (pc' := 41) k144_38 rfl (by decide) (fun _ => ?_) (fun _ => ?_)
  · refine e_goto (pc' := 25) k144_103 (by decide) ?_
    rfl
  · refine e_aload_n (pc' := 42) k144_41 rfl rfl ?_
    refine e_iload_n (pc' := 43) k144_42 rfl rfl ?_
    refine e_aload_n (pc' := 44) k144_43 rfl rfl ?_
    refine e_getR (pc' := 47) k144_44 rfl (ci := 8) (k := 6) (by decide +kernel) (by decide +kernel) (fun x2 => ?_)
    refine e_iload_n (pc' := 48) k144_47 rfl rfl ?_
    refine e_iald (pc' := 49) k144_48 rfl (lw := false) rfl (fun x3 => ?_)
    refine e_vI (j' := 145) (as := [.int v2, .int x3]) (rest := []) (pc' := 52) k144_49 rfl (show mCk 144 1 186 145 2 = true by decide +kernel) (Or.inr (by decide +kernel)) rfl (Nat.le_of_ble_eq_true rfl) (show 3 ≤ mL 145 by decide +kernel) (fun q4 => ?_)
    refine e_ifne (t := 59) (pc' := 55) k144_52 rfl (by decide) (fun _ => ?_) (fun _ => ?_)
    · refine e_iconst (v := 1) (pc' := 60) k144_59 rfl rfl ?_
      refine e_goto (pc' := 64) k144_60 (by decide) ?_
      refine e_istore_n (pc' := 65) k144_64 rfl rfl ?_
      refine e_aload_n (pc' := 66) k144_65 rfl rfl ?_
      refine e_iload_n (pc' := 67) k144_66 rfl rfl ?_
      refine e_vI (j' := 146) (as := [.int v2]) (rest := []) (pc' := 70) k144_67 rfl (show mCk 144 1 189 146 1 = true by decide +kernel) (Or.inr (by decide +kernel)) rfl (Nat.le_of_ble_eq_true rfl) (show 2 ≤ mL 146 by decide +kernel) (fun q5 => ?_)
      refine e_ifeq (t := 87) (pc' := 73) k144_70 rfl (by decide) (fun _ => ?_) (fun _ => ?_)
      · refine e_iload_n (pc' := 88) k144_87 rfl rfl ?_
        refine e_ifeq (t := 95) (pc' := 91) k144_88 rfl (by decide) (fun _ => ?_) (fun _ => ?_)
        · refine e_iconst (v := 0) (pc' := 96) k144_95 rfl rfl ?_
          refine e_istore_n (pc' := 97) k144_96 rfl rfl ?_
          refine e_iinc (c := 1) (pc' := 100) k144_97 rfl rfl rfl rfl ?_
          refine e_goto (pc' := 33) k144_100 (by decide) ?_
          rfl
        · refine e_iconst (v := 1) (pc' := 92) k144_91 rfl rfl ?_
          refine e_goto (pc' := 96) k144_92 (by decide) ?_
          refine e_istore_n (pc' := 97) k144_96 rfl rfl ?_
          refine e_iinc (c := 1) (pc' := 100) k144_97 rfl rfl rfl rfl ?_
          refine e_goto (pc' := 33) k144_100 (by decide) ?_
          rfl
      · refine e_aload_n (pc' := 74) k144_73 rfl rfl ?_
        refine e_iload_n (pc' := 75) k144_74 rfl rfl ?_
        refine e_aload_n (pc' := 76) k144_75 rfl rfl ?_
        refine e_getR (pc' := 79) k144_76 rfl (ci := 8) (k := 7) (by decide +kernel) (by decide +kernel) (fun x6 => ?_)
        refine e_iload_n (pc' := 80) k144_79 rfl rfl ?_
        refine e_iald (pc' := 81) k144_80 rfl (lw := false) rfl (fun x7 => ?_)
        refine e_vI (j' := 145) (as := [.int v2, .int x7]) (rest := []) (pc' := 84) k144_81 rfl (show mCk 144 1 186 145 2 = true by decide +kernel) (Or.inr (by decide +kernel)) rfl (Nat.le_of_ble_eq_true rfl) (show 3 ≤ mL 145 by decide +kernel) (fun q8 => ?_)
        refine e_ifne (t := 91) (pc' := 87) k144_84 rfl (by decide) (fun _ => ?_) (fun _ => ?_)
        · refine e_iconst (v := 1) (pc' := 92) k144_91 rfl rfl ?_
          refine e_goto (pc' := 96) k144_92 (by decide) ?_
          refine e_istore_n (pc' := 97) k144_96 rfl rfl ?_
          refine e_iinc (c := 1) (pc' := 100) k144_97 rfl rfl rfl rfl ?_
          refine e_goto (pc' := 33) k144_100 (by decide) ?_
          rfl
        · refine e_iload_n (pc' := 88) k144_87 rfl rfl ?_
          refine e_ifeq (t := 95) (pc' := 91) k144_88 rfl (by decide) (fun _ => ?_) (fun _ => ?_)
          · refine e_iconst (v := 0) (pc' := 96) k144_95 rfl rfl ?_
            refine e_istore_n (pc' := 97) k144_96 rfl rfl ?_
            refine e_iinc (c := 1) (pc' := 100) k144_97 rfl rfl rfl rfl ?_
            refine e_goto (pc' := 33) k144_100 (by decide) ?_
            rfl
          · refine e_iconst (v := 1) (pc' := 92) k144_91 rfl rfl ?_
            refine e_goto (pc' := 96) k144_92 (by decide) ?_
            refine e_istore_n (pc' := 97) k144_96 rfl rfl ?_
            refine e_iinc (c := 1) (pc' := 100) k144_97 rfl rfl rfl rfl ?_
            refine e_goto (pc' := 33) k144_100 (by decide) ?_
            rfl
    · refine e_iload_n (pc' := 56) k144_55 rfl rfl ?_
      refine e_ifeq (t := 63) (pc' := 59) k144_56 rfl (by decide) (fun _ => ?_) (fun _ => ?_)
      · refine e_iconst (v := 0) (pc' := 64) k144_63 rfl rfl ?_
        refine e_istore_n (pc' := 65) k144_64 rfl rfl ?_
        refine e_aload_n (pc' := 66) k144_65 rfl rfl ?_
        refine e_iload_n (pc' := 67) k144_66 rfl rfl ?_
        refine e_vI (j' := 146) (as := [.int v2]) (rest := []) (pc' := 70) k144_67 rfl (show mCk 144 1 189 146 1 = true by decide +kernel) (Or.inr (by decide +kernel)) rfl (Nat.le_of_ble_eq_true rfl) (show 2 ≤ mL 146 by decide +kernel) (fun q9 => ?_)
        refine e_ifeq (t := 87) (pc' := 73) k144_70 rfl (by decide) (fun _ => ?_) (fun _ => ?_)
        · refine e_iload_n (pc' := 88) k144_87 rfl rfl ?_
          refine e_ifeq (t := 95) (pc' := 91) k144_88 rfl (by decide) (fun _ => ?_) (fun _ => ?_)
          · refine e_iconst (v := 0) (pc' := 96) k144_95 rfl rfl ?_
            refine e_istore_n (pc' := 97) k144_96 rfl rfl ?_
            refine e_iinc (c := 1) (pc' := 100) k144_97 rfl rfl rfl rfl ?_
            refine e_goto (pc' := 33) k144_100 (by decide) ?_
            rfl
          · refine e_iconst (v := 1) (pc' := 92) k144_91 rfl rfl ?_
            refine e_goto (pc' := 96) k144_92 (by decide) ?_
            refine e_istore_n (pc' := 97) k144_96 rfl rfl ?_
            refine e_iinc (c := 1) (pc' := 100) k144_97 rfl rfl rfl rfl ?_
            refine e_goto (pc' := 33) k144_100 (by decide) ?_
            rfl
        · refine e_aload_n (pc' := 74) k144_73 rfl rfl ?_
          refine e_iload_n (pc' := 75) k144_74 rfl rfl ?_
          refine e_aload_n (pc' := 76) k144_75 rfl rfl ?_
          refine e_getR (pc' := 79) k144_76 rfl (ci := 8) (k := 7) (by decide +kernel) (by decide +kernel) (fun x10 => ?_)
          refine e_iload_n (pc' := 80) k144_79 rfl rfl ?_
          refine e_iald (pc' := 81) k144_80 rfl (lw := false) rfl (fun x11 => ?_)
          refine e_vI (j' := 145) (as := [.int v2, .int x11]) (rest := []) (pc' := 84) k144_81 rfl (show mCk 144 1 186 145 2 = true by decide +kernel) (Or.inr (by decide +kernel)) rfl (Nat.le_of_ble_eq_true rfl) (show 3 ≤ mL 145 by decide +kernel) (fun q12 => ?_)
          refine e_ifne (t := 91) (pc' := 87) k144_84 rfl (by decide) (fun _ => ?_) (fun _ => ?_)
          · refine e_iconst (v := 1) (pc' := 92) k144_91 rfl rfl ?_
            refine e_goto (pc' := 96) k144_92 (by decide) ?_
            refine e_istore_n (pc' := 97) k144_96 rfl rfl ?_
            refine e_iinc (c := 1) (pc' := 100) k144_97 rfl rfl rfl rfl ?_
            refine e_goto (pc' := 33) k144_100 (by decide) ?_
            rfl
          · refine e_iload_n (pc' := 88) k144_87 rfl rfl ?_
            refine e_ifeq (t := 95) (pc' := 91) k144_88 rfl (by decide) (fun _ => ?_) (fun _ => ?_)
            · refine e_iconst (v := 0) (pc' := 96) k144_95 rfl rfl ?_
              refine e_istore_n (pc' := 97) k144_96 rfl rfl ?_
              refine e_iinc (c := 1) (pc' := 100) k144_97 rfl rfl rfl rfl ?_
              refine e_goto (pc' := 33) k144_100 (by decide) ?_
              rfl
            · refine e_iconst (v := 1) (pc' := 92) k144_91 rfl rfl ?_
              refine e_goto (pc' := 96) k144_92 (by decide) ?_
              refine e_istore_n (pc' := 97) k144_96 rfl rfl ?_
              refine e_iinc (c := 1) (pc' := 100) k144_97 rfl rfl rfl rfl ?_
              refine e_goto (pc' := 33) k144_100 (by decide) ?_
              rfl
      · refine e_iconst (v := 1) (pc' := 60) k144_59 rfl rfl ?_
        refine e_goto (pc' := 64) k144_60 (by decide) ?_
        refine e_istore_n (pc' := 65) k144_64 rfl rfl ?_
        refine e_aload_n (pc' := 66) k144_65 rfl rfl ?_
        refine e_iload_n (pc' := 67) k144_66 rfl rfl ?_
        refine e_vI (j' := 146) (as := [.int v2]) (rest := []) (pc' := 70) k144_67 rfl (show mCk 144 1 189 146 1 = true by decide +kernel) (Or.inr (by decide +kernel)) rfl (Nat.le_of_ble_eq_true rfl) (show 2 ≤ mL 146 by decide +kernel) (fun q13 => ?_)
        refine e_ifeq (t := 87) (pc' := 73) k144_70 rfl (by decide) (fun _ => ?_) (fun _ => ?_)
        · refine e_iload_n (pc' := 88) k144_87 rfl rfl ?_
          refine e_ifeq (t := 95) (pc' := 91) k144_88 rfl (by decide) (fun _ => ?_) (fun _ => ?_)
          · refine e_iconst (v := 0) (pc' := 96) k144_95 rfl rfl ?_
            refine e_istore_n (pc' := 97) k144_96 rfl rfl ?_
            refine e_iinc (c := 1) (pc' := 100) k144_97 rfl rfl rfl rfl ?_
            refine e_goto (pc' := 33) k144_100 (by decide) ?_
            rfl
          · refine e_iconst (v := 1) (pc' := 92) k144_91 rfl rfl ?_
            refine e_goto (pc' := 96) k144_92 (by decide) ?_
            refine e_istore_n (pc' := 97) k144_96 rfl rfl ?_
            refine e_iinc (c := 1) (pc' := 100) k144_97 rfl rfl rfl rfl ?_
            refine e_goto (pc' := 33) k144_100 (by decide) ?_
            rfl
        · refine e_aload_n (pc' := 74) k144_73 rfl rfl ?_
          refine e_iload_n (pc' := 75) k144_74 rfl rfl ?_
          refine e_aload_n (pc' := 76) k144_75 rfl rfl ?_
          refine e_getR (pc' := 79) k144_76 rfl (ci := 8) (k := 7) (by decide +kernel) (by decide +kernel) (fun x14 => ?_)
          refine e_iload_n (pc' := 80) k144_79 rfl rfl ?_
          refine e_iald (pc' := 81) k144_80 rfl (lw := false) rfl (fun x15 => ?_)
          refine e_vI (j' := 145) (as := [.int v2, .int x15]) (rest := []) (pc' := 84) k144_81 rfl (show mCk 144 1 186 145 2 = true by decide +kernel) (Or.inr (by decide +kernel)) rfl (Nat.le_of_ble_eq_true rfl) (show 3 ≤ mL 145 by decide +kernel) (fun q16 => ?_)
          refine e_ifne (t := 91) (pc' := 87) k144_84 rfl (by decide) (fun _ => ?_) (fun _ => ?_)
          · refine e_iconst (v := 1) (pc' := 92) k144_91 rfl rfl ?_
            refine e_goto (pc' := 96) k144_92 (by decide) ?_
            refine e_istore_n (pc' := 97) k144_96 rfl rfl ?_
            refine e_iinc (c := 1) (pc' := 100) k144_97 rfl rfl rfl rfl ?_
            refine e_goto (pc' := 33) k144_100 (by decide) ?_
            rfl
          · refine e_iload_n (pc' := 88) k144_87 rfl rfl ?_
            refine e_ifeq (t := 95) (pc' := 91) k144_88 rfl (by decide) (fun _ => ?_) (fun _ => ?_)
            · refine e_iconst (v := 0) (pc' := 96) k144_95 rfl rfl ?_
              refine e_istore_n (pc' := 97) k144_96 rfl rfl ?_
              refine e_iinc (c := 1) (pc' := 100) k144_97 rfl rfl rfl rfl ?_
              refine e_goto (pc' := 33) k144_100 (by decide) ?_
              rfl
            · refine e_iconst (v := 1) (pc' := 92) k144_91 rfl rfl ?_
              refine e_goto (pc' := 96) k144_92 (by decide) ?_
              refine e_istore_n (pc' := 97) k144_96 rfl rfl ?_
              refine e_iinc (c := 1) (pc' := 100) k144_97 rfl rfl rfl rfl ?_
              refine e_goto (pc' := 33) k144_100 (by decide) ?_
              rfl
theorem q144_110_eq (v0 : Nat) (v1 : Int32) (v2 : Int32) (v3 : Int32) (h : mHeap) : q144_110 v0 v1 v2 v3 h = (gI h v0 8 5).bind fun x1 => if x1 ≤ (v3 : Int32) then (some (some (.int v2), h)) else ((gR h v0 8 20).bind fun x2 => (cAldI false h x2 v3).bind fun x3 => if ¬ (x3 : Int32) = v3 then (q144_110 v0 v1 (v2 + 0) (v3 + 1) h) else (q144_110 v0 v1 (v2 + 1) (v3 + 1) h)) := by
  unfold q144_110
  refine e_iload_n (pc' := 111) k144_110 rfl rfl ?_
  refine e_aload_n (pc' := 112) k144_111 rfl rfl ?_
  refine e_getI (pc' := 115) k144_112 rfl (ci := 8) (k := 5) (by decide +kernel) (by decide +kernel) (fun x1 => ?_)
  refine e_icmpge (t := 142) (pc' := 118) k144_115 rfl (by decide) (fun _ => ?_) (fun _ => ?_)
  · refine e_iload_n (pc' := 143) k144_142 rfl rfl ?_
    exact e_iret k144_143 (by decide +kernel)
  · refine e_iload_n (pc' := 119) k144_118 rfl rfl ?_
    refine e_aload_n (pc' := 120) k144_119 rfl rfl ?_
    refine e_getR (pc' := 123) k144_120 rfl (ci := 8) (k := 20) (by decide +kernel) (by decide +kernel) (fun x2 => ?_)
    refine e_iload_n (pc' := 124) k144_123 rfl rfl ?_
    refine e_iald (pc' := 125) k144_124 rfl (lw := false) rfl (fun x3 => ?_)
    refine e_iload_n (pc' := 126) k144_125 rfl rfl ?_
    refine e_icmpne (t := 133) (pc' := 129) k144_126 rfl (by decide) (fun _ => ?_) (fun _ => ?_)
    · refine e_iconst (v := 0) (pc' := 134) k144_133 rfl rfl ?_
      refine e_iadd (pc' := 135) k144_134 rfl ?_
      refine e_istore_n (pc' := 136) k144_135 rfl rfl ?_
      refine e_iinc (c := 1) (pc' := 139) k144_136 rfl rfl rfl rfl ?_
      refine e_goto (pc' := 110) k144_139 (by decide) ?_
      rfl
    · refine e_iconst (v := 1) (pc' := 130) k144_129 rfl rfl ?_
      refine e_goto (pc' := 134) k144_130 (by decide) ?_
      refine e_iadd (pc' := 135) k144_134 rfl ?_
      refine e_istore_n (pc' := 136) k144_135 rfl rfl ?_
      refine e_iinc (c := 1) (pc' := 139) k144_136 rfl rfl rfl rfl ?_
      refine e_goto (pc' := 110) k144_139 (by decide) ?_
      rfl
/-- SquareGroundsModel.setCylinders()I -/
theorem F144_eq (v0 : Nat) (h : mHeap) : F 144 [.ref v0] h = q144_2 v0 0 h := by
  show D 144 0 (mEnt 144 [.ref v0]) [] h 0 0 = _
  rw [show mEnt 144 [.ref v0] = [some (.ref v0), none, none, none] from rfl]
  refine e_iconst (v := 0) (pc' := 1) k144_0 rfl rfl ?_
  refine e_istore_n (pc' := 2) k144_1 rfl rfl ?_
  rfl
theorem k145_0 : decode (mB 145) 0 = .ok (.aload_n 0, 1) := by decide +kernel
theorem k145_1 : decode (mB 145) 1 = .ok (.getfield 61, 3) := by decide +kernel
theorem k145_4 : decode (mB 145) 4 = .ok (.iload_n 1, 1) := by decide +kernel
theorem k145_5 : decode (mB 145) 5 = .ok (.iaload, 1) := by decide +kernel
theorem k145_6 : decode (mB 145) 6 = .ok (.aload_n 0, 1) := by decide +kernel
theorem k145_7 : decode (mB 145) 7 = .ok (.getfield 61, 3) := by decide +kernel
theorem k145_10 : decode (mB 145) 10 = .ok (.iload_n 2, 1) := by decide +kernel
theorem k145_11 : decode (mB 145) 11 = .ok (.iaload, 1) := by decide +kernel
theorem k145_12 : decode (mB 145) 12 = .ok (.if_icmp .ge 12, 3) := by decide +kernel
theorem k145_15 : decode (mB 145) 15 = .ok (.aload_n 0, 1) := by decide +kernel
theorem k145_16 : decode (mB 145) 16 = .ok (.getfield 61, 3) := by decide +kernel
theorem k145_19 : decode (mB 145) 19 = .ok (.iload_n 1, 1) := by decide +kernel
theorem k145_20 : decode (mB 145) 20 = .ok (.iaload, 1) := by decide +kernel
theorem k145_21 : decode (mB 145) 21 = .ok (.goto 9, 3) := by decide +kernel
theorem k145_24 : decode (mB 145) 24 = .ok (.aload_n 0, 1) := by decide +kernel
theorem k145_25 : decode (mB 145) 25 = .ok (.getfield 61, 3) := by decide +kernel
theorem k145_28 : decode (mB 145) 28 = .ok (.iload_n 2, 1) := by decide +kernel
theorem k145_29 : decode (mB 145) 29 = .ok (.iaload, 1) := by decide +kernel
theorem k145_30 : decode (mB 145) 30 = .ok (.istore_n 3, 1) := by decide +kernel
theorem k145_31 : decode (mB 145) 31 = .ok (.aload_n 0, 1) := by decide +kernel
theorem k145_32 : decode (mB 145) 32 = .ok (.getfield 61, 3) := by decide +kernel
theorem k145_35 : decode (mB 145) 35 = .ok (.iload_n 1, 1) := by decide +kernel
theorem k145_36 : decode (mB 145) 36 = .ok (.iaload, 1) := by decide +kernel
theorem k145_37 : decode (mB 145) 37 = .ok (.aload_n 0, 1) := by decide +kernel
theorem k145_38 : decode (mB 145) 38 = .ok (.getfield 61, 3) := by decide +kernel
theorem k145_41 : decode (mB 145) 41 = .ok (.iload_n 2, 1) := by decide +kernel
theorem k145_42 : decode (mB 145) 42 = .ok (.iaload, 1) := by decide +kernel
theorem k145_43 : decode (mB 145) 43 = .ok (.if_icmp .eq 7, 3) := by decide +kernel
theorem k145_46 : decode (mB 145) 46 = .ok (.iconst 1, 1) := by decide +kernel
theorem k145_47 : decode (mB 145) 47 = .ok (.goto 4, 3) := by decide +kernel
theorem k145_50 : decode (mB 145) 50 = .ok (.iconst 0, 1) := by decide +kernel
theorem k145_51 : decode (mB 145) 51 = .ok (.istore 4, 2) := by decide +kernel
theorem k145_53 : decode (mB 145) 53 = .ok (.aload_n 0, 1) := by decide +kernel
theorem k145_54 : decode (mB 145) 54 = .ok (.getfield 61, 3) := by decide +kernel
theorem k145_57 : decode (mB 145) 57 = .ok (.iload_n 1, 1) := by decide +kernel
theorem k145_58 : decode (mB 145) 58 = .ok (.iload_n 3, 1) := by decide +kernel
theorem k145_59 : decode (mB 145) 59 = .ok (.iastore, 1) := by decide +kernel
theorem k145_60 : decode (mB 145) 60 = .ok (.aload_n 0, 1) := by decide +kernel
theorem k145_61 : decode (mB 145) 61 = .ok (.getfield 61, 3) := by decide +kernel
theorem k145_64 : decode (mB 145) 64 = .ok (.iload_n 2, 1) := by decide +kernel
theorem k145_65 : decode (mB 145) 65 = .ok (.iload_n 3, 1) := by decide +kernel
theorem k145_66 : decode (mB 145) 66 = .ok (.iastore, 1) := by decide +kernel
theorem k145_67 : decode (mB 145) 67 = .ok (.iload 4, 2) := by decide +kernel
theorem k145_69 : decode (mB 145) 69 = .ok (.ireturn, 1) := by decide +kernel
/-- SquareGroundsModel.joins(II)Z -/
theorem F145_eq (v0 : Nat) (v1 : Int32) (v2 : Int32) (h : mHeap) : F 145 [.ref v0, .int v1, .int v2] h = (gR h v0 8 20).bind fun x1 => (cAldI false h x1 v1).bind fun x2 => (gR h v0 8 20).bind fun x3 => (cAldI false h x3 v2).bind fun x4 => if x4 ≤ (x2 : Int32) then ((gR h v0 8 20).bind fun x5 => (cAldI false h x5 v2).bind fun x6 => (gR h v0 8 20).bind fun x7 => (cAldI false h x7 v1).bind fun x8 => (gR h v0 8 20).bind fun x9 => (cAldI false h x9 v2).bind fun x10 => if (x8 : Int32) = x10 then ((gR h v0 8 20).bind fun x11 => (cAstI h x11 v1 x6).bind fun h12 => (gR h12 v0 8 20).bind fun x13 => (cAstI h12 x13 v2 x6).bind fun h14 => if narrow .boolean (.int 0) = .int 0 then some (some (.int 0), h14) else none) else ((gR h v0 8 20).bind fun x15 => (cAstI h x15 v1 x6).bind fun h16 => (gR h16 v0 8 20).bind fun x17 => (cAstI h16 x17 v2 x6).bind fun h18 => if narrow .boolean (.int 1) = .int 1 then some (some (.int 1), h18) else none)) else ((gR h v0 8 20).bind fun x19 => (cAldI false h x19 v1).bind fun x20 => (gR h v0 8 20).bind fun x21 => (cAldI false h x21 v1).bind fun x22 => (gR h v0 8 20).bind fun x23 => (cAldI false h x23 v2).bind fun x24 => if (x22 : Int32) = x24 then ((gR h v0 8 20).bind fun x25 => (cAstI h x25 v1 x20).bind fun h26 => (gR h26 v0 8 20).bind fun x27 => (cAstI h26 x27 v2 x20).bind fun h28 => if narrow .boolean (.int 0) = .int 0 then some (some (.int 0), h28) else none) else ((gR h v0 8 20).bind fun x29 => (cAstI h x29 v1 x20).bind fun h30 => (gR h30 v0 8 20).bind fun x31 => (cAstI h30 x31 v2 x20).bind fun h32 => if narrow .boolean (.int 1) = .int 1 then some (some (.int 1), h32) else none)) := by
  show D 145 0 (mEnt 145 [.ref v0, .int v1, .int v2]) [] h 0 0 = _
  rw [show mEnt 145 [.ref v0, .int v1, .int v2] = [some (.ref v0), some (.int v1), some (.int v2), none, none] from rfl]
  refine e_aload_n (pc' := 1) k145_0 rfl rfl ?_
  refine e_getR (pc' := 4) k145_1 rfl (ci := 8) (k := 20) (by decide +kernel) (by decide +kernel) (fun x1 => ?_)
  refine e_iload_n (pc' := 5) k145_4 rfl rfl ?_
  refine e_iald (pc' := 6) k145_5 rfl (lw := false) rfl (fun x2 => ?_)
  refine e_aload_n (pc' := 7) k145_6 rfl rfl ?_
  refine e_getR (pc' := 10) k145_7 rfl (ci := 8) (k := 20) (by decide +kernel) (by decide +kernel) (fun x3 => ?_)
  refine e_iload_n (pc' := 11) k145_10 rfl rfl ?_
  refine e_iald (pc' := 12) k145_11 rfl (lw := false) rfl (fun x4 => ?_)
  refine e_icmpge (t := 24) (pc' := 15) k145_12 rfl (by decide) (fun _ => ?_) (fun _ => ?_)
  · refine e_aload_n (pc' := 25) k145_24 rfl rfl ?_
    refine e_getR (pc' := 28) k145_25 rfl (ci := 8) (k := 20) (by decide +kernel) (by decide +kernel) (fun x5 => ?_)
    refine e_iload_n (pc' := 29) k145_28 rfl rfl ?_
    refine e_iald (pc' := 30) k145_29 rfl (lw := false) rfl (fun x6 => ?_)
    refine e_istore_n (pc' := 31) k145_30 rfl rfl ?_
    refine e_aload_n (pc' := 32) k145_31 rfl rfl ?_
    refine e_getR (pc' := 35) k145_32 rfl (ci := 8) (k := 20) (by decide +kernel) (by decide +kernel) (fun x7 => ?_)
    refine e_iload_n (pc' := 36) k145_35 rfl rfl ?_
    refine e_iald (pc' := 37) k145_36 rfl (lw := false) rfl (fun x8 => ?_)
    refine e_aload_n (pc' := 38) k145_37 rfl rfl ?_
    refine e_getR (pc' := 41) k145_38 rfl (ci := 8) (k := 20) (by decide +kernel) (by decide +kernel) (fun x9 => ?_)
    refine e_iload_n (pc' := 42) k145_41 rfl rfl ?_
    refine e_iald (pc' := 43) k145_42 rfl (lw := false) rfl (fun x10 => ?_)
    refine e_icmpeq (t := 50) (pc' := 46) k145_43 rfl (by decide) (fun _ => ?_) (fun _ => ?_)
    · refine e_iconst (v := 0) (pc' := 51) k145_50 rfl rfl ?_
      refine e_istore (pc' := 53) k145_51 rfl rfl ?_
      refine e_aload_n (pc' := 54) k145_53 rfl rfl ?_
      refine e_getR (pc' := 57) k145_54 rfl (ci := 8) (k := 20) (by decide +kernel) (by decide +kernel) (fun x11 => ?_)
      refine e_iload_n (pc' := 58) k145_57 rfl rfl ?_
      refine e_iload_n (pc' := 59) k145_58 rfl rfl ?_
      refine e_iast (pc' := 60) k145_59 rfl (fun h12 => ?_)
      refine e_aload_n (pc' := 61) k145_60 rfl rfl ?_
      refine e_getR (pc' := 64) k145_61 rfl (ci := 8) (k := 20) (by decide +kernel) (by decide +kernel) (fun x13 => ?_)
      refine e_iload_n (pc' := 65) k145_64 rfl rfl ?_
      refine e_iload_n (pc' := 66) k145_65 rfl rfl ?_
      refine e_iast (pc' := 67) k145_66 rfl (fun h14 => ?_)
      refine e_iload (pc' := 69) k145_67 rfl rfl ?_
      exact e_zret k145_69 (by decide +kernel)
    · refine e_iconst (v := 1) (pc' := 47) k145_46 rfl rfl ?_
      refine e_goto (pc' := 51) k145_47 (by decide) ?_
      refine e_istore (pc' := 53) k145_51 rfl rfl ?_
      refine e_aload_n (pc' := 54) k145_53 rfl rfl ?_
      refine e_getR (pc' := 57) k145_54 rfl (ci := 8) (k := 20) (by decide +kernel) (by decide +kernel) (fun x15 => ?_)
      refine e_iload_n (pc' := 58) k145_57 rfl rfl ?_
      refine e_iload_n (pc' := 59) k145_58 rfl rfl ?_
      refine e_iast (pc' := 60) k145_59 rfl (fun h16 => ?_)
      refine e_aload_n (pc' := 61) k145_60 rfl rfl ?_
      refine e_getR (pc' := 64) k145_61 rfl (ci := 8) (k := 20) (by decide +kernel) (by decide +kernel) (fun x17 => ?_)
      refine e_iload_n (pc' := 65) k145_64 rfl rfl ?_
      refine e_iload_n (pc' := 66) k145_65 rfl rfl ?_
      refine e_iast (pc' := 67) k145_66 rfl (fun h18 => ?_)
      refine e_iload (pc' := 69) k145_67 rfl rfl ?_
      exact e_zret k145_69 (by decide +kernel)
  · refine e_aload_n (pc' := 16) k145_15 rfl rfl ?_
    refine e_getR (pc' := 19) k145_16 rfl (ci := 8) (k := 20) (by decide +kernel) (by decide +kernel) (fun x19 => ?_)
    refine e_iload_n (pc' := 20) k145_19 rfl rfl ?_
    refine e_iald (pc' := 21) k145_20 rfl (lw := false) rfl (fun x20 => ?_)
    refine e_goto (pc' := 30) k145_21 (by decide) ?_
    refine e_istore_n (pc' := 31) k145_30 rfl rfl ?_
    refine e_aload_n (pc' := 32) k145_31 rfl rfl ?_
    refine e_getR (pc' := 35) k145_32 rfl (ci := 8) (k := 20) (by decide +kernel) (by decide +kernel) (fun x21 => ?_)
    refine e_iload_n (pc' := 36) k145_35 rfl rfl ?_
    refine e_iald (pc' := 37) k145_36 rfl (lw := false) rfl (fun x22 => ?_)
    refine e_aload_n (pc' := 38) k145_37 rfl rfl ?_
    refine e_getR (pc' := 41) k145_38 rfl (ci := 8) (k := 20) (by decide +kernel) (by decide +kernel) (fun x23 => ?_)
    refine e_iload_n (pc' := 42) k145_41 rfl rfl ?_
    refine e_iald (pc' := 43) k145_42 rfl (lw := false) rfl (fun x24 => ?_)
    refine e_icmpeq (t := 50) (pc' := 46) k145_43 rfl (by decide) (fun _ => ?_) (fun _ => ?_)
    · refine e_iconst (v := 0) (pc' := 51) k145_50 rfl rfl ?_
      refine e_istore (pc' := 53) k145_51 rfl rfl ?_
      refine e_aload_n (pc' := 54) k145_53 rfl rfl ?_
      refine e_getR (pc' := 57) k145_54 rfl (ci := 8) (k := 20) (by decide +kernel) (by decide +kernel) (fun x25 => ?_)
      refine e_iload_n (pc' := 58) k145_57 rfl rfl ?_
      refine e_iload_n (pc' := 59) k145_58 rfl rfl ?_
      refine e_iast (pc' := 60) k145_59 rfl (fun h26 => ?_)
      refine e_aload_n (pc' := 61) k145_60 rfl rfl ?_
      refine e_getR (pc' := 64) k145_61 rfl (ci := 8) (k := 20) (by decide +kernel) (by decide +kernel) (fun x27 => ?_)
      refine e_iload_n (pc' := 65) k145_64 rfl rfl ?_
      refine e_iload_n (pc' := 66) k145_65 rfl rfl ?_
      refine e_iast (pc' := 67) k145_66 rfl (fun h28 => ?_)
      refine e_iload (pc' := 69) k145_67 rfl rfl ?_
      exact e_zret k145_69 (by decide +kernel)
    · refine e_iconst (v := 1) (pc' := 47) k145_46 rfl rfl ?_
      refine e_goto (pc' := 51) k145_47 (by decide) ?_
      refine e_istore (pc' := 53) k145_51 rfl rfl ?_
      refine e_aload_n (pc' := 54) k145_53 rfl rfl ?_
      refine e_getR (pc' := 57) k145_54 rfl (ci := 8) (k := 20) (by decide +kernel) (by decide +kernel) (fun x29 => ?_)
      refine e_iload_n (pc' := 58) k145_57 rfl rfl ?_
      refine e_iload_n (pc' := 59) k145_58 rfl rfl ?_
      refine e_iast (pc' := 60) k145_59 rfl (fun h30 => ?_)
      refine e_aload_n (pc' := 61) k145_60 rfl rfl ?_
      refine e_getR (pc' := 64) k145_61 rfl (ci := 8) (k := 20) (by decide +kernel) (by decide +kernel) (fun x31 => ?_)
      refine e_iload_n (pc' := 65) k145_64 rfl rfl ?_
      refine e_iload_n (pc' := 66) k145_65 rfl rfl ?_
      refine e_iast (pc' := 67) k145_66 rfl (fun h32 => ?_)
      refine e_iload (pc' := 69) k145_67 rfl rfl ?_
      exact e_zret k145_69 (by decide +kernel)
theorem k146_0 : decode (mB 146) 0 = .ok (.aload_n 0, 1) := by decide +kernel
theorem k146_1 : decode (mB 146) 1 = .ok (.iload_n 1, 1) := by decide +kernel
theorem k146_2 : decode (mB 146) 2 = .ok (.invokevirtual 137, 3) := by decide +kernel
theorem k146_5 : decode (mB 146) 5 = .ok (.ifCond .ne 7, 3) := by decide +kernel
theorem k146_8 : decode (mB 146) 8 = .ok (.iconst 1, 1) := by decide +kernel
theorem k146_9 : decode (mB 146) 9 = .ok (.goto 4, 3) := by decide +kernel
theorem k146_12 : decode (mB 146) 12 = .ok (.iconst 0, 1) := by decide +kernel
theorem k146_13 : decode (mB 146) 13 = .ok (.istore_n 2, 1) := by decide +kernel
theorem k146_14 : decode (mB 146) 14 = .ok (.aload_n 0, 1) := by decide +kernel
theorem k146_15 : decode (mB 146) 15 = .ok (.getfield 22, 3) := by decide +kernel
theorem k146_18 : decode (mB 146) 18 = .ok (.iload_n 1, 1) := by decide +kernel
theorem k146_19 : decode (mB 146) 19 = .ok (.iaload, 1) := by decide +kernel
theorem k146_20 : decode (mB 146) 20 = .ok (.istore_n 3, 1) := by decide +kernel
theorem k146_21 : decode (mB 146) 21 = .ok (.iload_n 3, 1) := by decide +kernel
theorem k146_22 : decode (mB 146) 22 = .ok (.iload_n 1, 1) := by decide +kernel
theorem k146_23 : decode (mB 146) 23 = .ok (.if_icmp .eq 31, 3) := by decide +kernel
theorem k146_26 : decode (mB 146) 26 = .ok (.iload_n 2, 1) := by decide +kernel
theorem k146_27 : decode (mB 146) 27 = .ok (.ifCond .eq 15, 3) := by decide +kernel
theorem k146_30 : decode (mB 146) 30 = .ok (.aload_n 0, 1) := by decide +kernel
theorem k146_31 : decode (mB 146) 31 = .ok (.iload_n 3, 1) := by decide +kernel
theorem k146_32 : decode (mB 146) 32 = .ok (.invokevirtual 137, 3) := by decide +kernel
theorem k146_35 : decode (mB 146) 35 = .ok (.ifCond .ne 7, 3) := by decide +kernel
theorem k146_38 : decode (mB 146) 38 = .ok (.iconst 1, 1) := by decide +kernel
theorem k146_39 : decode (mB 146) 39 = .ok (.goto 4, 3) := by decide +kernel
theorem k146_42 : decode (mB 146) 42 = .ok (.iconst 0, 1) := by decide +kernel
theorem k146_43 : decode (mB 146) 43 = .ok (.istore_n 2, 1) := by decide +kernel
theorem k146_44 : decode (mB 146) 44 = .ok (.aload_n 0, 1) := by decide +kernel
theorem k146_45 : decode (mB 146) 45 = .ok (.getfield 22, 3) := by decide +kernel
theorem k146_48 : decode (mB 146) 48 = .ok (.iload_n 3, 1) := by decide +kernel
theorem k146_49 : decode (mB 146) 49 = .ok (.iaload, 1) := by decide +kernel
theorem k146_50 : decode (mB 146) 50 = .ok (.istore_n 3, 1) := by decide +kernel
theorem k146_51 : decode (mB 146) 51 = .ok (.goto (-30), 3) := by decide +kernel
theorem k146_54 : decode (mB 146) 54 = .ok (.iload_n 2, 1) := by decide +kernel
theorem k146_55 : decode (mB 146) 55 = .ok (.ireturn, 1) := by decide +kernel
/-- SquareGroundsModel.isSmooth, loop at 21 -/
noncomputable def q146_21 (v0 : Nat) (v1 : Int32) (v2 : Int32) (v3 : Int32) (h : mHeap) : mR' := E 146 21 [some (.ref v0), some (.int v1), some (.int v2), some (.int v3)] [] h
theorem q146_21_eq (v0 : Nat) (v1 : Int32) (v2 : Int32) (v3 : Int32) (h : mHeap) : q146_21 v0 v1 v2 v3 h = if (v3 : Int32) = v1 then (if narrow .boolean (.int v2) = .int v2 then some (some (.int v2), h) else none) else (if (v2 : Int32) = 0 then ((gR h v0 8 6).bind fun x1 => (cAldI false h x1 v3).bind fun x2 => q146_21 v0 v1 0 x2 h) else ((vI 119 v0 [.int v3] h).bind fun q3 => if ¬ (q3.1 : Int32) = 0 then ((gR q3.2 v0 8 6).bind fun x4 => (cAldI false q3.2 x4 v3).bind fun x5 => q146_21 v0 v1 0 x5 q3.2) else ((gR q3.2 v0 8 6).bind fun x6 => (cAldI false q3.2 x6 v3).bind fun x7 => q146_21 v0 v1 1 x7 q3.2))) := by
  unfold q146_21
  refine e_iload_n (pc' := 22) k146_21 rfl rfl ?_
  refine e_iload_n (pc' := 23) k146_22 rfl rfl ?_
  refine e_icmpeq (t := 54) (pc' := 26) k146_23 rfl (by decide) (fun _ => ?_) (fun _ => ?_)
  · refine e_iload_n (pc' := 55) k146_54 rfl rfl ?_
    exact e_zret k146_55 (by decide +kernel)
  · refine e_iload_n (pc' := 27) k146_26 rfl rfl ?_
    refine e_ifeq (t := 42) (pc' := 30) k146_27 rfl (by decide) (fun _ => ?_) (fun _ => ?_)
    · refine e_iconst (v := 0) (pc' := 43) k146_42 rfl rfl ?_
      refine e_istore_n (pc' := 44) k146_43 rfl rfl ?_
      refine e_aload_n (pc' := 45) k146_44 rfl rfl ?_
      refine e_getR (pc' := 48) k146_45 rfl (ci := 8) (k := 6) (by decide +kernel) (by decide +kernel) (fun x1 => ?_)
      refine e_iload_n (pc' := 49) k146_48 rfl rfl ?_
      refine e_iald (pc' := 50) k146_49 rfl (lw := false) rfl (fun x2 => ?_)
      refine e_istore_n (pc' := 51) k146_50 rfl rfl ?_
      refine e_goto (pc' := 21) k146_51 (by decide) ?_
      rfl
    · refine e_aload_n (pc' := 31) k146_30 rfl rfl ?_
      refine e_iload_n (pc' := 32) k146_31 rfl rfl ?_
      refine e_vI (j' := 119) (as := [.int v3]) (rest := []) (pc' := 35) k146_32 rfl (show mCk 146 1 137 119 1 = true by decide +kernel) (Or.inl (by decide +kernel)) rfl (Nat.le_of_ble_eq_true rfl) (show 2 ≤ mL 119 by decide +kernel) (fun q3 => ?_)
      refine e_ifne (t := 42) (pc' := 38) k146_35 rfl (by decide) (fun _ => ?_) (fun _ => ?_)
      · refine e_iconst (v := 0) (pc' := 43) k146_42 rfl rfl ?_
        refine e_istore_n (pc' := 44) k146_43 rfl rfl ?_
        refine e_aload_n (pc' := 45) k146_44 rfl rfl ?_
        refine e_getR (pc' := 48) k146_45 rfl (ci := 8) (k := 6) (by decide +kernel) (by decide +kernel) (fun x4 => ?_)
        refine e_iload_n (pc' := 49) k146_48 rfl rfl ?_
        refine e_iald (pc' := 50) k146_49 rfl (lw := false) rfl (fun x5 => ?_)
        refine e_istore_n (pc' := 51) k146_50 rfl rfl ?_
        refine e_goto (pc' := 21) k146_51 (by decide) ?_
        rfl
      · refine e_iconst (v := 1) (pc' := 39) k146_38 rfl rfl ?_
        refine e_goto (pc' := 43) k146_39 (by decide) ?_
        refine e_istore_n (pc' := 44) k146_43 rfl rfl ?_
        refine e_aload_n (pc' := 45) k146_44 rfl rfl ?_
        refine e_getR (pc' := 48) k146_45 rfl (ci := 8) (k := 6) (by decide +kernel) (by decide +kernel) (fun x6 => ?_)
        refine e_iload_n (pc' := 49) k146_48 rfl rfl ?_
        refine e_iald (pc' := 50) k146_49 rfl (lw := false) rfl (fun x7 => ?_)
        refine e_istore_n (pc' := 51) k146_50 rfl rfl ?_
        refine e_goto (pc' := 21) k146_51 (by decide) ?_
        rfl
/-- SquareGroundsModel.isSmooth(I)Z -/
theorem F146_eq (v0 : Nat) (v1 : Int32) (h : mHeap) : F 146 [.ref v0, .int v1] h = (vI 119 v0 [.int v1] h).bind fun q1 => if ¬ (q1.1 : Int32) = 0 then ((gR q1.2 v0 8 6).bind fun x2 => (cAldI false q1.2 x2 v1).bind fun x3 => q146_21 v0 v1 0 x3 q1.2) else ((gR q1.2 v0 8 6).bind fun x4 => (cAldI false q1.2 x4 v1).bind fun x5 => q146_21 v0 v1 1 x5 q1.2) := by
  show D 146 0 (mEnt 146 [.ref v0, .int v1]) [] h 0 0 = _
  rw [show mEnt 146 [.ref v0, .int v1] = [some (.ref v0), some (.int v1), none, none] from rfl]
  refine e_aload_n (pc' := 1) k146_0 rfl rfl ?_
  refine e_iload_n (pc' := 2) k146_1 rfl rfl ?_
  refine e_vI (j' := 119) (as := [.int v1]) (rest := []) (pc' := 5) k146_2 rfl (show mCk 146 1 137 119 1 = true by decide +kernel) (Or.inl (by decide +kernel)) rfl (Nat.le_of_ble_eq_true rfl) (show 2 ≤ mL 119 by decide +kernel) (fun q1 => ?_)
  refine e_ifne (t := 12) (pc' := 8) k146_5 rfl (by decide) (fun _ => ?_) (fun _ => ?_)
  · refine e_iconst (v := 0) (pc' := 13) k146_12 rfl rfl ?_
    refine e_istore_n (pc' := 14) k146_13 rfl rfl ?_
    refine e_aload_n (pc' := 15) k146_14 rfl rfl ?_
    refine e_getR (pc' := 18) k146_15 rfl (ci := 8) (k := 6) (by decide +kernel) (by decide +kernel) (fun x2 => ?_)
    refine e_iload_n (pc' := 19) k146_18 rfl rfl ?_
    refine e_iald (pc' := 20) k146_19 rfl (lw := false) rfl (fun x3 => ?_)
    refine e_istore_n (pc' := 21) k146_20 rfl rfl ?_
    rfl
  · refine e_iconst (v := 1) (pc' := 9) k146_8 rfl rfl ?_
    refine e_goto (pc' := 13) k146_9 (by decide) ?_
    refine e_istore_n (pc' := 14) k146_13 rfl rfl ?_
    refine e_aload_n (pc' := 15) k146_14 rfl rfl ?_
    refine e_getR (pc' := 18) k146_15 rfl (ci := 8) (k := 6) (by decide +kernel) (by decide +kernel) (fun x4 => ?_)
    refine e_iload_n (pc' := 19) k146_18 rfl rfl ?_
    refine e_iald (pc' := 20) k146_19 rfl (lw := false) rfl (fun x5 => ?_)
    refine e_istore_n (pc' := 21) k146_20 rfl rfl ?_
    rfl
theorem k147_0 : decode (mB 147) 0 = .ok (.iconst 0, 1) := by decide +kernel
theorem k147_1 : decode (mB 147) 1 = .ok (.istore_n 2, 1) := by decide +kernel
theorem k147_2 : decode (mB 147) 2 = .ok (.iconst 0, 1) := by decide +kernel
theorem k147_3 : decode (mB 147) 3 = .ok (.istore_n 3, 1) := by decide +kernel
theorem k147_4 : decode (mB 147) 4 = .ok (.iload_n 3, 1) := by decide +kernel
theorem k147_5 : decode (mB 147) 5 = .ok (.aload_n 0, 1) := by decide +kernel
theorem k147_6 : decode (mB 147) 6 = .ok (.getfield 105, 3) := by decide +kernel
theorem k147_9 : decode (mB 147) 9 = .ok (.if_icmp .ge 27, 3) := by decide +kernel
theorem k147_12 : decode (mB 147) 12 = .ok (.iload_n 2, 1) := by decide +kernel
theorem k147_13 : decode (mB 147) 13 = .ok (.aload_n 0, 1) := by decide +kernel
theorem k147_14 : decode (mB 147) 14 = .ok (.getfield 61, 3) := by decide +kernel
theorem k147_17 : decode (mB 147) 17 = .ok (.iload_n 3, 1) := by decide +kernel
theorem k147_18 : decode (mB 147) 18 = .ok (.iaload, 1) := by decide +kernel
theorem k147_19 : decode (mB 147) 19 = .ok (.iload_n 1, 1) := by decide +kernel
theorem k147_20 : decode (mB 147) 20 = .ok (.if_icmp .ne 7, 3) := by decide +kernel
theorem k147_23 : decode (mB 147) 23 = .ok (.iconst 1, 1) := by decide +kernel
theorem k147_24 : decode (mB 147) 24 = .ok (.goto 4, 3) := by decide +kernel
theorem k147_27 : decode (mB 147) 27 = .ok (.iconst 0, 1) := by decide +kernel
theorem k147_28 : decode (mB 147) 28 = .ok (.iadd, 1) := by decide +kernel
theorem k147_29 : decode (mB 147) 29 = .ok (.istore_n 2, 1) := by decide +kernel
theorem k147_30 : decode (mB 147) 30 = .ok (.iinc 3 1, 3) := by decide +kernel
theorem k147_33 : decode (mB 147) 33 = .ok (.goto (-29), 3) := by decide +kernel
theorem k147_36 : decode (mB 147) 36 = .ok (.iload_n 2, 1) := by decide +kernel
theorem k147_37 : decode (mB 147) 37 = .ok (.ireturn, 1) := by decide +kernel
/-- SquareGroundsModel.sizeOf, loop at 4 -/
noncomputable def q147_4 (v0 : Nat) (v1 : Int32) (v2 : Int32) (v3 : Int32) (h : mHeap) : mR' := E 147 4 [some (.ref v0), some (.int v1), some (.int v2), some (.int v3)] [] h
theorem q147_4_eq (v0 : Nat) (v1 : Int32) (v2 : Int32) (v3 : Int32) (h : mHeap) : q147_4 v0 v1 v2 v3 h = (gI h v0 8 5).bind fun x1 => if x1 ≤ (v3 : Int32) then (some (some (.int v2), h)) else ((gR h v0 8 20).bind fun x2 => (cAldI false h x2 v3).bind fun x3 => if ¬ (x3 : Int32) = v1 then (q147_4 v0 v1 (v2 + 0) (v3 + 1) h) else (q147_4 v0 v1 (v2 + 1) (v3 + 1) h)) := by
  unfold q147_4
  refine e_iload_n (pc' := 5) k147_4 rfl rfl ?_
  refine e_aload_n (pc' := 6) k147_5 rfl rfl ?_
  refine e_getI (pc' := 9) k147_6 rfl (ci := 8) (k := 5) (by decide +kernel) (by decide +kernel) (fun x1 => ?_)
  refine e_icmpge (t := 36) (pc' := 12) k147_9 rfl (by decide) (fun _ => ?_) (fun _ => ?_)
  · refine e_iload_n (pc' := 37) k147_36 rfl rfl ?_
    exact e_iret k147_37 (by decide +kernel)
  · refine e_iload_n (pc' := 13) k147_12 rfl rfl ?_
    refine e_aload_n (pc' := 14) k147_13 rfl rfl ?_
    refine e_getR (pc' := 17) k147_14 rfl (ci := 8) (k := 20) (by decide +kernel) (by decide +kernel) (fun x2 => ?_)
    refine e_iload_n (pc' := 18) k147_17 rfl rfl ?_
    refine e_iald (pc' := 19) k147_18 rfl (lw := false) rfl (fun x3 => ?_)
    refine e_iload_n (pc' := 20) k147_19 rfl rfl ?_
    refine e_icmpne (t := 27) (pc' := 23) k147_20 rfl (by decide) (fun _ => ?_) (fun _ => ?_)
    · refine e_iconst (v := 0) (pc' := 28) k147_27 rfl rfl ?_
      refine e_iadd (pc' := 29) k147_28 rfl ?_
      refine e_istore_n (pc' := 30) k147_29 rfl rfl ?_
      refine e_iinc (c := 1) (pc' := 33) k147_30 rfl rfl rfl rfl ?_
      refine e_goto (pc' := 4) k147_33 (by decide) ?_
      rfl
    · refine e_iconst (v := 1) (pc' := 24) k147_23 rfl rfl ?_
      refine e_goto (pc' := 28) k147_24 (by decide) ?_
      refine e_iadd (pc' := 29) k147_28 rfl ?_
      refine e_istore_n (pc' := 30) k147_29 rfl rfl ?_
      refine e_iinc (c := 1) (pc' := 33) k147_30 rfl rfl rfl rfl ?_
      refine e_goto (pc' := 4) k147_33 (by decide) ?_
      rfl
/-- SquareGroundsModel.sizeOf(I)I -/
theorem F147_eq (v0 : Nat) (v1 : Int32) (h : mHeap) : F 147 [.ref v0, .int v1] h = q147_4 v0 v1 0 0 h := by
  show D 147 0 (mEnt 147 [.ref v0, .int v1]) [] h 0 0 = _
  rw [show mEnt 147 [.ref v0, .int v1] = [some (.ref v0), some (.int v1), none, none] from rfl]
  refine e_iconst (v := 0) (pc' := 1) k147_0 rfl rfl ?_
  refine e_istore_n (pc' := 2) k147_1 rfl rfl ?_
  refine e_iconst (v := 0) (pc' := 3) k147_2 rfl rfl ?_
  refine e_istore_n (pc' := 4) k147_3 rfl rfl ?_
  rfl
theorem k148_0 : decode (mB 148) 0 = .ok (.iload_n 2, 1) := by decide +kernel
theorem k148_1 : decode (mB 148) 1 = .ok (.iload_n 3, 1) := by decide +kernel
theorem k148_2 : decode (mB 148) 2 = .ok (.invokestatic 179, 3) := by decide +kernel
theorem k148_5 : decode (mB 148) 5 = .ok (.ifCond .ne 5, 3) := by decide +kernel
theorem k148_8 : decode (mB 148) 8 = .ok (.iconst (-1), 1) := by decide +kernel
theorem k148_9 : decode (mB 148) 9 = .ok (.ireturn, 1) := by decide +kernel
theorem k148_10 : decode (mB 148) 10 = .ok (.aload_n 0, 1) := by decide +kernel
theorem k148_11 : decode (mB 148) 11 = .ok (.iload_n 1, 1) := by decide +kernel
theorem k148_12 : decode (mB 148) 12 = .ok (.invokevirtual 128, 3) := by decide +kernel
theorem k148_15 : decode (mB 148) 15 = .ok (.istore 4, 2) := by decide +kernel
theorem k148_17 : decode (mB 148) 17 = .ok (.iload 4, 2) := by decide +kernel
theorem k148_19 : decode (mB 148) 19 = .ok (.ifCond .ge 6, 3) := by decide +kernel
theorem k148_22 : decode (mB 148) 22 = .ok (.iload 4, 2) := by decide +kernel
theorem k148_24 : decode (mB 148) 24 = .ok (.ireturn, 1) := by decide +kernel
theorem k148_25 : decode (mB 148) 25 = .ok (.aload_n 0, 1) := by decide +kernel
theorem k148_26 : decode (mB 148) 26 = .ok (.iload_n 2, 1) := by decide +kernel
theorem k148_27 : decode (mB 148) 27 = .ok (.iload_n 3, 1) := by decide +kernel
theorem k148_28 : decode (mB 148) 28 = .ok (.invokevirtual 182, 3) := by decide +kernel
theorem k148_31 : decode (mB 148) 31 = .ok (.aload_n 0, 1) := by decide +kernel
theorem k148_32 : decode (mB 148) 32 = .ok (.invokevirtual 192, 3) := by decide +kernel
theorem k148_35 : decode (mB 148) 35 = .ok (.ireturn, 1) := by decide +kernel
/-- SquareGroundsModel.cylinders(III)I -/
theorem F148_eq (v0 : Nat) (v1 : Int32) (v2 : Int32) (v3 : Int32) (h : mHeap) : F 148 [.ref v0, .int v1, .int v2, .int v3] h = (sI 141 [.int v2, .int v3] h).bind fun q1 => if ¬ (q1.1 : Int32) = 0 then ((vI 110 v0 [.int v1] q1.2).bind fun q2 => if 0 ≤ (q2.1 : Int32) then ((vV 142 v0 [.int v2, .int v3] q2.2).bind fun h3 => (vI 144 v0 [] h3).bind fun q4 => some (some (.int q4.1), q4.2)) else (some (some (.int q2.1), q2.2))) else (some (some (.int (-1)), q1.2)) := by
  show D 148 0 (mEnt 148 [.ref v0, .int v1, .int v2, .int v3]) [] h 0 0 = _
  rw [show mEnt 148 [.ref v0, .int v1, .int v2, .int v3] = [some (.ref v0), some (.int v1), some (.int v2), some (.int v3), none] from rfl]
  refine e_iload_n (pc' := 1) k148_0 rfl rfl ?_
  refine e_iload_n (pc' := 2) k148_1 rfl rfl ?_
  refine e_sI (j' := 141) (as := [.int v2, .int v3]) (rest := []) (pc' := 5) k148_2 rfl (show mCk 148 0 179 141 2 = true by decide +kernel) (Or.inr (by decide +kernel)) rfl (Nat.le_of_ble_eq_true rfl) (show 2 ≤ mL 141 by decide +kernel) (fun q1 => ?_)
  refine e_ifne (t := 10) (pc' := 8) k148_5 rfl (by decide) (fun _ => ?_) (fun _ => ?_)
  · refine e_aload_n (pc' := 11) k148_10 rfl rfl ?_
    refine e_iload_n (pc' := 12) k148_11 rfl rfl ?_
    refine e_vI (j' := 110) (as := [.int v1]) (rest := []) (pc' := 15) k148_12 rfl (show mCk 148 1 128 110 1 = true by decide +kernel) (Or.inl (by decide +kernel)) rfl (Nat.le_of_ble_eq_true rfl) (show 2 ≤ mL 110 by decide +kernel) (fun q2 => ?_)
    refine e_istore (pc' := 17) k148_15 rfl rfl ?_
    refine e_iload (pc' := 19) k148_17 rfl rfl ?_
    refine e_ifge (t := 25) (pc' := 22) k148_19 rfl (by decide) (fun _ => ?_) (fun _ => ?_)
    · refine e_aload_n (pc' := 26) k148_25 rfl rfl ?_
      refine e_iload_n (pc' := 27) k148_26 rfl rfl ?_
      refine e_iload_n (pc' := 28) k148_27 rfl rfl ?_
      refine e_vV (j' := 142) (as := [.int v2, .int v3]) (rest := []) (pc' := 31) k148_28 rfl (show mCk 148 1 182 142 2 = true by decide +kernel) (by decide +kernel) rfl (Nat.le_of_ble_eq_true rfl) (show 3 ≤ mL 142 by decide +kernel) (fun h3 => ?_)
      refine e_aload_n (pc' := 32) k148_31 rfl rfl ?_
      refine e_vI (j' := 144) (as := []) (rest := []) (pc' := 35) k148_32 rfl (show mCk 148 1 192 144 0 = true by decide +kernel) (Or.inl (by decide +kernel)) rfl (Nat.le_of_ble_eq_true rfl) (show 1 ≤ mL 144 by decide +kernel) (fun q4 => ?_)
      exact e_iret k148_35 (by decide +kernel)
    · refine e_iload (pc' := 24) k148_22 rfl rfl ?_
      exact e_iret k148_24 (by decide +kernel)
  · refine e_iconst (v := -1) (pc' := 9) k148_8 rfl rfl ?_
    exact e_iret k148_9 (by decide +kernel)
theorem k149_0 : decode (mB 149) 0 = .ok (.iload_n 3, 1) := by decide +kernel
theorem k149_1 : decode (mB 149) 1 = .ok (.iconst 0, 1) := by decide +kernel
theorem k149_2 : decode (mB 149) 2 = .ok (.iconst 2, 1) := by decide +kernel
theorem k149_3 : decode (mB 149) 3 = .ok (.invokestatic 90, 3) := by decide +kernel
theorem k149_6 : decode (mB 149) 6 = .ok (.ifCond .ne 5, 3) := by decide +kernel
theorem k149_9 : decode (mB 149) 9 = .ok (.iconst (-1), 1) := by decide +kernel
theorem k149_10 : decode (mB 149) 10 = .ok (.ireturn, 1) := by decide +kernel
theorem k149_11 : decode (mB 149) 11 = .ok (.aload_n 0, 1) := by decide +kernel
theorem k149_12 : decode (mB 149) 12 = .ok (.iload_n 1, 1) := by decide +kernel
theorem k149_13 : decode (mB 149) 13 = .ok (.invokevirtual 128, 3) := by decide +kernel
theorem k149_16 : decode (mB 149) 16 = .ok (.istore 4, 2) := by decide +kernel
theorem k149_18 : decode (mB 149) 18 = .ok (.iload 4, 2) := by decide +kernel
theorem k149_20 : decode (mB 149) 20 = .ok (.ifCond .ge 6, 3) := by decide +kernel
theorem k149_23 : decode (mB 149) 23 = .ok (.iload 4, 2) := by decide +kernel
theorem k149_25 : decode (mB 149) 25 = .ok (.ireturn, 1) := by decide +kernel
theorem k149_26 : decode (mB 149) 26 = .ok (.aload_n 0, 1) := by decide +kernel
theorem k149_27 : decode (mB 149) 27 = .ok (.invokevirtual 192, 3) := by decide +kernel
theorem k149_30 : decode (mB 149) 30 = .ok (.istore 5, 2) := by decide +kernel
theorem k149_32 : decode (mB 149) 32 = .ok (.iconst 0, 1) := by decide +kernel
theorem k149_33 : decode (mB 149) 33 = .ok (.istore 6, 2) := by decide +kernel
theorem k149_35 : decode (mB 149) 35 = .ok (.iconst 0, 1) := by decide +kernel
theorem k149_36 : decode (mB 149) 36 = .ok (.istore 7, 2) := by decide +kernel
theorem k149_38 : decode (mB 149) 38 = .ok (.iload 7, 2) := by decide +kernel
theorem k149_40 : decode (mB 149) 40 = .ok (.aload_n 0, 1) := by decide +kernel
theorem k149_41 : decode (mB 149) 41 = .ok (.getfield 105, 3) := by decide +kernel
theorem k149_44 : decode (mB 149) 44 = .ok (.if_icmp .ge 67, 3) := by decide +kernel
theorem k149_47 : decode (mB 149) 47 = .ok (.aload_n 0, 1) := by decide +kernel
theorem k149_48 : decode (mB 149) 48 = .ok (.getfield 61, 3) := by decide +kernel
theorem k149_51 : decode (mB 149) 51 = .ok (.iload 7, 2) := by decide +kernel
theorem k149_53 : decode (mB 149) 53 = .ok (.iaload, 1) := by decide +kernel
theorem k149_54 : decode (mB 149) 54 = .ok (.iload 7, 2) := by decide +kernel
theorem k149_56 : decode (mB 149) 56 = .ok (.if_icmp .ne 49, 3) := by decide +kernel
theorem k149_59 : decode (mB 149) 59 = .ok (.iload 6, 2) := by decide +kernel
theorem k149_61 : decode (mB 149) 61 = .ok (.iload_n 2, 1) := by decide +kernel
theorem k149_62 : decode (mB 149) 62 = .ok (.if_icmp .ne 40, 3) := by decide +kernel
theorem k149_65 : decode (mB 149) 65 = .ok (.aload_n 0, 1) := by decide +kernel
theorem k149_66 : decode (mB 149) 66 = .ok (.iload 7, 2) := by decide +kernel
theorem k149_68 : decode (mB 149) 68 = .ok (.invokevirtual 159, 3) := by decide +kernel
theorem k149_71 : decode (mB 149) 71 = .ok (.istore 8, 2) := by decide +kernel
theorem k149_73 : decode (mB 149) 73 = .ok (.iload_n 3, 1) := by decide +kernel
theorem k149_74 : decode (mB 149) 74 = .ok (.ifCond .ne 8, 3) := by decide +kernel
theorem k149_77 : decode (mB 149) 77 = .ok (.iload 8, 2) := by decide +kernel
theorem k149_79 : decode (mB 149) 79 = .ok (.goto 22, 3) := by decide +kernel
theorem k149_82 : decode (mB 149) 82 = .ok (.iload_n 3, 1) := by decide +kernel
theorem k149_83 : decode (mB 149) 83 = .ok (.iconst 1, 1) := by decide +kernel
theorem k149_84 : decode (mB 149) 84 = .ok (.if_icmp .ne 15, 3) := by decide +kernel
theorem k149_87 : decode (mB 149) 87 = .ok (.aload_n 0, 1) := by decide +kernel
theorem k149_88 : decode (mB 149) 88 = .ok (.iload 7, 2) := by decide +kernel
theorem k149_90 : decode (mB 149) 90 = .ok (.invokevirtual 195, 3) := by decide +kernel
theorem k149_93 : decode (mB 149) 93 = .ok (.iload 8, 2) := by decide +kernel
theorem k149_95 : decode (mB 149) 95 = .ok (.idiv, 1) := by decide +kernel
theorem k149_96 : decode (mB 149) 96 = .ok (.goto 5, 3) := by decide +kernel
theorem k149_99 : decode (mB 149) 99 = .ok (.iload 7, 2) := by decide +kernel
theorem k149_101 : decode (mB 149) 101 = .ok (.ireturn, 1) := by decide +kernel
theorem k149_102 : decode (mB 149) 102 = .ok (.iinc 6 1, 3) := by decide +kernel
theorem k149_105 : decode (mB 149) 105 = .ok (.iinc 7 1, 3) := by decide +kernel
theorem k149_108 : decode (mB 149) 108 = .ok (.goto (-70), 3) := by decide +kernel
theorem k149_111 : decode (mB 149) 111 = .ok (.bipush (-9), 2) := by decide +kernel
theorem k149_113 : decode (mB 149) 113 = .ok (.ireturn, 1) := by decide +kernel
/-- SquareGroundsModel.cylinder, loop at 38 -/
noncomputable def q149_38 (v0 : Nat) (v1 : Int32) (v2 : Int32) (v3 : Int32) (v4 : Int32) (v5 : Int32) (v6 : Int32) (v7 : Int32) (h : mHeap) : mR' := E 149 38 [some (.ref v0), some (.int v1), some (.int v2), some (.int v3), some (.int v4), some (.int v5), some (.int v6), some (.int v7), none] [] h
theorem q149_38_eq (v0 : Nat) (v1 : Int32) (v2 : Int32) (v3 : Int32) (v4 : Int32) (v5 : Int32) (v6 : Int32) (v7 : Int32) (h : mHeap) : q149_38 v0 v1 v2 v3 v4 v5 v6 v7 h = (gI h v0 8 5).bind fun x1 => if x1 ≤ (v7 : Int32) then (some (some (.int (-9)), h)) else ((gR h v0 8 20).bind fun x2 => (cAldI false h x2 v7).bind fun x3 => if ¬ (x3 : Int32) = v7 then (q149_38 v0 v1 v2 v3 v4 v5 v6 (v7 + 1) h) else (if ¬ (v6 : Int32) = v2 then (q149_38 v0 v1 v2 v3 v4 v5 (v6 + 1) (v7 + 1) h) else ((vI 127 v0 [.int v7] h).bind fun q4 => if ¬ (v3 : Int32) = 0 then (if ¬ (v3 : Int32) = 1 then (some (some (.int v7), q4.2)) else ((vI 147 v0 [.int v7] q4.2).bind fun q5 => if (q4.1 : Int32) = 0 then none else (some (some (.int (q5.1 / q4.1)), q5.2)))) else (some (some (.int q4.1), q4.2))))) := by
  unfold q149_38
  refine e_iload (pc' := 40) k149_38 rfl rfl ?_
  refine e_aload_n (pc' := 41) k149_40 rfl rfl ?_
  refine e_getI (pc' := 44) k149_41 rfl (ci := 8) (k := 5) (by decide +kernel) (by decide +kernel) (fun x1 => ?_)
  refine e_icmpge (t := 111) (pc' := 47) k149_44 rfl (by decide) (fun _ => ?_) (fun _ => ?_)
  · refine e_bipush (v := -9) (pc' := 113) k149_111 rfl rfl ?_
    exact e_iret k149_113 (by decide +kernel)
  · refine e_aload_n (pc' := 48) k149_47 rfl rfl ?_
    refine e_getR (pc' := 51) k149_48 rfl (ci := 8) (k := 20) (by decide +kernel) (by decide +kernel) (fun x2 => ?_)
    refine e_iload (pc' := 53) k149_51 rfl rfl ?_
    refine e_iald (pc' := 54) k149_53 rfl (lw := false) rfl (fun x3 => ?_)
    refine e_iload (pc' := 56) k149_54 rfl rfl ?_
    refine e_icmpne (t := 105) (pc' := 59) k149_56 rfl (by decide) (fun _ => ?_) (fun _ => ?_)
    · refine e_iinc (c := 1) (pc' := 108) k149_105 rfl rfl rfl rfl ?_
      refine e_goto (pc' := 38) k149_108 (by decide) ?_
      rfl
    · refine e_iload (pc' := 61) k149_59 rfl rfl ?_
      refine e_iload_n (pc' := 62) k149_61 rfl rfl ?_
      refine e_icmpne (t := 102) (pc' := 65) k149_62 rfl (by decide) (fun _ => ?_) (fun _ => ?_)
      · refine e_iinc (c := 1) (pc' := 105) k149_102 rfl rfl rfl rfl ?_
        refine e_iinc (c := 1) (pc' := 108) k149_105 rfl rfl rfl rfl ?_
        refine e_goto (pc' := 38) k149_108 (by decide) ?_
        rfl
      · refine e_aload_n (pc' := 66) k149_65 rfl rfl ?_
        refine e_iload (pc' := 68) k149_66 rfl rfl ?_
        refine e_vI (j' := 127) (as := [.int v7]) (rest := []) (pc' := 71) k149_68 rfl (show mCk 149 1 159 127 1 = true by decide +kernel) (Or.inl (by decide +kernel)) rfl (Nat.le_of_ble_eq_true rfl) (show 2 ≤ mL 127 by decide +kernel) (fun q4 => ?_)
        refine e_istore (pc' := 73) k149_71 rfl rfl ?_
        refine e_iload_n (pc' := 74) k149_73 rfl rfl ?_
        refine e_ifne (t := 82) (pc' := 77) k149_74 rfl (by decide) (fun _ => ?_) (fun _ => ?_)
        · refine e_iload_n (pc' := 83) k149_82 rfl rfl ?_
          refine e_iconst (v := 1) (pc' := 84) k149_83 rfl rfl ?_
          refine e_icmpne (t := 99) (pc' := 87) k149_84 rfl (by decide) (fun _ => ?_) (fun _ => ?_)
          · refine e_iload (pc' := 101) k149_99 rfl rfl ?_
            exact e_iret k149_101 (by decide +kernel)
          · refine e_aload_n (pc' := 88) k149_87 rfl rfl ?_
            refine e_iload (pc' := 90) k149_88 rfl rfl ?_
            refine e_vI (j' := 147) (as := [.int v7]) (rest := []) (pc' := 93) k149_90 rfl (show mCk 149 1 195 147 1 = true by decide +kernel) (Or.inl (by decide +kernel)) rfl (Nat.le_of_ble_eq_true rfl) (show 2 ≤ mL 147 by decide +kernel) (fun q5 => ?_)
            refine e_iload (pc' := 95) k149_93 rfl rfl ?_
            refine e_idiv (pc' := 96) k149_95 rfl ?_
            refine e_goto (pc' := 101) k149_96 (by decide) ?_
            exact e_iret k149_101 (by decide +kernel)
        · refine e_iload (pc' := 79) k149_77 rfl rfl ?_
          refine e_goto (pc' := 101) k149_79 (by decide) ?_
          exact e_iret k149_101 (by decide +kernel)
/-- SquareGroundsModel.cylinder(III)I -/
theorem F149_eq (v0 : Nat) (v1 : Int32) (v2 : Int32) (v3 : Int32) (h : mHeap) : F 149 [.ref v0, .int v1, .int v2, .int v3] h = (sI 100 [.int v3, .int 0, .int 2] h).bind fun q1 => if ¬ (q1.1 : Int32) = 0 then ((vI 110 v0 [.int v1] q1.2).bind fun q2 => if 0 ≤ (q2.1 : Int32) then ((vI 144 v0 [] q2.2).bind fun q3 => q149_38 v0 v1 v2 v3 q2.1 q3.1 0 0 q3.2) else (some (some (.int q2.1), q2.2))) else (some (some (.int (-1)), q1.2)) := by
  show D 149 0 (mEnt 149 [.ref v0, .int v1, .int v2, .int v3]) [] h 0 0 = _
  rw [show mEnt 149 [.ref v0, .int v1, .int v2, .int v3] = [some (.ref v0), some (.int v1), some (.int v2), some (.int v3), none, none, none, none, none] from rfl]
  refine e_iload_n (pc' := 1) k149_0 rfl rfl ?_
  refine e_iconst (v := 0) (pc' := 2) k149_1 rfl rfl ?_
  refine e_iconst (v := 2) (pc' := 3) k149_2 rfl rfl ?_
  refine e_sI (j' := 100) (as := [.int v3, .int 0, .int 2]) (rest := []) (pc' := 6) k149_3 rfl (show mCk 149 0 90 100 3 = true by decide +kernel) (Or.inr (by decide +kernel)) rfl (Nat.le_of_ble_eq_true rfl) (show 3 ≤ mL 100 by decide +kernel) (fun q1 => ?_)
  refine e_ifne (t := 11) (pc' := 9) k149_6 rfl (by decide) (fun _ => ?_) (fun _ => ?_)
  · refine e_aload_n (pc' := 12) k149_11 rfl rfl ?_
    refine e_iload_n (pc' := 13) k149_12 rfl rfl ?_
    refine e_vI (j' := 110) (as := [.int v1]) (rest := []) (pc' := 16) k149_13 rfl (show mCk 149 1 128 110 1 = true by decide +kernel) (Or.inl (by decide +kernel)) rfl (Nat.le_of_ble_eq_true rfl) (show 2 ≤ mL 110 by decide +kernel) (fun q2 => ?_)
    refine e_istore (pc' := 18) k149_16 rfl rfl ?_
    refine e_iload (pc' := 20) k149_18 rfl rfl ?_
    refine e_ifge (t := 26) (pc' := 23) k149_20 rfl (by decide) (fun _ => ?_) (fun _ => ?_)
    · refine e_aload_n (pc' := 27) k149_26 rfl rfl ?_
      refine e_vI (j' := 144) (as := []) (rest := []) (pc' := 30) k149_27 rfl (show mCk 149 1 192 144 0 = true by decide +kernel) (Or.inl (by decide +kernel)) rfl (Nat.le_of_ble_eq_true rfl) (show 1 ≤ mL 144 by decide +kernel) (fun q3 => ?_)
      refine e_istore (pc' := 32) k149_30 rfl rfl ?_
      refine e_iconst (v := 0) (pc' := 33) k149_32 rfl rfl ?_
      refine e_istore (pc' := 35) k149_33 rfl rfl ?_
      refine e_iconst (v := 0) (pc' := 36) k149_35 rfl rfl ?_
      refine e_istore (pc' := 38) k149_36 rfl rfl ?_
      rfl
    · refine e_iload (pc' := 25) k149_23 rfl rfl ?_
      exact e_iret k149_25 (by decide +kernel)
  · refine e_iconst (v := -1) (pc' := 10) k149_9 rfl rfl ?_
    exact e_iret k149_10 (by decide +kernel)
theorem k150_0 : decode (mB 150) 0 = .ok (.aload_n 0, 1) := by decide +kernel
theorem k150_1 : decode (mB 150) 1 = .ok (.invokevirtual 192, 3) := by decide +kernel
theorem k150_4 : decode (mB 150) 4 = .ok (.istore_n 1, 1) := by decide +kernel
theorem k150_5 : decode (mB 150) 5 = .ok (.iconst 0, 1) := by decide +kernel
theorem k150_6 : decode (mB 150) 6 = .ok (.istore_n 2, 1) := by decide +kernel
theorem k150_7 : decode (mB 150) 7 = .ok (.iconst 0, 1) := by decide +kernel
theorem k150_8 : decode (mB 150) 8 = .ok (.istore_n 3, 1) := by decide +kernel
theorem k150_9 : decode (mB 150) 9 = .ok (.iload_n 3, 1) := by decide +kernel
theorem k150_10 : decode (mB 150) 10 = .ok (.aload_n 0, 1) := by decide +kernel
theorem k150_11 : decode (mB 150) 11 = .ok (.getfield 105, 3) := by decide +kernel
theorem k150_14 : decode (mB 150) 14 = .ok (.if_icmp .ge 44, 3) := by decide +kernel
theorem k150_17 : decode (mB 150) 17 = .ok (.aload_n 0, 1) := by decide +kernel
theorem k150_18 : decode (mB 150) 18 = .ok (.getfield 61, 3) := by decide +kernel
theorem k150_21 : decode (mB 150) 21 = .ok (.iload_n 3, 1) := by decide +kernel
theorem k150_22 : decode (mB 150) 22 = .ok (.iaload, 1) := by decide +kernel
theorem k150_23 : decode (mB 150) 23 = .ok (.iload_n 3, 1) := by decide +kernel
theorem k150_24 : decode (mB 150) 24 = .ok (.if_icmp .ne 28, 3) := by decide +kernel
theorem k150_27 : decode (mB 150) 27 = .ok (.aload_n 0, 1) := by decide +kernel
theorem k150_28 : decode (mB 150) 28 = .ok (.iload_n 3, 1) := by decide +kernel
theorem k150_29 : decode (mB 150) 29 = .ok (.invokevirtual 159, 3) := by decide +kernel
theorem k150_32 : decode (mB 150) 32 = .ok (.istore 4, 2) := by decide +kernel
theorem k150_34 : decode (mB 150) 34 = .ok (.iload_n 2, 1) := by decide +kernel
theorem k150_35 : decode (mB 150) 35 = .ok (.aload_n 0, 1) := by decide +kernel
theorem k150_36 : decode (mB 150) 36 = .ok (.iload_n 3, 1) := by decide +kernel
theorem k150_37 : decode (mB 150) 37 = .ok (.invokevirtual 195, 3) := by decide +kernel
theorem k150_40 : decode (mB 150) 40 = .ok (.iload 4, 2) := by decide +kernel
theorem k150_42 : decode (mB 150) 42 = .ok (.idiv, 1) := by decide +kernel
theorem k150_43 : decode (mB 150) 43 = .ok (.sipush 840, 3) := by decide +kernel
theorem k150_46 : decode (mB 150) 46 = .ok (.iload 4, 2) := by decide +kernel
theorem k150_48 : decode (mB 150) 48 = .ok (.idiv, 1) := by decide +kernel
theorem k150_49 : decode (mB 150) 49 = .ok (.imul, 1) := by decide +kernel
theorem k150_50 : decode (mB 150) 50 = .ok (.iadd, 1) := by decide +kernel
theorem k150_51 : decode (mB 150) 51 = .ok (.istore_n 2, 1) := by decide +kernel
theorem k150_52 : decode (mB 150) 52 = .ok (.iinc 3 1, 3) := by decide +kernel
theorem k150_55 : decode (mB 150) 55 = .ok (.goto (-46), 3) := by decide +kernel
theorem k150_58 : decode (mB 150) 58 = .ok (.iload_n 2, 1) := by decide +kernel
theorem k150_59 : decode (mB 150) 59 = .ok (.ireturn, 1) := by decide +kernel
/-- SquareGroundsModel.shareOf, loop at 9 -/
noncomputable def q150_9 (v0 : Nat) (v1 : Int32) (v2 : Int32) (v3 : Int32) (d4 : Option Value) (h : mHeap) : mR' := E 150 9 [some (.ref v0), some (.int v1), some (.int v2), some (.int v3), d4] [] h
theorem q150_9_eq (v0 : Nat) (v1 : Int32) (v2 : Int32) (v3 : Int32) (d4 : Option Value) (h : mHeap) : q150_9 v0 v1 v2 v3 d4 h = (gI h v0 8 5).bind fun x1 => if x1 ≤ (v3 : Int32) then (some (some (.int v2), h)) else ((gR h v0 8 20).bind fun x2 => (cAldI false h x2 v3).bind fun x3 => if ¬ (x3 : Int32) = v3 then (q150_9 v0 v1 v2 (v3 + 1) d4 h) else ((vI 127 v0 [.int v3] h).bind fun q4 => (vI 147 v0 [.int v3] q4.2).bind fun q5 => if (q4.1 : Int32) = 0 then none else (if (q4.1 : Int32) = 0 then none else (q150_9 v0 v1 (v2 + ((q5.1 / q4.1) * (840 / q4.1))) (v3 + 1) (some (.int q4.1)) q5.2)))) := by
  unfold q150_9
  refine e_iload_n (pc' := 10) k150_9 rfl rfl ?_
  refine e_aload_n (pc' := 11) k150_10 rfl rfl ?_
  refine e_getI (pc' := 14) k150_11 rfl (ci := 8) (k := 5) (by decide +kernel) (by decide +kernel) (fun x1 => ?_)
  refine e_icmpge (t := 58) (pc' := 17) k150_14 rfl (by decide) (fun _ => ?_) (fun _ => ?_)
  · refine e_iload_n (pc' := 59) k150_58 rfl rfl ?_
    exact e_iret k150_59 (by decide +kernel)
  · refine e_aload_n (pc' := 18) k150_17 rfl rfl ?_
    refine e_getR (pc' := 21) k150_18 rfl (ci := 8) (k := 20) (by decide +kernel) (by decide +kernel) (fun x2 => ?_)
    refine e_iload_n (pc' := 22) k150_21 rfl rfl ?_
    refine e_iald (pc' := 23) k150_22 rfl (lw := false) rfl (fun x3 => ?_)
    refine e_iload_n (pc' := 24) k150_23 rfl rfl ?_
    refine e_icmpne (t := 52) (pc' := 27) k150_24 rfl (by decide) (fun _ => ?_) (fun _ => ?_)
    · refine e_iinc (c := 1) (pc' := 55) k150_52 rfl rfl rfl rfl ?_
      refine e_goto (pc' := 9) k150_55 (by decide) ?_
      rfl
    · refine e_aload_n (pc' := 28) k150_27 rfl rfl ?_
      refine e_iload_n (pc' := 29) k150_28 rfl rfl ?_
      refine e_vI (j' := 127) (as := [.int v3]) (rest := []) (pc' := 32) k150_29 rfl (show mCk 150 1 159 127 1 = true by decide +kernel) (Or.inl (by decide +kernel)) rfl (Nat.le_of_ble_eq_true rfl) (show 2 ≤ mL 127 by decide +kernel) (fun q4 => ?_)
      refine e_istore (pc' := 34) k150_32 rfl rfl ?_
      refine e_iload_n (pc' := 35) k150_34 rfl rfl ?_
      refine e_aload_n (pc' := 36) k150_35 rfl rfl ?_
      refine e_iload_n (pc' := 37) k150_36 rfl rfl ?_
      refine e_vI (j' := 147) (as := [.int v3]) (rest := [.int v2]) (pc' := 40) k150_37 rfl (show mCk 150 1 195 147 1 = true by decide +kernel) (Or.inl (by decide +kernel)) rfl (Nat.le_of_ble_eq_true rfl) (show 2 ≤ mL 147 by decide +kernel) (fun q5 => ?_)
      refine e_iload (pc' := 42) k150_40 rfl rfl ?_
      refine e_idiv (pc' := 43) k150_42 rfl ?_
      refine e_sipush (v := 840) (pc' := 46) k150_43 rfl rfl ?_
      refine e_iload (pc' := 48) k150_46 rfl rfl ?_
      refine e_idiv (pc' := 49) k150_48 rfl ?_
      refine e_imul (pc' := 50) k150_49 rfl ?_
      refine e_iadd (pc' := 51) k150_50 rfl ?_
      refine e_istore_n (pc' := 52) k150_51 rfl rfl ?_
      refine e_iinc (c := 1) (pc' := 55) k150_52 rfl rfl rfl rfl ?_
      refine e_goto (pc' := 9) k150_55 (by decide) ?_
      rfl
/-- SquareGroundsModel.shareOf()I -/
theorem F150_eq (v0 : Nat) (h : mHeap) : F 150 [.ref v0] h = (vI 144 v0 [] h).bind fun q1 => q150_9 v0 q1.1 0 0 none q1.2 := by
  show D 150 0 (mEnt 150 [.ref v0]) [] h 0 0 = _
  rw [show mEnt 150 [.ref v0] = [some (.ref v0), none, none, none, none] from rfl]
  refine e_aload_n (pc' := 1) k150_0 rfl rfl ?_
  refine e_vI (j' := 144) (as := []) (rest := []) (pc' := 4) k150_1 rfl (show mCk 150 1 192 144 0 = true by decide +kernel) (Or.inl (by decide +kernel)) rfl (Nat.le_of_ble_eq_true rfl) (show 1 ≤ mL 144 by decide +kernel) (fun q1 => ?_)
  refine e_istore_n (pc' := 5) k150_4 rfl rfl ?_
  refine e_iconst (v := 0) (pc' := 6) k150_5 rfl rfl ?_
  refine e_istore_n (pc' := 7) k150_6 rfl rfl ?_
  refine e_iconst (v := 0) (pc' := 8) k150_7 rfl rfl ?_
  refine e_istore_n (pc' := 9) k150_8 rfl rfl ?_
  rfl
theorem k151_0 : decode (mB 151) 0 = .ok (.lload_n 1, 1) := by decide +kernel
theorem k151_1 : decode (mB 151) 1 = .ok (.lstore 5, 2) := by decide +kernel
theorem k151_3 : decode (mB 151) 3 = .ok (.lload_n 3, 1) := by decide +kernel
theorem k151_4 : decode (mB 151) 4 = .ok (.lstore 7, 2) := by decide +kernel
theorem k151_6 : decode (mB 151) 6 = .ok (.lload 7, 2) := by decide +kernel
theorem k151_8 : decode (mB 151) 8 = .ok (.lconst 0, 1) := by decide +kernel
theorem k151_9 : decode (mB 151) 9 = .ok (.lcmp, 1) := by decide +kernel
theorem k151_10 : decode (mB 151) 10 = .ok (.ifCond .eq 21, 3) := by decide +kernel
theorem k151_13 : decode (mB 151) 13 = .ok (.lload 5, 2) := by decide +kernel
theorem k151_15 : decode (mB 151) 15 = .ok (.lload 7, 2) := by decide +kernel
theorem k151_17 : decode (mB 151) 17 = .ok (.lrem, 1) := by decide +kernel
theorem k151_18 : decode (mB 151) 18 = .ok (.lstore 9, 2) := by decide +kernel
theorem k151_20 : decode (mB 151) 20 = .ok (.lload 7, 2) := by decide +kernel
theorem k151_22 : decode (mB 151) 22 = .ok (.lstore 5, 2) := by decide +kernel
theorem k151_24 : decode (mB 151) 24 = .ok (.lload 9, 2) := by decide +kernel
theorem k151_26 : decode (mB 151) 26 = .ok (.lstore 7, 2) := by decide +kernel
theorem k151_28 : decode (mB 151) 28 = .ok (.goto (-22), 3) := by decide +kernel
theorem k151_31 : decode (mB 151) 31 = .ok (.aload_n 0, 1) := by decide +kernel
theorem k151_32 : decode (mB 151) 32 = .ok (.lload_n 1, 1) := by decide +kernel
theorem k151_33 : decode (mB 151) 33 = .ok (.lload 5, 2) := by decide +kernel
theorem k151_35 : decode (mB 151) 35 = .ok (.ldiv, 1) := by decide +kernel
theorem k151_36 : decode (mB 151) 36 = .ok (.putfield 198, 3) := by decide +kernel
theorem k151_39 : decode (mB 151) 39 = .ok (.aload_n 0, 1) := by decide +kernel
theorem k151_40 : decode (mB 151) 40 = .ok (.lload_n 3, 1) := by decide +kernel
theorem k151_41 : decode (mB 151) 41 = .ok (.lload 5, 2) := by decide +kernel
theorem k151_43 : decode (mB 151) 43 = .ok (.ldiv, 1) := by decide +kernel
theorem k151_44 : decode (mB 151) 44 = .ok (.putfield 64, 3) := by decide +kernel
theorem k151_47 : decode (mB 151) 47 = .ok (.iconst 1, 1) := by decide +kernel
theorem k151_48 : decode (mB 151) 48 = .ok (.ireturn, 1) := by decide +kernel
/-- SquareGroundsModel.tell, loop at 6 -/
noncomputable def q151_6 (v0 : Nat) (v1 : Int64) (v3 : Int64) (v5 : Int64) (v7 : Int64) (d9 : Option Value) (d10 : Option Value) (h : mHeap) : mR' := E 151 6 [some (.ref v0), some (.long v1), none, some (.long v3), none, some (.long v5), none, some (.long v7), none, d9, d10] [] h
theorem q151_6_eq (v0 : Nat) (v1 : Int64) (v3 : Int64) (v5 : Int64) (v7 : Int64) (d9 : Option Value) (d10 : Option Value) (h : mHeap) : q151_6 v0 v1 v3 v5 v7 d9 d10 h = if ((lg_cmp v7 0) : Int32) = 0 then (if (v5 : Int64) = 0 then none else ((cPut h v0 8 21 (.long (v1 / v5))).bind fun h1 => if (v5 : Int64) = 0 then none else ((cPut h1 v0 8 22 (.long (v3 / v5))).bind fun h2 => some (some (.int 1), h2)))) else (if (v7 : Int64) = 0 then none else (q151_6 v0 v1 v3 v7 (v5 - v5 / v7 * v7) (some (.long (v5 - v5 / v7 * v7))) none h)) := by
  unfold q151_6
  refine e_lload (pc' := 8) k151_6 rfl rfl ?_
  refine e_lconst (v := 0) (pc' := 9) k151_8 rfl rfl ?_
  refine e_lcmp (pc' := 10) k151_9 rfl ?_
  refine e_ifeq (t := 31) (pc' := 13) k151_10 rfl (by decide) (fun _ => ?_) (fun _ => ?_)
  · refine e_aload_n (pc' := 32) k151_31 rfl rfl ?_
    refine e_lload_n (pc' := 33) k151_32 rfl rfl ?_
    refine e_lload (pc' := 35) k151_33 rfl rfl ?_
    refine e_ldiv (pc' := 36) k151_35 rfl ?_
    refine e_put (pc' := 39) k151_36 rfl (ci := 8) (k := 21) (by decide +kernel) (by decide +kernel) rfl (fun h1 => ?_)
    refine e_aload_n (pc' := 40) k151_39 rfl rfl ?_
    refine e_lload_n (pc' := 41) k151_40 rfl rfl ?_
    refine e_lload (pc' := 43) k151_41 rfl rfl ?_
    refine e_ldiv (pc' := 44) k151_43 rfl ?_
    refine e_put (pc' := 47) k151_44 rfl (ci := 8) (k := 22) (by decide +kernel) (by decide +kernel) rfl (fun h2 => ?_)
    refine e_iconst (v := 1) (pc' := 48) k151_47 rfl rfl ?_
    exact e_iret k151_48 (by decide +kernel)
  · refine e_lload (pc' := 15) k151_13 rfl rfl ?_
    refine e_lload (pc' := 17) k151_15 rfl rfl ?_
    refine e_lrem (pc' := 18) k151_17 rfl ?_
    refine e_lstore (pc' := 20) k151_18 rfl rfl ?_
    refine e_lload (pc' := 22) k151_20 rfl rfl ?_
    refine e_lstore (pc' := 24) k151_22 rfl rfl ?_
    refine e_lload (pc' := 26) k151_24 rfl rfl ?_
    refine e_lstore (pc' := 28) k151_26 rfl rfl ?_
    refine e_goto (pc' := 6) k151_28 (by decide) ?_
    rfl
/-- SquareGroundsModel.tell(JJ)I -/
theorem F151_eq (v0 : Nat) (v1 : Int64) (v3 : Int64) (h : mHeap) : F 151 [.ref v0, .long v1, .long v3] h = q151_6 v0 v1 v3 v1 v3 none none h := by
  show D 151 0 (mEnt 151 [.ref v0, .long v1, .long v3]) [] h 0 0 = _
  rw [show mEnt 151 [.ref v0, .long v1, .long v3] = [some (.ref v0), some (.long v1), none, some (.long v3), none, none, none, none, none, none, none] from rfl]
  refine e_lload_n (pc' := 1) k151_0 rfl rfl ?_
  refine e_lstore (pc' := 3) k151_1 rfl rfl ?_
  refine e_lload_n (pc' := 4) k151_3 rfl rfl ?_
  refine e_lstore (pc' := 6) k151_4 rfl rfl ?_
  rfl
theorem k152_0 : decode (mB 152) 0 = .ok (.aload_n 0, 1) := by decide +kernel
theorem k152_1 : decode (mB 152) 1 = .ok (.iload_n 1, 1) := by decide +kernel
theorem k152_2 : decode (mB 152) 2 = .ok (.invokevirtual 128, 3) := by decide +kernel
theorem k152_5 : decode (mB 152) 5 = .ok (.istore_n 2, 1) := by decide +kernel
theorem k152_6 : decode (mB 152) 6 = .ok (.iload_n 2, 1) := by decide +kernel
theorem k152_7 : decode (mB 152) 7 = .ok (.ifCond .ge 7, 3) := by decide +kernel
theorem k152_10 : decode (mB 152) 10 = .ok (.iload_n 2, 1) := by decide +kernel
theorem k152_11 : decode (mB 152) 11 = .ok (.goto 15, 3) := by decide +kernel
theorem k152_14 : decode (mB 152) 14 = .ok (.aload_n 0, 1) := by decide +kernel
theorem k152_15 : decode (mB 152) 15 = .ok (.aload_n 0, 1) := by decide +kernel
theorem k152_16 : decode (mB 152) 16 = .ok (.invokevirtual 201, 3) := by decide +kernel
theorem k152_19 : decode (mB 152) 19 = .ok (.i2l, 1) := by decide +kernel
theorem k152_20 : decode (mB 152) 20 = .ok (.ldc2_w 204, 3) := by decide +kernel
theorem k152_23 : decode (mB 152) 23 = .ok (.invokevirtual 206, 3) := by decide +kernel
theorem k152_26 : decode (mB 152) 26 = .ok (.ireturn, 1) := by decide +kernel
/-- SquareGroundsModel.share(I)I -/
theorem F152_eq (v0 : Nat) (v1 : Int32) (h : mHeap) : F 152 [.ref v0, .int v1] h = (vI 110 v0 [.int v1] h).bind fun q1 => if 0 ≤ (q1.1 : Int32) then ((vI 150 v0 [] q1.2).bind fun q2 => (vI 151 v0 [.long (Int32.toInt64 q2.1), .long 840] q2.2).bind fun q3 => some (some (.int q3.1), q3.2)) else (some (some (.int q1.1), q1.2)) := by
  show D 152 0 (mEnt 152 [.ref v0, .int v1]) [] h 0 0 = _
  rw [show mEnt 152 [.ref v0, .int v1] = [some (.ref v0), some (.int v1), none] from rfl]
  refine e_aload_n (pc' := 1) k152_0 rfl rfl ?_
  refine e_iload_n (pc' := 2) k152_1 rfl rfl ?_
  refine e_vI (j' := 110) (as := [.int v1]) (rest := []) (pc' := 5) k152_2 rfl (show mCk 152 1 128 110 1 = true by decide +kernel) (Or.inl (by decide +kernel)) rfl (Nat.le_of_ble_eq_true rfl) (show 2 ≤ mL 110 by decide +kernel) (fun q1 => ?_)
  refine e_istore_n (pc' := 6) k152_5 rfl rfl ?_
  refine e_iload_n (pc' := 7) k152_6 rfl rfl ?_
  refine e_ifge (t := 14) (pc' := 10) k152_7 rfl (by decide) (fun _ => ?_) (fun _ => ?_)
  · refine e_aload_n (pc' := 15) k152_14 rfl rfl ?_
    refine e_aload_n (pc' := 16) k152_15 rfl rfl ?_
    refine e_vI (j' := 150) (as := []) (rest := [.ref v0]) (pc' := 19) k152_16 rfl (show mCk 152 1 201 150 0 = true by decide +kernel) (Or.inl (by decide +kernel)) rfl (Nat.le_of_ble_eq_true rfl) (show 1 ≤ mL 150 by decide +kernel) (fun q2 => ?_)
    refine e_i2l (pc' := 20) k152_19 rfl ?_
    refine e_ldc2 (v := 840) (pc' := 23) k152_20 rfl (by decide +kernel) ?_
    refine e_vI (j' := 151) (as := [.long (Int32.toInt64 q2.1), .long 840]) (rest := []) (pc' := 26) k152_23 rfl (show mCk 152 1 206 151 2 = true by decide +kernel) (Or.inl (by decide +kernel)) rfl (Nat.le_of_ble_eq_true rfl) (show 5 ≤ mL 151 by decide +kernel) (fun q3 => ?_)
    exact e_iret k152_26 (by decide +kernel)
  · refine e_iload_n (pc' := 11) k152_10 rfl rfl ?_
    refine e_goto (pc' := 26) k152_11 (by decide) ?_
    exact e_iret k152_26 (by decide +kernel)
theorem k153_0 : decode (mB 153) 0 = .ok (.iconst 0, 1) := by decide +kernel
theorem k153_1 : decode (mB 153) 1 = .ok (.istore_n 2, 1) := by decide +kernel
theorem k153_2 : decode (mB 153) 2 = .ok (.iload_n 2, 1) := by decide +kernel
theorem k153_3 : decode (mB 153) 3 = .ok (.aload_n 0, 1) := by decide +kernel
theorem k153_4 : decode (mB 153) 4 = .ok (.getfield 105, 3) := by decide +kernel
theorem k153_7 : decode (mB 153) 7 = .ok (.if_icmp .ge 48, 3) := by decide +kernel
theorem k153_10 : decode (mB 153) 10 = .ok (.aload_n 0, 1) := by decide +kernel
theorem k153_11 : decode (mB 153) 11 = .ok (.getfield 22, 3) := by decide +kernel
theorem k153_14 : decode (mB 153) 14 = .ok (.iload_n 2, 1) := by decide +kernel
theorem k153_15 : decode (mB 153) 15 = .ok (.aload_n 0, 1) := by decide +kernel
theorem k153_16 : decode (mB 153) 16 = .ok (.getfield 68, 3) := by decide +kernel
theorem k153_19 : decode (mB 153) 19 = .ok (.bipush 16, 2) := by decide +kernel
theorem k153_21 : decode (mB 153) 21 = .ok (.iload_n 1, 1) := by decide +kernel
theorem k153_22 : decode (mB 153) 22 = .ok (.imul, 1) := by decide +kernel
theorem k153_23 : decode (mB 153) 23 = .ok (.iload_n 2, 1) := by decide +kernel
theorem k153_24 : decode (mB 153) 24 = .ok (.iadd, 1) := by decide +kernel
theorem k153_25 : decode (mB 153) 25 = .ok (.iaload, 1) := by decide +kernel
theorem k153_26 : decode (mB 153) 26 = .ok (.iastore, 1) := by decide +kernel
theorem k153_27 : decode (mB 153) 27 = .ok (.aload_n 0, 1) := by decide +kernel
theorem k153_28 : decode (mB 153) 28 = .ok (.getfield 25, 3) := by decide +kernel
theorem k153_31 : decode (mB 153) 31 = .ok (.iload_n 2, 1) := by decide +kernel
theorem k153_32 : decode (mB 153) 32 = .ok (.aload_n 0, 1) := by decide +kernel
theorem k153_33 : decode (mB 153) 33 = .ok (.getfield 68, 3) := by decide +kernel
theorem k153_36 : decode (mB 153) 36 = .ok (.bipush 16, 2) := by decide +kernel
theorem k153_38 : decode (mB 153) 38 = .ok (.iload_n 1, 1) := by decide +kernel
theorem k153_39 : decode (mB 153) 39 = .ok (.imul, 1) := by decide +kernel
theorem k153_40 : decode (mB 153) 40 = .ok (.aload_n 0, 1) := by decide +kernel
theorem k153_41 : decode (mB 153) 41 = .ok (.getfield 105, 3) := by decide +kernel
theorem k153_44 : decode (mB 153) 44 = .ok (.iadd, 1) := by decide +kernel
theorem k153_45 : decode (mB 153) 45 = .ok (.iload_n 2, 1) := by decide +kernel
theorem k153_46 : decode (mB 153) 46 = .ok (.iadd, 1) := by decide +kernel
theorem k153_47 : decode (mB 153) 47 = .ok (.iaload, 1) := by decide +kernel
theorem k153_48 : decode (mB 153) 48 = .ok (.iastore, 1) := by decide +kernel
theorem k153_49 : decode (mB 153) 49 = .ok (.iinc 2 1, 3) := by decide +kernel
theorem k153_52 : decode (mB 153) 52 = .ok (.goto (-50), 3) := by decide +kernel
theorem k153_55 : decode (mB 153) 55 = .ok (.aload_n 0, 1) := by decide +kernel
theorem k153_56 : decode (mB 153) 56 = .ok (.invokevirtual 115, 3) := by decide +kernel
theorem k153_59 : decode (mB 153) 59 = .ok (.return_, 1) := by decide +kernel
/-- SquareGroundsModel.loadName, loop at 2 -/
noncomputable def q153_2 (v0 : Nat) (v1 : Int32) (v2 : Int32) (h : mHeap) : mR' := E 153 2 [some (.ref v0), some (.int v1), some (.int v2)] [] h
theorem q153_2_eq (v0 : Nat) (v1 : Int32) (v2 : Int32) (h : mHeap) : q153_2 v0 v1 v2 h = (gI h v0 8 5).bind fun x1 => if x1 ≤ (v2 : Int32) then ((vV 108 v0 [] h).bind fun h2 => some (none, h2)) else ((gR h v0 8 6).bind fun x3 => (gR h v0 8 24).bind fun x4 => (cAldI false h x4 ((16 * v1) + v2)).bind fun x5 => (cAstI h x3 v2 x5).bind fun h6 => (gR h6 v0 8 7).bind fun x7 => (gR h6 v0 8 24).bind fun x8 => (gI h6 v0 8 5).bind fun x9 => (cAldI false h6 x8 (((16 * v1) + x9) + v2)).bind fun x10 => (cAstI h6 x7 v2 x10).bind fun h11 => q153_2 v0 v1 (v2 + 1) h11) := by
  unfold q153_2
  refine e_iload_n (pc' := 3) k153_2 rfl rfl ?_
  refine e_aload_n (pc' := 4) k153_3 rfl rfl ?_
  refine e_getI (pc' := 7) k153_4 rfl (ci := 8) (k := 5) (by decide +kernel) (by decide +kernel) (fun x1 => ?_)
  refine e_icmpge (t := 55) (pc' := 10) k153_7 rfl (by decide) (fun _ => ?_) (fun _ => ?_)
  · refine e_aload_n (pc' := 56) k153_55 rfl rfl ?_
    refine e_vV (j' := 108) (as := []) (rest := []) (pc' := 59) k153_56 rfl (show mCk 153 1 115 108 0 = true by decide +kernel) (by decide +kernel) rfl (Nat.le_of_ble_eq_true rfl) (show 1 ≤ mL 108 by decide +kernel) (fun h2 => ?_)
    exact e_vret k153_59 (by decide +kernel)
  · refine e_aload_n (pc' := 11) k153_10 rfl rfl ?_
    refine e_getR (pc' := 14) k153_11 rfl (ci := 8) (k := 6) (by decide +kernel) (by decide +kernel) (fun x3 => ?_)
    refine e_iload_n (pc' := 15) k153_14 rfl rfl ?_
    refine e_aload_n (pc' := 16) k153_15 rfl rfl ?_
    refine e_getR (pc' := 19) k153_16 rfl (ci := 8) (k := 24) (by decide +kernel) (by decide +kernel) (fun x4 => ?_)
    refine e_bipush (v := 16) (pc' := 21) k153_19 rfl rfl ?_
    refine e_iload_n (pc' := 22) k153_21 rfl rfl ?_
    refine e_imul (pc' := 23) k153_22 rfl ?_
    refine e_iload_n (pc' := 24) k153_23 rfl rfl ?_
    refine e_iadd (pc' := 25) k153_24 rfl ?_
    refine e_iald (pc' := 26) k153_25 rfl (lw := false) rfl (fun x5 => ?_)
    refine e_iast (pc' := 27) k153_26 rfl (fun h6 => ?_)
    refine e_aload_n (pc' := 28) k153_27 rfl rfl ?_
    refine e_getR (pc' := 31) k153_28 rfl (ci := 8) (k := 7) (by decide +kernel) (by decide +kernel) (fun x7 => ?_)
    refine e_iload_n (pc' := 32) k153_31 rfl rfl ?_
    refine e_aload_n (pc' := 33) k153_32 rfl rfl ?_
    refine e_getR (pc' := 36) k153_33 rfl (ci := 8) (k := 24) (by decide +kernel) (by decide +kernel) (fun x8 => ?_)
    refine e_bipush (v := 16) (pc' := 38) k153_36 rfl rfl ?_
    refine e_iload_n (pc' := 39) k153_38 rfl rfl ?_
    refine e_imul (pc' := 40) k153_39 rfl ?_
    refine e_aload_n (pc' := 41) k153_40 rfl rfl ?_
    refine e_getI (pc' := 44) k153_41 rfl (ci := 8) (k := 5) (by decide +kernel) (by decide +kernel) (fun x9 => ?_)
    refine e_iadd (pc' := 45) k153_44 rfl ?_
    refine e_iload_n (pc' := 46) k153_45 rfl rfl ?_
    refine e_iadd (pc' := 47) k153_46 rfl ?_
    refine e_iald (pc' := 48) k153_47 rfl (lw := false) rfl (fun x10 => ?_)
    refine e_iast (pc' := 49) k153_48 rfl (fun h11 => ?_)
    refine e_iinc (c := 1) (pc' := 52) k153_49 rfl rfl rfl rfl ?_
    refine e_goto (pc' := 2) k153_52 (by decide) ?_
    rfl
/-- SquareGroundsModel.loadName(I)V -/
theorem F153_eq (v0 : Nat) (v1 : Int32) (h : mHeap) : F 153 [.ref v0, .int v1] h = q153_2 v0 v1 0 h := by
  show D 153 0 (mEnt 153 [.ref v0, .int v1]) [] h 0 0 = _
  rw [show mEnt 153 [.ref v0, .int v1] = [some (.ref v0), some (.int v1), none] from rfl]
  refine e_iconst (v := 0) (pc' := 1) k153_0 rfl rfl ?_
  refine e_istore_n (pc' := 2) k153_1 rfl rfl ?_
  rfl
theorem k154_0 : decode (mB 154) 0 = .ok (.aload_n 0, 1) := by decide +kernel
theorem k154_1 : decode (mB 154) 1 = .ok (.invokevirtual 150, 3) := by decide +kernel
theorem k154_4 : decode (mB 154) 4 = .ok (.iconst 0, 1) := by decide +kernel
theorem k154_5 : decode (mB 154) 5 = .ok (.istore_n 1, 1) := by decide +kernel
theorem k154_6 : decode (mB 154) 6 = .ok (.iload_n 1, 1) := by decide +kernel
theorem k154_7 : decode (mB 154) 7 = .ok (.aload_n 0, 1) := by decide +kernel
theorem k154_8 : decode (mB 154) 8 = .ok (.getfield 210, 3) := by decide +kernel
theorem k154_11 : decode (mB 154) 11 = .ok (.if_icmp .ge 65, 3) := by decide +kernel
theorem k154_14 : decode (mB 154) 14 = .ok (.iconst 1, 1) := by decide +kernel
theorem k154_15 : decode (mB 154) 15 = .ok (.istore_n 2, 1) := by decide +kernel
theorem k154_16 : decode (mB 154) 16 = .ok (.iconst 0, 1) := by decide +kernel
theorem k154_17 : decode (mB 154) 17 = .ok (.istore_n 3, 1) := by decide +kernel
theorem k154_18 : decode (mB 154) 18 = .ok (.iload_n 3, 1) := by decide +kernel
theorem k154_19 : decode (mB 154) 19 = .ok (.iconst 2, 1) := by decide +kernel
theorem k154_20 : decode (mB 154) 20 = .ok (.aload_n 0, 1) := by decide +kernel
theorem k154_21 : decode (mB 154) 21 = .ok (.getfield 105, 3) := by decide +kernel
theorem k154_24 : decode (mB 154) 24 = .ok (.imul, 1) := by decide +kernel
theorem k154_25 : decode (mB 154) 25 = .ok (.if_icmp .ge 39, 3) := by decide +kernel
theorem k154_28 : decode (mB 154) 28 = .ok (.iload_n 2, 1) := by decide +kernel
theorem k154_29 : decode (mB 154) 29 = .ok (.ifCond .eq 35, 3) := by decide +kernel
theorem k154_32 : decode (mB 154) 32 = .ok (.aload_n 0, 1) := by decide +kernel
theorem k154_33 : decode (mB 154) 33 = .ok (.getfield 68, 3) := by decide +kernel
theorem k154_36 : decode (mB 154) 36 = .ok (.bipush 16, 2) := by decide +kernel
theorem k154_38 : decode (mB 154) 38 = .ok (.iload_n 1, 1) := by decide +kernel
theorem k154_39 : decode (mB 154) 39 = .ok (.imul, 1) := by decide +kernel
theorem k154_40 : decode (mB 154) 40 = .ok (.iload_n 3, 1) := by decide +kernel
theorem k154_41 : decode (mB 154) 41 = .ok (.iadd, 1) := by decide +kernel
theorem k154_42 : decode (mB 154) 42 = .ok (.iaload, 1) := by decide +kernel
theorem k154_43 : decode (mB 154) 43 = .ok (.aload_n 0, 1) := by decide +kernel
theorem k154_44 : decode (mB 154) 44 = .ok (.getfield 49, 3) := by decide +kernel
theorem k154_47 : decode (mB 154) 47 = .ok (.iload_n 3, 1) := by decide +kernel
theorem k154_48 : decode (mB 154) 48 = .ok (.iaload, 1) := by decide +kernel
theorem k154_49 : decode (mB 154) 49 = .ok (.if_icmp .ne 7, 3) := by decide +kernel
theorem k154_52 : decode (mB 154) 52 = .ok (.iconst 1, 1) := by decide +kernel
theorem k154_53 : decode (mB 154) 53 = .ok (.goto 4, 3) := by decide +kernel
theorem k154_56 : decode (mB 154) 56 = .ok (.iconst 0, 1) := by decide +kernel
theorem k154_57 : decode (mB 154) 57 = .ok (.istore_n 2, 1) := by decide +kernel
theorem k154_58 : decode (mB 154) 58 = .ok (.iinc 3 1, 3) := by decide +kernel
theorem k154_61 : decode (mB 154) 61 = .ok (.goto (-43), 3) := by decide +kernel
theorem k154_64 : decode (mB 154) 64 = .ok (.iload_n 2, 1) := by decide +kernel
theorem k154_65 : decode (mB 154) 65 = .ok (.ifCond .eq 5, 3) := by decide +kernel
theorem k154_68 : decode (mB 154) 68 = .ok (.iload_n 1, 1) := by decide +kernel
theorem k154_69 : decode (mB 154) 69 = .ok (.ireturn, 1) := by decide +kernel
theorem k154_70 : decode (mB 154) 70 = .ok (.iinc 1 1, 3) := by decide +kernel
theorem k154_73 : decode (mB 154) 73 = .ok (.goto (-67), 3) := by decide +kernel
theorem k154_76 : decode (mB 154) 76 = .ok (.aload_n 0, 1) := by decide +kernel
theorem k154_77 : decode (mB 154) 77 = .ok (.getfield 210, 3) := by decide +kernel
theorem k154_80 : decode (mB 154) 80 = .ok (.sipush 500, 3) := by decide +kernel
theorem k154_83 : decode (mB 154) 83 = .ok (.if_icmp .ne 6, 3) := by decide +kernel
theorem k154_86 : decode (mB 154) 86 = .ok (.bipush (-9), 2) := by decide +kernel
theorem k154_88 : decode (mB 154) 88 = .ok (.ireturn, 1) := by decide +kernel
theorem k154_89 : decode (mB 154) 89 = .ok (.iconst 0, 1) := by decide +kernel
theorem k154_90 : decode (mB 154) 90 = .ok (.istore_n 1, 1) := by decide +kernel
theorem k154_91 : decode (mB 154) 91 = .ok (.iload_n 1, 1) := by decide +kernel
theorem k154_92 : decode (mB 154) 92 = .ok (.iconst 2, 1) := by decide +kernel
theorem k154_93 : decode (mB 154) 93 = .ok (.aload_n 0, 1) := by decide +kernel
theorem k154_94 : decode (mB 154) 94 = .ok (.getfield 105, 3) := by decide +kernel
theorem k154_97 : decode (mB 154) 97 = .ok (.imul, 1) := by decide +kernel
theorem k154_98 : decode (mB 154) 98 = .ok (.if_icmp .ge 29, 3) := by decide +kernel
theorem k154_101 : decode (mB 154) 101 = .ok (.aload_n 0, 1) := by decide +kernel
theorem k154_102 : decode (mB 154) 102 = .ok (.getfield 68, 3) := by decide +kernel
theorem k154_105 : decode (mB 154) 105 = .ok (.bipush 16, 2) := by decide +kernel
theorem k154_107 : decode (mB 154) 107 = .ok (.aload_n 0, 1) := by decide +kernel
theorem k154_108 : decode (mB 154) 108 = .ok (.getfield 210, 3) := by decide +kernel
theorem k154_111 : decode (mB 154) 111 = .ok (.imul, 1) := by decide +kernel
theorem k154_112 : decode (mB 154) 112 = .ok (.iload_n 1, 1) := by decide +kernel
theorem k154_113 : decode (mB 154) 113 = .ok (.iadd, 1) := by decide +kernel
theorem k154_114 : decode (mB 154) 114 = .ok (.aload_n 0, 1) := by decide +kernel
theorem k154_115 : decode (mB 154) 115 = .ok (.getfield 49, 3) := by decide +kernel
theorem k154_118 : decode (mB 154) 118 = .ok (.iload_n 1, 1) := by decide +kernel
theorem k154_119 : decode (mB 154) 119 = .ok (.iaload, 1) := by decide +kernel
theorem k154_120 : decode (mB 154) 120 = .ok (.iastore, 1) := by decide +kernel
theorem k154_121 : decode (mB 154) 121 = .ok (.iinc 1 1, 3) := by decide +kernel
theorem k154_124 : decode (mB 154) 124 = .ok (.goto (-33), 3) := by decide +kernel
theorem k154_127 : decode (mB 154) 127 = .ok (.aload_n 0, 1) := by decide +kernel
theorem k154_128 : decode (mB 154) 128 = .ok (.getfield 77, 3) := by decide +kernel
theorem k154_131 : decode (mB 154) 131 = .ok (.aload_n 0, 1) := by decide +kernel
theorem k154_132 : decode (mB 154) 132 = .ok (.getfield 210, 3) := by decide +kernel
theorem k154_135 : decode (mB 154) 135 = .ok (.aload_n 0, 1) := by decide +kernel
theorem k154_136 : decode (mB 154) 136 = .ok (.getfield 143, 3) := by decide +kernel
theorem k154_139 : decode (mB 154) 139 = .ok (.iastore, 1) := by decide +kernel
theorem k154_140 : decode (mB 154) 140 = .ok (.aload_n 0, 1) := by decide +kernel
theorem k154_141 : decode (mB 154) 141 = .ok (.dup, 1) := by decide +kernel
theorem k154_142 : decode (mB 154) 142 = .ok (.getfield 210, 3) := by decide +kernel
theorem k154_145 : decode (mB 154) 145 = .ok (.iconst 1, 1) := by decide +kernel
theorem k154_146 : decode (mB 154) 146 = .ok (.iadd, 1) := by decide +kernel
theorem k154_147 : decode (mB 154) 147 = .ok (.putfield 210, 3) := by decide +kernel
theorem k154_150 : decode (mB 154) 150 = .ok (.aload_n 0, 1) := by decide +kernel
theorem k154_151 : decode (mB 154) 151 = .ok (.getfield 210, 3) := by decide +kernel
theorem k154_154 : decode (mB 154) 154 = .ok (.iconst 1, 1) := by decide +kernel
theorem k154_155 : decode (mB 154) 155 = .ok (.isub, 1) := by decide +kernel
theorem k154_156 : decode (mB 154) 156 = .ok (.ireturn, 1) := by decide +kernel
/-- SquareGroundsModel.found, loop at 6 -/
noncomputable def q154_6 (v0 : Nat) (v1 : Int32) (d2 : Option Value) (d3 : Option Value) (h : mHeap) : mR' := E 154 6 [some (.ref v0), some (.int v1), d2, d3] [] h
/-- SquareGroundsModel.found, loop at 18 -/
noncomputable def q154_18 (v0 : Nat) (v1 : Int32) (v2 : Int32) (v3 : Int32) (h : mHeap) : mR' := E 154 18 [some (.ref v0), some (.int v1), some (.int v2), some (.int v3)] [] h
/-- SquareGroundsModel.found, loop at 91 -/
noncomputable def q154_91 (v0 : Nat) (v1 : Int32) (d2 : Option Value) (d3 : Option Value) (h : mHeap) : mR' := E 154 91 [some (.ref v0), some (.int v1), d2, d3] [] h
theorem q154_6_eq (v0 : Nat) (v1 : Int32) (d2 : Option Value) (d3 : Option Value) (h : mHeap) : q154_6 v0 v1 d2 d3 h = (gI h v0 8 23).bind fun x1 => if x1 ≤ (v1 : Int32) then ((gI h v0 8 23).bind fun x2 => if ¬ (x2 : Int32) = 500 then (q154_91 v0 0 d2 d3 h) else (some (some (.int (-9)), h))) else (q154_18 v0 v1 1 0 h) := by
  unfold q154_6
  refine e_iload_n (pc' := 7) k154_6 rfl rfl ?_
  refine e_aload_n (pc' := 8) k154_7 rfl rfl ?_
  refine e_getI (pc' := 11) k154_8 rfl (ci := 8) (k := 23) (by decide +kernel) (by decide +kernel) (fun x1 => ?_)
  refine e_icmpge (t := 76) (pc' := 14) k154_11 rfl (by decide) (fun _ => ?_) (fun _ => ?_)
  · refine e_aload_n (pc' := 77) k154_76 rfl rfl ?_
    refine e_getI (pc' := 80) k154_77 rfl (ci := 8) (k := 23) (by decide +kernel) (by decide +kernel) (fun x2 => ?_)
    refine e_sipush (v := 500) (pc' := 83) k154_80 rfl rfl ?_
    refine e_icmpne (t := 89) (pc' := 86) k154_83 rfl (by decide) (fun _ => ?_) (fun _ => ?_)
    · refine e_iconst (v := 0) (pc' := 90) k154_89 rfl rfl ?_
      refine e_istore_n (pc' := 91) k154_90 rfl rfl ?_
      rfl
    · refine e_bipush (v := -9) (pc' := 88) k154_86 rfl rfl ?_
      exact e_iret k154_88 (by decide +kernel)
  · refine e_iconst (v := 1) (pc' := 15) k154_14 rfl rfl ?_
    refine e_istore_n (pc' := 16) k154_15 rfl rfl ?_
    refine e_iconst (v := 0) (pc' := 17) k154_16 rfl rfl ?_
    refine e_istore_n (pc' := 18) k154_17 rfl rfl ?_
    rfl
theorem q154_18_eq (v0 : Nat) (v1 : Int32) (v2 : Int32) (v3 : Int32) (h : mHeap) : q154_18 v0 v1 v2 v3 h = (gI h v0 8 5).bind fun x1 => if (2 * x1) ≤ (v3 : Int32) then (if (v2 : Int32) = 0 then (q154_6 v0 (v1 + 1) (some (.int v2)) (some (.int v3)) h) else (some (some (.int v1), h))) else (if (v2 : Int32) = 0 then (if (v2 : Int32) = 0 then (q154_6 v0 (v1 + 1) (some (.int v2)) (some (.int v3)) h) else (some (some (.int v1), h))) else ((gR h v0 8 24).bind fun x2 => (cAldI false h x2 ((16 * v1) + v3)).bind fun x3 => (gR h v0 8 15).bind fun x4 => (cAldI false h x4 v3).bind fun x5 => if ¬ (x3 : Int32) = x5 then (q154_18 v0 v1 0 (v3 + 1) h) else (q154_18 v0 v1 1 (v3 + 1) h))) := by
  unfold q154_18
  refine e_iload_n (pc' := 19) k154_18 rfl rfl ?_
  refine e_iconst (v := 2) (pc' := 20) k154_19 rfl rfl ?_
  refine e_aload_n (pc' := 21) k154_20 rfl rfl ?_
  refine e_getI (pc' := 24) k154_21 rfl (ci := 8) (k := 5) (by decide +kernel) (by decide +kernel) (fun x1 => ?_)
  refine e_imul (pc' := 25) k154_24 rfl ?_
  refine e_icmpge (t := 64) (pc' := 28) k154_25 rfl (by decide) (fun _ => ?_) (fun _ => ?_)
  · refine e_iload_n (pc' := 65) k154_64 rfl rfl ?_
    refine e_ifeq (t := 70) (pc' := 68) k154_65 rfl (by decide) (fun _ => ?_) (fun _ => ?_)
    · refine e_iinc (c := 1) (pc' := 73) k154_70 rfl rfl rfl rfl ?_
      refine e_goto (pc' := 6) k154_73 (by decide) ?_
      rfl
    · refine e_iload_n (pc' := 69) k154_68 rfl rfl ?_
      exact e_iret k154_69 (by decide +kernel)
  · refine e_iload_n (pc' := 29) k154_28 rfl rfl ?_
    refine e_ifeq (t := 64) (pc' := 32) k154_29 rfl (by decide) (fun _ => ?_) (fun _ => ?_)
    · refine e_iload_n (pc' := 65) k154_64 rfl rfl ?_
      refine e_ifeq (t := 70) (pc' := 68) k154_65 rfl (by decide) (fun _ => ?_) (fun _ => ?_)
      · refine e_iinc (c := 1) (pc' := 73) k154_70 rfl rfl rfl rfl ?_
        refine e_goto (pc' := 6) k154_73 (by decide) ?_
        rfl
      · refine e_iload_n (pc' := 69) k154_68 rfl rfl ?_
        exact e_iret k154_69 (by decide +kernel)
    · refine e_aload_n (pc' := 33) k154_32 rfl rfl ?_
      refine e_getR (pc' := 36) k154_33 rfl (ci := 8) (k := 24) (by decide +kernel) (by decide +kernel) (fun x2 => ?_)
      refine e_bipush (v := 16) (pc' := 38) k154_36 rfl rfl ?_
      refine e_iload_n (pc' := 39) k154_38 rfl rfl ?_
      refine e_imul (pc' := 40) k154_39 rfl ?_
      refine e_iload_n (pc' := 41) k154_40 rfl rfl ?_
      refine e_iadd (pc' := 42) k154_41 rfl ?_
      refine e_iald (pc' := 43) k154_42 rfl (lw := false) rfl (fun x3 => ?_)
      refine e_aload_n (pc' := 44) k154_43 rfl rfl ?_
      refine e_getR (pc' := 47) k154_44 rfl (ci := 8) (k := 15) (by decide +kernel) (by decide +kernel) (fun x4 => ?_)
      refine e_iload_n (pc' := 48) k154_47 rfl rfl ?_
      refine e_iald (pc' := 49) k154_48 rfl (lw := false) rfl (fun x5 => ?_)
      refine e_icmpne (t := 56) (pc' := 52) k154_49 rfl (by decide) (fun _ => ?_) (fun _ => ?_)
      · refine e_iconst (v := 0) (pc' := 57) k154_56 rfl rfl ?_
        refine e_istore_n (pc' := 58) k154_57 rfl rfl ?_
        refine e_iinc (c := 1) (pc' := 61) k154_58 rfl rfl rfl rfl ?_
        refine e_goto (pc' := 18) k154_61 (by decide) ?_
        rfl
      · refine e_iconst (v := 1) (pc' := 53) k154_52 rfl rfl ?_
        refine e_goto (pc' := 57) k154_53 (by decide) ?_
        refine e_istore_n (pc' := 58) k154_57 rfl rfl ?_
        refine e_iinc (c := 1) (pc' := 61) k154_58 rfl rfl rfl rfl ?_
        refine e_goto (pc' := 18) k154_61 (by decide) ?_
        rfl
theorem q154_91_eq (v0 : Nat) (v1 : Int32) (d2 : Option Value) (d3 : Option Value) (h : mHeap) : q154_91 v0 v1 d2 d3 h = (gI h v0 8 5).bind fun x1 => if (2 * x1) ≤ (v1 : Int32) then ((gR h v0 8 27).bind fun x2 => (gI h v0 8 23).bind fun x3 => (gI h v0 8 17).bind fun x4 => (cAstI h x2 x3 x4).bind fun h5 => (gI h5 v0 8 23).bind fun x6 => (cPut h5 v0 8 23 (.int (x6 + 1))).bind fun h7 => (gI h7 v0 8 23).bind fun x8 => some (some (.int (x8 - 1)), h7)) else ((gR h v0 8 24).bind fun x9 => (gI h v0 8 23).bind fun x10 => (gR h v0 8 15).bind fun x11 => (cAldI false h x11 v1).bind fun x12 => (cAstI h x9 ((16 * x10) + v1) x12).bind fun h13 => q154_91 v0 (v1 + 1) d2 d3 h13) := by
  unfold q154_91
  refine e_iload_n (pc' := 92) k154_91 rfl rfl ?_
  refine e_iconst (v := 2) (pc' := 93) k154_92 rfl rfl ?_
  refine e_aload_n (pc' := 94) k154_93 rfl rfl ?_
  refine e_getI (pc' := 97) k154_94 rfl (ci := 8) (k := 5) (by decide +kernel) (by decide +kernel) (fun x1 => ?_)
  refine e_imul (pc' := 98) k154_97 rfl ?_
  refine e_icmpge (t := 127) (pc' := 101) k154_98 rfl (by decide) (fun _ => ?_) (fun _ => ?_)
  · refine e_aload_n (pc' := 128) k154_127 rfl rfl ?_
    refine e_getR (pc' := 131) k154_128 rfl (ci := 8) (k := 27) (by decide +kernel) (by decide +kernel) (fun x2 => ?_)
    refine e_aload_n (pc' := 132) k154_131 rfl rfl ?_
    refine e_getI (pc' := 135) k154_132 rfl (ci := 8) (k := 23) (by decide +kernel) (by decide +kernel) (fun x3 => ?_)
    refine e_aload_n (pc' := 136) k154_135 rfl rfl ?_
    refine e_getI (pc' := 139) k154_136 rfl (ci := 8) (k := 17) (by decide +kernel) (by decide +kernel) (fun x4 => ?_)
    refine e_iast (pc' := 140) k154_139 rfl (fun h5 => ?_)
    refine e_aload_n (pc' := 141) k154_140 rfl rfl ?_
    refine e_dup (pc' := 142) k154_141 rfl rfl ?_
    refine e_getI (pc' := 145) k154_142 rfl (ci := 8) (k := 23) (by decide +kernel) (by decide +kernel) (fun x6 => ?_)
    refine e_iconst (v := 1) (pc' := 146) k154_145 rfl rfl ?_
    refine e_iadd (pc' := 147) k154_146 rfl ?_
    refine e_put (pc' := 150) k154_147 rfl (ci := 8) (k := 23) (by decide +kernel) (by decide +kernel) rfl (fun h7 => ?_)
    refine e_aload_n (pc' := 151) k154_150 rfl rfl ?_
    refine e_getI (pc' := 154) k154_151 rfl (ci := 8) (k := 23) (by decide +kernel) (by decide +kernel) (fun x8 => ?_)
    refine e_iconst (v := 1) (pc' := 155) k154_154 rfl rfl ?_
    refine e_isub (pc' := 156) k154_155 rfl ?_
    exact e_iret k154_156 (by decide +kernel)
  · refine e_aload_n (pc' := 102) k154_101 rfl rfl ?_
    refine e_getR (pc' := 105) k154_102 rfl (ci := 8) (k := 24) (by decide +kernel) (by decide +kernel) (fun x9 => ?_)
    refine e_bipush (v := 16) (pc' := 107) k154_105 rfl rfl ?_
    refine e_aload_n (pc' := 108) k154_107 rfl rfl ?_
    refine e_getI (pc' := 111) k154_108 rfl (ci := 8) (k := 23) (by decide +kernel) (by decide +kernel) (fun x10 => ?_)
    refine e_imul (pc' := 112) k154_111 rfl ?_
    refine e_iload_n (pc' := 113) k154_112 rfl rfl ?_
    refine e_iadd (pc' := 114) k154_113 rfl ?_
    refine e_aload_n (pc' := 115) k154_114 rfl rfl ?_
    refine e_getR (pc' := 118) k154_115 rfl (ci := 8) (k := 15) (by decide +kernel) (by decide +kernel) (fun x11 => ?_)
    refine e_iload_n (pc' := 119) k154_118 rfl rfl ?_
    refine e_iald (pc' := 120) k154_119 rfl (lw := false) rfl (fun x12 => ?_)
    refine e_iast (pc' := 121) k154_120 rfl (fun h13 => ?_)
    refine e_iinc (c := 1) (pc' := 124) k154_121 rfl rfl rfl rfl ?_
    refine e_goto (pc' := 91) k154_124 (by decide) ?_
    rfl
/-- SquareGroundsModel.found()I -/
theorem F154_eq (v0 : Nat) (h : mHeap) : F 154 [.ref v0] h = (vV 123 v0 [] h).bind fun h1 => q154_6 v0 0 none none h1 := by
  show D 154 0 (mEnt 154 [.ref v0]) [] h 0 0 = _
  rw [show mEnt 154 [.ref v0] = [some (.ref v0), none, none, none] from rfl]
  refine e_aload_n (pc' := 1) k154_0 rfl rfl ?_
  refine e_vV (j' := 123) (as := []) (rest := []) (pc' := 4) k154_1 rfl (show mCk 154 1 150 123 0 = true by decide +kernel) (by decide +kernel) rfl (Nat.le_of_ble_eq_true rfl) (show 1 ≤ mL 123 by decide +kernel) (fun h1 => ?_)
  refine e_iconst (v := 0) (pc' := 5) k154_4 rfl rfl ?_
  refine e_istore_n (pc' := 6) k154_5 rfl rfl ?_
  rfl
theorem k155_0 : decode (mB 155) 0 = .ok (.aload_n 0, 1) := by decide +kernel
theorem k155_1 : decode (mB 155) 1 = .ok (.iconst 0, 1) := by decide +kernel
theorem k155_2 : decode (mB 155) 2 = .ok (.putfield 210, 3) := by decide +kernel
theorem k155_5 : decode (mB 155) 5 = .ok (.aload_n 0, 1) := by decide +kernel
theorem k155_6 : decode (mB 155) 6 = .ok (.invokevirtual 213, 3) := by decide +kernel
theorem k155_9 : decode (mB 155) 9 = .ok (.istore_n 1, 1) := by decide +kernel
theorem k155_10 : decode (mB 155) 10 = .ok (.iconst 0, 1) := by decide +kernel
theorem k155_11 : decode (mB 155) 11 = .ok (.istore_n 2, 1) := by decide +kernel
theorem k155_12 : decode (mB 155) 12 = .ok (.iload_n 2, 1) := by decide +kernel
theorem k155_13 : decode (mB 155) 13 = .ok (.aload_n 0, 1) := by decide +kernel
theorem k155_14 : decode (mB 155) 14 = .ok (.getfield 210, 3) := by decide +kernel
theorem k155_17 : decode (mB 155) 17 = .ok (.if_icmp .ge 99, 3) := by decide +kernel
theorem k155_20 : decode (mB 155) 20 = .ok (.aload_n 0, 1) := by decide +kernel
theorem k155_21 : decode (mB 155) 21 = .ok (.iload_n 2, 1) := by decide +kernel
theorem k155_22 : decode (mB 155) 22 = .ok (.invokevirtual 216, 3) := by decide +kernel
theorem k155_25 : decode (mB 155) 25 = .ok (.aload_n 0, 1) := by decide +kernel
theorem k155_26 : decode (mB 155) 26 = .ok (.getfield 80, 3) := by decide +kernel
theorem k155_29 : decode (mB 155) 29 = .ok (.iload_n 2, 1) := by decide +kernel
theorem k155_30 : decode (mB 155) 30 = .ok (.aload_n 0, 1) := by decide +kernel
theorem k155_31 : decode (mB 155) 31 = .ok (.invokevirtual 192, 3) := by decide +kernel
theorem k155_34 : decode (mB 155) 34 = .ok (.iastore, 1) := by decide +kernel
theorem k155_35 : decode (mB 155) 35 = .ok (.aload_n 0, 1) := by decide +kernel
theorem k155_36 : decode (mB 155) 36 = .ok (.getfield 83, 3) := by decide +kernel
theorem k155_39 : decode (mB 155) 39 = .ok (.iload_n 2, 1) := by decide +kernel
theorem k155_40 : decode (mB 155) 40 = .ok (.aload_n 0, 1) := by decide +kernel
theorem k155_41 : decode (mB 155) 41 = .ok (.invokevirtual 201, 3) := by decide +kernel
theorem k155_44 : decode (mB 155) 44 = .ok (.iastore, 1) := by decide +kernel
theorem k155_45 : decode (mB 155) 45 = .ok (.aload_n 0, 1) := by decide +kernel
theorem k155_46 : decode (mB 155) 46 = .ok (.iconst 0, 1) := by decide +kernel
theorem k155_47 : decode (mB 155) 47 = .ok (.invokevirtual 169, 3) := by decide +kernel
theorem k155_50 : decode (mB 155) 50 = .ok (.aload_n 0, 1) := by decide +kernel
theorem k155_51 : decode (mB 155) 51 = .ok (.getfield 71, 3) := by decide +kernel
theorem k155_54 : decode (mB 155) 54 = .ok (.iload_n 2, 1) := by decide +kernel
theorem k155_55 : decode (mB 155) 55 = .ok (.aload_n 0, 1) := by decide +kernel
theorem k155_56 : decode (mB 155) 56 = .ok (.invokevirtual 213, 3) := by decide +kernel
theorem k155_59 : decode (mB 155) 59 = .ok (.iastore, 1) := by decide +kernel
theorem k155_60 : decode (mB 155) 60 = .ok (.aload_n 0, 1) := by decide +kernel
theorem k155_61 : decode (mB 155) 61 = .ok (.iload_n 2, 1) := by decide +kernel
theorem k155_62 : decode (mB 155) 62 = .ok (.invokevirtual 216, 3) := by decide +kernel
theorem k155_65 : decode (mB 155) 65 = .ok (.aload_n 0, 1) := by decide +kernel
theorem k155_66 : decode (mB 155) 66 = .ok (.iconst 0, 1) := by decide +kernel
theorem k155_67 : decode (mB 155) 67 = .ok (.invokevirtual 176, 3) := by decide +kernel
theorem k155_70 : decode (mB 155) 70 = .ok (.aload_n 0, 1) := by decide +kernel
theorem k155_71 : decode (mB 155) 71 = .ok (.getfield 74, 3) := by decide +kernel
theorem k155_74 : decode (mB 155) 74 = .ok (.iload_n 2, 1) := by decide +kernel
theorem k155_75 : decode (mB 155) 75 = .ok (.aload_n 0, 1) := by decide +kernel
theorem k155_76 : decode (mB 155) 76 = .ok (.getfield 71, 3) := by decide +kernel
theorem k155_79 : decode (mB 155) 79 = .ok (.iload_n 2, 1) := by decide +kernel
theorem k155_80 : decode (mB 155) 80 = .ok (.iaload, 1) := by decide +kernel
theorem k155_81 : decode (mB 155) 81 = .ok (.bipush (-9), 2) := by decide +kernel
theorem k155_83 : decode (mB 155) 83 = .ok (.if_icmp .ne 8, 3) := by decide +kernel
theorem k155_86 : decode (mB 155) 86 = .ok (.bipush (-9), 2) := by decide +kernel
theorem k155_88 : decode (mB 155) 88 = .ok (.goto 7, 3) := by decide +kernel
theorem k155_91 : decode (mB 155) 91 = .ok (.aload_n 0, 1) := by decide +kernel
theorem k155_92 : decode (mB 155) 92 = .ok (.invokevirtual 213, 3) := by decide +kernel
theorem k155_95 : decode (mB 155) 95 = .ok (.iastore, 1) := by decide +kernel
theorem k155_96 : decode (mB 155) 96 = .ok (.aload_n 0, 1) := by decide +kernel
theorem k155_97 : decode (mB 155) 97 = .ok (.getfield 74, 3) := by decide +kernel
theorem k155_100 : decode (mB 155) 100 = .ok (.iload_n 2, 1) := by decide +kernel
theorem k155_101 : decode (mB 155) 101 = .ok (.iaload, 1) := by decide +kernel
theorem k155_102 : decode (mB 155) 102 = .ok (.bipush (-9), 2) := by decide +kernel
theorem k155_104 : decode (mB 155) 104 = .ok (.if_icmp .ne 6, 3) := by decide +kernel
theorem k155_107 : decode (mB 155) 107 = .ok (.bipush (-6), 2) := by decide +kernel
theorem k155_109 : decode (mB 155) 109 = .ok (.ireturn, 1) := by decide +kernel
theorem k155_110 : decode (mB 155) 110 = .ok (.iinc 2 1, 3) := by decide +kernel
theorem k155_113 : decode (mB 155) 113 = .ok (.goto (-101), 3) := by decide +kernel
theorem k155_116 : decode (mB 155) 116 = .ok (.iconst 0, 1) := by decide +kernel
theorem k155_117 : decode (mB 155) 117 = .ok (.ireturn, 1) := by decide +kernel
/-- SquareGroundsModel.setReach, loop at 12 -/
noncomputable def q155_12 (v0 : Nat) (v1 : Int32) (v2 : Int32) (h : mHeap) : mR' := E 155 12 [some (.ref v0), some (.int v1), some (.int v2)] [] h
theorem q155_12_eq (v0 : Nat) (v1 : Int32) (v2 : Int32) (h : mHeap) : q155_12 v0 v1 v2 h = (gI h v0 8 23).bind fun x1 => if x1 ≤ (v2 : Int32) then (some (some (.int 0), h)) else ((vV 153 v0 [.int v2] h).bind fun h2 => (gR h2 v0 8 28).bind fun x3 => (vI 144 v0 [] h2).bind fun q4 => (cAstI q4.2 x3 v2 q4.1).bind fun h5 => (gR h5 v0 8 29).bind fun x6 => (vI 150 v0 [] h5).bind fun q7 => (cAstI q7.2 x6 v2 q7.1).bind fun h8 => (vV 136 v0 [.int 0] h8).bind fun h9 => (gR h9 v0 8 25).bind fun x10 => (vI 154 v0 [] h9).bind fun q11 => (cAstI q11.2 x10 v2 q11.1).bind fun h12 => (vV 153 v0 [.int v2] h12).bind fun h13 => (vV 138 v0 [.int 0] h13).bind fun h14 => (gR h14 v0 8 26).bind fun x15 => (gR h14 v0 8 25).bind fun x16 => (cAldI false h14 x16 v2).bind fun x17 => if ¬ (x17 : Int32) = (-9) then ((vI 154 v0 [] h14).bind fun q18 => (cAstI q18.2 x15 v2 q18.1).bind fun h19 => (gR h19 v0 8 26).bind fun x20 => (cAldI false h19 x20 v2).bind fun x21 => if ¬ (x21 : Int32) = (-9) then (q155_12 v0 v1 (v2 + 1) h19) else (some (some (.int (-6)), h19))) else ((cAstI h14 x15 v2 (-9)).bind fun h22 => (gR h22 v0 8 26).bind fun x23 => (cAldI false h22 x23 v2).bind fun x24 => if ¬ (x24 : Int32) = (-9) then (q155_12 v0 v1 (v2 + 1) h22) else (some (some (.int (-6)), h22)))) := by
  unfold q155_12
  refine e_iload_n (pc' := 13) k155_12 rfl rfl ?_
  refine e_aload_n (pc' := 14) k155_13 rfl rfl ?_
  refine e_getI (pc' := 17) k155_14 rfl (ci := 8) (k := 23) (by decide +kernel) (by decide +kernel) (fun x1 => ?_)
  refine e_icmpge (t := 116) (pc' := 20) k155_17 rfl (by decide) (fun _ => ?_) (fun _ => ?_)
  · refine e_iconst (v := 0) (pc' := 117) k155_116 rfl rfl ?_
    exact e_iret k155_117 (by decide +kernel)
  · refine e_aload_n (pc' := 21) k155_20 rfl rfl ?_
    refine e_iload_n (pc' := 22) k155_21 rfl rfl ?_
    refine e_vV (j' := 153) (as := [.int v2]) (rest := []) (pc' := 25) k155_22 rfl (show mCk 155 1 216 153 1 = true by decide +kernel) (by decide +kernel) rfl (Nat.le_of_ble_eq_true rfl) (show 2 ≤ mL 153 by decide +kernel) (fun h2 => ?_)
    refine e_aload_n (pc' := 26) k155_25 rfl rfl ?_
    refine e_getR (pc' := 29) k155_26 rfl (ci := 8) (k := 28) (by decide +kernel) (by decide +kernel) (fun x3 => ?_)
    refine e_iload_n (pc' := 30) k155_29 rfl rfl ?_
    refine e_aload_n (pc' := 31) k155_30 rfl rfl ?_
    refine e_vI (j' := 144) (as := []) (rest := [.int v2, .ref x3]) (pc' := 34) k155_31 rfl (show mCk 155 1 192 144 0 = true by decide +kernel) (Or.inl (by decide +kernel)) rfl (Nat.le_of_ble_eq_true rfl) (show 1 ≤ mL 144 by decide +kernel) (fun q4 => ?_)
    refine e_iast (pc' := 35) k155_34 rfl (fun h5 => ?_)
    refine e_aload_n (pc' := 36) k155_35 rfl rfl ?_
    refine e_getR (pc' := 39) k155_36 rfl (ci := 8) (k := 29) (by decide +kernel) (by decide +kernel) (fun x6 => ?_)
    refine e_iload_n (pc' := 40) k155_39 rfl rfl ?_
    refine e_aload_n (pc' := 41) k155_40 rfl rfl ?_
    refine e_vI (j' := 150) (as := []) (rest := [.int v2, .ref x6]) (pc' := 44) k155_41 rfl (show mCk 155 1 201 150 0 = true by decide +kernel) (Or.inl (by decide +kernel)) rfl (Nat.le_of_ble_eq_true rfl) (show 1 ≤ mL 150 by decide +kernel) (fun q7 => ?_)
    refine e_iast (pc' := 45) k155_44 rfl (fun h8 => ?_)
    refine e_aload_n (pc' := 46) k155_45 rfl rfl ?_
    refine e_iconst (v := 0) (pc' := 47) k155_46 rfl rfl ?_
    refine e_vV (j' := 136) (as := [.int 0]) (rest := []) (pc' := 50) k155_47 rfl (show mCk 155 1 169 136 1 = true by decide +kernel) (by decide +kernel) rfl (Nat.le_of_ble_eq_true rfl) (show 2 ≤ mL 136 by decide +kernel) (fun h9 => ?_)
    refine e_aload_n (pc' := 51) k155_50 rfl rfl ?_
    refine e_getR (pc' := 54) k155_51 rfl (ci := 8) (k := 25) (by decide +kernel) (by decide +kernel) (fun x10 => ?_)
    refine e_iload_n (pc' := 55) k155_54 rfl rfl ?_
    refine e_aload_n (pc' := 56) k155_55 rfl rfl ?_
    refine e_vI (j' := 154) (as := []) (rest := [.int v2, .ref x10]) (pc' := 59) k155_56 rfl (show mCk 155 1 213 154 0 = true by decide +kernel) (Or.inl (by decide +kernel)) rfl (Nat.le_of_ble_eq_true rfl) (show 1 ≤ mL 154 by decide +kernel) (fun q11 => ?_)
    refine e_iast (pc' := 60) k155_59 rfl (fun h12 => ?_)
    refine e_aload_n (pc' := 61) k155_60 rfl rfl ?_
    refine e_iload_n (pc' := 62) k155_61 rfl rfl ?_
    refine e_vV (j' := 153) (as := [.int v2]) (rest := []) (pc' := 65) k155_62 rfl (show mCk 155 1 216 153 1 = true by decide +kernel) (by decide +kernel) rfl (Nat.le_of_ble_eq_true rfl) (show 2 ≤ mL 153 by decide +kernel) (fun h13 => ?_)
    refine e_aload_n (pc' := 66) k155_65 rfl rfl ?_
    refine e_iconst (v := 0) (pc' := 67) k155_66 rfl rfl ?_
    refine e_vV (j' := 138) (as := [.int 0]) (rest := []) (pc' := 70) k155_67 rfl (show mCk 155 1 176 138 1 = true by decide +kernel) (by decide +kernel) rfl (Nat.le_of_ble_eq_true rfl) (show 2 ≤ mL 138 by decide +kernel) (fun h14 => ?_)
    refine e_aload_n (pc' := 71) k155_70 rfl rfl ?_
    refine e_getR (pc' := 74) k155_71 rfl (ci := 8) (k := 26) (by decide +kernel) (by decide +kernel) (fun x15 => ?_)
    refine e_iload_n (pc' := 75) k155_74 rfl rfl ?_
    refine e_aload_n (pc' := 76) k155_75 rfl rfl ?_
    refine e_getR (pc' := 79) k155_76 rfl (ci := 8) (k := 25) (by decide +kernel) (by decide +kernel) (fun x16 => ?_)
    refine e_iload_n (pc' := 80) k155_79 rfl rfl ?_
    refine e_iald (pc' := 81) k155_80 rfl (lw := false) rfl (fun x17 => ?_)
    refine e_bipush (v := -9) (pc' := 83) k155_81 rfl rfl ?_
    refine e_icmpne (t := 91) (pc' := 86) k155_83 rfl (by decide) (fun _ => ?_) (fun _ => ?_)
    · refine e_aload_n (pc' := 92) k155_91 rfl rfl ?_
      refine e_vI (j' := 154) (as := []) (rest := [.int v2, .ref x15]) (pc' := 95) k155_92 rfl (show mCk 155 1 213 154 0 = true by decide +kernel) (Or.inl (by decide +kernel)) rfl (Nat.le_of_ble_eq_true rfl) (show 1 ≤ mL 154 by decide +kernel) (fun q18 => ?_)
      refine e_iast (pc' := 96) k155_95 rfl (fun h19 => ?_)
      refine e_aload_n (pc' := 97) k155_96 rfl rfl ?_
      refine e_getR (pc' := 100) k155_97 rfl (ci := 8) (k := 26) (by decide +kernel) (by decide +kernel) (fun x20 => ?_)
      refine e_iload_n (pc' := 101) k155_100 rfl rfl ?_
      refine e_iald (pc' := 102) k155_101 rfl (lw := false) rfl (fun x21 => ?_)
      refine e_bipush (v := -9) (pc' := 104) k155_102 rfl rfl ?_
      refine e_icmpne (t := 110) (pc' := 107) k155_104 rfl (by decide) (fun _ => ?_) (fun _ => ?_)
      · refine e_iinc (c := 1) (pc' := 113) k155_110 rfl rfl rfl rfl ?_
        refine e_goto (pc' := 12) k155_113 (by decide) ?_
        rfl
      · refine e_bipush (v := -6) (pc' := 109) k155_107 rfl rfl ?_
        exact e_iret k155_109 (by decide +kernel)
    · refine e_bipush (v := -9) (pc' := 88) k155_86 rfl rfl ?_
      refine e_goto (pc' := 95) k155_88 (by decide) ?_
      refine e_iast (pc' := 96) k155_95 rfl (fun h22 => ?_)
      refine e_aload_n (pc' := 97) k155_96 rfl rfl ?_
      refine e_getR (pc' := 100) k155_97 rfl (ci := 8) (k := 26) (by decide +kernel) (by decide +kernel) (fun x23 => ?_)
      refine e_iload_n (pc' := 101) k155_100 rfl rfl ?_
      refine e_iald (pc' := 102) k155_101 rfl (lw := false) rfl (fun x24 => ?_)
      refine e_bipush (v := -9) (pc' := 104) k155_102 rfl rfl ?_
      refine e_icmpne (t := 110) (pc' := 107) k155_104 rfl (by decide) (fun _ => ?_) (fun _ => ?_)
      · refine e_iinc (c := 1) (pc' := 113) k155_110 rfl rfl rfl rfl ?_
        refine e_goto (pc' := 12) k155_113 (by decide) ?_
        rfl
      · refine e_bipush (v := -6) (pc' := 109) k155_107 rfl rfl ?_
        exact e_iret k155_109 (by decide +kernel)
/-- SquareGroundsModel.setReach()I -/
theorem F155_eq (v0 : Nat) (h : mHeap) : F 155 [.ref v0] h = (cPut h v0 8 23 (.int 0)).bind fun h1 => (vI 154 v0 [] h1).bind fun q2 => q155_12 v0 q2.1 0 q2.2 := by
  show D 155 0 (mEnt 155 [.ref v0]) [] h 0 0 = _
  rw [show mEnt 155 [.ref v0] = [some (.ref v0), none, none] from rfl]
  refine e_aload_n (pc' := 1) k155_0 rfl rfl ?_
  refine e_iconst (v := 0) (pc' := 2) k155_1 rfl rfl ?_
  refine e_put (pc' := 5) k155_2 rfl (ci := 8) (k := 23) (by decide +kernel) (by decide +kernel) rfl (fun h1 => ?_)
  refine e_aload_n (pc' := 6) k155_5 rfl rfl ?_
  refine e_vI (j' := 154) (as := []) (rest := []) (pc' := 9) k155_6 rfl (show mCk 155 1 213 154 0 = true by decide +kernel) (Or.inl (by decide +kernel)) rfl (Nat.le_of_ble_eq_true rfl) (show 1 ≤ mL 154 by decide +kernel) (fun q2 => ?_)
  refine e_istore_n (pc' := 10) k155_9 rfl rfl ?_
  refine e_iconst (v := 0) (pc' := 11) k155_10 rfl rfl ?_
  refine e_istore_n (pc' := 12) k155_11 rfl rfl ?_
  rfl
theorem k156_0 : decode (mB 156) 0 = .ok (.aload_n 0, 1) := by decide +kernel
theorem k156_1 : decode (mB 156) 1 = .ok (.iload_n 1, 1) := by decide +kernel
theorem k156_2 : decode (mB 156) 2 = .ok (.invokevirtual 128, 3) := by decide +kernel
theorem k156_5 : decode (mB 156) 5 = .ok (.istore_n 2, 1) := by decide +kernel
theorem k156_6 : decode (mB 156) 6 = .ok (.iload_n 2, 1) := by decide +kernel
theorem k156_7 : decode (mB 156) 7 = .ok (.ifCond .ge 7, 3) := by decide +kernel
theorem k156_10 : decode (mB 156) 10 = .ok (.iload_n 2, 1) := by decide +kernel
theorem k156_11 : decode (mB 156) 11 = .ok (.goto 7, 3) := by decide +kernel
theorem k156_14 : decode (mB 156) 14 = .ok (.aload_n 0, 1) := by decide +kernel
theorem k156_15 : decode (mB 156) 15 = .ok (.invokevirtual 219, 3) := by decide +kernel
theorem k156_18 : decode (mB 156) 18 = .ok (.ireturn, 1) := by decide +kernel
/-- SquareGroundsModel.askedReach(I)I -/
theorem F156_eq (v0 : Nat) (v1 : Int32) (h : mHeap) : F 156 [.ref v0, .int v1] h = (vI 110 v0 [.int v1] h).bind fun q1 => if 0 ≤ (q1.1 : Int32) then ((vI 155 v0 [] q1.2).bind fun q2 => some (some (.int q2.1), q2.2)) else (some (some (.int q1.1), q1.2)) := by
  show D 156 0 (mEnt 156 [.ref v0, .int v1]) [] h 0 0 = _
  rw [show mEnt 156 [.ref v0, .int v1] = [some (.ref v0), some (.int v1), none] from rfl]
  refine e_aload_n (pc' := 1) k156_0 rfl rfl ?_
  refine e_iload_n (pc' := 2) k156_1 rfl rfl ?_
  refine e_vI (j' := 110) (as := [.int v1]) (rest := []) (pc' := 5) k156_2 rfl (show mCk 156 1 128 110 1 = true by decide +kernel) (Or.inl (by decide +kernel)) rfl (Nat.le_of_ble_eq_true rfl) (show 2 ≤ mL 110 by decide +kernel) (fun q1 => ?_)
  refine e_istore_n (pc' := 6) k156_5 rfl rfl ?_
  refine e_iload_n (pc' := 7) k156_6 rfl rfl ?_
  refine e_ifge (t := 14) (pc' := 10) k156_7 rfl (by decide) (fun _ => ?_) (fun _ => ?_)
  · refine e_aload_n (pc' := 15) k156_14 rfl rfl ?_
    refine e_vI (j' := 155) (as := []) (rest := []) (pc' := 18) k156_15 rfl (show mCk 156 1 219 155 0 = true by decide +kernel) (Or.inl (by decide +kernel)) rfl (Nat.le_of_ble_eq_true rfl) (show 1 ≤ mL 155 by decide +kernel) (fun q2 => ?_)
    exact e_iret k156_18 (by decide +kernel)
  · refine e_iload_n (pc' := 11) k156_10 rfl rfl ?_
    refine e_goto (pc' := 18) k156_11 (by decide) ?_
    exact e_iret k156_18 (by decide +kernel)
theorem k157_0 : decode (mB 157) 0 = .ok (.aload_n 0, 1) := by decide +kernel
theorem k157_1 : decode (mB 157) 1 = .ok (.iload_n 1, 1) := by decide +kernel
theorem k157_2 : decode (mB 157) 2 = .ok (.invokevirtual 222, 3) := by decide +kernel
theorem k157_5 : decode (mB 157) 5 = .ok (.istore_n 2, 1) := by decide +kernel
theorem k157_6 : decode (mB 157) 6 = .ok (.iload_n 2, 1) := by decide +kernel
theorem k157_7 : decode (mB 157) 7 = .ok (.ifCond .ge 7, 3) := by decide +kernel
theorem k157_10 : decode (mB 157) 10 = .ok (.iload_n 2, 1) := by decide +kernel
theorem k157_11 : decode (mB 157) 11 = .ok (.goto 7, 3) := by decide +kernel
theorem k157_14 : decode (mB 157) 14 = .ok (.aload_n 0, 1) := by decide +kernel
theorem k157_15 : decode (mB 157) 15 = .ok (.getfield 210, 3) := by decide +kernel
theorem k157_18 : decode (mB 157) 18 = .ok (.ireturn, 1) := by decide +kernel
/-- SquareGroundsModel.reach(I)I -/
theorem F157_eq (v0 : Nat) (v1 : Int32) (h : mHeap) : F 157 [.ref v0, .int v1] h = (vI 156 v0 [.int v1] h).bind fun q1 => if 0 ≤ (q1.1 : Int32) then ((gI q1.2 v0 8 23).bind fun x2 => some (some (.int x2), q1.2)) else (some (some (.int q1.1), q1.2)) := by
  show D 157 0 (mEnt 157 [.ref v0, .int v1]) [] h 0 0 = _
  rw [show mEnt 157 [.ref v0, .int v1] = [some (.ref v0), some (.int v1), none] from rfl]
  refine e_aload_n (pc' := 1) k157_0 rfl rfl ?_
  refine e_iload_n (pc' := 2) k157_1 rfl rfl ?_
  refine e_vI (j' := 156) (as := [.int v1]) (rest := []) (pc' := 5) k157_2 rfl (show mCk 157 1 222 156 1 = true by decide +kernel) (Or.inl (by decide +kernel)) rfl (Nat.le_of_ble_eq_true rfl) (show 2 ≤ mL 156 by decide +kernel) (fun q1 => ?_)
  refine e_istore_n (pc' := 6) k157_5 rfl rfl ?_
  refine e_iload_n (pc' := 7) k157_6 rfl rfl ?_
  refine e_ifge (t := 14) (pc' := 10) k157_7 rfl (by decide) (fun _ => ?_) (fun _ => ?_)
  · refine e_aload_n (pc' := 15) k157_14 rfl rfl ?_
    refine e_getI (pc' := 18) k157_15 rfl (ci := 8) (k := 23) (by decide +kernel) (by decide +kernel) (fun x2 => ?_)
    exact e_iret k157_18 (by decide +kernel)
  · refine e_iload_n (pc' := 11) k157_10 rfl rfl ?_
    refine e_goto (pc' := 18) k157_11 (by decide) ?_
    exact e_iret k157_18 (by decide +kernel)
theorem k158_0 : decode (mB 158) 0 = .ok (.iload_n 3, 1) := by decide +kernel
theorem k158_1 : decode (mB 158) 1 = .ok (.iconst 0, 1) := by decide +kernel
theorem k158_2 : decode (mB 158) 2 = .ok (.iconst 3, 1) := by decide +kernel
theorem k158_3 : decode (mB 158) 3 = .ok (.invokestatic 90, 3) := by decide +kernel
theorem k158_6 : decode (mB 158) 6 = .ok (.ifCond .ne 5, 3) := by decide +kernel
theorem k158_9 : decode (mB 158) 9 = .ok (.iconst (-1), 1) := by decide +kernel
theorem k158_10 : decode (mB 158) 10 = .ok (.ireturn, 1) := by decide +kernel
theorem k158_11 : decode (mB 158) 11 = .ok (.aload_n 0, 1) := by decide +kernel
theorem k158_12 : decode (mB 158) 12 = .ok (.iload_n 1, 1) := by decide +kernel
theorem k158_13 : decode (mB 158) 13 = .ok (.invokevirtual 222, 3) := by decide +kernel
theorem k158_16 : decode (mB 158) 16 = .ok (.istore 4, 2) := by decide +kernel
theorem k158_18 : decode (mB 158) 18 = .ok (.iload 4, 2) := by decide +kernel
theorem k158_20 : decode (mB 158) 20 = .ok (.ifCond .ge 6, 3) := by decide +kernel
theorem k158_23 : decode (mB 158) 23 = .ok (.iload 4, 2) := by decide +kernel
theorem k158_25 : decode (mB 158) 25 = .ok (.ireturn, 1) := by decide +kernel
theorem k158_26 : decode (mB 158) 26 = .ok (.iload_n 2, 1) := by decide +kernel
theorem k158_27 : decode (mB 158) 27 = .ok (.iconst 0, 1) := by decide +kernel
theorem k158_28 : decode (mB 158) 28 = .ok (.aload_n 0, 1) := by decide +kernel
theorem k158_29 : decode (mB 158) 29 = .ok (.getfield 210, 3) := by decide +kernel
theorem k158_32 : decode (mB 158) 32 = .ok (.iconst 1, 1) := by decide +kernel
theorem k158_33 : decode (mB 158) 33 = .ok (.isub, 1) := by decide +kernel
theorem k158_34 : decode (mB 158) 34 = .ok (.invokestatic 90, 3) := by decide +kernel
theorem k158_37 : decode (mB 158) 37 = .ok (.ifCond .ne 8, 3) := by decide +kernel
theorem k158_40 : decode (mB 158) 40 = .ok (.bipush (-9), 2) := by decide +kernel
theorem k158_42 : decode (mB 158) 42 = .ok (.goto 50, 3) := by decide +kernel
theorem k158_45 : decode (mB 158) 45 = .ok (.iload_n 3, 1) := by decide +kernel
theorem k158_46 : decode (mB 158) 46 = .ok (.ifCond .ne 12, 3) := by decide +kernel
theorem k158_49 : decode (mB 158) 49 = .ok (.aload_n 0, 1) := by decide +kernel
theorem k158_50 : decode (mB 158) 50 = .ok (.getfield 71, 3) := by decide +kernel
theorem k158_53 : decode (mB 158) 53 = .ok (.iload_n 2, 1) := by decide +kernel
theorem k158_54 : decode (mB 158) 54 = .ok (.iaload, 1) := by decide +kernel
theorem k158_55 : decode (mB 158) 55 = .ok (.goto 37, 3) := by decide +kernel
theorem k158_58 : decode (mB 158) 58 = .ok (.iload_n 3, 1) := by decide +kernel
theorem k158_59 : decode (mB 158) 59 = .ok (.iconst 1, 1) := by decide +kernel
theorem k158_60 : decode (mB 158) 60 = .ok (.if_icmp .ne 12, 3) := by decide +kernel
theorem k158_63 : decode (mB 158) 63 = .ok (.aload_n 0, 1) := by decide +kernel
theorem k158_64 : decode (mB 158) 64 = .ok (.getfield 74, 3) := by decide +kernel
theorem k158_67 : decode (mB 158) 67 = .ok (.iload_n 2, 1) := by decide +kernel
theorem k158_68 : decode (mB 158) 68 = .ok (.iaload, 1) := by decide +kernel
theorem k158_69 : decode (mB 158) 69 = .ok (.goto 23, 3) := by decide +kernel
theorem k158_72 : decode (mB 158) 72 = .ok (.iload_n 3, 1) := by decide +kernel
theorem k158_73 : decode (mB 158) 73 = .ok (.iconst 2, 1) := by decide +kernel
theorem k158_74 : decode (mB 158) 74 = .ok (.if_icmp .ne 12, 3) := by decide +kernel
theorem k158_77 : decode (mB 158) 77 = .ok (.aload_n 0, 1) := by decide +kernel
theorem k158_78 : decode (mB 158) 78 = .ok (.getfield 77, 3) := by decide +kernel
theorem k158_81 : decode (mB 158) 81 = .ok (.iload_n 2, 1) := by decide +kernel
theorem k158_82 : decode (mB 158) 82 = .ok (.iaload, 1) := by decide +kernel
theorem k158_83 : decode (mB 158) 83 = .ok (.goto 9, 3) := by decide +kernel
theorem k158_86 : decode (mB 158) 86 = .ok (.aload_n 0, 1) := by decide +kernel
theorem k158_87 : decode (mB 158) 87 = .ok (.getfield 80, 3) := by decide +kernel
theorem k158_90 : decode (mB 158) 90 = .ok (.iload_n 2, 1) := by decide +kernel
theorem k158_91 : decode (mB 158) 91 = .ok (.iaload, 1) := by decide +kernel
theorem k158_92 : decode (mB 158) 92 = .ok (.ireturn, 1) := by decide +kernel
/-- SquareGroundsModel.reached(III)I -/
theorem F158_eq (v0 : Nat) (v1 : Int32) (v2 : Int32) (v3 : Int32) (h : mHeap) : F 158 [.ref v0, .int v1, .int v2, .int v3] h = (sI 100 [.int v3, .int 0, .int 3] h).bind fun q1 => if ¬ (q1.1 : Int32) = 0 then ((vI 156 v0 [.int v1] q1.2).bind fun q2 => if 0 ≤ (q2.1 : Int32) then ((gI q2.2 v0 8 23).bind fun x3 => (sI 100 [.int v2, .int 0, .int (x3 - 1)] q2.2).bind fun q4 => if ¬ (q4.1 : Int32) = 0 then (if ¬ (v3 : Int32) = 0 then (if ¬ (v3 : Int32) = 1 then (if ¬ (v3 : Int32) = 2 then ((gR q4.2 v0 8 28).bind fun x5 => (cAldI false q4.2 x5 v2).bind fun x6 => some (some (.int x6), q4.2)) else ((gR q4.2 v0 8 27).bind fun x7 => (cAldI false q4.2 x7 v2).bind fun x8 => some (some (.int x8), q4.2))) else ((gR q4.2 v0 8 26).bind fun x9 => (cAldI false q4.2 x9 v2).bind fun x10 => some (some (.int x10), q4.2))) else ((gR q4.2 v0 8 25).bind fun x11 => (cAldI false q4.2 x11 v2).bind fun x12 => some (some (.int x12), q4.2))) else (some (some (.int (-9)), q4.2))) else (some (some (.int q2.1), q2.2))) else (some (some (.int (-1)), q1.2)) := by
  show D 158 0 (mEnt 158 [.ref v0, .int v1, .int v2, .int v3]) [] h 0 0 = _
  rw [show mEnt 158 [.ref v0, .int v1, .int v2, .int v3] = [some (.ref v0), some (.int v1), some (.int v2), some (.int v3), none] from rfl]
  refine e_iload_n (pc' := 1) k158_0 rfl rfl ?_
  refine e_iconst (v := 0) (pc' := 2) k158_1 rfl rfl ?_
  refine e_iconst (v := 3) (pc' := 3) k158_2 rfl rfl ?_
  refine e_sI (j' := 100) (as := [.int v3, .int 0, .int 3]) (rest := []) (pc' := 6) k158_3 rfl (show mCk 158 0 90 100 3 = true by decide +kernel) (Or.inr (by decide +kernel)) rfl (Nat.le_of_ble_eq_true rfl) (show 3 ≤ mL 100 by decide +kernel) (fun q1 => ?_)
  refine e_ifne (t := 11) (pc' := 9) k158_6 rfl (by decide) (fun _ => ?_) (fun _ => ?_)
  · refine e_aload_n (pc' := 12) k158_11 rfl rfl ?_
    refine e_iload_n (pc' := 13) k158_12 rfl rfl ?_
    refine e_vI (j' := 156) (as := [.int v1]) (rest := []) (pc' := 16) k158_13 rfl (show mCk 158 1 222 156 1 = true by decide +kernel) (Or.inl (by decide +kernel)) rfl (Nat.le_of_ble_eq_true rfl) (show 2 ≤ mL 156 by decide +kernel) (fun q2 => ?_)
    refine e_istore (pc' := 18) k158_16 rfl rfl ?_
    refine e_iload (pc' := 20) k158_18 rfl rfl ?_
    refine e_ifge (t := 26) (pc' := 23) k158_20 rfl (by decide) (fun _ => ?_) (fun _ => ?_)
    · refine e_iload_n (pc' := 27) k158_26 rfl rfl ?_
      refine e_iconst (v := 0) (pc' := 28) k158_27 rfl rfl ?_
      refine e_aload_n (pc' := 29) k158_28 rfl rfl ?_
      refine e_getI (pc' := 32) k158_29 rfl (ci := 8) (k := 23) (by decide +kernel) (by decide +kernel) (fun x3 => ?_)
      refine e_iconst (v := 1) (pc' := 33) k158_32 rfl rfl ?_
      refine e_isub (pc' := 34) k158_33 rfl ?_
      refine e_sI (j' := 100) (as := [.int v2, .int 0, .int (x3 - 1)]) (rest := []) (pc' := 37) k158_34 rfl (show mCk 158 0 90 100 3 = true by decide +kernel) (Or.inr (by decide +kernel)) rfl (Nat.le_of_ble_eq_true rfl) (show 3 ≤ mL 100 by decide +kernel) (fun q4 => ?_)
      refine e_ifne (t := 45) (pc' := 40) k158_37 rfl (by decide) (fun _ => ?_) (fun _ => ?_)
      · refine e_iload_n (pc' := 46) k158_45 rfl rfl ?_
        refine e_ifne (t := 58) (pc' := 49) k158_46 rfl (by decide) (fun _ => ?_) (fun _ => ?_)
        · refine e_iload_n (pc' := 59) k158_58 rfl rfl ?_
          refine e_iconst (v := 1) (pc' := 60) k158_59 rfl rfl ?_
          refine e_icmpne (t := 72) (pc' := 63) k158_60 rfl (by decide) (fun _ => ?_) (fun _ => ?_)
          · refine e_iload_n (pc' := 73) k158_72 rfl rfl ?_
            refine e_iconst (v := 2) (pc' := 74) k158_73 rfl rfl ?_
            refine e_icmpne (t := 86) (pc' := 77) k158_74 rfl (by decide) (fun _ => ?_) (fun _ => ?_)
            · refine e_aload_n (pc' := 87) k158_86 rfl rfl ?_
              refine e_getR (pc' := 90) k158_87 rfl (ci := 8) (k := 28) (by decide +kernel) (by decide +kernel) (fun x5 => ?_)
              refine e_iload_n (pc' := 91) k158_90 rfl rfl ?_
              refine e_iald (pc' := 92) k158_91 rfl (lw := false) rfl (fun x6 => ?_)
              exact e_iret k158_92 (by decide +kernel)
            · refine e_aload_n (pc' := 78) k158_77 rfl rfl ?_
              refine e_getR (pc' := 81) k158_78 rfl (ci := 8) (k := 27) (by decide +kernel) (by decide +kernel) (fun x7 => ?_)
              refine e_iload_n (pc' := 82) k158_81 rfl rfl ?_
              refine e_iald (pc' := 83) k158_82 rfl (lw := false) rfl (fun x8 => ?_)
              refine e_goto (pc' := 92) k158_83 (by decide) ?_
              exact e_iret k158_92 (by decide +kernel)
          · refine e_aload_n (pc' := 64) k158_63 rfl rfl ?_
            refine e_getR (pc' := 67) k158_64 rfl (ci := 8) (k := 26) (by decide +kernel) (by decide +kernel) (fun x9 => ?_)
            refine e_iload_n (pc' := 68) k158_67 rfl rfl ?_
            refine e_iald (pc' := 69) k158_68 rfl (lw := false) rfl (fun x10 => ?_)
            refine e_goto (pc' := 92) k158_69 (by decide) ?_
            exact e_iret k158_92 (by decide +kernel)
        · refine e_aload_n (pc' := 50) k158_49 rfl rfl ?_
          refine e_getR (pc' := 53) k158_50 rfl (ci := 8) (k := 25) (by decide +kernel) (by decide +kernel) (fun x11 => ?_)
          refine e_iload_n (pc' := 54) k158_53 rfl rfl ?_
          refine e_iald (pc' := 55) k158_54 rfl (lw := false) rfl (fun x12 => ?_)
          refine e_goto (pc' := 92) k158_55 (by decide) ?_
          exact e_iret k158_92 (by decide +kernel)
      · refine e_bipush (v := -9) (pc' := 42) k158_40 rfl rfl ?_
        refine e_goto (pc' := 92) k158_42 (by decide) ?_
        exact e_iret k158_92 (by decide +kernel)
    · refine e_iload (pc' := 25) k158_23 rfl rfl ?_
      exact e_iret k158_25 (by decide +kernel)
  · refine e_iconst (v := -1) (pc' := 10) k158_9 rfl rfl ?_
    exact e_iret k158_10 (by decide +kernel)
theorem k159_0 : decode (mB 159) 0 = .ok (.iconst 1, 1) := by decide +kernel
theorem k159_1 : decode (mB 159) 1 = .ok (.istore_n 2, 1) := by decide +kernel
theorem k159_2 : decode (mB 159) 2 = .ok (.aload_n 0, 1) := by decide +kernel
theorem k159_3 : decode (mB 159) 3 = .ok (.getfield 71, 3) := by decide +kernel
theorem k159_6 : decode (mB 159) 6 = .ok (.iload_n 1, 1) := by decide +kernel
theorem k159_7 : decode (mB 159) 7 = .ok (.iaload, 1) := by decide +kernel
theorem k159_8 : decode (mB 159) 8 = .ok (.istore_n 3, 1) := by decide +kernel
theorem k159_9 : decode (mB 159) 9 = .ok (.iload_n 3, 1) := by decide +kernel
theorem k159_10 : decode (mB 159) 10 = .ok (.iload_n 1, 1) := by decide +kernel
theorem k159_11 : decode (mB 159) 11 = .ok (.if_icmp .eq 23, 3) := by decide +kernel
theorem k159_14 : decode (mB 159) 14 = .ok (.iload_n 3, 1) := by decide +kernel
theorem k159_15 : decode (mB 159) 15 = .ok (.iload_n 1, 1) := by decide +kernel
theorem k159_16 : decode (mB 159) 16 = .ok (.if_icmp .ge 5, 3) := by decide +kernel
theorem k159_19 : decode (mB 159) 19 = .ok (.iconst 0, 1) := by decide +kernel
theorem k159_20 : decode (mB 159) 20 = .ok (.ireturn, 1) := by decide +kernel
theorem k159_21 : decode (mB 159) 21 = .ok (.iinc 2 1, 3) := by decide +kernel
theorem k159_24 : decode (mB 159) 24 = .ok (.aload_n 0, 1) := by decide +kernel
theorem k159_25 : decode (mB 159) 25 = .ok (.getfield 71, 3) := by decide +kernel
theorem k159_28 : decode (mB 159) 28 = .ok (.iload_n 3, 1) := by decide +kernel
theorem k159_29 : decode (mB 159) 29 = .ok (.iaload, 1) := by decide +kernel
theorem k159_30 : decode (mB 159) 30 = .ok (.istore_n 3, 1) := by decide +kernel
theorem k159_31 : decode (mB 159) 31 = .ok (.goto (-22), 3) := by decide +kernel
theorem k159_34 : decode (mB 159) 34 = .ok (.iload_n 2, 1) := by decide +kernel
theorem k159_35 : decode (mB 159) 35 = .ok (.ireturn, 1) := by decide +kernel
/-- SquareGroundsModel.roundOf, loop at 9 -/
noncomputable def q159_9 (v0 : Nat) (v1 : Int32) (v2 : Int32) (v3 : Int32) (h : mHeap) : mR' := E 159 9 [some (.ref v0), some (.int v1), some (.int v2), some (.int v3)] [] h
theorem q159_9_eq (v0 : Nat) (v1 : Int32) (v2 : Int32) (v3 : Int32) (h : mHeap) : q159_9 v0 v1 v2 v3 h = if (v3 : Int32) = v1 then (some (some (.int v2), h)) else (if v1 ≤ (v3 : Int32) then ((gR h v0 8 25).bind fun x1 => (cAldI false h x1 v3).bind fun x2 => q159_9 v0 v1 (v2 + 1) x2 h) else (some (some (.int 0), h))) := by
  unfold q159_9
  refine e_iload_n (pc' := 10) k159_9 rfl rfl ?_
  refine e_iload_n (pc' := 11) k159_10 rfl rfl ?_
  refine e_icmpeq (t := 34) (pc' := 14) k159_11 rfl (by decide) (fun _ => ?_) (fun _ => ?_)
  · refine e_iload_n (pc' := 35) k159_34 rfl rfl ?_
    exact e_iret k159_35 (by decide +kernel)
  · refine e_iload_n (pc' := 15) k159_14 rfl rfl ?_
    refine e_iload_n (pc' := 16) k159_15 rfl rfl ?_
    refine e_icmpge (t := 21) (pc' := 19) k159_16 rfl (by decide) (fun _ => ?_) (fun _ => ?_)
    · refine e_iinc (c := 1) (pc' := 24) k159_21 rfl rfl rfl rfl ?_
      refine e_aload_n (pc' := 25) k159_24 rfl rfl ?_
      refine e_getR (pc' := 28) k159_25 rfl (ci := 8) (k := 25) (by decide +kernel) (by decide +kernel) (fun x1 => ?_)
      refine e_iload_n (pc' := 29) k159_28 rfl rfl ?_
      refine e_iald (pc' := 30) k159_29 rfl (lw := false) rfl (fun x2 => ?_)
      refine e_istore_n (pc' := 31) k159_30 rfl rfl ?_
      refine e_goto (pc' := 9) k159_31 (by decide) ?_
      rfl
    · refine e_iconst (v := 0) (pc' := 20) k159_19 rfl rfl ?_
      exact e_iret k159_20 (by decide +kernel)
/-- SquareGroundsModel.roundOf(I)I -/
theorem F159_eq (v0 : Nat) (v1 : Int32) (h : mHeap) : F 159 [.ref v0, .int v1] h = (gR h v0 8 25).bind fun x1 => (cAldI false h x1 v1).bind fun x2 => q159_9 v0 v1 1 x2 h := by
  show D 159 0 (mEnt 159 [.ref v0, .int v1]) [] h 0 0 = _
  rw [show mEnt 159 [.ref v0, .int v1] = [some (.ref v0), some (.int v1), none, none] from rfl]
  refine e_iconst (v := 1) (pc' := 1) k159_0 rfl rfl ?_
  refine e_istore_n (pc' := 2) k159_1 rfl rfl ?_
  refine e_aload_n (pc' := 3) k159_2 rfl rfl ?_
  refine e_getR (pc' := 6) k159_3 rfl (ci := 8) (k := 25) (by decide +kernel) (by decide +kernel) (fun x1 => ?_)
  refine e_iload_n (pc' := 7) k159_6 rfl rfl ?_
  refine e_iald (pc' := 8) k159_7 rfl (lw := false) rfl (fun x2 => ?_)
  refine e_istore_n (pc' := 9) k159_8 rfl rfl ?_
  rfl
theorem k160_0 : decode (mB 160) 0 = .ok (.aload_n 0, 1) := by decide +kernel
theorem k160_1 : decode (mB 160) 1 = .ok (.iload_n 1, 1) := by decide +kernel
theorem k160_2 : decode (mB 160) 2 = .ok (.invokevirtual 222, 3) := by decide +kernel
theorem k160_5 : decode (mB 160) 5 = .ok (.istore_n 2, 1) := by decide +kernel
theorem k160_6 : decode (mB 160) 6 = .ok (.iload_n 2, 1) := by decide +kernel
theorem k160_7 : decode (mB 160) 7 = .ok (.ifCond .ge 5, 3) := by decide +kernel
theorem k160_10 : decode (mB 160) 10 = .ok (.iload_n 2, 1) := by decide +kernel
theorem k160_11 : decode (mB 160) 11 = .ok (.ireturn, 1) := by decide +kernel
theorem k160_12 : decode (mB 160) 12 = .ok (.iconst 0, 1) := by decide +kernel
theorem k160_13 : decode (mB 160) 13 = .ok (.istore_n 3, 1) := by decide +kernel
theorem k160_14 : decode (mB 160) 14 = .ok (.iconst 0, 1) := by decide +kernel
theorem k160_15 : decode (mB 160) 15 = .ok (.istore 4, 2) := by decide +kernel
theorem k160_17 : decode (mB 160) 17 = .ok (.iload 4, 2) := by decide +kernel
theorem k160_19 : decode (mB 160) 19 = .ok (.aload_n 0, 1) := by decide +kernel
theorem k160_20 : decode (mB 160) 20 = .ok (.getfield 210, 3) := by decide +kernel
theorem k160_23 : decode (mB 160) 23 = .ok (.if_icmp .ge 26, 3) := by decide +kernel
theorem k160_26 : decode (mB 160) 26 = .ok (.iload_n 3, 1) := by decide +kernel
theorem k160_27 : decode (mB 160) 27 = .ok (.aload_n 0, 1) := by decide +kernel
theorem k160_28 : decode (mB 160) 28 = .ok (.iload 4, 2) := by decide +kernel
theorem k160_30 : decode (mB 160) 30 = .ok (.invokevirtual 225, 3) := by decide +kernel
theorem k160_33 : decode (mB 160) 33 = .ok (.ifCond .le 7, 3) := by decide +kernel
theorem k160_36 : decode (mB 160) 36 = .ok (.iconst 1, 1) := by decide +kernel
theorem k160_37 : decode (mB 160) 37 = .ok (.goto 4, 3) := by decide +kernel
theorem k160_40 : decode (mB 160) 40 = .ok (.iconst 0, 1) := by decide +kernel
theorem k160_41 : decode (mB 160) 41 = .ok (.iadd, 1) := by decide +kernel
theorem k160_42 : decode (mB 160) 42 = .ok (.istore_n 3, 1) := by decide +kernel
theorem k160_43 : decode (mB 160) 43 = .ok (.iinc 4 1, 3) := by decide +kernel
theorem k160_46 : decode (mB 160) 46 = .ok (.goto (-29), 3) := by decide +kernel
theorem k160_49 : decode (mB 160) 49 = .ok (.iload_n 3, 1) := by decide +kernel
theorem k160_50 : decode (mB 160) 50 = .ok (.ireturn, 1) := by decide +kernel
/-- SquareGroundsModel.cusps, loop at 17 -/
noncomputable def q160_17 (v0 : Nat) (v1 : Int32) (v2 : Int32) (v3 : Int32) (v4 : Int32) (h : mHeap) : mR' := E 160 17 [some (.ref v0), some (.int v1), some (.int v2), some (.int v3), some (.int v4)] [] h
theorem q160_17_eq (v0 : Nat) (v1 : Int32) (v2 : Int32) (v3 : Int32) (v4 : Int32) (h : mHeap) : q160_17 v0 v1 v2 v3 v4 h = (gI h v0 8 23).bind fun x1 => if x1 ≤ (v4 : Int32) then (some (some (.int v3), h)) else ((vI 159 v0 [.int v4] h).bind fun q2 => if (q2.1 : Int32) ≤ 0 then (q160_17 v0 v1 v2 (v3 + 0) (v4 + 1) q2.2) else (q160_17 v0 v1 v2 (v3 + 1) (v4 + 1) q2.2)) := by
  unfold q160_17
  refine e_iload (pc' := 19) k160_17 rfl rfl ?_
  refine e_aload_n (pc' := 20) k160_19 rfl rfl ?_
  refine e_getI (pc' := 23) k160_20 rfl (ci := 8) (k := 23) (by decide +kernel) (by decide +kernel) (fun x1 => ?_)
  refine e_icmpge (t := 49) (pc' := 26) k160_23 rfl (by decide) (fun _ => ?_) (fun _ => ?_)
  · refine e_iload_n (pc' := 50) k160_49 rfl rfl ?_
    exact e_iret k160_50 (by decide +kernel)
  · refine e_iload_n (pc' := 27) k160_26 rfl rfl ?_
    refine e_aload_n (pc' := 28) k160_27 rfl rfl ?_
    refine e_iload (pc' := 30) k160_28 rfl rfl ?_
    refine e_vI (j' := 159) (as := [.int v4]) (rest := [.int v3]) (pc' := 33) k160_30 rfl (show mCk 160 1 225 159 1 = true by decide +kernel) (Or.inl (by decide +kernel)) rfl (Nat.le_of_ble_eq_true rfl) (show 2 ≤ mL 159 by decide +kernel) (fun q2 => ?_)
    refine e_ifle (t := 40) (pc' := 36) k160_33 rfl (by decide) (fun _ => ?_) (fun _ => ?_)
    · refine e_iconst (v := 0) (pc' := 41) k160_40 rfl rfl ?_
      refine e_iadd (pc' := 42) k160_41 rfl ?_
      refine e_istore_n (pc' := 43) k160_42 rfl rfl ?_
      refine e_iinc (c := 1) (pc' := 46) k160_43 rfl rfl rfl rfl ?_
      refine e_goto (pc' := 17) k160_46 (by decide) ?_
      rfl
    · refine e_iconst (v := 1) (pc' := 37) k160_36 rfl rfl ?_
      refine e_goto (pc' := 41) k160_37 (by decide) ?_
      refine e_iadd (pc' := 42) k160_41 rfl ?_
      refine e_istore_n (pc' := 43) k160_42 rfl rfl ?_
      refine e_iinc (c := 1) (pc' := 46) k160_43 rfl rfl rfl rfl ?_
      refine e_goto (pc' := 17) k160_46 (by decide) ?_
      rfl
/-- SquareGroundsModel.cusps(I)I -/
theorem F160_eq (v0 : Nat) (v1 : Int32) (h : mHeap) : F 160 [.ref v0, .int v1] h = (vI 156 v0 [.int v1] h).bind fun q1 => if 0 ≤ (q1.1 : Int32) then (q160_17 v0 v1 q1.1 0 0 q1.2) else (some (some (.int q1.1), q1.2)) := by
  show D 160 0 (mEnt 160 [.ref v0, .int v1]) [] h 0 0 = _
  rw [show mEnt 160 [.ref v0, .int v1] = [some (.ref v0), some (.int v1), none, none, none] from rfl]
  refine e_aload_n (pc' := 1) k160_0 rfl rfl ?_
  refine e_iload_n (pc' := 2) k160_1 rfl rfl ?_
  refine e_vI (j' := 156) (as := [.int v1]) (rest := []) (pc' := 5) k160_2 rfl (show mCk 160 1 222 156 1 = true by decide +kernel) (Or.inl (by decide +kernel)) rfl (Nat.le_of_ble_eq_true rfl) (show 2 ≤ mL 156 by decide +kernel) (fun q1 => ?_)
  refine e_istore_n (pc' := 6) k160_5 rfl rfl ?_
  refine e_iload_n (pc' := 7) k160_6 rfl rfl ?_
  refine e_ifge (t := 12) (pc' := 10) k160_7 rfl (by decide) (fun _ => ?_) (fun _ => ?_)
  · refine e_iconst (v := 0) (pc' := 13) k160_12 rfl rfl ?_
    refine e_istore_n (pc' := 14) k160_13 rfl rfl ?_
    refine e_iconst (v := 0) (pc' := 15) k160_14 rfl rfl ?_
    refine e_istore (pc' := 17) k160_15 rfl rfl ?_
    rfl
  · refine e_iload_n (pc' := 11) k160_10 rfl rfl ?_
    exact e_iret k160_11 (by decide +kernel)
theorem k161_0 : decode (mB 161) 0 = .ok (.aload_n 0, 1) := by decide +kernel
theorem k161_1 : decode (mB 161) 1 = .ok (.iload_n 1, 1) := by decide +kernel
theorem k161_2 : decode (mB 161) 2 = .ok (.invokevirtual 222, 3) := by decide +kernel
theorem k161_5 : decode (mB 161) 5 = .ok (.istore_n 3, 1) := by decide +kernel
theorem k161_6 : decode (mB 161) 6 = .ok (.iload_n 3, 1) := by decide +kernel
theorem k161_7 : decode (mB 161) 7 = .ok (.ifCond .ge 5, 3) := by decide +kernel
theorem k161_10 : decode (mB 161) 10 = .ok (.iload_n 3, 1) := by decide +kernel
theorem k161_11 : decode (mB 161) 11 = .ok (.ireturn, 1) := by decide +kernel
theorem k161_12 : decode (mB 161) 12 = .ok (.iconst 0, 1) := by decide +kernel
theorem k161_13 : decode (mB 161) 13 = .ok (.istore 4, 2) := by decide +kernel
theorem k161_15 : decode (mB 161) 15 = .ok (.iconst 0, 1) := by decide +kernel
theorem k161_16 : decode (mB 161) 16 = .ok (.istore 5, 2) := by decide +kernel
theorem k161_18 : decode (mB 161) 18 = .ok (.iload 5, 2) := by decide +kernel
theorem k161_20 : decode (mB 161) 20 = .ok (.aload_n 0, 1) := by decide +kernel
theorem k161_21 : decode (mB 161) 21 = .ok (.getfield 210, 3) := by decide +kernel
theorem k161_24 : decode (mB 161) 24 = .ok (.if_icmp .ge 34, 3) := by decide +kernel
theorem k161_27 : decode (mB 161) 27 = .ok (.aload_n 0, 1) := by decide +kernel
theorem k161_28 : decode (mB 161) 28 = .ok (.iload 5, 2) := by decide +kernel
theorem k161_30 : decode (mB 161) 30 = .ok (.invokevirtual 225, 3) := by decide +kernel
theorem k161_33 : decode (mB 161) 33 = .ok (.istore 6, 2) := by decide +kernel
theorem k161_35 : decode (mB 161) 35 = .ok (.iload 6, 2) := by decide +kernel
theorem k161_37 : decode (mB 161) 37 = .ok (.ifCond .le 15, 3) := by decide +kernel
theorem k161_40 : decode (mB 161) 40 = .ok (.iload 4, 2) := by decide +kernel
theorem k161_42 : decode (mB 161) 42 = .ok (.iload_n 2, 1) := by decide +kernel
theorem k161_43 : decode (mB 161) 43 = .ok (.if_icmp .ne 6, 3) := by decide +kernel
theorem k161_46 : decode (mB 161) 46 = .ok (.iload 6, 2) := by decide +kernel
theorem k161_48 : decode (mB 161) 48 = .ok (.ireturn, 1) := by decide +kernel
theorem k161_49 : decode (mB 161) 49 = .ok (.iinc 4 1, 3) := by decide +kernel
theorem k161_52 : decode (mB 161) 52 = .ok (.iinc 5 1, 3) := by decide +kernel
theorem k161_55 : decode (mB 161) 55 = .ok (.goto (-37), 3) := by decide +kernel
theorem k161_58 : decode (mB 161) 58 = .ok (.bipush (-9), 2) := by decide +kernel
theorem k161_60 : decode (mB 161) 60 = .ok (.ireturn, 1) := by decide +kernel
/-- SquareGroundsModel.width, loop at 18 -/
noncomputable def q161_18 (v0 : Nat) (v1 : Int32) (v2 : Int32) (v3 : Int32) (v4 : Int32) (v5 : Int32) (d6 : Option Value) (h : mHeap) : mR' := E 161 18 [some (.ref v0), some (.int v1), some (.int v2), some (.int v3), some (.int v4), some (.int v5), d6] [] h
theorem q161_18_eq (v0 : Nat) (v1 : Int32) (v2 : Int32) (v3 : Int32) (v4 : Int32) (v5 : Int32) (d6 : Option Value) (h : mHeap) : q161_18 v0 v1 v2 v3 v4 v5 d6 h = (gI h v0 8 23).bind fun x1 => if x1 ≤ (v5 : Int32) then (some (some (.int (-9)), h)) else ((vI 159 v0 [.int v5] h).bind fun q2 => if (q2.1 : Int32) ≤ 0 then (q161_18 v0 v1 v2 v3 v4 (v5 + 1) (some (.int q2.1)) q2.2) else (if ¬ (v4 : Int32) = v2 then (q161_18 v0 v1 v2 v3 (v4 + 1) (v5 + 1) (some (.int q2.1)) q2.2) else (some (some (.int q2.1), q2.2)))) := by
  unfold q161_18
  refine e_iload (pc' := 20) k161_18 rfl rfl ?_
  refine e_aload_n (pc' := 21) k161_20 rfl rfl ?_
  refine e_getI (pc' := 24) k161_21 rfl (ci := 8) (k := 23) (by decide +kernel) (by decide +kernel) (fun x1 => ?_)
  refine e_icmpge (t := 58) (pc' := 27) k161_24 rfl (by decide) (fun _ => ?_) (fun _ => ?_)
  · refine e_bipush (v := -9) (pc' := 60) k161_58 rfl rfl ?_
    exact e_iret k161_60 (by decide +kernel)
  · refine e_aload_n (pc' := 28) k161_27 rfl rfl ?_
    refine e_iload (pc' := 30) k161_28 rfl rfl ?_
    refine e_vI (j' := 159) (as := [.int v5]) (rest := []) (pc' := 33) k161_30 rfl (show mCk 161 1 225 159 1 = true by decide +kernel) (Or.inl (by decide +kernel)) rfl (Nat.le_of_ble_eq_true rfl) (show 2 ≤ mL 159 by decide +kernel) (fun q2 => ?_)
    refine e_istore (pc' := 35) k161_33 rfl rfl ?_
    refine e_iload (pc' := 37) k161_35 rfl rfl ?_
    refine e_ifle (t := 52) (pc' := 40) k161_37 rfl (by decide) (fun _ => ?_) (fun _ => ?_)
    · refine e_iinc (c := 1) (pc' := 55) k161_52 rfl rfl rfl rfl ?_
      refine e_goto (pc' := 18) k161_55 (by decide) ?_
      rfl
    · refine e_iload (pc' := 42) k161_40 rfl rfl ?_
      refine e_iload_n (pc' := 43) k161_42 rfl rfl ?_
      refine e_icmpne (t := 49) (pc' := 46) k161_43 rfl (by decide) (fun _ => ?_) (fun _ => ?_)
      · refine e_iinc (c := 1) (pc' := 52) k161_49 rfl rfl rfl rfl ?_
        refine e_iinc (c := 1) (pc' := 55) k161_52 rfl rfl rfl rfl ?_
        refine e_goto (pc' := 18) k161_55 (by decide) ?_
        rfl
      · refine e_iload (pc' := 48) k161_46 rfl rfl ?_
        exact e_iret k161_48 (by decide +kernel)
/-- SquareGroundsModel.width(II)I -/
theorem F161_eq (v0 : Nat) (v1 : Int32) (v2 : Int32) (h : mHeap) : F 161 [.ref v0, .int v1, .int v2] h = (vI 156 v0 [.int v1] h).bind fun q1 => if 0 ≤ (q1.1 : Int32) then (q161_18 v0 v1 v2 q1.1 0 0 none q1.2) else (some (some (.int q1.1), q1.2)) := by
  show D 161 0 (mEnt 161 [.ref v0, .int v1, .int v2]) [] h 0 0 = _
  rw [show mEnt 161 [.ref v0, .int v1, .int v2] = [some (.ref v0), some (.int v1), some (.int v2), none, none, none, none] from rfl]
  refine e_aload_n (pc' := 1) k161_0 rfl rfl ?_
  refine e_iload_n (pc' := 2) k161_1 rfl rfl ?_
  refine e_vI (j' := 156) (as := [.int v1]) (rest := []) (pc' := 5) k161_2 rfl (show mCk 161 1 222 156 1 = true by decide +kernel) (Or.inl (by decide +kernel)) rfl (Nat.le_of_ble_eq_true rfl) (show 2 ≤ mL 156 by decide +kernel) (fun q1 => ?_)
  refine e_istore_n (pc' := 6) k161_5 rfl rfl ?_
  refine e_iload_n (pc' := 7) k161_6 rfl rfl ?_
  refine e_ifge (t := 12) (pc' := 10) k161_7 rfl (by decide) (fun _ => ?_) (fun _ => ?_)
  · refine e_iconst (v := 0) (pc' := 13) k161_12 rfl rfl ?_
    refine e_istore (pc' := 15) k161_13 rfl rfl ?_
    refine e_iconst (v := 0) (pc' := 16) k161_15 rfl rfl ?_
    refine e_istore (pc' := 18) k161_16 rfl rfl ?_
    rfl
  · refine e_iload_n (pc' := 11) k161_10 rfl rfl ?_
    exact e_iret k161_11 (by decide +kernel)
theorem k162_0 : decode (mB 162) 0 = .ok (.lconst 0, 1) := by decide +kernel
theorem k162_1 : decode (mB 162) 1 = .ok (.lstore_n 1, 1) := by decide +kernel
theorem k162_2 : decode (mB 162) 2 = .ok (.iconst 0, 1) := by decide +kernel
theorem k162_3 : decode (mB 162) 3 = .ok (.istore_n 3, 1) := by decide +kernel
theorem k162_4 : decode (mB 162) 4 = .ok (.iload_n 3, 1) := by decide +kernel
theorem k162_5 : decode (mB 162) 5 = .ok (.aload_n 0, 1) := by decide +kernel
theorem k162_6 : decode (mB 162) 6 = .ok (.getfield 210, 3) := by decide +kernel
theorem k162_9 : decode (mB 162) 9 = .ok (.if_icmp .ge 19, 3) := by decide +kernel
theorem k162_12 : decode (mB 162) 12 = .ok (.lload_n 1, 1) := by decide +kernel
theorem k162_13 : decode (mB 162) 13 = .ok (.aload_n 0, 1) := by decide +kernel
theorem k162_14 : decode (mB 162) 14 = .ok (.getfield 83, 3) := by decide +kernel
theorem k162_17 : decode (mB 162) 17 = .ok (.iload_n 3, 1) := by decide +kernel
theorem k162_18 : decode (mB 162) 18 = .ok (.iaload, 1) := by decide +kernel
theorem k162_19 : decode (mB 162) 19 = .ok (.i2l, 1) := by decide +kernel
theorem k162_20 : decode (mB 162) 20 = .ok (.ladd, 1) := by decide +kernel
theorem k162_21 : decode (mB 162) 21 = .ok (.lstore_n 1, 1) := by decide +kernel
theorem k162_22 : decode (mB 162) 22 = .ok (.iinc 3 1, 3) := by decide +kernel
theorem k162_25 : decode (mB 162) 25 = .ok (.goto (-21), 3) := by decide +kernel
theorem k162_28 : decode (mB 162) 28 = .ok (.lload_n 1, 1) := by decide +kernel
theorem k162_29 : decode (mB 162) 29 = .ok (.lreturn, 1) := by decide +kernel
/-- SquareGroundsModel.allShares, loop at 4 -/
noncomputable def q162_4 (v0 : Nat) (v1 : Int64) (v3 : Int32) (h : mHeap) : mR' := E 162 4 [some (.ref v0), some (.long v1), none, some (.int v3)] [] h
theorem q162_4_eq (v0 : Nat) (v1 : Int64) (v3 : Int32) (h : mHeap) : q162_4 v0 v1 v3 h = (gI h v0 8 23).bind fun x1 => if x1 ≤ (v3 : Int32) then (some (some (.long v1), h)) else ((gR h v0 8 29).bind fun x2 => (cAldI false h x2 v3).bind fun x3 => q162_4 v0 (v1 + (Int32.toInt64 x3)) (v3 + 1) h) := by
  unfold q162_4
  refine e_iload_n (pc' := 5) k162_4 rfl rfl ?_
  refine e_aload_n (pc' := 6) k162_5 rfl rfl ?_
  refine e_getI (pc' := 9) k162_6 rfl (ci := 8) (k := 23) (by decide +kernel) (by decide +kernel) (fun x1 => ?_)
  refine e_icmpge (t := 28) (pc' := 12) k162_9 rfl (by decide) (fun _ => ?_) (fun _ => ?_)
  · refine e_lload_n (pc' := 29) k162_28 rfl rfl ?_
    exact e_lret k162_29 (by decide +kernel)
  · refine e_lload_n (pc' := 13) k162_12 rfl rfl ?_
    refine e_aload_n (pc' := 14) k162_13 rfl rfl ?_
    refine e_getR (pc' := 17) k162_14 rfl (ci := 8) (k := 29) (by decide +kernel) (by decide +kernel) (fun x2 => ?_)
    refine e_iload_n (pc' := 18) k162_17 rfl rfl ?_
    refine e_iald (pc' := 19) k162_18 rfl (lw := false) rfl (fun x3 => ?_)
    refine e_i2l (pc' := 20) k162_19 rfl ?_
    refine e_ladd (pc' := 21) k162_20 rfl ?_
    refine e_lstore_n (pc' := 22) k162_21 rfl rfl ?_
    refine e_iinc (c := 1) (pc' := 25) k162_22 rfl rfl rfl rfl ?_
    refine e_goto (pc' := 4) k162_25 (by decide) ?_
    rfl
/-- SquareGroundsModel.allShares()J -/
theorem F162_eq (v0 : Nat) (h : mHeap) : F 162 [.ref v0] h = q162_4 v0 0 0 h := by
  show D 162 0 (mEnt 162 [.ref v0]) [] h 0 0 = _
  rw [show mEnt 162 [.ref v0] = [some (.ref v0), none, none, none] from rfl]
  refine e_lconst (v := 0) (pc' := 1) k162_0 rfl rfl ?_
  refine e_lstore_n (pc' := 2) k162_1 rfl rfl ?_
  refine e_iconst (v := 0) (pc' := 3) k162_2 rfl rfl ?_
  refine e_istore_n (pc' := 4) k162_3 rfl rfl ?_
  rfl
theorem k163_0 : decode (mB 163) 0 = .ok (.aload_n 0, 1) := by decide +kernel
theorem k163_1 : decode (mB 163) 1 = .ok (.iload_n 1, 1) := by decide +kernel
theorem k163_2 : decode (mB 163) 2 = .ok (.invokevirtual 222, 3) := by decide +kernel
theorem k163_5 : decode (mB 163) 5 = .ok (.istore_n 2, 1) := by decide +kernel
theorem k163_6 : decode (mB 163) 6 = .ok (.iload_n 2, 1) := by decide +kernel
theorem k163_7 : decode (mB 163) 7 = .ok (.ifCond .ge 7, 3) := by decide +kernel
theorem k163_10 : decode (mB 163) 10 = .ok (.iload_n 2, 1) := by decide +kernel
theorem k163_11 : decode (mB 163) 11 = .ok (.goto 20, 3) := by decide +kernel
theorem k163_14 : decode (mB 163) 14 = .ok (.aload_n 0, 1) := by decide +kernel
theorem k163_15 : decode (mB 163) 15 = .ok (.aload_n 0, 1) := by decide +kernel
theorem k163_16 : decode (mB 163) 16 = .ok (.invokevirtual 228, 3) := by decide +kernel
theorem k163_19 : decode (mB 163) 19 = .ok (.ldc2_w 204, 3) := by decide +kernel
theorem k163_22 : decode (mB 163) 22 = .ok (.aload_n 0, 1) := by decide +kernel
theorem k163_23 : decode (mB 163) 23 = .ok (.getfield 210, 3) := by decide +kernel
theorem k163_26 : decode (mB 163) 26 = .ok (.i2l, 1) := by decide +kernel
theorem k163_27 : decode (mB 163) 27 = .ok (.lmul, 1) := by decide +kernel
theorem k163_28 : decode (mB 163) 28 = .ok (.invokevirtual 206, 3) := by decide +kernel
theorem k163_31 : decode (mB 163) 31 = .ok (.ireturn, 1) := by decide +kernel
/-- SquareGroundsModel.meanShare(I)I -/
theorem F163_eq (v0 : Nat) (v1 : Int32) (h : mHeap) : F 163 [.ref v0, .int v1] h = (vI 156 v0 [.int v1] h).bind fun q1 => if 0 ≤ (q1.1 : Int32) then ((vL 162 v0 [] q1.2).bind fun q2 => (gI q2.2 v0 8 23).bind fun x3 => (vI 151 v0 [.long q2.1, .long (840 * (Int32.toInt64 x3))] q2.2).bind fun q4 => some (some (.int q4.1), q4.2)) else (some (some (.int q1.1), q1.2)) := by
  show D 163 0 (mEnt 163 [.ref v0, .int v1]) [] h 0 0 = _
  rw [show mEnt 163 [.ref v0, .int v1] = [some (.ref v0), some (.int v1), none] from rfl]
  refine e_aload_n (pc' := 1) k163_0 rfl rfl ?_
  refine e_iload_n (pc' := 2) k163_1 rfl rfl ?_
  refine e_vI (j' := 156) (as := [.int v1]) (rest := []) (pc' := 5) k163_2 rfl (show mCk 163 1 222 156 1 = true by decide +kernel) (Or.inl (by decide +kernel)) rfl (Nat.le_of_ble_eq_true rfl) (show 2 ≤ mL 156 by decide +kernel) (fun q1 => ?_)
  refine e_istore_n (pc' := 6) k163_5 rfl rfl ?_
  refine e_iload_n (pc' := 7) k163_6 rfl rfl ?_
  refine e_ifge (t := 14) (pc' := 10) k163_7 rfl (by decide) (fun _ => ?_) (fun _ => ?_)
  · refine e_aload_n (pc' := 15) k163_14 rfl rfl ?_
    refine e_aload_n (pc' := 16) k163_15 rfl rfl ?_
    refine e_vL (j' := 162) (as := []) (rest := [.ref v0]) (pc' := 19) k163_16 rfl (show mCk 163 1 228 162 0 = true by decide +kernel) (by decide +kernel) rfl (Nat.le_of_ble_eq_true rfl) (show 1 ≤ mL 162 by decide +kernel) (fun q2 => ?_)
    refine e_ldc2 (v := 840) (pc' := 22) k163_19 rfl (by decide +kernel) ?_
    refine e_aload_n (pc' := 23) k163_22 rfl rfl ?_
    refine e_getI (pc' := 26) k163_23 rfl (ci := 8) (k := 23) (by decide +kernel) (by decide +kernel) (fun x3 => ?_)
    refine e_i2l (pc' := 27) k163_26 rfl ?_
    refine e_lmul (pc' := 28) k163_27 rfl ?_
    refine e_vI (j' := 151) (as := [.long q2.1, .long (840 * (Int32.toInt64 x3))]) (rest := []) (pc' := 31) k163_28 rfl (show mCk 163 1 206 151 2 = true by decide +kernel) (Or.inl (by decide +kernel)) rfl (Nat.le_of_ble_eq_true rfl) (show 5 ≤ mL 151 by decide +kernel) (fun q4 => ?_)
    exact e_iret k163_31 (by decide +kernel)
  · refine e_iload_n (pc' := 11) k163_10 rfl rfl ?_
    refine e_goto (pc' := 31) k163_11 (by decide) ?_
    exact e_iret k163_31 (by decide +kernel)
theorem k164_0 : decode (mB 164) 0 = .ok (.aload_n 0, 1) := by decide +kernel
theorem k164_1 : decode (mB 164) 1 = .ok (.iload_n 1, 1) := by decide +kernel
theorem k164_2 : decode (mB 164) 2 = .ok (.invokevirtual 128, 3) := by decide +kernel
theorem k164_5 : decode (mB 164) 5 = .ok (.istore_n 2, 1) := by decide +kernel
theorem k164_6 : decode (mB 164) 6 = .ok (.iload_n 2, 1) := by decide +kernel
theorem k164_7 : decode (mB 164) 7 = .ok (.ifCond .ge 5, 3) := by decide +kernel
theorem k164_10 : decode (mB 164) 10 = .ok (.iload_n 2, 1) := by decide +kernel
theorem k164_11 : decode (mB 164) 11 = .ok (.ireturn, 1) := by decide +kernel
theorem k164_12 : decode (mB 164) 12 = .ok (.lconst 0, 1) := by decide +kernel
theorem k164_13 : decode (mB 164) 13 = .ok (.lstore_n 3, 1) := by decide +kernel
theorem k164_14 : decode (mB 164) 14 = .ok (.iconst 0, 1) := by decide +kernel
theorem k164_15 : decode (mB 164) 15 = .ok (.istore 5, 2) := by decide +kernel
theorem k164_17 : decode (mB 164) 17 = .ok (.iload 5, 2) := by decide +kernel
theorem k164_19 : decode (mB 164) 19 = .ok (.aload_n 0, 1) := by decide +kernel
theorem k164_20 : decode (mB 164) 20 = .ok (.getfield 105, 3) := by decide +kernel
theorem k164_23 : decode (mB 164) 23 = .ok (.if_icmp .ge 48, 3) := by decide +kernel
theorem k164_26 : decode (mB 164) 26 = .ok (.aload_n 0, 1) := by decide +kernel
theorem k164_27 : decode (mB 164) 27 = .ok (.iload 5, 2) := by decide +kernel
theorem k164_29 : decode (mB 164) 29 = .ok (.invokevirtual 134, 3) := by decide +kernel
theorem k164_32 : decode (mB 164) 32 = .ok (.ifCond .eq 33, 3) := by decide +kernel
theorem k164_35 : decode (mB 164) 35 = .ok (.aload_n 0, 1) := by decide +kernel
theorem k164_36 : decode (mB 164) 36 = .ok (.iload 5, 2) := by decide +kernel
theorem k164_38 : decode (mB 164) 38 = .ok (.invokevirtual 137, 3) := by decide +kernel
theorem k164_41 : decode (mB 164) 41 = .ok (.istore 6, 2) := by decide +kernel
theorem k164_43 : decode (mB 164) 43 = .ok (.lload_n 3, 1) := by decide +kernel
theorem k164_44 : decode (mB 164) 44 = .ok (.iload 6, 2) := by decide +kernel
theorem k164_46 : decode (mB 164) 46 = .ok (.i2l, 1) := by decide +kernel
theorem k164_47 : decode (mB 164) 47 = .ok (.iload 6, 2) := by decide +kernel
theorem k164_49 : decode (mB 164) 49 = .ok (.iconst 2, 1) := by decide +kernel
theorem k164_50 : decode (mB 164) 50 = .ok (.iadd, 1) := by decide +kernel
theorem k164_51 : decode (mB 164) 51 = .ok (.i2l, 1) := by decide +kernel
theorem k164_52 : decode (mB 164) 52 = .ok (.lmul, 1) := by decide +kernel
theorem k164_53 : decode (mB 164) 53 = .ok (.sipush 840, 3) := by decide +kernel
theorem k164_56 : decode (mB 164) 56 = .ok (.iload 6, 2) := by decide +kernel
theorem k164_58 : decode (mB 164) 58 = .ok (.iconst 1, 1) := by decide +kernel
theorem k164_59 : decode (mB 164) 59 = .ok (.iadd, 1) := by decide +kernel
theorem k164_60 : decode (mB 164) 60 = .ok (.idiv, 1) := by decide +kernel
theorem k164_61 : decode (mB 164) 61 = .ok (.i2l, 1) := by decide +kernel
theorem k164_62 : decode (mB 164) 62 = .ok (.lmul, 1) := by decide +kernel
theorem k164_63 : decode (mB 164) 63 = .ok (.ladd, 1) := by decide +kernel
theorem k164_64 : decode (mB 164) 64 = .ok (.lstore_n 3, 1) := by decide +kernel
theorem k164_65 : decode (mB 164) 65 = .ok (.iinc 5 1, 3) := by decide +kernel
theorem k164_68 : decode (mB 164) 68 = .ok (.goto (-51), 3) := by decide +kernel
theorem k164_71 : decode (mB 164) 71 = .ok (.aload_n 0, 1) := by decide +kernel
theorem k164_72 : decode (mB 164) 72 = .ok (.invokevirtual 219, 3) := by decide +kernel
theorem k164_75 : decode (mB 164) 75 = .ok (.istore_n 2, 1) := by decide +kernel
theorem k164_76 : decode (mB 164) 76 = .ok (.iload_n 2, 1) := by decide +kernel
theorem k164_77 : decode (mB 164) 77 = .ok (.ifCond .ge 7, 3) := by decide +kernel
theorem k164_80 : decode (mB 164) 80 = .ok (.iload_n 2, 1) := by decide +kernel
theorem k164_81 : decode (mB 164) 81 = .ok (.goto 32, 3) := by decide +kernel
theorem k164_84 : decode (mB 164) 84 = .ok (.aload_n 0, 1) := by decide +kernel
theorem k164_85 : decode (mB 164) 85 = .ok (.lload_n 3, 1) := by decide +kernel
theorem k164_86 : decode (mB 164) 86 = .ok (.aload_n 0, 1) := by decide +kernel
theorem k164_87 : decode (mB 164) 87 = .ok (.getfield 210, 3) := by decide +kernel
theorem k164_90 : decode (mB 164) 90 = .ok (.i2l, 1) := by decide +kernel
theorem k164_91 : decode (mB 164) 91 = .ok (.lmul, 1) := by decide +kernel
theorem k164_92 : decode (mB 164) 92 = .ok (.ldc2_w 232, 3) := by decide +kernel
theorem k164_95 : decode (mB 164) 95 = .ok (.aload_n 0, 1) := by decide +kernel
theorem k164_96 : decode (mB 164) 96 = .ok (.invokevirtual 228, 3) := by decide +kernel
theorem k164_99 : decode (mB 164) 99 = .ok (.lmul, 1) := by decide +kernel
theorem k164_100 : decode (mB 164) 100 = .ok (.ladd, 1) := by decide +kernel
theorem k164_101 : decode (mB 164) 101 = .ok (.ldc2_w 234, 3) := by decide +kernel
theorem k164_104 : decode (mB 164) 104 = .ok (.aload_n 0, 1) := by decide +kernel
theorem k164_105 : decode (mB 164) 105 = .ok (.getfield 210, 3) := by decide +kernel
theorem k164_108 : decode (mB 164) 108 = .ok (.i2l, 1) := by decide +kernel
theorem k164_109 : decode (mB 164) 109 = .ok (.lmul, 1) := by decide +kernel
theorem k164_110 : decode (mB 164) 110 = .ok (.invokevirtual 206, 3) := by decide +kernel
theorem k164_113 : decode (mB 164) 113 = .ok (.ireturn, 1) := by decide +kernel
/-- SquareGroundsModel.twist, loop at 17 -/
noncomputable def q164_17 (v0 : Nat) (v1 : Int32) (v2 : Int32) (v3 : Int64) (v5 : Int32) (d6 : Option Value) (h : mHeap) : mR' := E 164 17 [some (.ref v0), some (.int v1), some (.int v2), some (.long v3), none, some (.int v5), d6] [] h
theorem q164_17_eq (v0 : Nat) (v1 : Int32) (v2 : Int32) (v3 : Int64) (v5 : Int32) (d6 : Option Value) (h : mHeap) : q164_17 v0 v1 v2 v3 v5 d6 h = (gI h v0 8 5).bind fun x1 => if x1 ≤ (v5 : Int32) then ((vI 155 v0 [] h).bind fun q2 => if 0 ≤ (q2.1 : Int32) then ((gI q2.2 v0 8 23).bind fun x3 => (vL 162 v0 [] q2.2).bind fun q4 => (gI q4.2 v0 8 23).bind fun x5 => (vI 151 v0 [.long ((v3 * (Int32.toInt64 x3)) + (12 * q4.1)), .long (10080 * (Int32.toInt64 x5))] q4.2).bind fun q6 => some (some (.int q6.1), q6.2)) else (some (some (.int q2.1), q2.2))) else ((vI 120 v0 [.int v5] h).bind fun q7 => if (q7.1 : Int32) = 0 then (q164_17 v0 v1 v2 v3 (v5 + 1) d6 q7.2) else ((vI 119 v0 [.int v5] q7.2).bind fun q8 => if ((q8.1 + 1) : Int32) = 0 then none else (q164_17 v0 v1 v2 (v3 + (((Int32.toInt64 q8.1) * (Int32.toInt64 (q8.1 + 2))) * (Int32.toInt64 (840 / (q8.1 + 1))))) (v5 + 1) (some (.int q8.1)) q8.2))) := by
  unfold q164_17
  refine e_iload (pc' := 19) k164_17 rfl rfl ?_
  refine e_aload_n (pc' := 20) k164_19 rfl rfl ?_
  refine e_getI (pc' := 23) k164_20 rfl (ci := 8) (k := 5) (by decide +kernel) (by decide +kernel) (fun x1 => ?_)
  refine e_icmpge (t := 71) (pc' := 26) k164_23 rfl (by decide) (fun _ => ?_) (fun _ => ?_)
  · refine e_aload_n (pc' := 72) k164_71 rfl rfl ?_
    refine e_vI (j' := 155) (as := []) (rest := []) (pc' := 75) k164_72 rfl (show mCk 164 1 219 155 0 = true by decide +kernel) (Or.inl (by decide +kernel)) rfl (Nat.le_of_ble_eq_true rfl) (show 1 ≤ mL 155 by decide +kernel) (fun q2 => ?_)
    refine e_istore_n (pc' := 76) k164_75 rfl rfl ?_
    refine e_iload_n (pc' := 77) k164_76 rfl rfl ?_
    refine e_ifge (t := 84) (pc' := 80) k164_77 rfl (by decide) (fun _ => ?_) (fun _ => ?_)
    · refine e_aload_n (pc' := 85) k164_84 rfl rfl ?_
      refine e_lload_n (pc' := 86) k164_85 rfl rfl ?_
      refine e_aload_n (pc' := 87) k164_86 rfl rfl ?_
      refine e_getI (pc' := 90) k164_87 rfl (ci := 8) (k := 23) (by decide +kernel) (by decide +kernel) (fun x3 => ?_)
      refine e_i2l (pc' := 91) k164_90 rfl ?_
      refine e_lmul (pc' := 92) k164_91 rfl ?_
      refine e_ldc2 (v := 12) (pc' := 95) k164_92 rfl (by decide +kernel) ?_
      refine e_aload_n (pc' := 96) k164_95 rfl rfl ?_
      refine e_vL (j' := 162) (as := []) (rest := [.long 12, .long (v3 * (Int32.toInt64 x3)), .ref v0]) (pc' := 99) k164_96 rfl (show mCk 164 1 228 162 0 = true by decide +kernel) (by decide +kernel) rfl (Nat.le_of_ble_eq_true rfl) (show 1 ≤ mL 162 by decide +kernel) (fun q4 => ?_)
      refine e_lmul (pc' := 100) k164_99 rfl ?_
      refine e_ladd (pc' := 101) k164_100 rfl ?_
      refine e_ldc2 (v := 10080) (pc' := 104) k164_101 rfl (by decide +kernel) ?_
      refine e_aload_n (pc' := 105) k164_104 rfl rfl ?_
      refine e_getI (pc' := 108) k164_105 rfl (ci := 8) (k := 23) (by decide +kernel) (by decide +kernel) (fun x5 => ?_)
      refine e_i2l (pc' := 109) k164_108 rfl ?_
      refine e_lmul (pc' := 110) k164_109 rfl ?_
      refine e_vI (j' := 151) (as := [.long ((v3 * (Int32.toInt64 x3)) + (12 * q4.1)), .long (10080 * (Int32.toInt64 x5))]) (rest := []) (pc' := 113) k164_110 rfl (show mCk 164 1 206 151 2 = true by decide +kernel) (Or.inl (by decide +kernel)) rfl (Nat.le_of_ble_eq_true rfl) (show 5 ≤ mL 151 by decide +kernel) (fun q6 => ?_)
      exact e_iret k164_113 (by decide +kernel)
    · refine e_iload_n (pc' := 81) k164_80 rfl rfl ?_
      refine e_goto (pc' := 113) k164_81 (by decide) ?_
      exact e_iret k164_113 (by decide +kernel)
  · refine e_aload_n (pc' := 27) k164_26 rfl rfl ?_
    refine e_iload (pc' := 29) k164_27 rfl rfl ?_
    refine e_vI (j' := 120) (as := [.int v5]) (rest := []) (pc' := 32) k164_29 rfl (show mCk 164 1 134 120 1 = true by decide +kernel) (Or.inr (by decide +kernel)) rfl (Nat.le_of_ble_eq_true rfl) (show 2 ≤ mL 120 by decide +kernel) (fun q7 => ?_)
    refine e_ifeq (t := 65) (pc' := 35) k164_32 rfl (by decide) (fun _ => ?_) (fun _ => ?_)
    · refine e_iinc (c := 1) (pc' := 68) k164_65 rfl rfl rfl rfl ?_
      refine e_goto (pc' := 17) k164_68 (by decide) ?_
      rfl
    · refine e_aload_n (pc' := 36) k164_35 rfl rfl ?_
      refine e_iload (pc' := 38) k164_36 rfl rfl ?_
      refine e_vI (j' := 119) (as := [.int v5]) (rest := []) (pc' := 41) k164_38 rfl (show mCk 164 1 137 119 1 = true by decide +kernel) (Or.inl (by decide +kernel)) rfl (Nat.le_of_ble_eq_true rfl) (show 2 ≤ mL 119 by decide +kernel) (fun q8 => ?_)
      refine e_istore (pc' := 43) k164_41 rfl rfl ?_
      refine e_lload_n (pc' := 44) k164_43 rfl rfl ?_
      refine e_iload (pc' := 46) k164_44 rfl rfl ?_
      refine e_i2l (pc' := 47) k164_46 rfl ?_
      refine e_iload (pc' := 49) k164_47 rfl rfl ?_
      refine e_iconst (v := 2) (pc' := 50) k164_49 rfl rfl ?_
      refine e_iadd (pc' := 51) k164_50 rfl ?_
      refine e_i2l (pc' := 52) k164_51 rfl ?_
      refine e_lmul (pc' := 53) k164_52 rfl ?_
      refine e_sipush (v := 840) (pc' := 56) k164_53 rfl rfl ?_
      refine e_iload (pc' := 58) k164_56 rfl rfl ?_
      refine e_iconst (v := 1) (pc' := 59) k164_58 rfl rfl ?_
      refine e_iadd (pc' := 60) k164_59 rfl ?_
      refine e_idiv (pc' := 61) k164_60 rfl ?_
      refine e_i2l (pc' := 62) k164_61 rfl ?_
      refine e_lmul (pc' := 63) k164_62 rfl ?_
      refine e_ladd (pc' := 64) k164_63 rfl ?_
      refine e_lstore_n (pc' := 65) k164_64 rfl rfl ?_
      refine e_iinc (c := 1) (pc' := 68) k164_65 rfl rfl rfl rfl ?_
      refine e_goto (pc' := 17) k164_68 (by decide) ?_
      rfl
/-- SquareGroundsModel.twist(I)I -/
theorem F164_eq (v0 : Nat) (v1 : Int32) (h : mHeap) : F 164 [.ref v0, .int v1] h = (vI 110 v0 [.int v1] h).bind fun q1 => if 0 ≤ (q1.1 : Int32) then (q164_17 v0 v1 q1.1 0 0 none q1.2) else (some (some (.int q1.1), q1.2)) := by
  show D 164 0 (mEnt 164 [.ref v0, .int v1]) [] h 0 0 = _
  rw [show mEnt 164 [.ref v0, .int v1] = [some (.ref v0), some (.int v1), none, none, none, none, none] from rfl]
  refine e_aload_n (pc' := 1) k164_0 rfl rfl ?_
  refine e_iload_n (pc' := 2) k164_1 rfl rfl ?_
  refine e_vI (j' := 110) (as := [.int v1]) (rest := []) (pc' := 5) k164_2 rfl (show mCk 164 1 128 110 1 = true by decide +kernel) (Or.inl (by decide +kernel)) rfl (Nat.le_of_ble_eq_true rfl) (show 2 ≤ mL 110 by decide +kernel) (fun q1 => ?_)
  refine e_istore_n (pc' := 6) k164_5 rfl rfl ?_
  refine e_iload_n (pc' := 7) k164_6 rfl rfl ?_
  refine e_ifge (t := 12) (pc' := 10) k164_7 rfl (by decide) (fun _ => ?_) (fun _ => ?_)
  · refine e_lconst (v := 0) (pc' := 13) k164_12 rfl rfl ?_
    refine e_lstore_n (pc' := 14) k164_13 rfl rfl ?_
    refine e_iconst (v := 0) (pc' := 15) k164_14 rfl rfl ?_
    refine e_istore (pc' := 17) k164_15 rfl rfl ?_
    rfl
  · refine e_iload_n (pc' := 11) k164_10 rfl rfl ?_
    exact e_iret k164_11 (by decide +kernel)
theorem k165_0 : decode (mB 165) 0 = .ok (.iload_n 1, 1) := by decide +kernel
theorem k165_1 : decode (mB 165) 1 = .ok (.invokestatic 108, 3) := by decide +kernel
theorem k165_4 : decode (mB 165) 4 = .ok (.ifCond .eq 10, 3) := by decide +kernel
theorem k165_7 : decode (mB 165) 7 = .ok (.iload_n 2, 1) := by decide +kernel
theorem k165_8 : decode (mB 165) 8 = .ok (.invokestatic 108, 3) := by decide +kernel
theorem k165_11 : decode (mB 165) 11 = .ok (.ifCond .ne 5, 3) := by decide +kernel
theorem k165_14 : decode (mB 165) 14 = .ok (.iconst (-1), 1) := by decide +kernel
theorem k165_15 : decode (mB 165) 15 = .ok (.ireturn, 1) := by decide +kernel
theorem k165_16 : decode (mB 165) 16 = .ok (.aload_n 0, 1) := by decide +kernel
theorem k165_17 : decode (mB 165) 17 = .ok (.getfield 34, 3) := by decide +kernel
theorem k165_20 : decode (mB 165) 20 = .ok (.iload_n 1, 1) := by decide +kernel
theorem k165_21 : decode (mB 165) 21 = .ok (.iaload, 1) := by decide +kernel
theorem k165_22 : decode (mB 165) 22 = .ok (.ifCond .eq 12, 3) := by decide +kernel
theorem k165_25 : decode (mB 165) 25 = .ok (.aload_n 0, 1) := by decide +kernel
theorem k165_26 : decode (mB 165) 26 = .ok (.getfield 34, 3) := by decide +kernel
theorem k165_29 : decode (mB 165) 29 = .ok (.iload_n 2, 1) := by decide +kernel
theorem k165_30 : decode (mB 165) 30 = .ok (.iaload, 1) := by decide +kernel
theorem k165_31 : decode (mB 165) 31 = .ok (.ifCond .ne 9, 3) := by decide +kernel
theorem k165_34 : decode (mB 165) 34 = .ok (.aload_n 0, 1) := by decide +kernel
theorem k165_35 : decode (mB 165) 35 = .ok (.iconst 1, 1) := by decide +kernel
theorem k165_36 : decode (mB 165) 36 = .ok (.invokevirtual 98, 3) := by decide +kernel
theorem k165_39 : decode (mB 165) 39 = .ok (.ireturn, 1) := by decide +kernel
theorem k165_40 : decode (mB 165) 40 = .ok (.aload_n 0, 1) := by decide +kernel
theorem k165_41 : decode (mB 165) 41 = .ok (.iload_n 2, 1) := by decide +kernel
theorem k165_42 : decode (mB 165) 42 = .ok (.invokevirtual 162, 3) := by decide +kernel
theorem k165_45 : decode (mB 165) 45 = .ok (.istore_n 3, 1) := by decide +kernel
theorem k165_46 : decode (mB 165) 46 = .ok (.aload_n 0, 1) := by decide +kernel
theorem k165_47 : decode (mB 165) 47 = .ok (.iload_n 1, 1) := by decide +kernel
theorem k165_48 : decode (mB 165) 48 = .ok (.invokevirtual 111, 3) := by decide +kernel
theorem k165_51 : decode (mB 165) 51 = .ok (.aload_n 0, 1) := by decide +kernel
theorem k165_52 : decode (mB 165) 52 = .ok (.invokevirtual 219, 3) := by decide +kernel
theorem k165_55 : decode (mB 165) 55 = .ok (.istore 4, 2) := by decide +kernel
theorem k165_57 : decode (mB 165) 57 = .ok (.iload 4, 2) := by decide +kernel
theorem k165_59 : decode (mB 165) 59 = .ok (.ifCond .ge 6, 3) := by decide +kernel
theorem k165_62 : decode (mB 165) 62 = .ok (.iload 4, 2) := by decide +kernel
theorem k165_64 : decode (mB 165) 64 = .ok (.ireturn, 1) := by decide +kernel
theorem k165_65 : decode (mB 165) 65 = .ok (.iconst 0, 1) := by decide +kernel
theorem k165_66 : decode (mB 165) 66 = .ok (.istore 5, 2) := by decide +kernel
theorem k165_68 : decode (mB 165) 68 = .ok (.iload 5, 2) := by decide +kernel
theorem k165_70 : decode (mB 165) 70 = .ok (.aload_n 0, 1) := by decide +kernel
theorem k165_71 : decode (mB 165) 71 = .ok (.getfield 210, 3) := by decide +kernel
theorem k165_74 : decode (mB 165) 74 = .ok (.if_icmp .ge 67, 3) := by decide +kernel
theorem k165_77 : decode (mB 165) 77 = .ok (.iload_n 3, 1) := by decide +kernel
theorem k165_78 : decode (mB 165) 78 = .ok (.aload_n 0, 1) := by decide +kernel
theorem k165_79 : decode (mB 165) 79 = .ok (.getfield 105, 3) := by decide +kernel
theorem k165_82 : decode (mB 165) 82 = .ok (.if_icmp .ne 59, 3) := by decide +kernel
theorem k165_85 : decode (mB 165) 85 = .ok (.iconst 0, 1) := by decide +kernel
theorem k165_86 : decode (mB 165) 86 = .ok (.istore 6, 2) := by decide +kernel
theorem k165_88 : decode (mB 165) 88 = .ok (.iload 6, 2) := by decide +kernel
theorem k165_90 : decode (mB 165) 90 = .ok (.iconst 2, 1) := by decide +kernel
theorem k165_91 : decode (mB 165) 91 = .ok (.aload_n 0, 1) := by decide +kernel
theorem k165_92 : decode (mB 165) 92 = .ok (.getfield 105, 3) := by decide +kernel
theorem k165_95 : decode (mB 165) 95 = .ok (.imul, 1) := by decide +kernel
theorem k165_96 : decode (mB 165) 96 = .ok (.if_icmp .ge 29, 3) := by decide +kernel
theorem k165_99 : decode (mB 165) 99 = .ok (.aload_n 0, 1) := by decide +kernel
theorem k165_100 : decode (mB 165) 100 = .ok (.getfield 49, 3) := by decide +kernel
theorem k165_103 : decode (mB 165) 103 = .ok (.iload 6, 2) := by decide +kernel
theorem k165_105 : decode (mB 165) 105 = .ok (.aload_n 0, 1) := by decide +kernel
theorem k165_106 : decode (mB 165) 106 = .ok (.getfield 68, 3) := by decide +kernel
theorem k165_109 : decode (mB 165) 109 = .ok (.bipush 16, 2) := by decide +kernel
theorem k165_111 : decode (mB 165) 111 = .ok (.iload 5, 2) := by decide +kernel
theorem k165_113 : decode (mB 165) 113 = .ok (.imul, 1) := by decide +kernel
theorem k165_114 : decode (mB 165) 114 = .ok (.iload 6, 2) := by decide +kernel
theorem k165_116 : decode (mB 165) 116 = .ok (.iadd, 1) := by decide +kernel
theorem k165_117 : decode (mB 165) 117 = .ok (.iaload, 1) := by decide +kernel
theorem k165_118 : decode (mB 165) 118 = .ok (.iastore, 1) := by decide +kernel
theorem k165_119 : decode (mB 165) 119 = .ok (.iinc 6 1, 3) := by decide +kernel
theorem k165_122 : decode (mB 165) 122 = .ok (.goto (-34), 3) := by decide +kernel
theorem k165_125 : decode (mB 165) 125 = .ok (.aload_n 0, 1) := by decide +kernel
theorem k165_126 : decode (mB 165) 126 = .ok (.invokevirtual 165, 3) := by decide +kernel
theorem k165_129 : decode (mB 165) 129 = .ok (.ifCond .eq 6, 3) := by decide +kernel
theorem k165_132 : decode (mB 165) 132 = .ok (.iload 5, 2) := by decide +kernel
theorem k165_134 : decode (mB 165) 134 = .ok (.ireturn, 1) := by decide +kernel
theorem k165_135 : decode (mB 165) 135 = .ok (.iinc 5 1, 3) := by decide +kernel
theorem k165_138 : decode (mB 165) 138 = .ok (.goto (-70), 3) := by decide +kernel
theorem k165_141 : decode (mB 165) 141 = .ok (.bipush (-9), 2) := by decide +kernel
theorem k165_143 : decode (mB 165) 143 = .ok (.ireturn, 1) := by decide +kernel
/-- SquareGroundsModel.comes, loop at 68 -/
noncomputable def q165_68 (v0 : Nat) (v1 : Int32) (v2 : Int32) (v3 : Int32) (v4 : Int32) (v5 : Int32) (d6 : Option Value) (h : mHeap) : mR' := E 165 68 [some (.ref v0), some (.int v1), some (.int v2), some (.int v3), some (.int v4), some (.int v5), d6] [] h
/-- SquareGroundsModel.comes, loop at 88 -/
noncomputable def q165_88 (v0 : Nat) (v1 : Int32) (v2 : Int32) (v3 : Int32) (v4 : Int32) (v5 : Int32) (v6 : Int32) (h : mHeap) : mR' := E 165 88 [some (.ref v0), some (.int v1), some (.int v2), some (.int v3), some (.int v4), some (.int v5), some (.int v6)] [] h
theorem q165_68_eq (v0 : Nat) (v1 : Int32) (v2 : Int32) (v3 : Int32) (v4 : Int32) (v5 : Int32) (d6 : Option Value) (h : mHeap) : q165_68 v0 v1 v2 v3 v4 v5 d6 h = (gI h v0 8 23).bind fun x1 => if x1 ≤ (v5 : Int32) then (some (some (.int (-9)), h)) else ((gI h v0 8 5).bind fun x2 => if ¬ (v3 : Int32) = x2 then (some (some (.int (-9)), h)) else (q165_88 v0 v1 v2 v3 v4 v5 0 h)) := by
  unfold q165_68
  refine e_iload (pc' := 70) k165_68 rfl rfl ?_
  refine e_aload_n (pc' := 71) k165_70 rfl rfl ?_
  refine e_getI (pc' := 74) k165_71 rfl (ci := 8) (k := 23) (by decide +kernel) (by decide +kernel) (fun x1 => ?_)
  refine e_icmpge (t := 141) (pc' := 77) k165_74 rfl (by decide) (fun _ => ?_) (fun _ => ?_)
  · refine e_bipush (v := -9) (pc' := 143) k165_141 rfl rfl ?_
    exact e_iret k165_143 (by decide +kernel)
  · refine e_iload_n (pc' := 78) k165_77 rfl rfl ?_
    refine e_aload_n (pc' := 79) k165_78 rfl rfl ?_
    refine e_getI (pc' := 82) k165_79 rfl (ci := 8) (k := 5) (by decide +kernel) (by decide +kernel) (fun x2 => ?_)
    refine e_icmpne (t := 141) (pc' := 85) k165_82 rfl (by decide) (fun _ => ?_) (fun _ => ?_)
    · refine e_bipush (v := -9) (pc' := 143) k165_141 rfl rfl ?_
      exact e_iret k165_143 (by decide +kernel)
    · refine e_iconst (v := 0) (pc' := 86) k165_85 rfl rfl ?_
      refine e_istore (pc' := 88) k165_86 rfl rfl ?_
      rfl
theorem q165_88_eq (v0 : Nat) (v1 : Int32) (v2 : Int32) (v3 : Int32) (v4 : Int32) (v5 : Int32) (v6 : Int32) (h : mHeap) : q165_88 v0 v1 v2 v3 v4 v5 v6 h = (gI h v0 8 5).bind fun x1 => if (2 * x1) ≤ (v6 : Int32) then ((vI 133 v0 [] h).bind fun q2 => if (q2.1 : Int32) = 0 then (q165_68 v0 v1 v2 v3 v4 (v5 + 1) (some (.int v6)) q2.2) else (some (some (.int v5), q2.2))) else ((gR h v0 8 15).bind fun x3 => (gR h v0 8 24).bind fun x4 => (cAldI false h x4 ((16 * v5) + v6)).bind fun x5 => (cAstI h x3 v6 x5).bind fun h6 => q165_88 v0 v1 v2 v3 v4 v5 (v6 + 1) h6) := by
  unfold q165_88
  refine e_iload (pc' := 90) k165_88 rfl rfl ?_
  refine e_iconst (v := 2) (pc' := 91) k165_90 rfl rfl ?_
  refine e_aload_n (pc' := 92) k165_91 rfl rfl ?_
  refine e_getI (pc' := 95) k165_92 rfl (ci := 8) (k := 5) (by decide +kernel) (by decide +kernel) (fun x1 => ?_)
  refine e_imul (pc' := 96) k165_95 rfl ?_
  refine e_icmpge (t := 125) (pc' := 99) k165_96 rfl (by decide) (fun _ => ?_) (fun _ => ?_)
  · refine e_aload_n (pc' := 126) k165_125 rfl rfl ?_
    refine e_vI (j' := 133) (as := []) (rest := []) (pc' := 129) k165_126 rfl (show mCk 165 1 165 133 0 = true by decide +kernel) (Or.inr (by decide +kernel)) rfl (Nat.le_of_ble_eq_true rfl) (show 1 ≤ mL 133 by decide +kernel) (fun q2 => ?_)
    refine e_ifeq (t := 135) (pc' := 132) k165_129 rfl (by decide) (fun _ => ?_) (fun _ => ?_)
    · refine e_iinc (c := 1) (pc' := 138) k165_135 rfl rfl rfl rfl ?_
      refine e_goto (pc' := 68) k165_138 (by decide) ?_
      rfl
    · refine e_iload (pc' := 134) k165_132 rfl rfl ?_
      exact e_iret k165_134 (by decide +kernel)
  · refine e_aload_n (pc' := 100) k165_99 rfl rfl ?_
    refine e_getR (pc' := 103) k165_100 rfl (ci := 8) (k := 15) (by decide +kernel) (by decide +kernel) (fun x3 => ?_)
    refine e_iload (pc' := 105) k165_103 rfl rfl ?_
    refine e_aload_n (pc' := 106) k165_105 rfl rfl ?_
    refine e_getR (pc' := 109) k165_106 rfl (ci := 8) (k := 24) (by decide +kernel) (by decide +kernel) (fun x4 => ?_)
    refine e_bipush (v := 16) (pc' := 111) k165_109 rfl rfl ?_
    refine e_iload (pc' := 113) k165_111 rfl rfl ?_
    refine e_imul (pc' := 114) k165_113 rfl ?_
    refine e_iload (pc' := 116) k165_114 rfl rfl ?_
    refine e_iadd (pc' := 117) k165_116 rfl ?_
    refine e_iald (pc' := 118) k165_117 rfl (lw := false) rfl (fun x5 => ?_)
    refine e_iast (pc' := 119) k165_118 rfl (fun h6 => ?_)
    refine e_iinc (c := 1) (pc' := 122) k165_119 rfl rfl rfl rfl ?_
    refine e_goto (pc' := 88) k165_122 (by decide) ?_
    rfl
/-- SquareGroundsModel.comes(II)I -/
theorem F165_eq (v0 : Nat) (v1 : Int32) (v2 : Int32) (h : mHeap) : F 165 [.ref v0, .int v1, .int v2] h = (sI 109 [.int v1] h).bind fun q1 => if (q1.1 : Int32) = 0 then (some (some (.int (-1)), q1.2)) else ((sI 109 [.int v2] q1.2).bind fun q2 => if ¬ (q2.1 : Int32) = 0 then ((gR q2.2 v0 8 10).bind fun x3 => (cAldI false q2.2 x3 v1).bind fun x4 => if (x4 : Int32) = 0 then ((vI 101 v0 [.int 1] q2.2).bind fun q5 => some (some (.int q5.1), q5.2)) else ((gR q2.2 v0 8 10).bind fun x6 => (cAldI false q2.2 x6 v2).bind fun x7 => if ¬ (x7 : Int32) = 0 then ((vI 132 v0 [.int v2] q2.2).bind fun q8 => (vV 111 v0 [.int v1] q8.2).bind fun h9 => (vI 155 v0 [] h9).bind fun q10 => if 0 ≤ (q10.1 : Int32) then (q165_68 v0 v1 v2 q8.1 q10.1 0 none q10.2) else (some (some (.int q10.1), q10.2))) else ((vI 101 v0 [.int 1] q2.2).bind fun q11 => some (some (.int q11.1), q11.2)))) else (some (some (.int (-1)), q2.2))) := by
  show D 165 0 (mEnt 165 [.ref v0, .int v1, .int v2]) [] h 0 0 = _
  rw [show mEnt 165 [.ref v0, .int v1, .int v2] = [some (.ref v0), some (.int v1), some (.int v2), none, none, none, none] from rfl]
  refine e_iload_n (pc' := 1) k165_0 rfl rfl ?_
  refine e_sI (j' := 109) (as := [.int v1]) (rest := []) (pc' := 4) k165_1 rfl (show mCk 165 0 108 109 1 = true by decide +kernel) (Or.inr (by decide +kernel)) rfl (Nat.le_of_ble_eq_true rfl) (show 1 ≤ mL 109 by decide +kernel) (fun q1 => ?_)
  refine e_ifeq (t := 14) (pc' := 7) k165_4 rfl (by decide) (fun _ => ?_) (fun _ => ?_)
  · refine e_iconst (v := -1) (pc' := 15) k165_14 rfl rfl ?_
    exact e_iret k165_15 (by decide +kernel)
  · refine e_iload_n (pc' := 8) k165_7 rfl rfl ?_
    refine e_sI (j' := 109) (as := [.int v2]) (rest := []) (pc' := 11) k165_8 rfl (show mCk 165 0 108 109 1 = true by decide +kernel) (Or.inr (by decide +kernel)) rfl (Nat.le_of_ble_eq_true rfl) (show 1 ≤ mL 109 by decide +kernel) (fun q2 => ?_)
    refine e_ifne (t := 16) (pc' := 14) k165_11 rfl (by decide) (fun _ => ?_) (fun _ => ?_)
    · refine e_aload_n (pc' := 17) k165_16 rfl rfl ?_
      refine e_getR (pc' := 20) k165_17 rfl (ci := 8) (k := 10) (by decide +kernel) (by decide +kernel) (fun x3 => ?_)
      refine e_iload_n (pc' := 21) k165_20 rfl rfl ?_
      refine e_iald (pc' := 22) k165_21 rfl (lw := false) rfl (fun x4 => ?_)
      refine e_ifeq (t := 34) (pc' := 25) k165_22 rfl (by decide) (fun _ => ?_) (fun _ => ?_)
      · refine e_aload_n (pc' := 35) k165_34 rfl rfl ?_
        refine e_iconst (v := 1) (pc' := 36) k165_35 rfl rfl ?_
        refine e_vI (j' := 101) (as := [.int 1]) (rest := []) (pc' := 39) k165_36 rfl (show mCk 165 1 98 101 1 = true by decide +kernel) (Or.inl (by decide +kernel)) rfl (Nat.le_of_ble_eq_true rfl) (show 2 ≤ mL 101 by decide +kernel) (fun q5 => ?_)
        exact e_iret k165_39 (by decide +kernel)
      · refine e_aload_n (pc' := 26) k165_25 rfl rfl ?_
        refine e_getR (pc' := 29) k165_26 rfl (ci := 8) (k := 10) (by decide +kernel) (by decide +kernel) (fun x6 => ?_)
        refine e_iload_n (pc' := 30) k165_29 rfl rfl ?_
        refine e_iald (pc' := 31) k165_30 rfl (lw := false) rfl (fun x7 => ?_)
        refine e_ifne (t := 40) (pc' := 34) k165_31 rfl (by decide) (fun _ => ?_) (fun _ => ?_)
        · refine e_aload_n (pc' := 41) k165_40 rfl rfl ?_
          refine e_iload_n (pc' := 42) k165_41 rfl rfl ?_
          refine e_vI (j' := 132) (as := [.int v2]) (rest := []) (pc' := 45) k165_42 rfl (show mCk 165 1 162 132 1 = true by decide +kernel) (Or.inl (by decide +kernel)) rfl (Nat.le_of_ble_eq_true rfl) (show 2 ≤ mL 132 by decide +kernel) (fun q8 => ?_)
          refine e_istore_n (pc' := 46) k165_45 rfl rfl ?_
          refine e_aload_n (pc' := 47) k165_46 rfl rfl ?_
          refine e_iload_n (pc' := 48) k165_47 rfl rfl ?_
          refine e_vV (j' := 111) (as := [.int v1]) (rest := []) (pc' := 51) k165_48 rfl (show mCk 165 1 111 111 1 = true by decide +kernel) (by decide +kernel) rfl (Nat.le_of_ble_eq_true rfl) (show 2 ≤ mL 111 by decide +kernel) (fun h9 => ?_)
          refine e_aload_n (pc' := 52) k165_51 rfl rfl ?_
          refine e_vI (j' := 155) (as := []) (rest := []) (pc' := 55) k165_52 rfl (show mCk 165 1 219 155 0 = true by decide +kernel) (Or.inl (by decide +kernel)) rfl (Nat.le_of_ble_eq_true rfl) (show 1 ≤ mL 155 by decide +kernel) (fun q10 => ?_)
          refine e_istore (pc' := 57) k165_55 rfl rfl ?_
          refine e_iload (pc' := 59) k165_57 rfl rfl ?_
          refine e_ifge (t := 65) (pc' := 62) k165_59 rfl (by decide) (fun _ => ?_) (fun _ => ?_)
          · refine e_iconst (v := 0) (pc' := 66) k165_65 rfl rfl ?_
            refine e_istore (pc' := 68) k165_66 rfl rfl ?_
            rfl
          · refine e_iload (pc' := 64) k165_62 rfl rfl ?_
            exact e_iret k165_64 (by decide +kernel)
        · refine e_aload_n (pc' := 35) k165_34 rfl rfl ?_
          refine e_iconst (v := 1) (pc' := 36) k165_35 rfl rfl ?_
          refine e_vI (j' := 101) (as := [.int 1]) (rest := []) (pc' := 39) k165_36 rfl (show mCk 165 1 98 101 1 = true by decide +kernel) (Or.inl (by decide +kernel)) rfl (Nat.le_of_ble_eq_true rfl) (show 2 ≤ mL 101 by decide +kernel) (fun q11 => ?_)
          exact e_iret k165_39 (by decide +kernel)
    · refine e_iconst (v := -1) (pc' := 15) k165_14 rfl rfl ?_
      exact e_iret k165_15 (by decide +kernel)
theorem k166_0 : decode (mB 166) 0 = .ok (.aload_n 0, 1) := by decide +kernel
theorem k166_1 : decode (mB 166) 1 = .ok (.getfield 198, 3) := by decide +kernel
theorem k166_4 : decode (mB 166) 4 = .ok (.lreturn, 1) := by decide +kernel
/-- SquareGroundsModel.upper()J -/
theorem F166_eq (v0 : Nat) (h : mHeap) : F 166 [.ref v0] h = (gL h v0 8 21).bind fun x1 => some (some (.long x1), h) := by
  show D 166 0 (mEnt 166 [.ref v0]) [] h 0 0 = _
  rw [show mEnt 166 [.ref v0] = [some (.ref v0)] from rfl]
  refine e_aload_n (pc' := 1) k166_0 rfl rfl ?_
  refine e_getL (pc' := 4) k166_1 rfl (ci := 8) (k := 21) (by decide +kernel) (by decide +kernel) (fun x1 => ?_)
  exact e_lret k166_4 (by decide +kernel)
theorem k167_0 : decode (mB 167) 0 = .ok (.aload_n 0, 1) := by decide +kernel
theorem k167_1 : decode (mB 167) 1 = .ok (.getfield 64, 3) := by decide +kernel
theorem k167_4 : decode (mB 167) 4 = .ok (.lreturn, 1) := by decide +kernel
/-- SquareGroundsModel.lower()J -/
theorem F167_eq (v0 : Nat) (h : mHeap) : F 167 [.ref v0] h = (gL h v0 8 22).bind fun x1 => some (some (.long x1), h) := by
  show D 167 0 (mEnt 167 [.ref v0]) [] h 0 0 = _
  rw [show mEnt 167 [.ref v0] = [some (.ref v0)] from rfl]
  refine e_aload_n (pc' := 1) k167_0 rfl rfl ?_
  refine e_getL (pc' := 4) k167_1 rfl (ci := 8) (k := 22) (by decide +kernel) (by decide +kernel) (fun x1 => ?_)
  exact e_lret k167_4 (by decide +kernel)
theorem k168_0 : decode (mB 168) 0 = .ok (.iconst 0, 1) := by decide +kernel
theorem k168_1 : decode (mB 168) 1 = .ok (.istore_n 2, 1) := by decide +kernel
theorem k168_2 : decode (mB 168) 2 = .ok (.iconst 0, 1) := by decide +kernel
theorem k168_3 : decode (mB 168) 3 = .ok (.istore_n 3, 1) := by decide +kernel
theorem k168_4 : decode (mB 168) 4 = .ok (.iload_n 3, 1) := by decide +kernel
theorem k168_5 : decode (mB 168) 5 = .ok (.iconst 4, 1) := by decide +kernel
theorem k168_6 : decode (mB 168) 6 = .ok (.if_icmp .ge 30, 3) := by decide +kernel
theorem k168_9 : decode (mB 168) 9 = .ok (.iload_n 1, 1) := by decide +kernel
theorem k168_10 : decode (mB 168) 10 = .ok (.ifCond .ne 26, 3) := by decide +kernel
theorem k168_13 : decode (mB 168) 13 = .ok (.iload_n 2, 1) := by decide +kernel
theorem k168_14 : decode (mB 168) 14 = .ok (.aload_n 0, 1) := by decide +kernel
theorem k168_15 : decode (mB 168) 15 = .ok (.getfield 13, 3) := by decide +kernel
theorem k168_18 : decode (mB 168) 18 = .ok (.iload_n 3, 1) := by decide +kernel
theorem k168_19 : decode (mB 168) 19 = .ok (.iaload, 1) := by decide +kernel
theorem k168_20 : decode (mB 168) 20 = .ok (.ifCond .lt 7, 3) := by decide +kernel
theorem k168_23 : decode (mB 168) 23 = .ok (.iconst 1, 1) := by decide +kernel
theorem k168_24 : decode (mB 168) 24 = .ok (.goto 4, 3) := by decide +kernel
theorem k168_27 : decode (mB 168) 27 = .ok (.iconst 0, 1) := by decide +kernel
theorem k168_28 : decode (mB 168) 28 = .ok (.iadd, 1) := by decide +kernel
theorem k168_29 : decode (mB 168) 29 = .ok (.istore_n 2, 1) := by decide +kernel
theorem k168_30 : decode (mB 168) 30 = .ok (.iinc 3 1, 3) := by decide +kernel
theorem k168_33 : decode (mB 168) 33 = .ok (.goto (-29), 3) := by decide +kernel
theorem k168_36 : decode (mB 168) 36 = .ok (.iconst 0, 1) := by decide +kernel
theorem k168_37 : decode (mB 168) 37 = .ok (.istore_n 3, 1) := by decide +kernel
theorem k168_38 : decode (mB 168) 38 = .ok (.iload_n 3, 1) := by decide +kernel
theorem k168_39 : decode (mB 168) 39 = .ok (.bipush 10, 2) := by decide +kernel
theorem k168_41 : decode (mB 168) 41 = .ok (.if_icmp .ge 44, 3) := by decide +kernel
theorem k168_44 : decode (mB 168) 44 = .ok (.iload_n 1, 1) := by decide +kernel
theorem k168_45 : decode (mB 168) 45 = .ok (.ifCond .le 40, 3) := by decide +kernel
theorem k168_48 : decode (mB 168) 48 = .ok (.iload_n 2, 1) := by decide +kernel
theorem k168_49 : decode (mB 168) 49 = .ok (.iload_n 1, 1) := by decide +kernel
theorem k168_50 : decode (mB 168) 50 = .ok (.iconst 2, 1) := by decide +kernel
theorem k168_51 : decode (mB 168) 51 = .ok (.if_icmp .ne 12, 3) := by decide +kernel
theorem k168_54 : decode (mB 168) 54 = .ok (.aload_n 0, 1) := by decide +kernel
theorem k168_55 : decode (mB 168) 55 = .ok (.getfield 34, 3) := by decide +kernel
theorem k168_58 : decode (mB 168) 58 = .ok (.iload_n 3, 1) := by decide +kernel
theorem k168_59 : decode (mB 168) 59 = .ok (.iaload, 1) := by decide +kernel
theorem k168_60 : decode (mB 168) 60 = .ok (.goto 17, 3) := by decide +kernel
theorem k168_63 : decode (mB 168) 63 = .ok (.aload_n 0, 1) := by decide +kernel
theorem k168_64 : decode (mB 168) 64 = .ok (.getfield 34, 3) := by decide +kernel
theorem k168_67 : decode (mB 168) 67 = .ok (.iload_n 3, 1) := by decide +kernel
theorem k168_68 : decode (mB 168) 68 = .ok (.iaload, 1) := by decide +kernel
theorem k168_69 : decode (mB 168) 69 = .ok (.ifCond .le 7, 3) := by decide +kernel
theorem k168_72 : decode (mB 168) 72 = .ok (.iconst 1, 1) := by decide +kernel
theorem k168_73 : decode (mB 168) 73 = .ok (.goto 4, 3) := by decide +kernel
theorem k168_76 : decode (mB 168) 76 = .ok (.iconst 0, 1) := by decide +kernel
theorem k168_77 : decode (mB 168) 77 = .ok (.iadd, 1) := by decide +kernel
theorem k168_78 : decode (mB 168) 78 = .ok (.istore_n 2, 1) := by decide +kernel
theorem k168_79 : decode (mB 168) 79 = .ok (.iinc 3 1, 3) := by decide +kernel
theorem k168_82 : decode (mB 168) 82 = .ok (.goto (-44), 3) := by decide +kernel
theorem k168_85 : decode (mB 168) 85 = .ok (.iload_n 1, 1) := by decide +kernel
theorem k168_86 : decode (mB 168) 86 = .ok (.iconst 0, 1) := by decide +kernel
theorem k168_87 : decode (mB 168) 87 = .ok (.iconst 2, 1) := by decide +kernel
theorem k168_88 : decode (mB 168) 88 = .ok (.invokestatic 90, 3) := by decide +kernel
theorem k168_91 : decode (mB 168) 91 = .ok (.ifCond .eq 7, 3) := by decide +kernel
theorem k168_94 : decode (mB 168) 94 = .ok (.iload_n 2, 1) := by decide +kernel
theorem k168_95 : decode (mB 168) 95 = .ok (.goto 4, 3) := by decide +kernel
theorem k168_98 : decode (mB 168) 98 = .ok (.iconst (-1), 1) := by decide +kernel
theorem k168_99 : decode (mB 168) 99 = .ok (.ireturn, 1) := by decide +kernel
/-- SquareGroundsModel.count, loop at 4 -/
noncomputable def q168_4 (v0 : Nat) (v1 : Int32) (v2 : Int32) (v3 : Int32) (h : mHeap) : mR' := E 168 4 [some (.ref v0), some (.int v1), some (.int v2), some (.int v3)] [] h
/-- SquareGroundsModel.count, loop at 38 -/
noncomputable def q168_38 (v0 : Nat) (v1 : Int32) (v2 : Int32) (v3 : Int32) (h : mHeap) : mR' := E 168 38 [some (.ref v0), some (.int v1), some (.int v2), some (.int v3)] [] h
theorem q168_4_eq (v0 : Nat) (v1 : Int32) (v2 : Int32) (v3 : Int32) (h : mHeap) : q168_4 v0 v1 v2 v3 h = if 4 ≤ (v3 : Int32) then (q168_38 v0 v1 v2 0 h) else (if ¬ (v1 : Int32) = 0 then (q168_38 v0 v1 v2 0 h) else ((gR h v0 8 2).bind fun x1 => (cAldI false h x1 v3).bind fun x2 => if (x2 : Int32) < 0 then (q168_4 v0 v1 (v2 + 0) (v3 + 1) h) else (q168_4 v0 v1 (v2 + 1) (v3 + 1) h))) := by
  unfold q168_4
  refine e_iload_n (pc' := 5) k168_4 rfl rfl ?_
  refine e_iconst (v := 4) (pc' := 6) k168_5 rfl rfl ?_
  refine e_icmpge (t := 36) (pc' := 9) k168_6 rfl (by decide) (fun _ => ?_) (fun _ => ?_)
  · refine e_iconst (v := 0) (pc' := 37) k168_36 rfl rfl ?_
    refine e_istore_n (pc' := 38) k168_37 rfl rfl ?_
    rfl
  · refine e_iload_n (pc' := 10) k168_9 rfl rfl ?_
    refine e_ifne (t := 36) (pc' := 13) k168_10 rfl (by decide) (fun _ => ?_) (fun _ => ?_)
    · refine e_iconst (v := 0) (pc' := 37) k168_36 rfl rfl ?_
      refine e_istore_n (pc' := 38) k168_37 rfl rfl ?_
      rfl
    · refine e_iload_n (pc' := 14) k168_13 rfl rfl ?_
      refine e_aload_n (pc' := 15) k168_14 rfl rfl ?_
      refine e_getR (pc' := 18) k168_15 rfl (ci := 8) (k := 2) (by decide +kernel) (by decide +kernel) (fun x1 => ?_)
      refine e_iload_n (pc' := 19) k168_18 rfl rfl ?_
      refine e_iald (pc' := 20) k168_19 rfl (lw := false) rfl (fun x2 => ?_)
      refine e_iflt (t := 27) (pc' := 23) k168_20 rfl (by decide) (fun _ => ?_) (fun _ => ?_)
      · refine e_iconst (v := 0) (pc' := 28) k168_27 rfl rfl ?_
        refine e_iadd (pc' := 29) k168_28 rfl ?_
        refine e_istore_n (pc' := 30) k168_29 rfl rfl ?_
        refine e_iinc (c := 1) (pc' := 33) k168_30 rfl rfl rfl rfl ?_
        refine e_goto (pc' := 4) k168_33 (by decide) ?_
        rfl
      · refine e_iconst (v := 1) (pc' := 24) k168_23 rfl rfl ?_
        refine e_goto (pc' := 28) k168_24 (by decide) ?_
        refine e_iadd (pc' := 29) k168_28 rfl ?_
        refine e_istore_n (pc' := 30) k168_29 rfl rfl ?_
        refine e_iinc (c := 1) (pc' := 33) k168_30 rfl rfl rfl rfl ?_
        refine e_goto (pc' := 4) k168_33 (by decide) ?_
        rfl
theorem q168_38_eq (v0 : Nat) (v1 : Int32) (v2 : Int32) (v3 : Int32) (h : mHeap) : q168_38 v0 v1 v2 v3 h = if 10 ≤ (v3 : Int32) then ((sI 100 [.int v1, .int 0, .int 2] h).bind fun q1 => if (q1.1 : Int32) = 0 then (some (some (.int (-1)), q1.2)) else (some (some (.int v2), q1.2))) else (if (v1 : Int32) ≤ 0 then ((sI 100 [.int v1, .int 0, .int 2] h).bind fun q2 => if (q2.1 : Int32) = 0 then (some (some (.int (-1)), q2.2)) else (some (some (.int v2), q2.2))) else (if ¬ (v1 : Int32) = 2 then ((gR h v0 8 10).bind fun x3 => (cAldI false h x3 v3).bind fun x4 => if (x4 : Int32) ≤ 0 then (q168_38 v0 v1 (v2 + 0) (v3 + 1) h) else (q168_38 v0 v1 (v2 + 1) (v3 + 1) h)) else ((gR h v0 8 10).bind fun x5 => (cAldI false h x5 v3).bind fun x6 => q168_38 v0 v1 (v2 + x6) (v3 + 1) h))) := by
  unfold q168_38
  refine e_iload_n (pc' := 39) k168_38 rfl rfl ?_
  refine e_bipush (v := 10) (pc' := 41) k168_39 rfl rfl ?_
  refine e_icmpge (t := 85) (pc' := 44) k168_41 rfl (by decide) (fun _ => ?_) (fun _ => ?_)
  · refine e_iload_n (pc' := 86) k168_85 rfl rfl ?_
    refine e_iconst (v := 0) (pc' := 87) k168_86 rfl rfl ?_
    refine e_iconst (v := 2) (pc' := 88) k168_87 rfl rfl ?_
    refine e_sI (j' := 100) (as := [.int v1, .int 0, .int 2]) (rest := []) (pc' := 91) k168_88 rfl (show mCk 168 0 90 100 3 = true by decide +kernel) (Or.inr (by decide +kernel)) rfl (Nat.le_of_ble_eq_true rfl) (show 3 ≤ mL 100 by decide +kernel) (fun q1 => ?_)
    refine e_ifeq (t := 98) (pc' := 94) k168_91 rfl (by decide) (fun _ => ?_) (fun _ => ?_)
    · refine e_iconst (v := -1) (pc' := 99) k168_98 rfl rfl ?_
      exact e_iret k168_99 (by decide +kernel)
    · refine e_iload_n (pc' := 95) k168_94 rfl rfl ?_
      refine e_goto (pc' := 99) k168_95 (by decide) ?_
      exact e_iret k168_99 (by decide +kernel)
  · refine e_iload_n (pc' := 45) k168_44 rfl rfl ?_
    refine e_ifle (t := 85) (pc' := 48) k168_45 rfl (by decide) (fun _ => ?_) (fun _ => ?_)
    · refine e_iload_n (pc' := 86) k168_85 rfl rfl ?_
      refine e_iconst (v := 0) (pc' := 87) k168_86 rfl rfl ?_
      refine e_iconst (v := 2) (pc' := 88) k168_87 rfl rfl ?_
      refine e_sI (j' := 100) (as := [.int v1, .int 0, .int 2]) (rest := []) (pc' := 91) k168_88 rfl (show mCk 168 0 90 100 3 = true by decide +kernel) (Or.inr (by decide +kernel)) rfl (Nat.le_of_ble_eq_true rfl) (show 3 ≤ mL 100 by decide +kernel) (fun q2 => ?_)
      refine e_ifeq (t := 98) (pc' := 94) k168_91 rfl (by decide) (fun _ => ?_) (fun _ => ?_)
      · refine e_iconst (v := -1) (pc' := 99) k168_98 rfl rfl ?_
        exact e_iret k168_99 (by decide +kernel)
      · refine e_iload_n (pc' := 95) k168_94 rfl rfl ?_
        refine e_goto (pc' := 99) k168_95 (by decide) ?_
        exact e_iret k168_99 (by decide +kernel)
    · refine e_iload_n (pc' := 49) k168_48 rfl rfl ?_
      refine e_iload_n (pc' := 50) k168_49 rfl rfl ?_
      refine e_iconst (v := 2) (pc' := 51) k168_50 rfl rfl ?_
      refine e_icmpne (t := 63) (pc' := 54) k168_51 rfl (by decide) (fun _ => ?_) (fun _ => ?_)
      · refine e_aload_n (pc' := 64) k168_63 rfl rfl ?_
        refine e_getR (pc' := 67) k168_64 rfl (ci := 8) (k := 10) (by decide +kernel) (by decide +kernel) (fun x3 => ?_)
        refine e_iload_n (pc' := 68) k168_67 rfl rfl ?_
        refine e_iald (pc' := 69) k168_68 rfl (lw := false) rfl (fun x4 => ?_)
        refine e_ifle (t := 76) (pc' := 72) k168_69 rfl (by decide) (fun _ => ?_) (fun _ => ?_)
        · refine e_iconst (v := 0) (pc' := 77) k168_76 rfl rfl ?_
          refine e_iadd (pc' := 78) k168_77 rfl ?_
          refine e_istore_n (pc' := 79) k168_78 rfl rfl ?_
          refine e_iinc (c := 1) (pc' := 82) k168_79 rfl rfl rfl rfl ?_
          refine e_goto (pc' := 38) k168_82 (by decide) ?_
          rfl
        · refine e_iconst (v := 1) (pc' := 73) k168_72 rfl rfl ?_
          refine e_goto (pc' := 77) k168_73 (by decide) ?_
          refine e_iadd (pc' := 78) k168_77 rfl ?_
          refine e_istore_n (pc' := 79) k168_78 rfl rfl ?_
          refine e_iinc (c := 1) (pc' := 82) k168_79 rfl rfl rfl rfl ?_
          refine e_goto (pc' := 38) k168_82 (by decide) ?_
          rfl
      · refine e_aload_n (pc' := 55) k168_54 rfl rfl ?_
        refine e_getR (pc' := 58) k168_55 rfl (ci := 8) (k := 10) (by decide +kernel) (by decide +kernel) (fun x5 => ?_)
        refine e_iload_n (pc' := 59) k168_58 rfl rfl ?_
        refine e_iald (pc' := 60) k168_59 rfl (lw := false) rfl (fun x6 => ?_)
        refine e_goto (pc' := 77) k168_60 (by decide) ?_
        refine e_iadd (pc' := 78) k168_77 rfl ?_
        refine e_istore_n (pc' := 79) k168_78 rfl rfl ?_
        refine e_iinc (c := 1) (pc' := 82) k168_79 rfl rfl rfl rfl ?_
        refine e_goto (pc' := 38) k168_82 (by decide) ?_
        rfl
/-- SquareGroundsModel.count(I)I -/
theorem F168_eq (v0 : Nat) (v1 : Int32) (h : mHeap) : F 168 [.ref v0, .int v1] h = q168_4 v0 v1 0 0 h := by
  show D 168 0 (mEnt 168 [.ref v0, .int v1]) [] h 0 0 = _
  rw [show mEnt 168 [.ref v0, .int v1] = [some (.ref v0), some (.int v1), none, none] from rfl]
  refine e_iconst (v := 0) (pc' := 1) k168_0 rfl rfl ?_
  refine e_istore_n (pc' := 2) k168_1 rfl rfl ?_
  refine e_iconst (v := 0) (pc' := 3) k168_2 rfl rfl ?_
  refine e_istore_n (pc' := 4) k168_3 rfl rfl ?_
  rfl
theorem k169_0 : decode (mB 169) 0 = .ok (.aload_n 0, 1) := by decide +kernel
theorem k169_1 : decode (mB 169) 1 = .ok (.getfield 86, 3) := by decide +kernel
theorem k169_4 : decode (mB 169) 4 = .ok (.ireturn, 1) := by decide +kernel
/-- SquareGroundsModel.finding()I -/
theorem F169_eq (v0 : Nat) (h : mHeap) : F 169 [.ref v0] h = (gI h v0 8 0).bind fun x1 => some (some (.int x1), h) := by
  show D 169 0 (mEnt 169 [.ref v0]) [] h 0 0 = _
  rw [show mEnt 169 [.ref v0] = [some (.ref v0)] from rfl]
  refine e_aload_n (pc' := 1) k169_0 rfl rfl ?_
  refine e_getI (pc' := 4) k169_1 rfl (ci := 8) (k := 0) (by decide +kernel) (by decide +kernel) (fun x1 => ?_)
  exact e_iret k169_4 (by decide +kernel)
theorem k170_0 : decode (mB 170) 0 = .ok (.iload_n 1, 1) := by decide +kernel
theorem k170_1 : decode (mB 170) 1 = .ok (.iconst 1, 1) := by decide +kernel
theorem k170_2 : decode (mB 170) 2 = .ok (.iconst 5, 1) := by decide +kernel
theorem k170_3 : decode (mB 170) 3 = .ok (.invokestatic 90, 3) := by decide +kernel
theorem k170_6 : decode (mB 170) 6 = .ok (.ifCond .eq 12, 3) := by decide +kernel
theorem k170_9 : decode (mB 170) 9 = .ok (.aload_n 0, 1) := by decide +kernel
theorem k170_10 : decode (mB 170) 10 = .ok (.getfield 7, 3) := by decide +kernel
theorem k170_13 : decode (mB 170) 13 = .ok (.iload_n 1, 1) := by decide +kernel
theorem k170_14 : decode (mB 170) 14 = .ok (.iaload, 1) := by decide +kernel
theorem k170_15 : decode (mB 170) 15 = .ok (.goto 4, 3) := by decide +kernel
theorem k170_18 : decode (mB 170) 18 = .ok (.iconst (-1), 1) := by decide +kernel
theorem k170_19 : decode (mB 170) 19 = .ok (.ireturn, 1) := by decide +kernel
/-- SquareGroundsModel.findings(I)I -/
theorem F170_eq (v0 : Nat) (v1 : Int32) (h : mHeap) : F 170 [.ref v0, .int v1] h = (sI 100 [.int v1, .int 1, .int 5] h).bind fun q1 => if (q1.1 : Int32) = 0 then (some (some (.int (-1)), q1.2)) else ((gR q1.2 v0 8 1).bind fun x2 => (cAldI false q1.2 x2 v1).bind fun x3 => some (some (.int x3), q1.2)) := by
  show D 170 0 (mEnt 170 [.ref v0, .int v1]) [] h 0 0 = _
  rw [show mEnt 170 [.ref v0, .int v1] = [some (.ref v0), some (.int v1)] from rfl]
  refine e_iload_n (pc' := 1) k170_0 rfl rfl ?_
  refine e_iconst (v := 1) (pc' := 2) k170_1 rfl rfl ?_
  refine e_iconst (v := 5) (pc' := 3) k170_2 rfl rfl ?_
  refine e_sI (j' := 100) (as := [.int v1, .int 1, .int 5]) (rest := []) (pc' := 6) k170_3 rfl (show mCk 170 0 90 100 3 = true by decide +kernel) (Or.inr (by decide +kernel)) rfl (Nat.le_of_ble_eq_true rfl) (show 3 ≤ mL 100 by decide +kernel) (fun q1 => ?_)
  refine e_ifeq (t := 18) (pc' := 9) k170_6 rfl (by decide) (fun _ => ?_) (fun _ => ?_)
  · refine e_iconst (v := -1) (pc' := 19) k170_18 rfl rfl ?_
    exact e_iret k170_19 (by decide +kernel)
  · refine e_aload_n (pc' := 10) k170_9 rfl rfl ?_
    refine e_getR (pc' := 13) k170_10 rfl (ci := 8) (k := 1) (by decide +kernel) (by decide +kernel) (fun x2 => ?_)
    refine e_iload_n (pc' := 14) k170_13 rfl rfl ?_
    refine e_iald (pc' := 15) k170_14 rfl (lw := false) rfl (fun x3 => ?_)
    refine e_goto (pc' := 19) k170_15 (by decide) ?_
    exact e_iret k170_19 (by decide +kernel)
theorem k171_0 : decode (mB 171) 0 = .ok (.ldc2_w 236, 3) := by decide +kernel
theorem k171_3 : decode (mB 171) 3 = .ok (.lstore_n 1, 1) := by decide +kernel
theorem k171_4 : decode (mB 171) 4 = .ok (.iconst 0, 1) := by decide +kernel
theorem k171_5 : decode (mB 171) 5 = .ok (.istore_n 3, 1) := by decide +kernel
theorem k171_6 : decode (mB 171) 6 = .ok (.iload_n 3, 1) := by decide +kernel
theorem k171_7 : decode (mB 171) 7 = .ok (.bipush 10, 2) := by decide +kernel
theorem k171_9 : decode (mB 171) 9 = .ok (.if_icmp .ge 111, 3) := by decide +kernel
theorem k171_12 : decode (mB 171) 12 = .ok (.ldc2_w 238, 3) := by decide +kernel
theorem k171_15 : decode (mB 171) 15 = .ok (.lload_n 1, 1) := by decide +kernel
theorem k171_16 : decode (mB 171) 16 = .ok (.lmul, 1) := by decide +kernel
theorem k171_17 : decode (mB 171) 17 = .ok (.aload_n 0, 1) := by decide +kernel
theorem k171_18 : decode (mB 171) 18 = .ok (.getfield 34, 3) := by decide +kernel
theorem k171_21 : decode (mB 171) 21 = .ok (.iload_n 3, 1) := by decide +kernel
theorem k171_22 : decode (mB 171) 22 = .ok (.iaload, 1) := by decide +kernel
theorem k171_23 : decode (mB 171) 23 = .ok (.ifCond .ne 7, 3) := by decide +kernel
theorem k171_26 : decode (mB 171) 26 = .ok (.iconst (-1), 1) := by decide +kernel
theorem k171_27 : decode (mB 171) 27 = .ok (.goto 9, 3) := by decide +kernel
theorem k171_30 : decode (mB 171) 30 = .ok (.aload_n 0, 1) := by decide +kernel
theorem k171_31 : decode (mB 171) 31 = .ok (.getfield 34, 3) := by decide +kernel
theorem k171_34 : decode (mB 171) 34 = .ok (.iload_n 3, 1) := by decide +kernel
theorem k171_35 : decode (mB 171) 35 = .ok (.iaload, 1) := by decide +kernel
theorem k171_36 : decode (mB 171) 36 = .ok (.i2l, 1) := by decide +kernel
theorem k171_37 : decode (mB 171) 37 = .ok (.ladd, 1) := by decide +kernel
theorem k171_38 : decode (mB 171) 38 = .ok (.lstore_n 1, 1) := by decide +kernel
theorem k171_39 : decode (mB 171) 39 = .ok (.iconst 0, 1) := by decide +kernel
theorem k171_40 : decode (mB 171) 40 = .ok (.istore 4, 2) := by decide +kernel
theorem k171_42 : decode (mB 171) 42 = .ok (.iload 4, 2) := by decide +kernel
theorem k171_44 : decode (mB 171) 44 = .ok (.iconst 2, 1) := by decide +kernel
theorem k171_45 : decode (mB 171) 45 = .ok (.aload_n 0, 1) := by decide +kernel
theorem k171_46 : decode (mB 171) 46 = .ok (.getfield 34, 3) := by decide +kernel
theorem k171_49 : decode (mB 171) 49 = .ok (.iload_n 3, 1) := by decide +kernel
theorem k171_50 : decode (mB 171) 50 = .ok (.iaload, 1) := by decide +kernel
theorem k171_51 : decode (mB 171) 51 = .ok (.imul, 1) := by decide +kernel
theorem k171_52 : decode (mB 171) 52 = .ok (.if_icmp .ge 62, 3) := by decide +kernel
theorem k171_55 : decode (mB 171) 55 = .ok (.ldc2_w 238, 3) := by decide +kernel
theorem k171_58 : decode (mB 171) 58 = .ok (.lload_n 1, 1) := by decide +kernel
theorem k171_59 : decode (mB 171) 59 = .ok (.lmul, 1) := by decide +kernel
theorem k171_60 : decode (mB 171) 60 = .ok (.iload 4, 2) := by decide +kernel
theorem k171_62 : decode (mB 171) 62 = .ok (.aload_n 0, 1) := by decide +kernel
theorem k171_63 : decode (mB 171) 63 = .ok (.getfield 34, 3) := by decide +kernel
theorem k171_66 : decode (mB 171) 66 = .ok (.iload_n 3, 1) := by decide +kernel
theorem k171_67 : decode (mB 171) 67 = .ok (.iaload, 1) := by decide +kernel
theorem k171_68 : decode (mB 171) 68 = .ok (.if_icmp .ge 18, 3) := by decide +kernel
theorem k171_71 : decode (mB 171) 71 = .ok (.aload_n 0, 1) := by decide +kernel
theorem k171_72 : decode (mB 171) 72 = .ok (.getfield 37, 3) := by decide +kernel
theorem k171_75 : decode (mB 171) 75 = .ok (.bipush 8, 2) := by decide +kernel
theorem k171_77 : decode (mB 171) 77 = .ok (.iload_n 3, 1) := by decide +kernel
theorem k171_78 : decode (mB 171) 78 = .ok (.imul, 1) := by decide +kernel
theorem k171_79 : decode (mB 171) 79 = .ok (.iload 4, 2) := by decide +kernel
theorem k171_81 : decode (mB 171) 81 = .ok (.iadd, 1) := by decide +kernel
theorem k171_82 : decode (mB 171) 82 = .ok (.iaload, 1) := by decide +kernel
theorem k171_83 : decode (mB 171) 83 = .ok (.goto 22, 3) := by decide +kernel
theorem k171_86 : decode (mB 171) 86 = .ok (.aload_n 0, 1) := by decide +kernel
theorem k171_87 : decode (mB 171) 87 = .ok (.getfield 40, 3) := by decide +kernel
theorem k171_90 : decode (mB 171) 90 = .ok (.bipush 8, 2) := by decide +kernel
theorem k171_92 : decode (mB 171) 92 = .ok (.iload_n 3, 1) := by decide +kernel
theorem k171_93 : decode (mB 171) 93 = .ok (.imul, 1) := by decide +kernel
theorem k171_94 : decode (mB 171) 94 = .ok (.iload 4, 2) := by decide +kernel
theorem k171_96 : decode (mB 171) 96 = .ok (.iadd, 1) := by decide +kernel
theorem k171_97 : decode (mB 171) 97 = .ok (.aload_n 0, 1) := by decide +kernel
theorem k171_98 : decode (mB 171) 98 = .ok (.getfield 34, 3) := by decide +kernel
theorem k171_101 : decode (mB 171) 101 = .ok (.iload_n 3, 1) := by decide +kernel
theorem k171_102 : decode (mB 171) 102 = .ok (.iaload, 1) := by decide +kernel
theorem k171_103 : decode (mB 171) 103 = .ok (.isub, 1) := by decide +kernel
theorem k171_104 : decode (mB 171) 104 = .ok (.iaload, 1) := by decide +kernel
theorem k171_105 : decode (mB 171) 105 = .ok (.i2l, 1) := by decide +kernel
theorem k171_106 : decode (mB 171) 106 = .ok (.ladd, 1) := by decide +kernel
theorem k171_107 : decode (mB 171) 107 = .ok (.lstore_n 1, 1) := by decide +kernel
theorem k171_108 : decode (mB 171) 108 = .ok (.iinc 4 1, 3) := by decide +kernel
theorem k171_111 : decode (mB 171) 111 = .ok (.goto (-69), 3) := by decide +kernel
theorem k171_114 : decode (mB 171) 114 = .ok (.iinc 3 1, 3) := by decide +kernel
theorem k171_117 : decode (mB 171) 117 = .ok (.goto (-111), 3) := by decide +kernel
theorem k171_120 : decode (mB 171) 120 = .ok (.iconst 0, 1) := by decide +kernel
theorem k171_121 : decode (mB 171) 121 = .ok (.istore_n 3, 1) := by decide +kernel
theorem k171_122 : decode (mB 171) 122 = .ok (.iload_n 3, 1) := by decide +kernel
theorem k171_123 : decode (mB 171) 123 = .ok (.iconst 4, 1) := by decide +kernel
theorem k171_124 : decode (mB 171) 124 = .ok (.if_icmp .ge 76, 3) := by decide +kernel
theorem k171_127 : decode (mB 171) 127 = .ok (.ldc2_w 238, 3) := by decide +kernel
theorem k171_130 : decode (mB 171) 130 = .ok (.lload_n 1, 1) := by decide +kernel
theorem k171_131 : decode (mB 171) 131 = .ok (.lmul, 1) := by decide +kernel
theorem k171_132 : decode (mB 171) 132 = .ok (.aload_n 0, 1) := by decide +kernel
theorem k171_133 : decode (mB 171) 133 = .ok (.getfield 13, 3) := by decide +kernel
theorem k171_136 : decode (mB 171) 136 = .ok (.iload_n 3, 1) := by decide +kernel
theorem k171_137 : decode (mB 171) 137 = .ok (.iaload, 1) := by decide +kernel
theorem k171_138 : decode (mB 171) 138 = .ok (.ifCond .ge 7, 3) := by decide +kernel
theorem k171_141 : decode (mB 171) 141 = .ok (.iconst (-1), 1) := by decide +kernel
theorem k171_142 : decode (mB 171) 142 = .ok (.goto 9, 3) := by decide +kernel
theorem k171_145 : decode (mB 171) 145 = .ok (.aload_n 0, 1) := by decide +kernel
theorem k171_146 : decode (mB 171) 146 = .ok (.getfield 13, 3) := by decide +kernel
theorem k171_149 : decode (mB 171) 149 = .ok (.iload_n 3, 1) := by decide +kernel
theorem k171_150 : decode (mB 171) 150 = .ok (.iaload, 1) := by decide +kernel
theorem k171_151 : decode (mB 171) 151 = .ok (.i2l, 1) := by decide +kernel
theorem k171_152 : decode (mB 171) 152 = .ok (.ladd, 1) := by decide +kernel
theorem k171_153 : decode (mB 171) 153 = .ok (.lstore_n 1, 1) := by decide +kernel
theorem k171_154 : decode (mB 171) 154 = .ok (.iconst 0, 1) := by decide +kernel
theorem k171_155 : decode (mB 171) 155 = .ok (.istore 4, 2) := by decide +kernel
theorem k171_157 : decode (mB 171) 157 = .ok (.iload 4, 2) := by decide +kernel
theorem k171_159 : decode (mB 171) 159 = .ok (.aload_n 0, 1) := by decide +kernel
theorem k171_160 : decode (mB 171) 160 = .ok (.getfield 13, 3) := by decide +kernel
theorem k171_163 : decode (mB 171) 163 = .ok (.iload_n 3, 1) := by decide +kernel
theorem k171_164 : decode (mB 171) 164 = .ok (.iaload, 1) := by decide +kernel
theorem k171_165 : decode (mB 171) 165 = .ok (.if_icmp .ge 29, 3) := by decide +kernel
theorem k171_168 : decode (mB 171) 168 = .ok (.ldc2_w 238, 3) := by decide +kernel
theorem k171_171 : decode (mB 171) 171 = .ok (.lload_n 1, 1) := by decide +kernel
theorem k171_172 : decode (mB 171) 172 = .ok (.lmul, 1) := by decide +kernel
theorem k171_173 : decode (mB 171) 173 = .ok (.aload_n 0, 1) := by decide +kernel
theorem k171_174 : decode (mB 171) 174 = .ok (.getfield 16, 3) := by decide +kernel
theorem k171_177 : decode (mB 171) 177 = .ok (.bipush 8, 2) := by decide +kernel
theorem k171_179 : decode (mB 171) 179 = .ok (.iload_n 3, 1) := by decide +kernel
theorem k171_180 : decode (mB 171) 180 = .ok (.imul, 1) := by decide +kernel
theorem k171_181 : decode (mB 171) 181 = .ok (.iload 4, 2) := by decide +kernel
theorem k171_183 : decode (mB 171) 183 = .ok (.iadd, 1) := by decide +kernel
theorem k171_184 : decode (mB 171) 184 = .ok (.iaload, 1) := by decide +kernel
theorem k171_185 : decode (mB 171) 185 = .ok (.i2l, 1) := by decide +kernel
theorem k171_186 : decode (mB 171) 186 = .ok (.ladd, 1) := by decide +kernel
theorem k171_187 : decode (mB 171) 187 = .ok (.lstore_n 1, 1) := by decide +kernel
theorem k171_188 : decode (mB 171) 188 = .ok (.iinc 4 1, 3) := by decide +kernel
theorem k171_191 : decode (mB 171) 191 = .ok (.goto (-34), 3) := by decide +kernel
theorem k171_194 : decode (mB 171) 194 = .ok (.iinc 3 1, 3) := by decide +kernel
theorem k171_197 : decode (mB 171) 197 = .ok (.goto (-75), 3) := by decide +kernel
theorem k171_200 : decode (mB 171) 200 = .ok (.lload_n 1, 1) := by decide +kernel
theorem k171_201 : decode (mB 171) 201 = .ok (.lreturn, 1) := by decide +kernel
/-- SquareGroundsModel.digest, loop at 6 -/
noncomputable def q171_6 (v0 : Nat) (v1 : Int64) (v3 : Int32) (d4 : Option Value) (h : mHeap) : mR' := E 171 6 [some (.ref v0), some (.long v1), none, some (.int v3), d4] [] h
/-- SquareGroundsModel.digest, loop at 42 -/
noncomputable def q171_42 (v0 : Nat) (v1 : Int64) (v3 : Int32) (v4 : Int32) (h : mHeap) : mR' := E 171 42 [some (.ref v0), some (.long v1), none, some (.int v3), some (.int v4)] [] h
/-- SquareGroundsModel.digest, loop at 122 -/
noncomputable def q171_122 (v0 : Nat) (v1 : Int64) (v3 : Int32) (d4 : Option Value) (h : mHeap) : mR' := E 171 122 [some (.ref v0), some (.long v1), none, some (.int v3), d4] [] h
/-- SquareGroundsModel.digest, loop at 157 -/
noncomputable def q171_157 (v0 : Nat) (v1 : Int64) (v3 : Int32) (v4 : Int32) (h : mHeap) : mR' := E 171 157 [some (.ref v0), some (.long v1), none, some (.int v3), some (.int v4)] [] h
theorem q171_6_eq (v0 : Nat) (v1 : Int64) (v3 : Int32) (d4 : Option Value) (h : mHeap) : q171_6 v0 v1 v3 d4 h = if 10 ≤ (v3 : Int32) then (q171_122 v0 v1 0 d4 h) else ((gR h v0 8 10).bind fun x1 => (cAldI false h x1 v3).bind fun x2 => if ¬ (x2 : Int32) = 0 then ((gR h v0 8 10).bind fun x3 => (cAldI false h x3 v3).bind fun x4 => q171_42 v0 ((31 * v1) + (Int32.toInt64 x4)) v3 0 h) else (q171_42 v0 ((31 * v1) + (Int32.toInt64 (-1))) v3 0 h)) := by
  unfold q171_6
  refine e_iload_n (pc' := 7) k171_6 rfl rfl ?_
  refine e_bipush (v := 10) (pc' := 9) k171_7 rfl rfl ?_
  refine e_icmpge (t := 120) (pc' := 12) k171_9 rfl (by decide) (fun _ => ?_) (fun _ => ?_)
  · refine e_iconst (v := 0) (pc' := 121) k171_120 rfl rfl ?_
    refine e_istore_n (pc' := 122) k171_121 rfl rfl ?_
    rfl
  · refine e_ldc2 (v := 31) (pc' := 15) k171_12 rfl (by decide +kernel) ?_
    refine e_lload_n (pc' := 16) k171_15 rfl rfl ?_
    refine e_lmul (pc' := 17) k171_16 rfl ?_
    refine e_aload_n (pc' := 18) k171_17 rfl rfl ?_
    refine e_getR (pc' := 21) k171_18 rfl (ci := 8) (k := 10) (by decide +kernel) (by decide +kernel) (fun x1 => ?_)
    refine e_iload_n (pc' := 22) k171_21 rfl rfl ?_
    refine e_iald (pc' := 23) k171_22 rfl (lw := false) rfl (fun x2 => ?_)
    refine e_ifne (t := 30) (pc' := 26) k171_23 rfl (by decide) (fun _ => ?_) (fun _ => ?_)
    · refine e_aload_n (pc' := 31) k171_30 rfl rfl ?_
      refine e_getR (pc' := 34) k171_31 rfl (ci := 8) (k := 10) (by decide +kernel) (by decide +kernel) (fun x3 => ?_)
      refine e_iload_n (pc' := 35) k171_34 rfl rfl ?_
      refine e_iald (pc' := 36) k171_35 rfl (lw := false) rfl (fun x4 => ?_)
      refine e_i2l (pc' := 37) k171_36 rfl ?_
      refine e_ladd (pc' := 38) k171_37 rfl ?_
      refine e_lstore_n (pc' := 39) k171_38 rfl rfl ?_
      refine e_iconst (v := 0) (pc' := 40) k171_39 rfl rfl ?_
      refine e_istore (pc' := 42) k171_40 rfl rfl ?_
      rfl
    · refine e_iconst (v := -1) (pc' := 27) k171_26 rfl rfl ?_
      refine e_goto (pc' := 36) k171_27 (by decide) ?_
      refine e_i2l (pc' := 37) k171_36 rfl ?_
      refine e_ladd (pc' := 38) k171_37 rfl ?_
      refine e_lstore_n (pc' := 39) k171_38 rfl rfl ?_
      refine e_iconst (v := 0) (pc' := 40) k171_39 rfl rfl ?_
      refine e_istore (pc' := 42) k171_40 rfl rfl ?_
      rfl
theorem q171_42_eq (v0 : Nat) (v1 : Int64) (v3 : Int32) (v4 : Int32) (h : mHeap) : q171_42 v0 v1 v3 v4 h = (gR h v0 8 10).bind fun x1 => (cAldI false h x1 v3).bind fun x2 => if (2 * x2) ≤ (v4 : Int32) then (q171_6 v0 v1 (v3 + 1) (some (.int v4)) h) else ((gR h v0 8 10).bind fun x3 => (cAldI false h x3 v3).bind fun x4 => if x4 ≤ (v4 : Int32) then ((gR h v0 8 12).bind fun x5 => (gR h v0 8 10).bind fun x6 => (cAldI false h x6 v3).bind fun x7 => (cAldI false h x5 (((8 * v3) + v4) - x7)).bind fun x8 => q171_42 v0 ((31 * v1) + (Int32.toInt64 x8)) v3 (v4 + 1) h) else ((gR h v0 8 11).bind fun x9 => (cAldI false h x9 ((8 * v3) + v4)).bind fun x10 => q171_42 v0 ((31 * v1) + (Int32.toInt64 x10)) v3 (v4 + 1) h)) := by
  unfold q171_42
  refine e_iload (pc' := 44) k171_42 rfl rfl ?_
  refine e_iconst (v := 2) (pc' := 45) k171_44 rfl rfl ?_
  refine e_aload_n (pc' := 46) k171_45 rfl rfl ?_
  refine e_getR (pc' := 49) k171_46 rfl (ci := 8) (k := 10) (by decide +kernel) (by decide +kernel) (fun x1 => ?_)
  refine e_iload_n (pc' := 50) k171_49 rfl rfl ?_
  refine e_iald (pc' := 51) k171_50 rfl (lw := false) rfl (fun x2 => ?_)
  refine e_imul (pc' := 52) k171_51 rfl ?_
  refine e_icmpge (t := 114) (pc' := 55) k171_52 rfl (by decide) (fun _ => ?_) (fun _ => ?_)
  · refine e_iinc (c := 1) (pc' := 117) k171_114 rfl rfl rfl rfl ?_
    refine e_goto (pc' := 6) k171_117 (by decide) ?_
    rfl
  · refine e_ldc2 (v := 31) (pc' := 58) k171_55 rfl (by decide +kernel) ?_
    refine e_lload_n (pc' := 59) k171_58 rfl rfl ?_
    refine e_lmul (pc' := 60) k171_59 rfl ?_
    refine e_iload (pc' := 62) k171_60 rfl rfl ?_
    refine e_aload_n (pc' := 63) k171_62 rfl rfl ?_
    refine e_getR (pc' := 66) k171_63 rfl (ci := 8) (k := 10) (by decide +kernel) (by decide +kernel) (fun x3 => ?_)
    refine e_iload_n (pc' := 67) k171_66 rfl rfl ?_
    refine e_iald (pc' := 68) k171_67 rfl (lw := false) rfl (fun x4 => ?_)
    refine e_icmpge (t := 86) (pc' := 71) k171_68 rfl (by decide) (fun _ => ?_) (fun _ => ?_)
    · refine e_aload_n (pc' := 87) k171_86 rfl rfl ?_
      refine e_getR (pc' := 90) k171_87 rfl (ci := 8) (k := 12) (by decide +kernel) (by decide +kernel) (fun x5 => ?_)
      refine e_bipush (v := 8) (pc' := 92) k171_90 rfl rfl ?_
      refine e_iload_n (pc' := 93) k171_92 rfl rfl ?_
      refine e_imul (pc' := 94) k171_93 rfl ?_
      refine e_iload (pc' := 96) k171_94 rfl rfl ?_
      refine e_iadd (pc' := 97) k171_96 rfl ?_
      refine e_aload_n (pc' := 98) k171_97 rfl rfl ?_
      refine e_getR (pc' := 101) k171_98 rfl (ci := 8) (k := 10) (by decide +kernel) (by decide +kernel) (fun x6 => ?_)
      refine e_iload_n (pc' := 102) k171_101 rfl rfl ?_
      refine e_iald (pc' := 103) k171_102 rfl (lw := false) rfl (fun x7 => ?_)
      refine e_isub (pc' := 104) k171_103 rfl ?_
      refine e_iald (pc' := 105) k171_104 rfl (lw := false) rfl (fun x8 => ?_)
      refine e_i2l (pc' := 106) k171_105 rfl ?_
      refine e_ladd (pc' := 107) k171_106 rfl ?_
      refine e_lstore_n (pc' := 108) k171_107 rfl rfl ?_
      refine e_iinc (c := 1) (pc' := 111) k171_108 rfl rfl rfl rfl ?_
      refine e_goto (pc' := 42) k171_111 (by decide) ?_
      rfl
    · refine e_aload_n (pc' := 72) k171_71 rfl rfl ?_
      refine e_getR (pc' := 75) k171_72 rfl (ci := 8) (k := 11) (by decide +kernel) (by decide +kernel) (fun x9 => ?_)
      refine e_bipush (v := 8) (pc' := 77) k171_75 rfl rfl ?_
      refine e_iload_n (pc' := 78) k171_77 rfl rfl ?_
      refine e_imul (pc' := 79) k171_78 rfl ?_
      refine e_iload (pc' := 81) k171_79 rfl rfl ?_
      refine e_iadd (pc' := 82) k171_81 rfl ?_
      refine e_iald (pc' := 83) k171_82 rfl (lw := false) rfl (fun x10 => ?_)
      refine e_goto (pc' := 105) k171_83 (by decide) ?_
      refine e_i2l (pc' := 106) k171_105 rfl ?_
      refine e_ladd (pc' := 107) k171_106 rfl ?_
      refine e_lstore_n (pc' := 108) k171_107 rfl rfl ?_
      refine e_iinc (c := 1) (pc' := 111) k171_108 rfl rfl rfl rfl ?_
      refine e_goto (pc' := 42) k171_111 (by decide) ?_
      rfl
theorem q171_122_eq (v0 : Nat) (v1 : Int64) (v3 : Int32) (d4 : Option Value) (h : mHeap) : q171_122 v0 v1 v3 d4 h = if 4 ≤ (v3 : Int32) then (some (some (.long v1), h)) else ((gR h v0 8 2).bind fun x1 => (cAldI false h x1 v3).bind fun x2 => if 0 ≤ (x2 : Int32) then ((gR h v0 8 2).bind fun x3 => (cAldI false h x3 v3).bind fun x4 => q171_157 v0 ((31 * v1) + (Int32.toInt64 x4)) v3 0 h) else (q171_157 v0 ((31 * v1) + (Int32.toInt64 (-1))) v3 0 h)) := by
  unfold q171_122
  refine e_iload_n (pc' := 123) k171_122 rfl rfl ?_
  refine e_iconst (v := 4) (pc' := 124) k171_123 rfl rfl ?_
  refine e_icmpge (t := 200) (pc' := 127) k171_124 rfl (by decide) (fun _ => ?_) (fun _ => ?_)
  · refine e_lload_n (pc' := 201) k171_200 rfl rfl ?_
    exact e_lret k171_201 (by decide +kernel)
  · refine e_ldc2 (v := 31) (pc' := 130) k171_127 rfl (by decide +kernel) ?_
    refine e_lload_n (pc' := 131) k171_130 rfl rfl ?_
    refine e_lmul (pc' := 132) k171_131 rfl ?_
    refine e_aload_n (pc' := 133) k171_132 rfl rfl ?_
    refine e_getR (pc' := 136) k171_133 rfl (ci := 8) (k := 2) (by decide +kernel) (by decide +kernel) (fun x1 => ?_)
    refine e_iload_n (pc' := 137) k171_136 rfl rfl ?_
    refine e_iald (pc' := 138) k171_137 rfl (lw := false) rfl (fun x2 => ?_)
    refine e_ifge (t := 145) (pc' := 141) k171_138 rfl (by decide) (fun _ => ?_) (fun _ => ?_)
    · refine e_aload_n (pc' := 146) k171_145 rfl rfl ?_
      refine e_getR (pc' := 149) k171_146 rfl (ci := 8) (k := 2) (by decide +kernel) (by decide +kernel) (fun x3 => ?_)
      refine e_iload_n (pc' := 150) k171_149 rfl rfl ?_
      refine e_iald (pc' := 151) k171_150 rfl (lw := false) rfl (fun x4 => ?_)
      refine e_i2l (pc' := 152) k171_151 rfl ?_
      refine e_ladd (pc' := 153) k171_152 rfl ?_
      refine e_lstore_n (pc' := 154) k171_153 rfl rfl ?_
      refine e_iconst (v := 0) (pc' := 155) k171_154 rfl rfl ?_
      refine e_istore (pc' := 157) k171_155 rfl rfl ?_
      rfl
    · refine e_iconst (v := -1) (pc' := 142) k171_141 rfl rfl ?_
      refine e_goto (pc' := 151) k171_142 (by decide) ?_
      refine e_i2l (pc' := 152) k171_151 rfl ?_
      refine e_ladd (pc' := 153) k171_152 rfl ?_
      refine e_lstore_n (pc' := 154) k171_153 rfl rfl ?_
      refine e_iconst (v := 0) (pc' := 155) k171_154 rfl rfl ?_
      refine e_istore (pc' := 157) k171_155 rfl rfl ?_
      rfl
theorem q171_157_eq (v0 : Nat) (v1 : Int64) (v3 : Int32) (v4 : Int32) (h : mHeap) : q171_157 v0 v1 v3 v4 h = (gR h v0 8 2).bind fun x1 => (cAldI false h x1 v3).bind fun x2 => if x2 ≤ (v4 : Int32) then (q171_122 v0 v1 (v3 + 1) (some (.int v4)) h) else ((gR h v0 8 3).bind fun x3 => (cAldI false h x3 ((8 * v3) + v4)).bind fun x4 => q171_157 v0 ((31 * v1) + (Int32.toInt64 x4)) v3 (v4 + 1) h) := by
  unfold q171_157
  refine e_iload (pc' := 159) k171_157 rfl rfl ?_
  refine e_aload_n (pc' := 160) k171_159 rfl rfl ?_
  refine e_getR (pc' := 163) k171_160 rfl (ci := 8) (k := 2) (by decide +kernel) (by decide +kernel) (fun x1 => ?_)
  refine e_iload_n (pc' := 164) k171_163 rfl rfl ?_
  refine e_iald (pc' := 165) k171_164 rfl (lw := false) rfl (fun x2 => ?_)
  refine e_icmpge (t := 194) (pc' := 168) k171_165 rfl (by decide) (fun _ => ?_) (fun _ => ?_)
  · refine e_iinc (c := 1) (pc' := 197) k171_194 rfl rfl rfl rfl ?_
    refine e_goto (pc' := 122) k171_197 (by decide) ?_
    rfl
  · refine e_ldc2 (v := 31) (pc' := 171) k171_168 rfl (by decide +kernel) ?_
    refine e_lload_n (pc' := 172) k171_171 rfl rfl ?_
    refine e_lmul (pc' := 173) k171_172 rfl ?_
    refine e_aload_n (pc' := 174) k171_173 rfl rfl ?_
    refine e_getR (pc' := 177) k171_174 rfl (ci := 8) (k := 3) (by decide +kernel) (by decide +kernel) (fun x3 => ?_)
    refine e_bipush (v := 8) (pc' := 179) k171_177 rfl rfl ?_
    refine e_iload_n (pc' := 180) k171_179 rfl rfl ?_
    refine e_imul (pc' := 181) k171_180 rfl ?_
    refine e_iload (pc' := 183) k171_181 rfl rfl ?_
    refine e_iadd (pc' := 184) k171_183 rfl ?_
    refine e_iald (pc' := 185) k171_184 rfl (lw := false) rfl (fun x4 => ?_)
    refine e_i2l (pc' := 186) k171_185 rfl ?_
    refine e_ladd (pc' := 187) k171_186 rfl ?_
    refine e_lstore_n (pc' := 188) k171_187 rfl rfl ?_
    refine e_iinc (c := 1) (pc' := 191) k171_188 rfl rfl rfl rfl ?_
    refine e_goto (pc' := 157) k171_191 (by decide) ?_
    rfl
/-- SquareGroundsModel.digest()J -/
theorem F171_eq (v0 : Nat) (h : mHeap) : F 171 [.ref v0] h = q171_6 v0 17 0 none h := by
  show D 171 0 (mEnt 171 [.ref v0]) [] h 0 0 = _
  rw [show mEnt 171 [.ref v0] = [some (.ref v0), none, none, none, none] from rfl]
  refine e_ldc2 (v := 17) (pc' := 3) k171_0 rfl (by decide +kernel) ?_
  refine e_lstore_n (pc' := 4) k171_3 rfl rfl ?_
  refine e_iconst (v := 0) (pc' := 5) k171_4 rfl rfl ?_
  refine e_istore_n (pc' := 6) k171_5 rfl rfl ?_
  rfl
