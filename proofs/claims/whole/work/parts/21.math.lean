theorem k172_0 : decode (mB 172) 0 = .ok (.iload_n 0, 1) := by decide +kernel
theorem k172_1 : decode (mB 172) 1 = .ok (.iload_n 1, 1) := by decide +kernel
theorem k172_2 : decode (mB 172) 2 = .ok (.idiv, 1) := by decide +kernel
theorem k172_3 : decode (mB 172) 3 = .ok (.istore_n 2, 1) := by decide +kernel
theorem k172_4 : decode (mB 172) 4 = .ok (.iload_n 0, 1) := by decide +kernel
theorem k172_5 : decode (mB 172) 5 = .ok (.iload_n 1, 1) := by decide +kernel
theorem k172_6 : decode (mB 172) 6 = .ok (.ixor, 1) := by decide +kernel
theorem k172_7 : decode (mB 172) 7 = .ok (.ifCond .ge 14, 3) := by decide +kernel
theorem k172_10 : decode (mB 172) 10 = .ok (.iload_n 2, 1) := by decide +kernel
theorem k172_11 : decode (mB 172) 11 = .ok (.iload_n 1, 1) := by decide +kernel
theorem k172_12 : decode (mB 172) 12 = .ok (.imul, 1) := by decide +kernel
theorem k172_13 : decode (mB 172) 13 = .ok (.iload_n 0, 1) := by decide +kernel
theorem k172_14 : decode (mB 172) 14 = .ok (.if_icmp .eq 7, 3) := by decide +kernel
theorem k172_17 : decode (mB 172) 17 = .ok (.iload_n 2, 1) := by decide +kernel
theorem k172_18 : decode (mB 172) 18 = .ok (.iconst 1, 1) := by decide +kernel
theorem k172_19 : decode (mB 172) 19 = .ok (.isub, 1) := by decide +kernel
theorem k172_20 : decode (mB 172) 20 = .ok (.ireturn, 1) := by decide +kernel
theorem k172_21 : decode (mB 172) 21 = .ok (.iload_n 2, 1) := by decide +kernel
theorem k172_22 : decode (mB 172) 22 = .ok (.ireturn, 1) := by decide +kernel
/-- java/lang/Math.floorDiv(II)I -/
theorem F172_eq (v0 : Int32) (v1 : Int32) (h : mHeap) : F 172 [.int v0, .int v1] h = if (v1 : Int32) = 0 then none else (if 0 ≤ ((v0 ^^^ v1) : Int32) then (some (some (.int (v0 / v1)), h)) else (if (((v0 / v1) * v1) : Int32) = v0 then (some (some (.int (v0 / v1)), h)) else (some (some (.int ((v0 / v1) - 1)), h)))) := by
  show D 172 0 (mEnt 172 [.int v0, .int v1]) [] h 0 0 = _
  rw [show mEnt 172 [.int v0, .int v1] = [some (.int v0), some (.int v1), none] from rfl]
  refine e_iload_n (pc' := 1) k172_0 rfl rfl ?_
  refine e_iload_n (pc' := 2) k172_1 rfl rfl ?_
  refine e_idiv (pc' := 3) k172_2 rfl ?_
  refine e_istore_n (pc' := 4) k172_3 rfl rfl ?_
  refine e_iload_n (pc' := 5) k172_4 rfl rfl ?_
  refine e_iload_n (pc' := 6) k172_5 rfl rfl ?_
  refine e_ixor (pc' := 7) k172_6 rfl ?_
  refine e_ifge (t := 21) (pc' := 10) k172_7 rfl (by decide) (fun _ => ?_) (fun _ => ?_)
  · refine e_iload_n (pc' := 22) k172_21 rfl rfl ?_
    exact e_iret k172_22 (by decide +kernel)
  · refine e_iload_n (pc' := 11) k172_10 rfl rfl ?_
    refine e_iload_n (pc' := 12) k172_11 rfl rfl ?_
    refine e_imul (pc' := 13) k172_12 rfl ?_
    refine e_iload_n (pc' := 14) k172_13 rfl rfl ?_
    refine e_icmpeq (t := 21) (pc' := 17) k172_14 rfl (by decide) (fun _ => ?_) (fun _ => ?_)
    · refine e_iload_n (pc' := 22) k172_21 rfl rfl ?_
      exact e_iret k172_22 (by decide +kernel)
    · refine e_iload_n (pc' := 18) k172_17 rfl rfl ?_
      refine e_iconst (v := 1) (pc' := 19) k172_18 rfl rfl ?_
      refine e_isub (pc' := 20) k172_19 rfl ?_
      exact e_iret k172_20 (by decide +kernel)
theorem k173_0 : decode (mB 173) 0 = .ok (.iload_n 0, 1) := by decide +kernel
theorem k173_1 : decode (mB 173) 1 = .ok (.ifCond .ge 8, 3) := by decide +kernel
theorem k173_4 : decode (mB 173) 4 = .ok (.iload_n 0, 1) := by decide +kernel
theorem k173_5 : decode (mB 173) 5 = .ok (.ineg, 1) := by decide +kernel
theorem k173_6 : decode (mB 173) 6 = .ok (.goto 4, 3) := by decide +kernel
theorem k173_9 : decode (mB 173) 9 = .ok (.iload_n 0, 1) := by decide +kernel
theorem k173_10 : decode (mB 173) 10 = .ok (.ireturn, 1) := by decide +kernel
/-- java/lang/Math.abs(I)I -/
theorem F173_eq (v0 : Int32) (h : mHeap) : F 173 [.int v0] h = if 0 ≤ (v0 : Int32) then (some (some (.int v0), h)) else (some (some (.int (-v0)), h)) := by
  show D 173 0 (mEnt 173 [.int v0]) [] h 0 0 = _
  rw [show mEnt 173 [.int v0] = [some (.int v0)] from rfl]
  refine e_iload_n (pc' := 1) k173_0 rfl rfl ?_
  refine e_ifge (t := 9) (pc' := 4) k173_1 rfl (by decide) (fun _ => ?_) (fun _ => ?_)
  · refine e_iload_n (pc' := 10) k173_9 rfl rfl ?_
    exact e_iret k173_10 (by decide +kernel)
  · refine e_iload_n (pc' := 5) k173_4 rfl rfl ?_
    refine e_ineg (pc' := 6) k173_5 rfl ?_
    refine e_goto (pc' := 10) k173_6 (by decide) ?_
    exact e_iret k173_10 (by decide +kernel)
theorem k174_0 : decode (mB 174) 0 = .ok (.iload_n 0, 1) := by decide +kernel
theorem k174_1 : decode (mB 174) 1 = .ok (.iload_n 1, 1) := by decide +kernel
theorem k174_2 : decode (mB 174) 2 = .ok (.if_icmp .lt 7, 3) := by decide +kernel
theorem k174_5 : decode (mB 174) 5 = .ok (.iload_n 0, 1) := by decide +kernel
theorem k174_6 : decode (mB 174) 6 = .ok (.goto 4, 3) := by decide +kernel
theorem k174_9 : decode (mB 174) 9 = .ok (.iload_n 1, 1) := by decide +kernel
theorem k174_10 : decode (mB 174) 10 = .ok (.ireturn, 1) := by decide +kernel
/-- java/lang/Math.max(II)I -/
theorem F174_eq (v0 : Int32) (v1 : Int32) (h : mHeap) : F 174 [.int v0, .int v1] h = if (v0 : Int32) < v1 then (some (some (.int v1), h)) else (some (some (.int v0), h)) := by
  show D 174 0 (mEnt 174 [.int v0, .int v1]) [] h 0 0 = _
  rw [show mEnt 174 [.int v0, .int v1] = [some (.int v0), some (.int v1)] from rfl]
  refine e_iload_n (pc' := 1) k174_0 rfl rfl ?_
  refine e_iload_n (pc' := 2) k174_1 rfl rfl ?_
  refine e_icmplt (t := 9) (pc' := 5) k174_2 rfl (by decide) (fun _ => ?_) (fun _ => ?_)
  · refine e_iload_n (pc' := 10) k174_9 rfl rfl ?_
    exact e_iret k174_10 (by decide +kernel)
  · refine e_iload_n (pc' := 6) k174_5 rfl rfl ?_
    refine e_goto (pc' := 10) k174_6 (by decide) ?_
    exact e_iret k174_10 (by decide +kernel)
theorem k175_0 : decode (mB 175) 0 = .ok (.iload_n 0, 1) := by decide +kernel
theorem k175_1 : decode (mB 175) 1 = .ok (.iload_n 1, 1) := by decide +kernel
theorem k175_2 : decode (mB 175) 2 = .ok (.if_icmp .gt 7, 3) := by decide +kernel
theorem k175_5 : decode (mB 175) 5 = .ok (.iload_n 0, 1) := by decide +kernel
theorem k175_6 : decode (mB 175) 6 = .ok (.goto 4, 3) := by decide +kernel
theorem k175_9 : decode (mB 175) 9 = .ok (.iload_n 1, 1) := by decide +kernel
theorem k175_10 : decode (mB 175) 10 = .ok (.ireturn, 1) := by decide +kernel
/-- java/lang/Math.min(II)I -/
theorem F175_eq (v0 : Int32) (v1 : Int32) (h : mHeap) : F 175 [.int v0, .int v1] h = if v1 < (v0 : Int32) then (some (some (.int v1), h)) else (some (some (.int v0), h)) := by
  show D 175 0 (mEnt 175 [.int v0, .int v1]) [] h 0 0 = _
  rw [show mEnt 175 [.int v0, .int v1] = [some (.int v0), some (.int v1)] from rfl]
  refine e_iload_n (pc' := 1) k175_0 rfl rfl ?_
  refine e_iload_n (pc' := 2) k175_1 rfl rfl ?_
  refine e_icmpgt (t := 9) (pc' := 5) k175_2 rfl (by decide) (fun _ => ?_) (fun _ => ?_)
  · refine e_iload_n (pc' := 10) k175_9 rfl rfl ?_
    exact e_iret k175_10 (by decide +kernel)
  · refine e_iload_n (pc' := 6) k175_5 rfl rfl ?_
    refine e_goto (pc' := 10) k175_6 (by decide) ?_
    exact e_iret k175_10 (by decide +kernel)
