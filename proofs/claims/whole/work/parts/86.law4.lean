/-! the law: its loop, its beginning, the claim -/
theorem and63 (x : Int32) : ∃ k, k < 64 ∧ x &&& 63 = nI k := by
  refine ⟨(x &&& 63).toBitVec.toNat, ?_, ?_⟩
  · have e : (x &&& 63).toBitVec = x.toBitVec &&& (63 : Int32).toBitVec := rfl
    rw [e, BitVec.toNat_and]
    have : (63 : Int32).toBitVec.toNat = 63 := rfl
    rw [this]
    have := Nat.and_le_right (n := x.toBitVec.toNat) (m := 63)
    omega
  · apply Int32.toBitVec_inj.mp
    apply BitVec.eq_of_toNat_eq
    rw [nI_tn, Nat.mod_eq_of_lt (x &&& 63).toBitVec.isLt]
section LOOP
variable {L i : Nat} {xs : Nat → Int32} {S : St} {h : mHeap}
theorem Lw_end : Lw 1198 i [] h = Lw 18 (i + 6) [] h := by
  unfold Lw
  have e : mst (lv i) 3 (.int (nI i + Int32.ofInt 6)) = some (lv (i + 6)) := by
    rw [show Int32.ofInt 6 = nI 6 by decide +kernel, iAdd]
    rfl
  rw [D_next (pc := 1198) (pc' := 1201) (ls' := lv (i + 6)) (st' := []) (h' := h) (cu' := cuA) (su' := suA) (of_decide_eq_true (show decide (decode (mB 176) 1198 = .ok (.iinc 3 6, 3)) = true by decide +kernel)) (by
    show (match mst (lv i) 3 (.int (nI i + Int32.ofInt 6)) with
      | some ls' => mnx (1198 + 3) ls' [] h cuA suA
      | none => none) = _
    rw [e]
    rfl)]
  exact D_next (pc := 1201) (of_decide_eq_true (show decide (decode (mB 176) 1201 = .ok (.goto (-1183), 3)) = true by decide +kernel)) (by simp only [mx, mnx, mtg_of (show ((1201 : Nat) : Int) + (-1183) = ((18 : Nat) : Int) by decide), if_true])
theorem law_rt : mRt 176 = some .boolean ∨ mRt 176 = some .int := by decide +kernel
theorem Lw_done : Lw 1204 i [] h = some (some (.int 1), h) := by
  unfold Lw
  rw [D_next (pc := 1204) (pc' := 1205) (ls' := lv i) (st' := [.int 1]) (h' := h) (cu' := cuA) (su' := suA) (of_decide_eq_true (show decide (decode (mB 176) 1204 = .ok (.iconst 1, 1)) = true by decide +kernel)) rfl]
  refine D_ret (of_decide_eq_true (show decide (decode (mB 176) 1205 = .ok (.ireturn, 1)) = true by decide +kernel)) ?_
  rcases law_rt with e | e
  · simp only [mx, mRet, e]
    rw [if_pos trivial, if_pos (show narrow .boolean (.int 1) = .int 1 from of_eq_true nz1)]
  · simp only [mx, mRet, e, if_true]
theorem cLen_law (h1 : h[1]? = some (k6 L xs)) : cLen (176 == mLaw) h 1 = some (nI L) := by
  unfold cLen
  rw [h1]
  exact if_pos (by decide)
theorem Lw_head (h1 : h[1]? = some (k6 L xs)) (hL : L ≤ 3072) (hi : i < 5000) : Lw 18 i [] h = if L < i + 6 then Lw 1204 i [] h else Lw 27 i [] h := by
  unfold Lw
  rw [D_next (pc := 18) (pc' := 19) (ls' := lv i) (st' := [.int (nI i)]) (h' := h) (cu' := cuA) (su' := suA) (of_decide_eq_true (show decide (decode (mB 176) 18 = .ok (.iload_n 3, 1)) = true by decide +kernel)) rfl]
  rw [D_next (pc := 19) (pc' := 20) (ls' := lv i) (st' := [.ref 1, .int (nI i)]) (h' := h) (cu' := cuA) (su' := suA) (of_decide_eq_true (show decide (decode (mB 176) 19 = .ok (.aload_n 0, 1)) = true by decide +kernel)) rfl]
  rw [D_next (pc := 20) (pc' := 21) (ls' := lv i) (st' := [.int (nI L), .int (nI i)]) (h' := h) (cu' := cuA) (su' := suA) (of_decide_eq_true (show decide (decode (mB 176) 20 = .ok (.arraylength, 1)) = true by decide +kernel)) (by simp only [mx, mnx, cLen_law h1, if_true])]
  rw [D_next (pc := 21) (pc' := 23) (ls' := lv i) (st' := [.int 6, .int (nI L), .int (nI i)]) (h' := h) (cu' := cuA) (su' := suA) (of_decide_eq_true (show decide (decode (mB 176) 21 = .ok (.bipush 6, 2)) = true by decide +kernel)) rfl]
  rw [D_next (pc := 23) (pc' := 24) (ls' := lv i) (st' := [.int (nI L - 6), .int (nI i)]) (h' := h) (cu' := cuA) (su' := suA) (of_decide_eq_true (show decide (decode (mB 176) 23 = .ok (.isub, 1)) = true by decide +kernel)) rfl]
  have e6 : (6 : Int32).toInt = 6 := rfl
  have eL : (nI L).toInt = L := toInt_nI (by omega)
  have ei : (nI i).toInt = i := toInt_nI (by omega)
  have hc : (nI L - 6 < nI i) = (L < i + 6) := by
    rw [Int32.lt_iff_toInt_lt, i_sub (by rw [eL, e6]; omega), eL, e6, ei]
    exact propext ⟨fun z => by omega, fun z => by omega⟩
  have t1 : ((24 : Nat) : Int) + 1180 = ((1204 : Nat) : Int) := by decide
  have hd : decode (mB 176) 24 = .ok (.if_icmp .gt 1180, 3) := of_decide_eq_true (show decide (decode (mB 176) 24 = .ok (.if_icmp .gt 1180, 3)) = true by decide +kernel)
  by_cases c : L < i + 6
  · rw [if_pos c]
    exact D_next (pc := 24) hd (by simp only [mx, mif2, mnx, mtg_of t1, decide_eq_true_eq, hc, if_pos c, if_true])
  · rw [if_neg c]
    exact D_next (pc := 24) hd (by simp only [mx, mif2, mnx, mtg_of t1, decide_eq_true_eq, hc, if_neg c, if_true])
theorem Lw_sw {k t : Nat} {o : Int} (h1 : h[1]? = some (k6 L xs)) (hL : L ≤ 3072) (hi : i < L) (hk : k < 64) (e : xs i &&& 63 = nI k) (ho : (if (nI k).toInt < 0 ∨ 32 < (nI k).toInt then some (1165 : Int) else (#[147, 180, 223, 246, 309, 352, 375, 408, 441, 474, 533, 566, 599, 632, 655, 688, 711, 754, 797, 840, 863, 886, 929, 952, 985, 1008, 1031, 1064, 1078, 1092, 1115, 1128, 1151] : Array Int)[((nI k).toInt - 0).toNat]?) = some o) (ht : ((33 : Nat) : Int) + o = ((t : Nat) : Int)) : Lw 27 i [] h = Lw t i [] h := by
  unfold Lw
  rw [D_next (pc := 27) (pc' := 28) (ls' := lv i) (st' := [.ref 1]) (h' := h) (cu' := cuA) (su' := suA) (of_decide_eq_true (show decide (decode (mB 176) 27 = .ok (.aload_n 0, 1)) = true by decide +kernel)) rfl]
  rw [D_next (pc := 28) (pc' := 29) (ls' := lv i) (st' := [.int (nI i), .ref 1]) (h' := h) (cu' := cuA) (su' := suA) (of_decide_eq_true (show decide (decode (mB 176) 28 = .ok (.iload_n 3, 1)) = true by decide +kernel)) rfl]
  rw [D_next (pc := 29) (pc' := 30) (ls' := lv i) (st' := [.int (xs i)]) (h' := h) (cu' := cuA) (su' := suA) (of_decide_eq_true (show decide (decode (mB 176) 29 = .ok (.iaload, 1)) = true by decide +kernel)) (by simp only [mx, mnx, cAld_law h1 hL hi, if_true])]
  rw [D_next (pc := 30) (pc' := 32) (ls' := lv i) (st' := [.int 63, .int (xs i)]) (h' := h) (cu' := cuA) (su' := suA) (of_decide_eq_true (show decide (decode (mB 176) 30 = .ok (.bipush 63, 2)) = true by decide +kernel)) rfl]
  rw [D_next (pc := 32) (pc' := 33) (ls' := lv i) (st' := [.int (xs i &&& 63)]) (h' := h) (cu' := cuA) (su' := suA) (of_decide_eq_true (show decide (decode (mB 176) 32 = .ok (.iand, 1)) = true by decide +kernel)) rfl]
  rw [e]
  have hd : decode (mB 176) 33 = .ok (.tableswitch 1165 0 32 #[147, 180, 223, 246, 309, 352, 375, 408, 441, 474, 533, 566, 599, 632, 655, 688, 711, 754, 797, 840, 863, 886, 929, 952, 985, 1008, 1031, 1064, 1078, 1092, 1115, 1128, 1151], 147) := by decide +kernel
  exact D_next (pc := 33) hd (by simp only [mx, mTab, mnx]; rw [ho]; simp only [mtg_of ht])
theorem law_body (hL : L ≤ 3072) (hi : i + 6 ≤ L) (hS : STt L xs S h) (h1 : h[1]? = some (k6 L xs)) : ∃ p, Lw 27 i [] h = Lw p i [] h ∧ Nx L xs i p h := by
  obtain ⟨k, hk, ek⟩ := and63 (xs i)
  have hc : k = 0 ∨ k = 1 ∨ k = 2 ∨ k = 3 ∨ k = 4 ∨ k = 5 ∨ k = 6 ∨ k = 7 ∨ k = 8 ∨ k = 9 ∨ k = 10 ∨ k = 11 ∨ k = 12 ∨ k = 13 ∨ k = 14 ∨ k = 15 ∨ k = 16 ∨ k = 17 ∨ k = 18 ∨ k = 19 ∨ k = 20 ∨ k = 21 ∨ k = 22 ∨ k = 23 ∨ k = 24 ∨ k = 25 ∨ k = 26 ∨ k = 27 ∨ k = 28 ∨ k = 29 ∨ k = 30 ∨ k = 31 ∨ k = 32 ∨ 32 < k := by omega
  rcases hc with e | e | e | e | e | e | e | e | e | e | e | e | e | e | e | e | e | e | e | e | e | e | e | e | e | e | e | e | e | e | e | e | e | e
  · subst e
    exact ⟨180, Lw_sw (o := 147) h1 hL (by omega) (by omega) ek (by decide +kernel) (by decide), case0 hL (by omega) hS⟩
  · subst e
    exact ⟨213, Lw_sw (o := 180) h1 hL (by omega) (by omega) ek (by decide +kernel) (by decide), case1 hL (by omega) hS⟩
  · subst e
    exact ⟨256, Lw_sw (o := 223) h1 hL (by omega) (by omega) ek (by decide +kernel) (by decide), case2 hL (by omega) hS⟩
  · subst e
    exact ⟨279, Lw_sw (o := 246) h1 hL (by omega) (by omega) ek (by decide +kernel) (by decide), case3 hL (by omega) hS⟩
  · subst e
    exact ⟨342, Lw_sw (o := 309) h1 hL (by omega) (by omega) ek (by decide +kernel) (by decide), case4 hL (by omega) hS⟩
  · subst e
    exact ⟨385, Lw_sw (o := 352) h1 hL (by omega) (by omega) ek (by decide +kernel) (by decide), case5 hL (by omega) hS⟩
  · subst e
    exact ⟨408, Lw_sw (o := 375) h1 hL (by omega) (by omega) ek (by decide +kernel) (by decide), case6 hL (by omega) hS⟩
  · subst e
    exact ⟨441, Lw_sw (o := 408) h1 hL (by omega) (by omega) ek (by decide +kernel) (by decide), case7 hL (by omega) hS⟩
  · subst e
    exact ⟨474, Lw_sw (o := 441) h1 hL (by omega) (by omega) ek (by decide +kernel) (by decide), case8 hL (by omega) hS⟩
  · subst e
    exact ⟨507, Lw_sw (o := 474) h1 hL (by omega) (by omega) ek (by decide +kernel) (by decide), case9 hL (by omega) hS⟩
  · subst e
    exact ⟨566, Lw_sw (o := 533) h1 hL (by omega) (by omega) ek (by decide +kernel) (by decide), case10 hL (by omega) hS⟩
  · subst e
    exact ⟨599, Lw_sw (o := 566) h1 hL (by omega) (by omega) ek (by decide +kernel) (by decide), case11 hL (by omega) hS⟩
  · subst e
    exact ⟨632, Lw_sw (o := 599) h1 hL (by omega) (by omega) ek (by decide +kernel) (by decide), case12 hL (by omega) hS⟩
  · subst e
    exact ⟨665, Lw_sw (o := 632) h1 hL (by omega) (by omega) ek (by decide +kernel) (by decide), case13 hL (by omega) hS⟩
  · subst e
    exact ⟨688, Lw_sw (o := 655) h1 hL (by omega) (by omega) ek (by decide +kernel) (by decide), case14 hL (by omega) hS⟩
  · subst e
    exact ⟨721, Lw_sw (o := 688) h1 hL (by omega) (by omega) ek (by decide +kernel) (by decide), case15 hL (by omega) hS⟩
  · subst e
    exact ⟨744, Lw_sw (o := 711) h1 hL (by omega) (by omega) ek (by decide +kernel) (by decide), case16 hL (by omega) hS⟩
  · subst e
    exact ⟨787, Lw_sw (o := 754) h1 hL (by omega) (by omega) ek (by decide +kernel) (by decide), case17 hL (by omega) hS⟩
  · subst e
    exact ⟨830, Lw_sw (o := 797) h1 hL (by omega) (by omega) ek (by decide +kernel) (by decide), case18 hL (by omega) hS⟩
  · subst e
    exact ⟨873, Lw_sw (o := 840) h1 hL (by omega) (by omega) ek (by decide +kernel) (by decide), case19 hL (by omega) hS⟩
  · subst e
    exact ⟨896, Lw_sw (o := 863) h1 hL (by omega) (by omega) ek (by decide +kernel) (by decide), case20 hL (by omega) hS⟩
  · subst e
    exact ⟨919, Lw_sw (o := 886) h1 hL (by omega) (by omega) ek (by decide +kernel) (by decide), case21 hL (by omega) hS⟩
  · subst e
    exact ⟨962, Lw_sw (o := 929) h1 hL (by omega) (by omega) ek (by decide +kernel) (by decide), case22 hL (by omega) hS⟩
  · subst e
    exact ⟨985, Lw_sw (o := 952) h1 hL (by omega) (by omega) ek (by decide +kernel) (by decide), case23 hL (by omega) hS⟩
  · subst e
    exact ⟨1018, Lw_sw (o := 985) h1 hL (by omega) (by omega) ek (by decide +kernel) (by decide), case24 hL (by omega) hS⟩
  · subst e
    exact ⟨1041, Lw_sw (o := 1008) h1 hL (by omega) (by omega) ek (by decide +kernel) (by decide), case25 hL (by omega) hS⟩
  · subst e
    exact ⟨1064, Lw_sw (o := 1031) h1 hL (by omega) (by omega) ek (by decide +kernel) (by decide), case26 hL (by omega) hS⟩
  · subst e
    exact ⟨1097, Lw_sw (o := 1064) h1 hL (by omega) (by omega) ek (by decide +kernel) (by decide), case27 hS⟩
  · subst e
    exact ⟨1111, Lw_sw (o := 1078) h1 hL (by omega) (by omega) ek (by decide +kernel) (by decide), case28 hS⟩
  · subst e
    exact ⟨1125, Lw_sw (o := 1092) h1 hL (by omega) (by omega) ek (by decide +kernel) (by decide), case29 hL (by omega) hS⟩
  · subst e
    exact ⟨1148, Lw_sw (o := 1115) h1 hL (by omega) (by omega) ek (by decide +kernel) (by decide), case30 hL (by omega) hS⟩
  · subst e
    exact ⟨1161, Lw_sw (o := 1128) h1 hL (by omega) (by omega) ek (by decide +kernel) (by decide), case31 hL (by omega) hS⟩
  · subst e
    exact ⟨1184, Lw_sw (o := 1151) h1 hL (by omega) (by omega) ek (by decide +kernel) (by decide), case32 hS⟩
  · have hdf : ∀ k, k < 64 → 32 < k → (if (nI k).toInt < 0 ∨ 32 < (nI k).toInt then some (1165 : Int) else (#[147, 180, 223, 246, 309, 352, 375, 408, 441, 474, 533, 566, 599, 632, 655, 688, 711, 754, 797, 840, 863, 886, 929, 952, 985, 1008, 1031, 1064, 1078, 1092, 1115, 1128, 1151] : Array Int)[((nI k).toInt - 0).toNat]?) = some 1165 := by decide +kernel
    exact ⟨1198, Lw_sw (o := 1165) h1 hL (by omega) hk ek (hdf k hk e) (by decide), S, h, rfl, hS⟩
theorem law_loop (hL : L ≤ 3072) : ∀ (d i : Nat) (S : St) (h : mHeap), L ≤ i + d → i < 4000 → STt L xs S h → ∃ h', Lw 18 i [] h = some (some (.int 1), h') := by
  intro d
  induction d with
  | zero =>
    intro i S h hd hi hS
    have h1 : h[1]? = some (k6 L xs) := by
      obtain ⟨f, mi, ml, ma, rfl, -, -, -, e, -⟩ := hS
      rw [HF_at (by omega), e]
    exact ⟨h, by rw [Lw_head h1 hL (by omega), if_pos (by omega), Lw_done]⟩
  | succ d ih =>
    intro i S h hd hi hS
    have h1 : h[1]? = some (k6 L xs) := by
      obtain ⟨f, mi, ml, ma, rfl, -, -, -, e, -⟩ := hS
      rw [HF_at (by omega), e]
    by_cases c : L < i + 6
    · exact ⟨h, by rw [Lw_head h1 hL (by omega), if_pos c, Lw_done]⟩
    · obtain ⟨p, e1, S', h2, e2, hT⟩ := law_body (i := i) hL (by omega) hS h1
      obtain ⟨h', e3⟩ := ih (i + 6) S' h2 (by omega) (by omega) hT
      exact ⟨h', by rw [Lw_head h1 hL (by omega), if_neg c, e1, e2, Lw_end, e3]⟩
end LOOP
