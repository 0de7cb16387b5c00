/-! the law: a case each -/
section SMS
variable {S : St}
theorem sm_if {P : Prop} [Decidable P] {a b : Int32 × St} (ha : SmS S a.2) (hb : SmS S b.2) : SmS S (if P then a else b).2 := by
  split
  · exact ha
  · exact hb
theorem sm_ground {g a b : Int32} : SmS S (spGround S g a b).2 := by
  unfold spGround
  refine sm_if SmS.rf ?_
  split
  · exact sm_if SmS.gr SmS.rf
  · exact SmS.meet
theorem sm_twin {g t : Int32} : SmS S (spTwin S g t).2 := sm_if SmS.rf (sm_ask fun _ => SmS.gr)
theorem sm_told {g w : Int32} : SmS S (spTold S g w).2 := sm_if (sm_ask fun _ => SmS.rf) SmS.rf
theorem sm_mark {g w : Int32} : SmS S (spMark S g w).2 := sm_if (sm_ask fun _ => sm_if SmS.rf SmS.meet) SmS.rf
theorem sm_next {g q u : Int32} : SmS S (spNext S g q u).2 := sm_ask fun _ => sm_if SmS.meet (sm_if SmS.rf SmS.rf)
theorem sm_bend {g q : Int32} : SmS S (spBend S g q).2 := sm_ask fun _ => sm_if SmS.meet SmS.rf
theorem sm_name {g q : Int32} : SmS S (spName S g q).2 := sm_ask fun _ => sm_if SmS.meet SmS.rf
theorem sm_mean {g : Int32} : SmS S (spMean S g).2 := sm_ask fun _ => sm_if SmS.meet SmS.rf
theorem sm_shear {g k : Int32} : SmS S (spShear S g k).2 := sm_if (sm_ask fun _ => SmS.gr) SmS.rf
theorem sm_see {g p q : Int32} : SmS S (spSee S g p q).2 := sm_if SmS.rf (sm_ask fun _ => SmS.gr)
theorem sm_cyls {g p q : Int32} : SmS S (spCyls S g p q).2 := sm_if SmS.rf (sm_ask fun _ => SmS.rf)
theorem sm_cyl {g i w : Int32} : SmS S (spCyl S g i w).2 := sm_if (sm_ask fun _ => SmS.rf) SmS.rf
theorem sm_reached {g i w : Int32} : SmS S (spReached S g i w).2 := sm_if (sm_reach fun _ _ => SmS.rf) SmS.rf
theorem sm_comes {g k : Int32} : SmS S (spComes S g k).2 := sm_ask2 fun G K => by
  split
  · exact SmS.rf
  · exact SmS.rf
theorem sm_count {w : Int32} : SmS S (spCount S w).2 := sm_if SmS.rf SmS.rf
end SMS
section CASES
variable {L i : Nat} {xs : Nat → Int32} {S : St} {h : mHeap}
def Nx (L : Nat) (xs : Nat → Int32) (i p : Nat) (h : mHeap) : Prop := ∃ S' h2, Lw p i [] h = Lw 1198 i [] h2 ∧ STt L xs S' h2
theorem case0 (hL : L ≤ 3072) (hi : i + 5 < L) (hS : STt L xs S h) : Nx L xs i 180 h := by
  obtain ⟨h1, h2, v1, v2, e0, e1, hT⟩ := pairI hS (fun hW => Cl_sheet S (xs (i + 1)) (xs (i + 2))) (fun hW => Mo_sheet S (xs (i + 1)) (xs (i + 2))) (fun h => w_sheet h _ _)
  exact ⟨_, h2, Lw_case (m := 2) (by decide) (show caseA 180 2 52 104 13 17 990 = true by decide +kernel) e0 e1 hL (by omega) v1 v2, hT⟩
theorem case1 (hL : L ≤ 3072) (hi : i + 5 < L) (hS : STt L xs S h) : Nx L xs i 213 h := by
  obtain ⟨h1, h2, v1, v2, e0, e1, hT⟩ := pairI hS (fun hW => Cl_lay S hW (xs (i + 1)) (xs (i + 2)) (xs (i + 3))) (fun hW => Mo_lay S hW (xs (i + 1)) (xs (i + 2)) (xs (i + 3))) (fun h => w_lay h _ _ _)
  exact ⟨_, h2, Lw_case (m := 3) (by decide) (show caseA 213 3 53 105 18 22 947 = true by decide +kernel) e0 e1 hL (by omega) v1 v2, hT⟩
theorem case2 (hL : L ≤ 3072) (hi : i + 5 < L) (hS : STt L xs S h) : Nx L xs i 256 h := by
  obtain ⟨h1, h2, v1, v2, e0, e1, hT⟩ := pairI hS (fun hW => Cl_tear S hW (xs (i + 1))) (fun hW => Mo_tear S hW (xs (i + 1))) (fun h => w_tear h _)
  exact ⟨_, h2, Lw_case (m := 1) (by decide) (show caseA 256 1 54 106 23 27 924 = true by decide +kernel) e0 e1 hL (by omega) v1 v2, hT⟩
theorem case3 (hL : L ≤ 3072) (hi : i + 5 < L) (hS : STt L xs S h) : Nx L xs i 279 h := by
  obtain ⟨h1, h2, v1, v2, e0, e1, hT⟩ := pairI hS (fun hW => Cl_copy S hW (xs (i + 1)) (xs (i + 2)) (xs (i + 3)) (xs (i + 4)) (xs (i + 5))) (fun hW => Mo_copy S hW (xs (i + 1)) (xs (i + 2)) (xs (i + 3)) (xs (i + 4)) (xs (i + 5))) (fun h => w_copy h _ _ _ _ _)
  exact ⟨_, h2, Lw_case (m := 5) (by decide) (show caseA 279 5 55 107 28 32 861 = true by decide +kernel) e0 e1 hL (by omega) v1 v2, hT⟩
theorem case4 (hL : L ≤ 3072) (hi : i + 5 < L) (hS : STt L xs S h) : Nx L xs i 342 h := by
  obtain ⟨h1, h2, v1, v2, e0, e1, hT⟩ := pairI hS (fun hW => Cl_ground S hW (xs (i + 1)) (xs (i + 2)) (xs (i + 3))) (fun hW => Mo_ground S hW (xs (i + 1)) (xs (i + 2)) (xs (i + 3))) (fun h => h.sm sm_ground)
  exact ⟨_, h2, Lw_case (m := 3) (by decide) (show caseA 342 3 56 115 33 36 818 = true by decide +kernel) e0 e1 hL (by omega) v1 v2, hT⟩
theorem case5 (hL : L ≤ 3072) (hi : i + 5 < L) (hS : STt L xs S h) : Nx L xs i 385 h := by
  obtain ⟨h1, h2, v1, v2, e0, e1, hT⟩ := pairI hS (fun hW => Cl_drop S (xs (i + 1))) (fun hW => Mo_drop S hW (xs (i + 1))) (fun h => h.sm (sm_ask fun _ => SmS.gr))
  exact ⟨_, h2, Lw_case (m := 1) (by decide) (show caseA 385 1 57 116 37 40 795 = true by decide +kernel) e0 e1 hL (by omega) v1 v2, hT⟩
theorem case6 (hL : L ≤ 3072) (hi : i + 5 < L) (hS : STt L xs S h) : Nx L xs i 408 h := by
  obtain ⟨h1, h2, v1, v2, e0, e1, hT⟩ := pairI hS (fun hW => Cl_twin S (xs (i + 1)) (xs (i + 2))) (fun hW => Mo_twin S hW (xs (i + 1)) (xs (i + 2))) (fun h => h.sm sm_twin)
  exact ⟨_, h2, Lw_case (m := 2) (by decide) (show caseA 408 2 58 117 41 44 762 = true by decide +kernel) e0 e1 hL (by omega) v1 v2, hT⟩
theorem case7 (hL : L ≤ 3072) (hi : i + 5 < L) (hS : STt L xs S h) : Nx L xs i 441 h := by
  obtain ⟨h1, h2, v1, v2, e0, e1, hT⟩ := pairI hS (fun hW => Cl_told S (xs (i + 1)) (xs (i + 2))) (fun hW => Mo_told S hW (xs (i + 1)) (xs (i + 2))) (fun h => h.sm sm_told)
  exact ⟨_, h2, Lw_case (m := 2) (by decide) (show caseA 441 2 59 126 45 48 729 = true by decide +kernel) e0 e1 hL (by omega) v1 v2, hT⟩
theorem case8 (hL : L ≤ 3072) (hi : i + 5 < L) (hS : STt L xs S h) : Nx L xs i 474 h := by
  obtain ⟨h1, h2, v1, v2, e0, e1, hT⟩ := pairI hS (fun hW => Cl_mark S (xs (i + 1)) (xs (i + 2))) (fun hW => Mo_mark S hW (xs (i + 1)) (xs (i + 2))) (fun h => h.sm sm_mark)
  exact ⟨_, h2, Lw_case (m := 2) (by decide) (show caseA 474 2 60 128 49 52 696 = true by decide +kernel) e0 e1 hL (by omega) v1 v2, hT⟩
def boolA (pc : Nat) : Bool := decide (decode (mB 176) pc = .ok (.ifCond .eq 7, 3)) && decide (decode (mB 176) (pc + 3) = .ok (.iconst 1, 1)) && decide (decode (mB 176) (pc + 4) = .ok (.goto 4, 3)) && decide (decode (mB 176) (pc + 7) = .ok (.iconst 0, 1))
def z01 (x : Int32) : Int32 := if x = 0 then 0 else 1
theorem Lw_bool {pc : Nat} {x : Int32} {st : List Value} (hb : boolA pc = true) : Lw pc i (.int x :: st) h = Lw (pc + 8) i (.int (z01 x) :: st) h := by
  unfold boolA at hb
  simp only [Bool.and_eq_true] at hb
  obtain ⟨⟨⟨b0, b1⟩, b2⟩, b3⟩ := hb
  have t1 : ((pc : Nat) : Int) + 7 = ((pc + 7 : Nat) : Int) := by omega
  have t2 : ((pc + 4 : Nat) : Int) + 4 = ((pc + 8 : Nat) : Int) := by omega
  unfold Lw z01
  by_cases c : x = 0
  · rw [if_pos c, D_next (pc' := pc + 7) (ls' := lv i) (st' := st) (h' := h) (cu' := cuA) (su' := suA) (of_decide_eq_true b0) (by simp only [mx, mif1, mnx, mtg_of t1, decide_eq_true_eq, if_pos c, if_true])]
    exact D_next (pc := pc + 7) (of_decide_eq_true b3) rfl
  · rw [if_neg c, D_next (pc' := pc + 3) (ls' := lv i) (st' := st) (h' := h) (cu' := cuA) (su' := suA) (of_decide_eq_true b0) (by simp only [mx, mif1, mnx, mtg_of t1, decide_eq_true_eq, if_neg c, if_true]), D_next (pc := pc + 3) (pc' := pc + 4) (ls' := lv i) (st' := .int 1 :: st) (h' := h) (cu' := cuA) (su' := suA) (of_decide_eq_true b1) rfl]
    exact D_next (pc := pc + 4) (of_decide_eq_true b2) (by simp only [mx, mnx, mtg_of t2, if_true])
theorem case9 (hL : L ≤ 3072) (hi : i + 5 < L) (hS : STt L xs S h) : Nx L xs i 507 h := by
  obtain ⟨h1, h2, v1, v2, e0, e1, hT⟩ := pairI hS (fun hW => Cl_next S (xs (i + 1)) (xs (i + 2)) (z01 (xs (i + 3)))) (fun hW => Mo_next S hW (xs (i + 1)) (xs (i + 2)) (z01 (xs (i + 3)))) (fun h => h.sm sm_next)
  have hcat : ∀ v ∈ [Value.int (xs (i + 1)), Value.int (xs (i + 2)), Value.int (z01 (xs (i + 3)))], v.category ≠ 2 := by
    intro v hv
    have : ∃ y : Int32, v = .int y := by
      simp only [List.mem_cons, List.not_mem_nil, or_false] at hv
      rcases hv with rfl | rfl | rfl <;> exact ⟨_, rfl⟩
    obtain ⟨y, rfl⟩ := this
    show (1 : Nat) ≠ 2
    decide
  refine ⟨_, h2, ?_, hT⟩
  rw [Lw_a (show isA 507 1 = true by decide +kernel) (show mget (lv i) 1 = some (.ref 2) from rfl), Lw_args e0 hL 3 (by decide) (show argsAt 508 3 = true by decide +kernel) (by omega)]
  show Lw 523 i (.int (xs (i + 3)) :: .int (xs (i + 2)) :: .int (xs (i + 1)) :: [.ref 2]) h = _
  rw [Lw_bool (show boolA 523 = true by decide +kernel)]
  rw [show Lw (523 + 8) i (.int (z01 (xs (i + 3))) :: .int (xs (i + 2)) :: .int (xs (i + 1)) :: [.ref 2]) h = Lw 534 i [.int (spNext S (xs (i + 1)) (xs (i + 2)) (z01 (xs (i + 3)))).1] h1 from Lw_vI (j' := 61) (as := [.int (xs (i + 1)), .int (xs (i + 2)), .int (z01 (xs (i + 3)))]) (rest := []) (of_decide_eq_true (show isI 531 53 = true by decide +kernel)) (show ckA 53 61 3 = true by decide +kernel) hcat (by decide) v1]
  rw [Lw_a (show isA 534 2 = true by decide +kernel) (show mget (lv i) 2 = some (.ref 107) from rfl), Lw_args e1 hL 3 (by decide) (show argsAt 535 3 = true by decide +kernel) (by omega)]
  show Lw 550 i (.int (xs (i + 3)) :: .int (xs (i + 2)) :: .int (xs (i + 1)) :: .ref 107 :: [.int (spNext S (xs (i + 1)) (xs (i + 2)) (z01 (xs (i + 3)))).1]) h1 = _
  rw [Lw_bool (show boolA 550 = true by decide +kernel)]
  rw [show Lw (550 + 8) i (.int (z01 (xs (i + 3))) :: .int (xs (i + 2)) :: .int (xs (i + 1)) :: .ref 107 :: [.int (spNext S (xs (i + 1)) (xs (i + 2)) (z01 (xs (i + 3)))).1]) h1 = Lw 561 i [.int (spNext S (xs (i + 1)) (xs (i + 2)) (z01 (xs (i + 3)))).1, .int (spNext S (xs (i + 1)) (xs (i + 2)) (z01 (xs (i + 3)))).1] h2 from Lw_vI (j' := 129) (as := [.int (xs (i + 1)), .int (xs (i + 2)), .int (z01 (xs (i + 3)))]) (of_decide_eq_true (show isI 558 57 = true by decide +kernel)) (show ckA 57 129 3 = true by decide +kernel) hcat (by show (1 : Nat) ≤ 8; decide) v2]
  unfold Lw
  exact D_next (pc := 561) (of_decide_eq_true (show decide (decode (mB 176) 561 = .ok (.if_icmp .eq 637, 3)) = true by decide +kernel)) (by simp only [mx, mif2, mnx, mtg_of (show ((561 : Nat) : Int) + 637 = ((1198 : Nat) : Int) by decide), decide_true, if_true])
theorem case10 (hL : L ≤ 3072) (hi : i + 5 < L) (hS : STt L xs S h) : Nx L xs i 566 h := by
  obtain ⟨h1, h2, v1, v2, e0, e1, hT⟩ := pairI hS (fun hW => Cl_bend S (xs (i + 1)) (xs (i + 2))) (fun hW => Mo_bend S hW (xs (i + 1)) (xs (i + 2))) (fun h => h.sm sm_bend)
  exact ⟨_, h2, Lw_case (m := 2) (by decide) (show caseA 566 2 62 130 58 61 604 = true by decide +kernel) e0 e1 hL (by omega) v1 v2, hT⟩
theorem case11 (hL : L ≤ 3072) (hi : i + 5 < L) (hS : STt L xs S h) : Nx L xs i 599 h := by
  obtain ⟨h1, h2, v1, v2, e0, e1, hT⟩ := pairI hS (fun hW => Cl_name S (xs (i + 1)) (xs (i + 2))) (fun hW => Mo_name S hW (xs (i + 1)) (xs (i + 2))) (fun h => h.sm sm_name)
  exact ⟨_, h2, Lw_case (m := 2) (by decide) (show caseA 599 2 63 131 62 65 571 = true by decide +kernel) e0 e1 hL (by omega) v1 v2, hT⟩
theorem case12 (hL : L ≤ 3072) (hi : i + 5 < L) (hS : STt L xs S h) : Nx L xs i 632 h := by
  obtain ⟨h1, h2, v1, v2, e0, e1, hT⟩ := pairI hS (fun hW => Cl_alike S (xs (i + 1)) (xs (i + 2))) (fun hW => Mo_alike S hW (xs (i + 1)) (xs (i + 2))) (fun h => h.sm (sm_ask2 fun _ _ => SmS.rf))
  exact ⟨_, h2, Lw_case (m := 2) (by decide) (show caseA 632 2 64 134 66 69 538 = true by decide +kernel) e0 e1 hL (by omega) v1 v2, hT⟩
theorem case13 (hL : L ≤ 3072) (hi : i + 5 < L) (hS : STt L xs S h) : Nx L xs i 665 h := by
  obtain ⟨h1, h2, v1, v2, e0, e1, hT⟩ := pairI hS (fun hW => Cl_mean S (xs (i + 1))) (fun hW => Mo_mean S hW (xs (i + 1))) (fun h => h.sm sm_mean)
  exact ⟨_, h2, Lw_case (m := 1) (by decide) (show caseA 665 1 65 135 70 73 515 = true by decide +kernel) e0 e1 hL (by omega) v1 v2, hT⟩
theorem case14 (hL : L ≤ 3072) (hi : i + 5 < L) (hS : STt L xs S h) : Nx L xs i 688 h := by
  obtain ⟨h1, h2, v1, v2, e0, e1, hT⟩ := pairI hS (fun hW => Cl_shear S (xs (i + 1)) (xs (i + 2))) (fun hW => Mo_shear S hW (xs (i + 1)) (xs (i + 2))) (fun h => h.sm sm_shear)
  exact ⟨_, h2, Lw_case (m := 2) (by decide) (show caseA 688 2 66 139 74 77 482 = true by decide +kernel) e0 e1 hL (by omega) v1 v2, hT⟩
theorem case15 (hL : L ≤ 3072) (hi : i + 5 < L) (hS : STt L xs S h) : Nx L xs i 721 h := by
  obtain ⟨h1, h2, v1, v2, e0, e1, hT⟩ := pairI hS (fun hW => Cl_turn S (xs (i + 1))) (fun hW => Mo_turn S hW (xs (i + 1))) (fun h => h.sm (sm_ask fun _ => SmS.gr))
  exact ⟨_, h2, Lw_case (m := 1) (by decide) (show caseA 721 1 67 140 78 81 459 = true by decide +kernel) e0 e1 hL (by omega) v1 v2, hT⟩
theorem case16 (hL : L ≤ 3072) (hi : i + 5 < L) (hS : STt L xs S h) : Nx L xs i 744 h := by
  obtain ⟨h1, h2, v1, v2, e0, e1, hT⟩ := pairI hS (fun hW => Cl_see S (xs (i + 1)) (xs (i + 2)) (xs (i + 3))) (fun hW => Mo_see S hW (xs (i + 1)) (xs (i + 2)) (xs (i + 3))) (fun h => h.sm sm_see)
  exact ⟨_, h2, Lw_case (m := 3) (by decide) (show caseA 744 3 68 143 82 85 416 = true by decide +kernel) e0 e1 hL (by omega) v1 v2, hT⟩
theorem case17 (hL : L ≤ 3072) (hi : i + 5 < L) (hS : STt L xs S h) : Nx L xs i 787 h := by
  obtain ⟨h1, h2, v1, v2, e0, e1, hT⟩ := pairI hS (fun hW => Cl_cylinders S (xs (i + 1)) (xs (i + 2)) (xs (i + 3))) (fun hW => Mo_cylinders S hW (xs (i + 1)) (xs (i + 2)) (xs (i + 3))) (fun h => h.sm sm_cyls)
  exact ⟨_, h2, Lw_case (m := 3) (by decide) (show caseA 787 3 69 148 86 89 373 = true by decide +kernel) e0 e1 hL (by omega) v1 v2, hT⟩
theorem case18 (hL : L ≤ 3072) (hi : i + 5 < L) (hS : STt L xs S h) : Nx L xs i 830 h := by
  obtain ⟨h1, h2, v1, v2, e0, e1, hT⟩ := pairI hS (fun hW => Cl_cylinder S (xs (i + 1)) (xs (i + 2)) (xs (i + 3))) (fun hW => Mo_cylinder S hW (xs (i + 1)) (xs (i + 2)) (xs (i + 3))) (fun h => h.sm sm_cyl)
  exact ⟨_, h2, Lw_case (m := 3) (by decide) (show caseA 830 3 70 149 90 93 330 = true by decide +kernel) e0 e1 hL (by omega) v1 v2, hT⟩
theorem case19 (hL : L ≤ 3072) (hi : i + 5 < L) (hS : STt L xs S h) : Nx L xs i 873 h := by
  obtain ⟨h1, h2, v1, v2, e0, e1, hT⟩ := pairI hS (fun hW => Cl_share S (xs (i + 1))) (fun hW => Mo_share S hW (xs (i + 1))) (fun h => h.sm (sm_ask fun _ => SmS.fr))
  exact ⟨_, h2, Lw_case (m := 1) (by decide) (show caseA 873 1 71 152 94 97 307 = true by decide +kernel) e0 e1 hL (by omega) v1 v2, hT⟩
theorem case20 (hL : L ≤ 3072) (hi : i + 5 < L) (hS : STt L xs S h) : Nx L xs i 896 h := by
  obtain ⟨h1, h2, v1, v2, e0, e1, hT⟩ := pairI hS (fun hW => Cl_reach S (xs (i + 1))) (fun hW => Mo_reach S hW (xs (i + 1))) (fun h => h.sm (sm_reach fun _ _ => SmS.rf))
  exact ⟨_, h2, Lw_case (m := 1) (by decide) (show caseA 896 1 72 157 98 101 284 = true by decide +kernel) e0 e1 hL (by omega) v1 v2, hT⟩
theorem case21 (hL : L ≤ 3072) (hi : i + 5 < L) (hS : STt L xs S h) : Nx L xs i 919 h := by
  obtain ⟨h1, h2, v1, v2, e0, e1, hT⟩ := pairI hS (fun hW => Cl_reached S (xs (i + 1)) (xs (i + 2)) (xs (i + 3))) (fun hW => Mo_reached S hW (xs (i + 1)) (xs (i + 2)) (xs (i + 3))) (fun h => h.sm sm_reached)
  exact ⟨_, h2, Lw_case (m := 3) (by decide) (show caseA 919 3 73 158 102 105 241 = true by decide +kernel) e0 e1 hL (by omega) v1 v2, hT⟩
theorem case22 (hL : L ≤ 3072) (hi : i + 5 < L) (hS : STt L xs S h) : Nx L xs i 962 h := by
  obtain ⟨h1, h2, v1, v2, e0, e1, hT⟩ := pairI hS (fun hW => Cl_cusps S (xs (i + 1))) (fun hW => Mo_cusps S hW (xs (i + 1))) (fun h => h.sm (sm_reach fun _ _ => SmS.rf))
  exact ⟨_, h2, Lw_case (m := 1) (by decide) (show caseA 962 1 74 160 106 109 218 = true by decide +kernel) e0 e1 hL (by omega) v1 v2, hT⟩
theorem case23 (hL : L ≤ 3072) (hi : i + 5 < L) (hS : STt L xs S h) : Nx L xs i 985 h := by
  obtain ⟨h1, h2, v1, v2, e0, e1, hT⟩ := pairI hS (fun hW => Cl_width S (xs (i + 1)) (xs (i + 2))) (fun hW => Mo_width S hW (xs (i + 1)) (xs (i + 2))) (fun h => h.sm (sm_reach fun _ _ => SmS.rf))
  exact ⟨_, h2, Lw_case (m := 2) (by decide) (show caseA 985 2 75 161 110 113 185 = true by decide +kernel) e0 e1 hL (by omega) v1 v2, hT⟩
theorem case24 (hL : L ≤ 3072) (hi : i + 5 < L) (hS : STt L xs S h) : Nx L xs i 1018 h := by
  obtain ⟨h1, h2, v1, v2, e0, e1, hT⟩ := pairI hS (fun hW => Cl_meanShare S (xs (i + 1))) (fun hW => Mo_meanShare S hW (xs (i + 1))) (fun h => h.sm (sm_reach fun _ _ => SmS.fr))
  exact ⟨_, h2, Lw_case (m := 1) (by decide) (show caseA 1018 1 76 163 114 117 162 = true by decide +kernel) e0 e1 hL (by omega) v1 v2, hT⟩
theorem case25 (hL : L ≤ 3072) (hi : i + 5 < L) (hS : STt L xs S h) : Nx L xs i 1041 h := by
  obtain ⟨h1, h2, v1, v2, e0, e1, hT⟩ := pairI hS (fun hW => Cl_twist S (xs (i + 1))) (fun hW => Mo_twist S hW (xs (i + 1))) (fun h => h.sm (sm_reach fun _ _ => SmS.fr))
  exact ⟨_, h2, Lw_case (m := 1) (by decide) (show caseA 1041 1 77 164 118 121 139 = true by decide +kernel) e0 e1 hL (by omega) v1 v2, hT⟩
theorem case26 (hL : L ≤ 3072) (hi : i + 5 < L) (hS : STt L xs S h) : Nx L xs i 1064 h := by
  obtain ⟨h1, h2, v1, v2, e0, e1, hT⟩ := pairI hS (fun hW => Cl_comes S (xs (i + 1)) (xs (i + 2))) (fun hW => Mo_comes S hW (xs (i + 1)) (xs (i + 2))) (fun h => h.sm sm_comes)
  exact ⟨_, h2, Lw_case (m := 2) (by decide) (show caseA 1064 2 78 165 122 125 106 = true by decide +kernel) e0 e1 hL (by omega) v1 v2, hT⟩
theorem case27 (hS : STt L xs S h) : Nx L xs i 1097 h := by
  obtain ⟨v1, v2⟩ := pairL hS (fun f _ hC => Cl_upper hC) (fun x mi ml ma _ hM => Mo_upper S x mi ml ma hM)
  exact ⟨S, h, Lw_caseL (show caseL 1097 79 166 126 130 92 = true by decide +kernel) v1 v2, hS⟩
theorem case28 (hS : STt L xs S h) : Nx L xs i 1111 h := by
  obtain ⟨v1, v2⟩ := pairL hS (fun f _ hC => Cl_lower hC) (fun x mi ml ma _ hM => Mo_lower S x mi ml ma hM)
  exact ⟨S, h, Lw_caseL (show caseL 1111 80 167 131 134 78 = true by decide +kernel) v1 v2, hS⟩
theorem case29 (hL : L ≤ 3072) (hi : i + 5 < L) (hS : STt L xs S h) : Nx L xs i 1125 h := by
  obtain ⟨h1, h2, v1, v2, e0, e1, hT⟩ := pairI hS (fun hW => Cl_count S hW (xs (i + 1))) (fun hW => Mo_count S hW (xs (i + 1))) (fun h => h.sm sm_count)
  exact ⟨_, h2, Lw_case (m := 1) (by decide) (show caseA 1125 1 81 168 135 138 55 = true by decide +kernel) e0 e1 hL (by omega) v1 v2, hT⟩
theorem case30 (hL : L ≤ 3072) (hi : i + 5 < L) (hS : STt L xs S h) : Nx L xs i 1148 h := by
  obtain ⟨h1, h2, v1, v2, e0, e1, hT⟩ := pairI hS (fun hW => Cl_finding S ) (fun hW => Mo_finding S ) (fun h => h)
  exact ⟨_, h2, Lw_case (m := 0) (by decide) (show caseA 1148 0 82 169 139 143 42 = true by decide +kernel) e0 e1 hL (by omega) v1 v2, hT⟩
theorem case31 (hL : L ≤ 3072) (hi : i + 5 < L) (hS : STt L xs S h) : Nx L xs i 1161 h := by
  obtain ⟨h1, h2, v1, v2, e0, e1, hT⟩ := pairI hS (fun hW => Cl_findings S (xs (i + 1))) (fun hW => Mo_findings S (xs (i + 1))) (fun h => h)
  exact ⟨_, h2, Lw_case (m := 1) (by decide) (show caseA 1161 1 83 170 144 147 19 = true by decide +kernel) e0 e1 hL (by omega) v1 v2, hT⟩
theorem case32 (hS : STt L xs S h) : Nx L xs i 1184 h := by
  obtain ⟨v1, v2⟩ := pairL hS (fun f hW hC => Cl_digest hW hC) (fun x mi ml ma hW hM => Mo_digest S hW x mi ml ma hM)
  exact ⟨S, h, Lw_caseL (show caseL 1184 84 171 148 151 5 = true by decide +kernel) v1 v2, hS⟩
end CASES
