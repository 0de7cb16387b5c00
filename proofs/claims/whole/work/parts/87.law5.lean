/-! the law's beginning -/
def cIni (idx j' cu su : Nat) : Bool := (match mM (mO 176) idx with
  | some (q, _) => q == j'
  | none => false) && decide (j' ≠ 1000) && decide (j' ≠ 1001) && decide (mKd j' = 2) && decide (mNp j' = 0) && mRoomOk 176 j' cu su && decide (j' < mN) && decide (j' ≠ mLaw)
theorem cIni_ok {idx j' cu su : Nat} (h : cIni idx j' cu su = true) : (∃ ne, mM (mO 176) idx = some (j', ne)) ∧ j' ≠ 1000 ∧ j' ≠ 1001 ∧ mKd j' = 2 ∧ mNp j' = 0 ∧ mRoomOk 176 j' cu su = true ∧ j' < mN ∧ j' ≠ mLaw := by
  unfold cIni at h
  simp only [Bool.and_eq_true, decide_eq_true_eq] at h
  obtain ⟨⟨⟨⟨⟨⟨⟨h1, h2⟩, h3⟩, h4⟩, h5⟩, h6⟩, h7⟩, h8⟩ := h
  refine ⟨?_, h2, h3, h4, h5, h6, h7, h8⟩
  split at h1
  · rename_i q ne e
    have : q = j' := by simpa using h1
    exact ⟨ne, by rw [e, this]⟩
  · cases h1
theorem mx_ini {idx j' b pc cu su : Nat} {ls : mLoc} {h : mHeap} {fs : List Value} (hc : cIni idx j' cu su = true) (hw : wLS h.length ls [.ref b, .ref b] = true) (hb : h[b]? = some (.inr (mO j', fs))) : mx 176 (.invokespecial idx) 3 pc ls [.ref b, .ref b] h cu su = some (.inr (.inr (j', [.ref b], [.ref b]))) := by
  obtain ⟨⟨ne, hm⟩, h2, h3, h4, h5, h6, h7, h8⟩ := cIni_ok hc
  show mCall 176 2 idx 3 pc ls [.ref b, .ref b] h cu su = _
  simp only [mCall, hm, h5, List.drop_zero, List.take_zero, List.reverse_nil]
  rw [if_pos trivial, if_neg h2, if_neg h3, if_pos ⟨h4, Nat.zero_le _, h6, h7, h8, Or.inr hw⟩]
  simp only [hb]
  exact if_pos ⟨trivial, by show (1 : Nat) ≤ 8; decide⟩
def cNew (k ci n : Nat) : Bool := decide (mC (mO 176) k = some ci) && decide ((vwCl[ci]?).map (fun q => q.2.2) = some n)
theorem mx_nw {k ci n pc cu su : Nat} {ls : mLoc} {st : List Value} {h : mHeap} (hc : cNew k ci n = true) (hr : cu + 1 ≤ (mRm 176).cells ∧ su + n ≤ (mRm 176).slots) (hw : wLS h.length ls st = true) (hH : wH h = true) (h2 : 2 ≤ h.length) : mx 176 (.new k) 3 pc ls st h cu su = some (.inl (pc + 3, ls, .ref h.length :: st, h ++ [.inr (ci, mZero ci)], cu + 1, su + n)) := by
  unfold cNew at hc
  rw [Bool.and_eq_true] at hc
  have e1 := of_decide_eq_true hc.1
  have e2 := of_decide_eq_true hc.2
  cases e3 : vwCl[ci]? with
  | none => rw [e3] at e2; cases e2
  | some q =>
    obtain ⟨A, B, N⟩ := q
    rw [e3] at e2
    have e4 : N = n := by simpa using e2
    subst e4
    simp only [mx, e1, e3, if_true]
    exact if_pos ⟨hr.1, hr.2, hw, hH, h2⟩
theorem ini_st (L : Nat) (xs : Nat → Int32) : ∃ h, D 176 0 [some (.ref 1), none, none, none] [] (lawHeap L xs) 0 0 = Lw 18 0 [] h ∧ STt L xs S0 h := by
  obtain ⟨t1, t2, r1, l1, w1, r2, l2, c2⟩ := ini_run L xs
  refine ⟨k5 9 mPart :: k6 L xs :: t2, ?_, ?_⟩
  · have hl1 : (k5 9 mPart :: k6 L xs :: t1).length = 107 := by simp [l1]
    have d1 : D 51 0 (mEnt 51 [.ref 2]) [] (k5 9 mPart :: k6 L xs :: [.inr (7, mZero 7)]) 0 0 = some (none, k5 9 mPart :: k6 L xs :: t1) := D_iff.2 ⟨2000, r1⟩
    have d2 : D 99 0 (mEnt 99 [.ref 107]) [] (k5 9 mPart :: k6 L xs :: (t1 ++ [.inr (8, mZero 8)])) 0 0 = some (none, k5 9 mPart :: k6 L xs :: t2) := D_iff.2 ⟨2000, r2⟩
    rw [D_next (pc := 0) (of_decide_eq_true (show decide (decode (mB 176) 0 = .ok (.new 7, 3)) = true by decide +kernel)) (mx_nw (ci := 7) (n := 10) (h := lawHeap L xs) (show cNew 7 7 10 = true by decide +kernel) (by decide +kernel) rfl rfl (show 2 ≤ 2 by decide))]
    show D 176 3 [some (.ref 1), none, none, none] [.ref 2] (k5 9 mPart :: k6 L xs :: [.inr (7, mZero 7)]) (0 + 1) (0 + 10) = _
    rw [D_next (pc := 3) (of_decide_eq_true (show decide (decode (mB 176) 3 = .ok (.dup, 1)) = true by decide +kernel)) (show mx 176 .dup 1 3 [some (.ref 1), none, none, none] [.ref 2] (k5 9 mPart :: k6 L xs :: [.inr (7, mZero 7)]) (0 + 1) (0 + 10) = some (.inl (4, [some (.ref 1), none, none, none], [.ref 2, .ref 2], k5 9 mPart :: k6 L xs :: [.inr (7, mZero 7)], 0 + 1, 0 + 10)) from rfl)]
    rw [D_call (pc := 4) (of_decide_eq_true (show decide (decode (mB 176) 4 = .ok (.invokespecial 9, 3)) = true by decide +kernel)) (mx_ini (j' := 51) (b := 2) (fs := mZero 7) (show cIni 9 51 (0 + 1) (0 + 10) = true by decide +kernel) rfl rfl) (show 1 ≤ mL 51 by decide +kernel), d1]
    simp only [Option.bind_some]
    show D 176 7 [some (.ref 1), none, none, none] [.ref 2] (k5 9 mPart :: k6 L xs :: t1) (0 + 1 + (mRm 51).cells) (0 + 10 + (mRm 51).slots) = _
    rw [D_next (pc := 7) (of_decide_eq_true (show decide (decode (mB 176) 7 = .ok (.astore_n 1, 1)) = true by decide +kernel)) (show mx 176 (.astore_n 1) 1 7 [some (.ref 1), none, none, none] [.ref 2] (k5 9 mPart :: k6 L xs :: t1) (0 + 1 + (mRm 51).cells) (0 + 10 + (mRm 51).slots) = some (.inl (8, [some (.ref 1), some (.ref 2), none, none], [], k5 9 mPart :: k6 L xs :: t1, 0 + 1 + (mRm 51).cells, 0 + 10 + (mRm 51).slots)) from rfl)]
    rw [D_next (pc := 8) (of_decide_eq_true (show decide (decode (mB 176) 8 = .ok (.new 10, 3)) = true by decide +kernel)) (mx_nw (ci := 8) (n := 30) (show cNew 10 8 30 = true by decide +kernel) (by decide +kernel) (by rw [hl1]; rfl) w1 (by rw [hl1]; decide)), hl1]
    rw [List.cons_append, List.cons_append]
    rw [D_next (pc := 11) (of_decide_eq_true (show decide (decode (mB 176) 11 = .ok (.dup, 1)) = true by decide +kernel)) (show mx 176 .dup 1 11 [some (.ref 1), some (.ref 2), none, none] [.ref 107] (k5 9 mPart :: k6 L xs :: (t1 ++ [.inr (8, mZero 8)])) (0 + 1 + (mRm 51).cells + 1) (0 + 10 + (mRm 51).slots + 30) = some (.inl (12, [some (.ref 1), some (.ref 2), none, none], [.ref 107, .ref 107], k5 9 mPart :: k6 L xs :: (t1 ++ [.inr (8, mZero 8)]), 0 + 1 + (mRm 51).cells + 1, 0 + 10 + (mRm 51).slots + 30)) from rfl)]
    have hl3 : (k5 9 mPart :: k6 L xs :: (t1 ++ [.inr (8, mZero 8)])).length = 108 := by simp [l1]
    have hg : (k5 9 mPart :: k6 L xs :: (t1 ++ [.inr (8, mZero 8)]))[107]? = some (.inr (mO 99, mZero 8)) := by
      show (t1 ++ [.inr (8, mZero 8)])[105]? = _
      rw [← l1]
      simp
      decide +kernel
    rw [D_call (pc := 12) (of_decide_eq_true (show decide (decode (mB 176) 12 = .ok (.invokespecial 12, 3)) = true by decide +kernel)) (mx_ini (j' := 99) (b := 107) (show cIni 12 99 (0 + 1 + (mRm 51).cells + 1) (0 + 10 + (mRm 51).slots + 30) = true by decide +kernel) (by rw [hl3]; rfl) hg) (show 1 ≤ mL 99 by decide +kernel), d2]
    simp only [Option.bind_some]
    show D 176 15 [some (.ref 1), some (.ref 2), none, none] [.ref 107] (k5 9 mPart :: k6 L xs :: t2) cuA suA = _
    rw [D_next (pc := 15) (of_decide_eq_true (show decide (decode (mB 176) 15 = .ok (.astore_n 2, 1)) = true by decide +kernel)) (show mx 176 (.astore_n 2) 1 15 [some (.ref 1), some (.ref 2), none, none] [.ref 107] (k5 9 mPart :: k6 L xs :: t2) cuA suA = some (.inl (16, [some (.ref 1), some (.ref 2), some (.ref 107), none], [], k5 9 mPart :: k6 L xs :: t2, cuA, suA)) from rfl)]
    rw [D_next (pc := 16) (of_decide_eq_true (show decide (decode (mB 176) 16 = .ok (.iconst 0, 1)) = true by decide +kernel)) (show mx 176 (.iconst 0) 1 16 [some (.ref 1), some (.ref 2), some (.ref 107), none] [] (k5 9 mPart :: k6 L xs :: t2) cuA suA = some (.inl (17, [some (.ref 1), some (.ref 2), some (.ref 107), none], [.int 0], k5 9 mPart :: k6 L xs :: t2, cuA, suA)) from rfl)]
    unfold Lw
    exact D_next (pc := 17) (of_decide_eq_true (show decide (decode (mB 176) 17 = .ok (.istore_n 3, 1)) = true by decide +kernel)) rfl
  · have hlen : (k5 9 mPart :: k6 L xs :: t2).length = 132 := by simp [l2]
    refine ⟨fun a => ((k5 9 mPart :: k6 L xs :: t2)[a]?).getD (k5 9 mPart), mi0, ml0, fun a => gOf (((k5 9 mPart :: k6 L xs :: t2)[a]?).getD (k5 9 mPart)), ?_, ?_, ?_, ?_, rfl, ⟨(fun s n _ e => by cases e), fun s i _ _ => (show fits .byte (.int 0) = true by decide)⟩⟩
    · apply List.ext_getElem?
      intro a
      by_cases c : a < 132
      · rw [HF_at c]
        have : a < (k5 9 mPart :: k6 L xs :: t2).length := by rw [hlen]; exact c
        rw [List.getElem?_eq_getElem this]
        rfl
      · rw [List.getElem?_eq_none (by rw [hlen]; omega), List.getElem?_eq_none (by
          show ((List.range 132).map _).length ≤ a
          rw [List.length_map, List.length_range]
          omega)]
    all_goals
      have hC : InH (fun a => ((k5 9 mPart :: k6 L xs :: t2)[a]?).getD (k5 9 mPart)) := by
        intro a h2 h3
        have e : (k5 9 mPart :: k6 L xs :: t2)[a]? = t2[a - 2]? := by
          obtain ⟨b, rfl⟩ : ∃ b, a = b + 2 := ⟨a - 2, by omega⟩
          rfl
        have hlt : a - 2 < t2.length := by omega
        have := chF_ok c2 (a - 2) t2[a - 2] (List.getElem?_eq_getElem hlt)
        rw [show 2 + (a - 2) = a by omega] at this
        show chC a (((k5 9 mPart :: k6 L xs :: t2)[a]?).getD (k5 9 mPart)) = true
        rw [e, List.getElem?_eq_getElem hlt]
        exact this
    · exact in_cls hC rfl
    · exact in_mo hC
    · intro a a1 a2
      exact in_mf hC a1 a2
theorem law_pure : LawPure := by
  intro L xs hL
  obtain ⟨h, e, hS⟩ := ini_st L xs
  obtain ⟨h', e2⟩ := law_loop hL L 0 S0 h (by omega) (by omega) hS
  obtain ⟨n, hn⟩ := D_iff.1 (e.trans e2)
  exact ⟨n, h', hn⟩
