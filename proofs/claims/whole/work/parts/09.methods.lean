theorem zip_all {α : Type} (P : α × Nat → Bool) : ∀ (l : List α) (k : Nat), (l.zipIdx k).all P = true → ∀ (r : Nat) (h : r < l.length), P (l[r], k + r) = true
  | [], _, _, _, h => absurd h (Nat.not_lt_zero _)
  | a :: l, k, hp, 0, h => by
    rw [List.zipIdx_cons, List.all_cons, Bool.and_eq_true] at hp
    exact hp.1
  | a :: l, k, hp, r + 1, h => by
    rw [List.zipIdx_cons, List.all_cons, Bool.and_eq_true] at hp
    have := zip_all P l (k + 1) hp.2 r (by simpa using h)
    rw [show k + (r + 1) = k + 1 + r by omega]
    exact this
theorem mYk {j : Nat} (h : j < mN) (hl : j ≠ mLaw) : ∃ q, mChY j q = true := by
  have key : ∀ (l : List (Nat × Nat × Nat × Nat × Nat × Nat)) (k : Nat), (l.zipIdx k).all (fun e => e.2 == mLaw || mChY e.2 e.1) = true → k ≤ j → j < k + l.length → ∃ q, mChY j q = true := by
    intro l k hp h1 h2
    have h3 := zip_all _ l k hp (j - k) (by omega)
    have e : k + (j - k) = j := by omega
    rw [e] at h3
    simp only [Bool.or_eq_true, beq_iff_eq] at h3
    rcases h3 with h3 | h3
    · exact absurd h3 hl
    · exact ⟨_, h3⟩
  unfold mN at h
  rcases Nat.lt_or_ge j 16 with h0 | h0
  · exact key mYp_0 0 mChY_0 (by omega) (by show j < 0 + 16; omega)
  rcases Nat.lt_or_ge j 32 with h1 | h1
  · exact key mYp_1 16 mChY_1 (by omega) (by show j < 16 + 16; omega)
  rcases Nat.lt_or_ge j 48 with h2 | h2
  · exact key mYp_2 32 mChY_2 (by omega) (by show j < 32 + 16; omega)
  rcases Nat.lt_or_ge j 64 with h3 | h3
  · exact key mYp_3 48 mChY_3 (by omega) (by show j < 48 + 16; omega)
  rcases Nat.lt_or_ge j 80 with h4 | h4
  · exact key mYp_4 64 mChY_4 (by omega) (by show j < 64 + 16; omega)
  rcases Nat.lt_or_ge j 96 with h5 | h5
  · exact key mYp_5 80 mChY_5 (by omega) (by show j < 80 + 16; omega)
  rcases Nat.lt_or_ge j 112 with h6 | h6
  · exact key mYp_6 96 mChY_6 (by omega) (by show j < 96 + 16; omega)
  rcases Nat.lt_or_ge j 128 with h7 | h7
  · exact key mYp_7 112 mChY_7 (by omega) (by show j < 112 + 16; omega)
  rcases Nat.lt_or_ge j 144 with h8 | h8
  · exact key mYp_8 128 mChY_8 (by omega) (by show j < 128 + 16; omega)
  rcases Nat.lt_or_ge j 160 with h9 | h9
  · exact key mYp_9 144 mChY_9 (by omega) (by show j < 144 + 16; omega)
  rcases Nat.lt_or_ge j 176 with h10 | h10
  · exact key mYp_10 160 mChY_10 (by omega) (by show j < 160 + 16; omega)
  rcases Nat.lt_or_ge j 177 with h11 | h11
  · exact key mYp_11 176 mChY_11 (by omega) (by show j < 176 + 1; omega)
  omega
theorem mY_ok {j : Nat} (h : j < mN) (hl : j ≠ mLaw) : plainFor (mY j) = true ∧ ((mY j).cls ≠ "java/lang/invoke/MethodHandle" ∧ (mY j).cls ≠ "java/lang/invoke/VarHandle" ∧ (parseMethodDescriptor (mY j).desc).map (fun d => d.parameters.length) = some (mNp j)) ∧ (mY j).cls = mR (mO j) ∧ Cond.initialized (mY j).cls ∈ mG ∧ (mKd j = 0 → Cond.static (mY j) ∈ mG) ∧ (mKd j = 1 → Cond.instanceMethod (mY j) ∈ mG ∧ Cond.selects (mY j).cls (mY j) (mY j) ∈ mG) ∧ (mKd j = 2 → Cond.instanceMethod (mY j) ∈ mG ∧ (mY j).name = "<init>" ∧ mRt j = none) := by
  obtain ⟨q, hq⟩ := mYk h hl
  unfold mChY at hq
  simp only [Bool.and_eq_true, decide_eq_true_eq] at hq
  obtain ⟨⟨⟨⟨⟨⟨q1, q2⟩, q3⟩, q4⟩, q5⟩, q6⟩, q7⟩ := hq
  refine ⟨q1, ⟨q2, q3, q4⟩, q5, mIs_G q6 rfl, fun e => ?_, fun e => ?_, fun e => ?_⟩
  · rw [e] at q7
    exact mIs_G q7 rfl
  · rw [e] at q7
    simp only [Bool.and_eq_true] at q7
    exact ⟨mIs_G q7.1 rfl, mIs_G q7.2 rfl⟩
  · rw [e] at q7
    simp only [Bool.and_eq_true, decide_eq_true_eq] at q7
    exact ⟨mIs_G q7.1.1 rfl, q7.1.2, q7.2⟩
theorem mG_good {w : Cond} (h : w ∈ mG) : (w.onTables && w.keeps) = true ∨ ∃ ty, w = .arrayClass ty := good_of_word (List.mem_filter.mp h).2
def mWs (j : Nat) : List Cond := Cond.code (mY j) (mB j) (mL j) (mRt j) :: mG
theorem mWs_in {j : Nat} (h : j < mN) (hl : j ≠ mLaw) : GoodIn mG (mWs j) := by
  intro w hw
  rcases List.mem_cons.mp hw with rfl | hw
  · exact ⟨mCd j h hl, mG_good (mCd j h hl)⟩
  · exact ⟨hw, mG_good hw⟩
theorem mMet_of {l : Launch} {y : MethodName} {ws' : List Cond} {rm : Room} {Pc : Array Value → State → Prop} {Qc : Array Value → State → Outcome → State → Prop} {mc ms : Nat} {free : Addr → Prop} {cc : ByteArray} {maxL : Nat} {ret : Option FieldType}
    (hy : plainFor y = true)
    (body : ∀ p e s m args below meth c s₁, BodyLoose p l y (headSpec (Cond.code y cc maxL ret :: ws') rm) cc maxL ret e s m args below meth c s₁ → c.maxLocals = maxL → Pc args s → W p l e rm s m args below meth c s.heap [] 0 0 (MQ below Qc args s mc ms free) (entryFrame m args maxL)) : Met l y (Cond.code y cc maxL ret :: ws') rm Pc Qc mc ms free := by
  refine MetFree.of_bodySF (code := cc) (maxLocals := maxL) (ret := ret) hy (fun args s m h hn => ?_) (fun p e s m args below meth c s₁ B hml hP _ => ?_)
  · obtain ⟨meth, c, h1, h2, h3, h4, h5, h6, -, -⟩ := Cond.code_spec hn (atoms_spec (ws := Cond.code y cc maxL ret :: ws') h _ List.mem_cons_self)
    exact ⟨meth, c, h1, h2, h3, h4, h5, h6⟩
  · obtain ⟨t, a1, o, b1, b2, b3⟩ := body p e s m args below meth c s₁ B hml hP s₁ (by rw [B.state]; rfl) (Stand.of_body B)
    exact ⟨t, o, a1, b1, b2, b3.1, b3.2⟩
theorem mArg_len (ad : Nat → Nat) : ∀ (as : List Value), (lg_sl (as.map (trV ad))).length = (mArg as).length
  | [] => rfl
  | v :: r => by
    have ih := mArg_len ad r
    unfold lg_sl at ih ⊢
    simp only [List.map_cons, List.flatMap_cons, List.length_append, mArg, trV_cat]
    rw [ih]
    split <;> simp <;> omega
theorem mArg_in (ad : Nat → Nat) : ∀ (as : List Value) (i k : Nat) {v : Value}, (mArg as)[k]? = some (some v) → (i + k, trV ad v) ∈ lv_args i (as.map (trV ad))
  | [], _, _, _, h => by simp [mArg] at h
  | w :: r, i, k, v, h => by
    simp only [List.map_cons, lv_args, trV_cat, List.mem_cons]
    unfold mArg at h
    by_cases hc : w.category = 2
    · rw [if_pos hc] at h ⊢
      match k, h with
      | 0, h => simp at h; subst h; exact Or.inl rfl
      | 1, h => simp at h
      | k + 2, h =>
        have h1 : (mArg r)[k]? = some (some v) := by simpa using h
        have := mArg_in ad r (i + 2) k h1
        exact Or.inr (by rw [show i + (k + 2) = i + 2 + k by omega]; exact this)
    · rw [if_neg hc] at h ⊢
      match k, h with
      | 0, h => simp at h; subst h; exact Or.inl rfl
      | k + 1, h =>
        have h1 : (mArg r)[k]? = some (some v) := by simpa using h
        have := mArg_in ad r (i + 1) k h1
        exact Or.inr (by rw [show i + (k + 1) = i + 1 + k by omega]; exact this)
theorem mEnt_has (ad : Nat → Nat) {j : Nat} {as : List Value} (h : (mArg as).length ≤ mL j) : mHs ((lg_sl (as.map (trV ad)) ++ List.replicate (mL j - (lg_sl (as.map (trV ad))).length) Slot.unset).toArray) (mL j) ad (mEnt j as) := by
  refine mHs.of (lv_entry (as.map (trV ad)) (n := mL j) (by rw [mArg_len]; exact h)) (by unfold mEnt; rw [List.length_append, List.length_replicate]; omega) (fun k v hk => ?_)
  unfold mEnt at hk
  by_cases hl : k < (mArg as).length
  · rw [List.getElem?_append_left hl] at hk
    have := mArg_in ad as 0 k hk
    simpa using this
  · rw [List.getElem?_append_right (by omega)] at hk
    have := List.eq_of_mem_replicate (List.mem_of_getElem? hk)
    cases this
section LEN
variable {j : Nat} {i : Instr} {len pc : Nat} {ls : mLoc} {st : List Value} {h : mHeap} {cu su : Nat}
theorem cPut_len {a ci k : Nat} {v : Value} {h' : mHeap} (hx : cPut h a ci k v = some h') : h'.length = h.length := by
  obtain ⟨_, -, -, rfl⟩ := cPut_inv hx
  simp
theorem cAstI_len {a : Nat} {i x : Int32} {h' : mHeap} (hx : cAstI h a i x = some h') : h'.length = h.length := by
  unfold cAstI at hx
  repeat' split at hx
  all_goals first | (cases hx; done) | (cases hx; simp)
theorem cAstB_len {a : Nat} {i x : Int32} {h' : mHeap} (hx : cAstB h a i x = some h') : h'.length = h.length := by
  unfold cAstB at hx
  repeat' split at hx
  all_goals first | (cases hx; done) | (cases hx; simp)
theorem cAstL_len {a : Nat} {i : Int32} {x : Int64} {h' : mHeap} (hx : cAstL h a i x = some h') : h'.length = h.length := by
  unfold cAstL at hx
  repeat' split at hx
  all_goals first | (cases hx; done) | (cases hx; simp)
theorem cAstR_len {a b : Nat} {i : Int32} {h' : mHeap} (hx : cAstR h a i b = some h') : h'.length = h.length := by
  unfold cAstR at hx
  repeat' split at hx
  all_goals first | (cases hx; done) | (cases hx; simp)
theorem cCpy_len {a b : Nat} {sp dp n : Int32} {h' : mHeap} (hx : cCpy h a b sp dp n = some h') : h'.length = h.length := by
  unfold cCpy at hx
  split at hx
  · split at hx
    · cases hx; simp
    · cases hx
  · cases hx
end LEN
