/-! the small machine's cells as the kit's world -/
def trV (ad : Nat → Nat) : Value → Value
  | .ref k => .ref (ad k)
  | v => v
def trA (ad : Nat → Nat) : vp_A → vp_A
  | (n, .inr (.inr (.inr (.inr f)))) => (n, .inr (.inr (.inr (.inr (fun i => if i < n then (f i).map ad else none)))))
  | a => a
def trE (ad : Nat → Nat) (cT : Nat → ClassId) : mCell → va_E
  | .inl (t, a) => .inl (cT t, trA ad a)
  | .inr (ci, fs) => .inr (ci, fs.map (trV ad))
def mW (ad : Nat → Nat) (cT : Nat → ClassId) (h : mHeap) : va_W := (h.drop 2).mapIdx (fun k c => (ad (k + 2), trE ad cT c))
theorem mW_at {ad : Nat → Nat} {cT : Nat → ClassId} {h : mHeap} (k : Nat) : (mW ad cT h)[k]? = (h[k + 2]?).map (fun c => (ad (k + 2), trE ad cT c)) := by
  unfold mW
  rw [List.getElem?_mapIdx, List.getElem?_drop, Nat.add_comm 2 k]
theorem mW_get {ad : Nat → Nat} {cT : Nat → ClassId} {h : mHeap} {a : Nat} {c : mCell} (ha : 2 ≤ a) (hc : h[a]? = some c) : (mW ad cT h)[a - 2]? = some (ad a, trE ad cT c) := by
  rw [mW_at, Nat.sub_add_cancel ha, hc]
  rfl
theorem mW_set {ad : Nat → Nat} {cT : Nat → ClassId} {h : mHeap} {a : Nat} {c : mCell} (ha : 2 ≤ a) : mW ad cT (h.set a c) = (mW ad cT h).set (a - 2) (ad a, trE ad cT c) := by
  apply List.ext_getElem?
  intro k
  rw [mW_at, List.getElem?_set, List.getElem?_set, mW_at]
  by_cases hk : a = k + 2
  · subst hk
    have e : k + 2 - 2 = k := by omega
    simp only [e, if_true]
    have hl : (mW ad cT h).length = h.length - 2 := by simp [mW]
    by_cases hh : k + 2 < h.length
    · rw [if_pos hh, if_pos (by omega)]
      rfl
    · rw [if_neg hh, if_neg (by omega)]
      rfl
  · have hk2 : ¬ a - 2 = k := by omega
    rw [if_neg hk, if_neg hk2]
theorem trV_cat (ad : Nat → Nat) (v : Value) : (trV ad v).category = v.category := by cases v <;> rfl
theorem trV_same {ad ad' : Nat → Nat} {n : Nat} (hh : ∀ k, k < n → ad' k = ad k) {v : Value} (hv : wV n v = true) : trV ad' v = trV ad v := by
  cases v with
  | ref k => simp only [wV, decide_eq_true_eq] at hv; simp only [trV, hh k hv]
  | _ => rfl
theorem trVs_same {ad ad' : Nat → Nat} {n : Nat} (hh : ∀ k, k < n → ad' k = ad k) {vs : List Value} (hv : vs.all (wV n) = true) : vs.map (trV ad') = vs.map (trV ad) :=
  List.map_congr_left (fun v h => trV_same hh (List.all_eq_true.mp hv v h))
theorem trE_same {ad ad' : Nat → Nat} {cT : Nat → ClassId} {n : Nat} (hh : ∀ k, k < n → ad' k = ad k) {c : mCell} (hc : wC n c = true) : trE ad' cT c = trE ad cT c := by
  match c, hc with
  | .inr (ci, fs), hc => simp only [trE]; rw [trVs_same hh hc]
  | .inl (t, m, .inl f), _ => rfl
  | .inl (t, m, .inr (.inl f)), _ => rfl
  | .inl (t, m, .inr (.inr (.inl f))), _ => rfl
  | .inl (t, m, .inr (.inr (.inr (.inl f)))), _ => rfl
  | .inl (t, m, .inr (.inr (.inr (.inr f)))), hc =>
    simp only [trE, trA]
    congr 7
    funext i
    by_cases hi : i < m
    · rw [if_pos hi, if_pos hi]
      have h1 := List.all_eq_true.mp hc i (List.mem_range.mpr hi)
      cases hf : f i with
      | none => rfl
      | some k =>
        rw [hf] at h1
        simp only [decide_eq_true_eq] at h1
        simp only [Option.map_some, hh k h1]
    · rw [if_neg hi, if_neg hi]
theorem mW_push {ad ad' : Nat → Nat} {cT : Nat → ClassId} {h : mHeap} {q : Nat} {c : mCell} (h2 : 2 ≤ h.length) (hh : ∀ k, k < h.length → ad' k = ad k) (hq : ad' h.length = q) (hw : wH h = true) : mW ad' cT (h ++ [c]) = mW ad cT h ++ [(q, trE ad' cT c)] := by
  have hl : (mW ad cT h).length = h.length - 2 := by simp [mW]
  apply List.ext_getElem?
  intro k
  rw [mW_at]
  by_cases hk : k + 2 < h.length
  · rw [List.getElem?_append_left hk, List.getElem?_append_left (by omega), mW_at]
    cases hc : h[k + 2]? with
    | none => rfl
    | some d =>
      simp only [Option.map_some]
      rw [hh _ hk, trE_same hh (List.all_eq_true.mp hw d (List.mem_of_getElem? hc))]
  · rw [List.getElem?_append_right (by omega), List.getElem?_append_right (by omega), hl]
    by_cases hk2 : k + 2 = h.length
    · have e1 : k + 2 - h.length = 0 := by omega
      have e2 : k - (h.length - 2) = 0 := by omega
      rw [e1, e2, hk2, hq]
      rfl
    · have e1 : k + 2 - h.length = (k + 1 - h.length) + 1 := by omega
      have e2 : k - (h.length - 2) = (k + 1 - h.length) + 1 := by omega
      rw [e1, e2]
      rfl
/-- the locals -/
def lvl (ad : Nat → Nat) : Nat → mLoc → List (Nat × Value)
  | _, [] => []
  | i, some v :: r => (i, trV ad v) :: lvl ad (i + 1) r
  | i, none :: r => lvl ad (i + 1) r
theorem lvl_of {ad : Nat → Nat} : ∀ (ls : mLoc) (i : Nat) {q : Nat × Value}, q ∈ lvl ad i ls → ∃ (k : Nat) (v : Value), q = (i + k, trV ad v) ∧ ls[k]? = some (some v)
  | [], _, _, h => by simp [lvl] at h
  | some v :: r, i, q, h => by
    simp only [lvl, List.mem_cons] at h
    rcases h with h | h
    · exact ⟨0, v, h, rfl⟩
    · obtain ⟨k, w, e, hk⟩ := lvl_of r (i + 1) h
      exact ⟨k + 1, w, by rw [e]; simp; omega, by simpa using hk⟩
  | none :: r, i, q, h => by
    simp only [lvl] at h
    obtain ⟨k, w, e, hk⟩ := lvl_of r (i + 1) h
    exact ⟨k + 1, w, by rw [e]; simp; omega, by simpa using hk⟩
theorem lvl_in {ad : Nat → Nat} : ∀ (ls : mLoc) (i k : Nat) {v : Value}, ls[k]? = some (some v) → (i + k, trV ad v) ∈ lvl ad i ls
  | [], _, _, _, h => by simp at h
  | some w :: r, i, 0, v, h => by
    simp only [List.getElem?_cons_zero, Option.some.injEq] at h
    subst h
    simp [lvl]
  | none :: r, i, 0, v, h => by simp at h
  | some w :: r, i, k + 1, v, h => by
    simp only [List.getElem?_cons_succ] at h
    have := lvl_in (ad := ad) r (i + 1) k h
    simp only [lvl, List.mem_cons]
    exact Or.inr (by rw [show i + (k + 1) = i + 1 + k by omega]; exact this)
  | none :: r, i, k + 1, v, h => by
    simp only [List.getElem?_cons_succ] at h
    have := lvl_in (ad := ad) r (i + 1) k h
    simp only [lvl]
    rw [show i + (k + 1) = i + 1 + k by omega]
    exact this
def mHs (LS : Array Slot) (n : Nat) (ad : Nat → Nat) (ls : mLoc) : Prop := ls.length = n ∧ lv_has LS n (lvl ad 0 ls)
theorem mHs.at {LS : Array Slot} {n : Nat} {ad : Nat → Nat} {ls : mLoc} (h : mHs LS n ad ls) {k : Nat} {v : Value} (hk : mget ls k = some v) : LS[k]? = some (.val (trV ad v)) := by
  have h1 : ls[k]? = some (some v) := by
    unfold mget at hk
    cases hl : ls[k]? with
    | none => rw [hl] at hk; cases hk
    | some x => rw [hl] at hk; simp at hk; rw [hk]
  have h2 := h.2.2.2 _ (lvl_in ls 0 k h1)
  simpa using h2
theorem mHs.of {LS : Array Slot} {n : Nat} {ad : Nat → Nat} {ls : mLoc} {lv : List (Nat × Value)} (h : lv_has LS n lv) (hl : ls.length = n) (hin : ∀ (k : Nat) (v : Value), ls[k]? = some (some v) → (k, trV ad v) ∈ lv) : mHs LS n ad ls := by
  refine ⟨hl, h.1, h.2.1, fun q hq => ?_⟩
  obtain ⟨k, v, e, hk⟩ := lvl_of ls 0 hq
  rw [e, Nat.zero_add]
  exact h.2.2 _ (hin k v hk)
theorem mkil_len (ls : mLoc) (i : Nat) : (mkil ls i).length = ls.length := by
  unfold mkil
  split
  · rfl
  · split
    · split <;> simp
    · rfl
theorem mkil_at {ls : mLoc} {i k : Nat} {v : Value} (h : (mkil ls i)[k]? = some (some v)) : ls[k]? = some (some v) ∧ ¬ (k + 1 = i ∧ v.category = 2) := by
  unfold mkil at h
  split at h
  · exact ⟨h, by omega⟩
  · rename_i k0
    split at h
    · rename_i w hw
      split at h
      · rename_i hcat
        rw [List.getElem?_set] at h
        by_cases e : k0 = k
        · rw [if_pos e] at h
          split at h <;> cases h
        · rw [if_neg e] at h
          exact ⟨h, by omega⟩
      · rename_i hcat
        refine ⟨h, fun q => ?_⟩
        have e : k0 = k := by omega
        subst e
        rw [hw] at h
        cases h
        exact hcat q.2
    · rename_i hno
      refine ⟨h, fun q => ?_⟩
      have e : k0 = k := by omega
      subst e
      exact hno _ h
theorem mst_1 {LS LS' : Array Slot} {n i : Nat} {ad : Nat → Nat} {ls ls' : mLoc} {v : Value} (hH : mHs LS n ad ls) (hm : mst ls i v = some ls') (hc : ¬ v.category = 2)
    (h : lv_has LS' n ((i, trV ad v) :: (lvl ad 0 ls).filter (fun q => !(q.1 == i) && !(q.1 + 1 == i && q.2.category == 2)))) : mHs LS' n ad ls' := by
  unfold mst at hm
  rw [if_neg hc] at hm
  split at hm
  · rename_i hi
    cases hm
    refine mHs.of h (by rw [List.length_set, mkil_len]; exact hH.1) (fun k w hk => ?_)
    rw [List.getElem?_set] at hk
    by_cases e : i = k
    · subst e
      rw [if_pos rfl, if_pos (by rw [mkil_len]; exact hi)] at hk
      cases hk
      exact List.mem_cons_self
    · rw [if_neg e] at hk
      obtain ⟨h1, h2⟩ := mkil_at hk
      refine List.mem_cons_of_mem _ (List.mem_filter.mpr ⟨by have := lvl_in (ad := ad) ls 0 k h1; simpa using this, ?_⟩)
      simp only [Bool.and_eq_true, Bool.not_eq_true', beq_eq_false_iff_ne, ne_eq, Bool.and_eq_false_iff, trV_cat]
      exact ⟨fun z => e z.symm, by
        by_cases z : k + 1 = i
        · exact Or.inr (fun y => h2 ⟨z, y⟩)
        · exact Or.inl z⟩
  · cases hm
theorem mst_2 {LS LS' : Array Slot} {n i : Nat} {ad : Nat → Nat} {ls ls' : mLoc} {v : Value} (hH : mHs LS n ad ls) (hm : mst ls i v = some ls') (hc : v.category = 2)
    (h : lv_has LS' n ((i, trV ad v) :: (lvl ad 0 ls).filter (fun q => !(q.1 == i) && (!(q.1 == i + 1) && !(q.1 + 1 == i && q.2.category == 2))))) : mHs LS' n ad ls' := by
  unfold mst at hm
  rw [if_pos hc] at hm
  split at hm
  · rename_i hi
    cases hm
    refine mHs.of h (by rw [List.length_set, List.length_set, mkil_len]; exact hH.1) (fun k w hk => ?_)
    rw [List.getElem?_set] at hk
    by_cases e1 : i + 1 = k
    · rw [if_pos e1] at hk
      split at hk <;> cases hk
    · rw [if_neg e1, List.getElem?_set] at hk
      by_cases e : i = k
      · subst e
        rw [if_pos rfl, if_pos (by rw [mkil_len]; omega)] at hk
        cases hk
        exact List.mem_cons_self
      · rw [if_neg e] at hk
        obtain ⟨h1, h2⟩ := mkil_at hk
        refine List.mem_cons_of_mem _ (List.mem_filter.mpr ⟨by have := lvl_in (ad := ad) ls 0 k h1; simpa using this, ?_⟩)
        simp only [Bool.and_eq_true, Bool.not_eq_true', beq_eq_false_iff_ne, ne_eq, Bool.and_eq_false_iff, trV_cat]
        exact ⟨fun z => e z.symm, fun z => e1 z.symm, by
          by_cases z : k + 1 = i
          · exact Or.inr (fun y => h2 ⟨z, y⟩)
          · exact Or.inl z⟩
  · cases hm
theorem mst_lt1 {n i : Nat} {ls ls' : mLoc} {v : Value} (hl : ls.length = n) (hm : mst ls i v = some ls') : i < n := by
  unfold mst at hm
  split at hm
  · split at hm
    · omega
    · cases hm
  · split at hm
    · omega
    · cases hm
theorem mst_lt2 {n i : Nat} {ls ls' : mLoc} {v : Value} (hl : ls.length = n) (hm : mst ls i v = some ls') (hc : v.category = 2) : i + 1 < n := by
  unfold mst at hm
  rw [if_pos hc] at hm
  split at hm
  · omega
  · cases hm
theorem mHs.same {LS : Array Slot} {n k : Nat} {ad ad' : Nat → Nat} {ls : mLoc} (h : mHs LS n ad ls) (hh : ∀ i, i < k → ad' i = ad i) (hw : ls.all (fun v => match v with
  | some v => wV k v
  | none => true) = true) : mHs LS n ad' ls := by
  refine ⟨h.1, h.2.1, h.2.2.1, fun q hq => ?_⟩
  obtain ⟨i, v, e, hi⟩ := lvl_of ls 0 hq
  have h1 := List.all_eq_true.mp hw _ (List.mem_of_getElem? hi)
  rw [e, trV_same hh h1]
  exact h.2.2.2 _ (lvl_in ls 0 i hi)
