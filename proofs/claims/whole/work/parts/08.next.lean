section NX
variable {p : Program} {l : Launch} {e : Env} {s : State} {m : MethodId} {args : Array Value} {below : List Frame} {meth : Method} {c : Code} {Q : State → Prop} {A : Nat → Prop} {cT dC : Nat → ClassId} {dI : Nat → Nat → Nat} {t b L : Nat} {xs : Nat → Int32} {j : Nat}
theorem mI_ge2 {ad : Nat → Nat} {h : mHeap} {H : Heap} {locs : List Loc} (I : mI cT dC dI t b L xs A s ad h H locs) {a : Nat} {x : mCell} (hx : h[a]? = some x) (h5 : x ≠ .inl (5, 9, .inl mPart)) (h6 : x ≠ .inl (6, L, .inl xs)) : 2 ≤ a := by
  obtain ⟨-, -, i0, i1, -⟩ := I
  match a, hx with
  | 0, hx => rw [i0] at hx; exact absurd (Option.some.inj hx).symm h5
  | 1, hx => rw [i1] at hx; exact absurd (Option.some.inj hx).symm h6
  | n + 2, _ => omega
theorem mI_ge2r {ad : Nat → Nat} {h : mHeap} {H : Heap} {locs : List Loc} (I : mI cT dC dI t b L xs A s ad h H locs) {a : Nat} {x : Nat × List Value} (hx : h[a]? = some (.inr x)) : 2 ≤ a := mI_ge2 I hx (fun h => by cases h) (fun h => by cases h)
theorem mI_ge2l {ad : Nat → Nat} {h : mHeap} {H : Heap} {locs : List Loc} (I : mI cT dC dI t b L xs A s ad h H locs) {a k : Nat} {x : vp_A} (hx : h[a]? = some (.inl (k, x))) (h5 : k ≠ 5) (h6 : k ≠ 6) : 2 ≤ a := mI_ge2 I hx (fun h => by cases h; exact h5 rfl) (fun h => by cases h; exact h6 rfl)
theorem mI_set {ad : Nat → Nat} {h : mHeap} {H H1 : Heap} {locs locs1 : List Loc} (I : mI cT dC dI t b L xs A s ad h H locs) {a : Nat} {x : mCell} (ha : 2 ≤ a) (hP : va_P (dC, dI) vwCl ((mW ad cT h).set (a - 2) (ad a, trE ad cT x)) H1) (hD : va_D A ((mW ad cT h).set (a - 2) (ad a, trE ad cT x))) (hS : va_S A s.heap H1 locs1) : mI cT dC dI t b L xs A s ad (h.set a x) H1 locs1 := by
  obtain ⟨i1, i2, i3, i4, -, -, -⟩ := I
  rw [← mW_set ha] at hP hD
  exact ⟨i1, i2, by rw [List.getElem?_set_ne (by omega)]; exact i3, by rw [List.getElem?_set_ne (by omega)]; exact i4, hP, hD, hS⟩
def adP (ad : Nat → Nat) (n q : Nat) : Nat → Nat := fun k => if k = n then q else ad k
theorem adP_lt {ad : Nat → Nat} {n q k : Nat} (h : k < n) : adP ad n q k = ad k := if_neg (by omega)
theorem adP_at {ad : Nat → Nat} {n q : Nat} : adP ad n q n = q := if_pos rfl
theorem mI_push {ad : Nat → Nat} {h : mHeap} {H H1 : Heap} {locs locs1 : List Loc} (I : mI cT dC dI t b L xs A s ad h H locs) (h2 : 2 ≤ h.length) (hw : wH h = true) {q : Nat} {x : mCell} {ex : va_E} (he : trE (adP ad h.length q) cT x = ex) (hP : va_P (dC, dI) vwCl (mW ad cT h ++ [(q, ex)]) H1) (hD : va_D A (mW ad cT h ++ [(q, ex)])) (hS : va_S A s.heap H1 locs1) : mI cT dC dI t b L xs A s (adP ad h.length q) (h ++ [x]) H1 locs1 := by
  obtain ⟨i1, i2, i3, i4, -, -, -⟩ := I
  rw [← he, ← mW_push h2 (fun k hk => adP_lt hk) adP_at hw] at hP hD
  exact ⟨by rw [adP_lt (by omega)]; exact i1, by rw [adP_lt (by omega)]; exact i2, by rw [List.getElem?_append_left (by omega)]; exact i3, by rw [List.getElem?_append_left (by omega)]; exact i4, hP, hD, hS⟩
theorem cA_eq {tys : List (ClassId × FieldType)} {cA cB : ClassId} {ty : FieldType} {k : Nat} (hK : va_K (dC, dI) vwCl tys s) (hk : tys[k]? = some (cB, ty)) (hK2 : va_K (dC, dI) vwCl (tys ++ [(cA, ty)]) s) : cA = cB := by
  have h1 := (hK.2 k _ hk).2
  have h2 := (hK2.2 tys.length (cA, ty) (by simp)).2
  have key : ∀ {c : ClassId}, va_RA s c ty → s.vm.findClass ("[" ++ ty.toString) = some c := by
    intro c h
    cases ty with
    | object C => obtain ⟨_, _, _, _, _, h4⟩ := h; exact h4
    | _ => exact h
  exact Option.some.inj ((key h2).symm.trans (key h1))
/-- one step that isn't a call nor an end -/
def mKt (l : Launch) (e : Env) (below : List Frame) (Q : State → Prop) (cT dC : Nat → ClassId) (dI : Nat → Nat → Nat) (t b L : Nat) (xs : Nat → Int32) (A : Nat → Prop) (j : Nat) (p : Program) (s : State) (m : MethodId) (meth : Method) (c : Code) (args : Array Value) (ad : Nat → Nat) (n : Nat) (F : mFr) : Prop :=
  ∀ (ad' : Nat → Nat) (H' : Heap) (locs' : List Loc) (LS' : Array Slot), (∀ k, k < n → ad' k = ad k) → ((mRm j).cells = 0 → ad' = ad) → mI cT dC dI t b L xs A s ad' F.2.2.2.1 H' locs' → mHs LS' (mL j) ad' F.2.1 → F.2.2.2.2.1 ≤ (mRm j).cells → F.2.2.2.2.2 ≤ (mRm j).slots → W p l e (mRm j) s m args below meth c H' locs' F.2.2.2.2.1 F.2.2.2.2.2 Q (F0 m F.1 LS' (F.2.2.1.map (trV ad')))
theorem mKt.go {ad : Nat → Nat} {n : Nat} {F : mFr} (K : mKt l e below Q cT dC dI t b L xs A j p s m meth c args ad n F) {H' : Heap} {locs' : List Loc} {LS' : Array Slot} (I : mI cT dC dI t b L xs A s ad F.2.2.2.1 H' locs') (hL : mHs LS' (mL j) ad F.2.1) (hc : F.2.2.2.2.1 ≤ (mRm j).cells) (hs : F.2.2.2.2.2 ≤ (mRm j).slots) : W p l e (mRm j) s m args below meth c H' locs' F.2.2.2.2.1 F.2.2.2.2.2 Q (F0 m F.1 LS' (F.2.2.1.map (trV ad))) := K ad H' locs' LS' (fun _ _ => rfl) (fun _ => rfl) I hL hc hs
set_option maxHeartbeats 4000000 in
theorem mc_next (C : mCx cT dC dI t b L xs A j p s m meth c args) {ad : Nat → Nat} {h : mHeap} {H : Heap} {locs : List Loc} (I : mI cT dC dI t b L xs A s ad h H locs) {ls : mLoc} {LS : Array Slot} (hL : mHs LS (mL j) ad ls) {kd idx len pc : Nat} {st : List Value} {cu su : Nat} (hcu : cu ≤ (mRm j).cells) (hsu : su ≤ (mRm j).slots) (hd : (kd = 0 ∧ decode (mB j) pc = .ok (.invokestatic idx, len)) ∨ kd = 1 ∨ (kd = 2 ∧ decode (mB j) pc = .ok (.invokespecial idx, len))) {F : mFr} (hx : mCall j kd idx len pc ls st h cu su = some (.inl F))
    (K : mKt l e below Q cT dC dI t b L xs A j p s m meth c args ad h.length F) : W p l e (mRm j) s m args below meth c H locs cu su Q (F0 m pc LS (st.map (trV ad))) := by
  obtain ⟨hxc, hb, hml, hown, hts, ⟨hK, hne, hao, hZ, hT⟩, hA, hini, hlaw⟩ := C
  have I0 := I
  obtain ⟨ia0, ia1, ih0, ih1, hP, hD, hS⟩ := I
  unfold mCall mnx at hx
  split at hx
  · rename_i e1
    subst e1
    split at hx
    · rename_i j' ne hm
      split at hx
      · rename_i hj
        split at hx
        · rename_i a r
          split at hx
          · rename_i hr
            cases hx
            rcases hd with ⟨z, -⟩ | z | ⟨-, hd⟩
            · cases z
            · cases z
            · refine W.objInit hxc hb hown (hts _ ((mM_ok hm).1 hj)) (hts _ objI_in) (hts _ objC_in) rfl (by rw [hml]; exact hL.2.1) rfl hd hr.1 ?_ (K.go I0 hL hcu hsu)
              have hr2 := hr.2
              unfold mCat at hr2
              show 2 * 0 + _ + 12 ≤ _
              rw [List.map_map]
              have : ((fun v => Value.category v) ∘ trV ad) = fun v => v.category := by funext v; exact trV_cat ad v
              rw [this]
              omega
          · cases hx
        · cases hx
      · split at hx
        · rename_i hj
          split at hx
          · rename_i n dp b0 sp a r
            split at hx
            · rename_i hr
              split at hx
              · rename_i h' hc
                cases hx
                rcases hd with ⟨-, hd⟩ | z | ⟨z, -⟩
                · unfold cCpy at hc
                  split at hc
                  · rename_i t0 n0 f t1 n1 g hh0 hh1
                    split at hc
                    · rename_i hq
                      obtain ⟨rfl, rfl, q1, q2, q3, q4, q5, q6⟩ := hq
                      cases hc
                      have ha := mI_ge2l I0 hh0 (by omega) (by omega)
                      have hb0 := mI_ge2l I0 hh1 (by omega) (by omega)
                      refine va_copyi hxc hb (by rw [hml]; exact hL.2.1.symm) hown (hts _ ((mM_ok hm).2.1 hj)) (hts _ cpyN_in) (hts _ cpyS_in) (hts _ cpyI_in) hK hP hD hS (a - 2) (b0 - 2) 1 1 (ty := .byte) (mW_get ha hh0) (mW_get hb0 hh1) rfl rfl rfl q1 q2 q3 q4 q5 q6 hr.1 ?_ hd (fun H1 locs1 q1 q2 q3 => K.go (mI_set I0 hb0 q1 q2 q3) hL hcu hsu)
                      have hr2 := hr.2
                      unfold mCat at hr2
                      rw [List.map_map]
                      have : ((fun v => Value.category v) ∘ trV ad) = fun v => v.category := by funext v; exact trV_cat ad v
                      rw [this]
                      exact hr2
                    · cases hc
                  · cases hc
                · cases z
                · cases z
              · cases hx
            · cases hx
          · cases hx
        · split at hx
          · split at hx
            · split at hx <;> cases hx
            · split at hx
              · split at hx
                · split at hx <;> cases hx
                · cases hx
              · cases hx
          · cases hx
    · cases hx
  · cases hx
set_option maxHeartbeats 4000000 in
theorem mx_next (C : mCx cT dC dI t b L xs A j p s m meth c args) {ad : Nat → Nat} {h : mHeap} {H : Heap} {locs : List Loc} (I : mI cT dC dI t b L xs A s ad h H locs) {ls : mLoc} {LS : Array Slot} (hL : mHs LS (mL j) ad ls) {i : Instr} {len pc : Nat} {st : List Value} {cu su : Nat} (hcu : cu ≤ (mRm j).cells) (hsu : su ≤ (mRm j).slots) (hd : decode (mB j) pc = .ok (i, len)) {F : mFr} (hx : mx j i len pc ls st h cu su = some (.inl F))
    (K : mKt l e below Q cT dC dI t b L xs A j p s m meth c args ad h.length F) : W p l e (mRm j) s m args below meth c H locs cu su Q (F0 m pc LS (st.map (trV ad))) := by
  obtain ⟨hxc, hb, hml, hown, hts, ⟨hK, hne, hao, hZ, hT⟩, hA, hini, hlaw⟩ := C
  have I0 := I
  obtain ⟨ia0, ia1, ih0, ih1, hP, hD, hS⟩ := I
  cases i
  case aload k =>
    obtain ⟨rfl, v, ev, eo, rfl⟩ := mload_inv hx
    obtain ⟨x, rfl⟩ := mok_2 eo
    exact lv_aload hxc hb hd (hL.at ev) (K.go I0 hL hcu hsu)
  case aload_n k =>
    obtain ⟨rfl, v, ev, eo, rfl⟩ := mload_inv hx
    obtain ⟨x, rfl⟩ := mok_2 eo
    exact lv_aload_n hxc hb hd rfl (hL.at ev) (K.go I0 hL hcu hsu)
  case iload k =>
    obtain ⟨rfl, v, ev, eo, rfl⟩ := mload_inv hx
    obtain ⟨x, rfl⟩ := mok_0 eo
    exact lv_iload hxc hb hd (hL.at ev) (K.go I0 hL hcu hsu)
  case iload_n k =>
    obtain ⟨rfl, v, ev, eo, rfl⟩ := mload_inv hx
    obtain ⟨x, rfl⟩ := mok_0 eo
    exact lv_iload_n hxc hb hd rfl (hL.at ev) (K.go I0 hL hcu hsu)
  case lload k =>
    obtain ⟨rfl, v, ev, eo, rfl⟩ := mload_inv hx
    obtain ⟨x, rfl⟩ := mok_1 eo
    exact lv_lload hxc hb hd (hL.at ev) (K.go I0 hL hcu hsu)
  case lload_n k =>
    obtain ⟨rfl, v, ev, eo, rfl⟩ := mload_inv hx
    obtain ⟨x, rfl⟩ := mok_1 eo
    exact lv_lload_n hxc hb hd rfl (hL.at ev) (K.go I0 hL hcu hsu)
  case astore k =>
    obtain ⟨rfl, v, r, ls', rfl, eo, em, rfl⟩ := mstore_inv hx
    obtain ⟨x, rfl⟩ := mok_2 eo
    exact lv_astore hxc hb hd hL.2 (mst_lt1 hL.1 em) rfl (fun LS' hLS => K.go I0 (mst_1 hL em (by simp [Value.category]) hLS) hcu hsu)
  case astore_n k =>
    obtain ⟨rfl, v, r, ls', rfl, eo, em, rfl⟩ := mstore_inv hx
    obtain ⟨x, rfl⟩ := mok_2 eo
    exact lv_astore_n hxc hb hd rfl hL.2 (mst_lt1 hL.1 em) rfl (fun LS' hLS => K.go I0 (mst_1 hL em (by simp [Value.category]) hLS) hcu hsu)
  case istore k =>
    obtain ⟨rfl, v, r, ls', rfl, eo, em, rfl⟩ := mstore_inv hx
    obtain ⟨x, rfl⟩ := mok_0 eo
    exact lv_istore hxc hb hd hL.2 (mst_lt1 hL.1 em) rfl (fun LS' hLS => K.go I0 (mst_1 hL em (by simp [Value.category]) hLS) hcu hsu)
  case istore_n k =>
    obtain ⟨rfl, v, r, ls', rfl, eo, em, rfl⟩ := mstore_inv hx
    obtain ⟨x, rfl⟩ := mok_0 eo
    exact lv_istore_n hxc hb hd rfl hL.2 (mst_lt1 hL.1 em) rfl (fun LS' hLS => K.go I0 (mst_1 hL em (by simp [Value.category]) hLS) hcu hsu)
  case lstore k =>
    obtain ⟨rfl, v, r, ls', rfl, eo, em, rfl⟩ := mstore_inv hx
    obtain ⟨x, rfl⟩ := mok_1 eo
    exact lv_lstore hxc hb hd hL.2 (mst_lt2 hL.1 em rfl) rfl (fun LS' hLS => K.go I0 (mst_2 hL em rfl hLS) hcu hsu)
  case lstore_n k =>
    obtain ⟨rfl, v, r, ls', rfl, eo, em, rfl⟩ := mstore_inv hx
    obtain ⟨x, rfl⟩ := mok_1 eo
    exact lv_lstore_n hxc hb hd rfl hL.2 (mst_lt2 hL.1 em rfl) rfl (fun LS' hLS => K.go I0 (mst_2 hL em rfl hLS) hcu hsu)
  case iconst n =>
    obtain ⟨rfl, rfl⟩ := mpush_inv hx
    exact lv_iconst hxc hb hd rfl (K.go I0 hL hcu hsu)
  case bipush n =>
    obtain ⟨rfl, rfl⟩ := mpush_inv hx
    exact lv_bipush hxc hb hd rfl (K.go I0 hL hcu hsu)
  case sipush n =>
    obtain ⟨rfl, rfl⟩ := mpush_inv hx
    exact lv_sipush hxc hb hd rfl (K.go I0 hL hcu hsu)
  case lconst n =>
    obtain ⟨rfl, rfl⟩ := mpush_inv hx
    exact lv_lconst hxc hb hd rfl (K.go I0 hL hcu hsu)
  case ldc2_w k =>
    simp only [mx] at hx
    split at hx
    · rename_i v hv
      obtain ⟨rfl, rfl⟩ := mpush_inv hx
      exact lv_ldc2 hxc hb hown (hts _ (mK_ok hv)) hd (K.go I0 hL hcu hsu)
    · cases hx
  case getstatic k =>
    simp only [mx] at hx
    split at hx
    · rename_i hg
      obtain ⟨rfl, rfl⟩ := mpush_inv hx
      have hm : (mO j, k) ∈ mGl := List.contains_iff_mem.mp hg
      have hw := hne _ (of_decide_eq_true (List.all_eq_true.mp mChG_ok _ hm))
      have k1 := K.go (H' := H) (locs' := locs) (LS' := LS) I0 hL hcu hsu
      simp only [List.map_cons, trV, ia0] at k1
      exact va_getsN hxc hb hZ hS hown (va_Nw.use rfl hw) (fun _ h => h) hd k1
    · cases hx
  case iadd =>
    simp only [mx] at hx
    obtain ⟨rfl, x, y, r, z, rfl, ez, rfl⟩ := mbi_inv hx
    cases ez
    exact lv_iadd hxc hb hd (K.go I0 hL hcu hsu)
  case isub =>
    simp only [mx] at hx
    obtain ⟨rfl, x, y, r, z, rfl, ez, rfl⟩ := mbi_inv hx
    cases ez
    exact lv_isub hxc hb hd (K.go I0 hL hcu hsu)
  case imul =>
    simp only [mx] at hx
    obtain ⟨rfl, x, y, r, z, rfl, ez, rfl⟩ := mbi_inv hx
    cases ez
    exact lv_imul hxc hb hd (K.go I0 hL hcu hsu)
  case iand =>
    simp only [mx] at hx
    obtain ⟨rfl, x, y, r, z, rfl, ez, rfl⟩ := mbi_inv hx
    cases ez
    exact lv_iand hxc hb hd (K.go I0 hL hcu hsu)
  case ior =>
    simp only [mx] at hx
    obtain ⟨rfl, x, y, r, z, rfl, ez, rfl⟩ := mbi_inv hx
    cases ez
    exact lv_ior hxc hb hd (K.go I0 hL hcu hsu)
  case ixor =>
    simp only [mx] at hx
    obtain ⟨rfl, x, y, r, z, rfl, ez, rfl⟩ := mbi_inv hx
    cases ez
    exact lv_ixor hxc hb hd (K.go I0 hL hcu hsu)
  case ishl =>
    simp only [mx] at hx
    obtain ⟨rfl, x, y, r, z, rfl, ez, rfl⟩ := mbi_inv hx
    cases ez
    exact lv_ishl hxc hb hd (K.go I0 hL hcu hsu)
  case ishr =>
    simp only [mx] at hx
    obtain ⟨rfl, x, y, r, z, rfl, ez, rfl⟩ := mbi_inv hx
    cases ez
    exact lv_ishr hxc hb hd (K.go I0 hL hcu hsu)
  case idiv =>
    simp only [mx] at hx
    obtain ⟨rfl, x, y, r, z, rfl, ez, rfl⟩ := mbi_inv hx
    split at ez
    · cases ez
    · rename_i hy
      cases ez
      exact lv_idiv hxc hb hd hy (K.go I0 hL hcu hsu)
  case irem =>
    simp only [mx] at hx
    obtain ⟨rfl, x, y, r, z, rfl, ez, rfl⟩ := mbi_inv hx
    split at ez
    · cases ez
    · rename_i hy
      cases ez
      exact lv_irem hxc hb hd hy (K.go I0 hL hcu hsu)
  case ladd =>
    simp only [mx] at hx
    obtain ⟨rfl, x, y, r, z, rfl, ez, rfl⟩ := mbl_inv hx
    cases ez
    exact lv_ladd hxc hb hd (K.go I0 hL hcu hsu)
  case lmul =>
    simp only [mx] at hx
    obtain ⟨rfl, x, y, r, z, rfl, ez, rfl⟩ := mbl_inv hx
    cases ez
    exact lv_lmul hxc hb hd (K.go I0 hL hcu hsu)
  case lor =>
    simp only [mx] at hx
    obtain ⟨rfl, x, y, r, z, rfl, ez, rfl⟩ := mbl_inv hx
    cases ez
    exact lv_lor hxc hb hd (K.go I0 hL hcu hsu)
  case ldiv =>
    simp only [mx] at hx
    obtain ⟨rfl, x, y, r, z, rfl, ez, rfl⟩ := mbl_inv hx
    split at ez
    · cases ez
    · rename_i hy
      cases ez
      exact lv_ldiv hxc hb hd hy (K.go I0 hL hcu hsu)
  case lrem =>
    simp only [mx] at hx
    obtain ⟨rfl, x, y, r, z, rfl, ez, rfl⟩ := mbl_inv hx
    split at ez
    · cases ez
    · rename_i hy
      cases ez
      exact lv_lrem hxc hb hd hy (K.go I0 hL hcu hsu)
  case lshl =>
    simp only [mx] at hx
    obtain ⟨rfl, x, y, r, rfl, rfl⟩ := mbs_inv hx
    exact lv_lshl hxc hb hd rfl (K.go I0 hL hcu hsu)
  case lshr =>
    simp only [mx] at hx
    obtain ⟨rfl, x, y, r, rfl, rfl⟩ := mbs_inv hx
    exact lv_lshr hxc hb hd rfl (K.go I0 hL hcu hsu)
  case ineg =>
    simp only [mx] at hx
    obtain ⟨rfl, x, r, rfl, rfl⟩ := mui_inv hx
    exact lv_ineg hxc hb hd (K.go I0 hL hcu hsu)
  case i2b =>
    simp only [mx] at hx
    obtain ⟨rfl, x, r, rfl, rfl⟩ := mui_inv hx
    exact lv_i2b hxc hb hd rfl (K.go I0 hL hcu hsu)
  case i2l =>
    simp only [mx] at hx
    obtain ⟨rfl, x, r, rfl, rfl⟩ := mui_inv hx
    exact lv_i2l hxc hb hd rfl (K.go I0 hL hcu hsu)
  case l2i =>
    simp only [mx, mnx] at hx
    split at hx
    · rename_i e1
      subst e1
      split at hx
      · cases hx
        exact lv_l2i hxc hb hd rfl (K.go I0 hL hcu hsu)
      · cases hx
    · cases hx
  case lcmp =>
    simp only [mx, mnx] at hx
    split at hx
    · rename_i e1
      subst e1
      split at hx
      · cases hx
        exact W.lcmp hxc hb hd (K.go I0 hL hcu hsu)
      · cases hx
    · cases hx
  case iinc k n =>
    simp only [mx, mnx] at hx
    split at hx
    · rename_i e1
      subst e1
      split at hx
      · rename_i x hg
        split at hx
        · rename_i ls' em
          cases hx
          have h1 : ls[k]? = some (some (.int x)) := by
            unfold mget at hg
            cases hl : ls[k]? with
            | none => rw [hl] at hg; cases hg
            | some y => rw [hl] at hg; simp at hg; rw [hg]
          have h2 := lvl_in (ad := ad) ls 0 k h1
          rw [Nat.zero_add] at h2
          obtain ⟨q, hq⟩ := List.getElem?_of_mem h2
          exact lv_iinc hxc hb hd hL.2 (k := q) hq rfl (mst_lt1 hL.1 em) rfl (fun LS' hLS => K.go I0 (mst_1 hL em (by simp [Value.category]) hLS) hcu hsu)
        · cases hx
      · cases hx
    · cases hx
  case goto o =>
    simp only [mx, mnx] at hx
    split at hx
    · rename_i e1
      subst e1
      split at hx
      · rename_i t0 ht
        cases hx
        exact lv_goto hxc hb hd (mtg_ok ht) (K.go I0 hL hcu hsu)
      · cases hx
    · cases hx
  case ifCond cd o =>
    cases cd
    case eq =>
      simp only [mx] at hx
      obtain ⟨rfl, x, r, t0, rfl, ht, rfl⟩ := mif1_inv hx
      exact lv_if_eq hxc hb hd (mtg_ok ht) (fun hc => by have k := K.go (H' := H) (locs' := locs) I0 hL hcu hsu; simp only [decide_eq_true_eq, if_pos hc] at k; exact k) (fun hc => by have k := K.go (H' := H) (locs' := locs) I0 hL hcu hsu; simp only [decide_eq_true_eq, if_neg hc] at k; exact k)
    case ne =>
      simp only [mx] at hx
      obtain ⟨rfl, x, r, t0, rfl, ht, rfl⟩ := mif1_inv hx
      exact lv_if_ne hxc hb hd (mtg_ok ht) (fun hc => by have k := K.go (H' := H) (locs' := locs) I0 hL hcu hsu; simp only [decide_eq_true_eq, if_pos hc] at k; exact k) (fun hc => by have k := K.go (H' := H) (locs' := locs) I0 hL hcu hsu; simp only [decide_eq_true_eq, if_neg (not_not_intro hc)] at k; exact k)
    case lt =>
      simp only [mx] at hx
      obtain ⟨rfl, x, r, t0, rfl, ht, rfl⟩ := mif1_inv hx
      exact lv_if_lt hxc hb hd (mtg_ok ht) (fun hc => by have k := K.go (H' := H) (locs' := locs) I0 hL hcu hsu; simp only [decide_eq_true_eq, if_pos hc] at k; exact k) (fun hc => by have k := K.go (H' := H) (locs' := locs) I0 hL hcu hsu; simp only [decide_eq_true_eq, if_neg hc] at k; exact k)
    case ge =>
      simp only [mx] at hx
      obtain ⟨rfl, x, r, t0, rfl, ht, rfl⟩ := mif1_inv hx
      exact lv_if_ge hxc hb hd (mtg_ok ht) (fun hc => by have k := K.go (H' := H) (locs' := locs) I0 hL hcu hsu; simp only [decide_eq_true_eq, if_pos hc] at k; exact k) (fun hc => by have k := K.go (H' := H) (locs' := locs) I0 hL hcu hsu; simp only [decide_eq_true_eq, if_neg hc] at k; exact k)
    case gt =>
      simp only [mx] at hx
      obtain ⟨rfl, x, r, t0, rfl, ht, rfl⟩ := mif1_inv hx
      exact lv_if_gt hxc hb hd (mtg_ok ht) (fun hc => by have k := K.go (H' := H) (locs' := locs) I0 hL hcu hsu; simp only [decide_eq_true_eq, if_pos hc] at k; exact k) (fun hc => by have k := K.go (H' := H) (locs' := locs) I0 hL hcu hsu; simp only [decide_eq_true_eq, if_neg hc] at k; exact k)
    case le =>
      simp only [mx] at hx
      obtain ⟨rfl, x, r, t0, rfl, ht, rfl⟩ := mif1_inv hx
      exact lv_if_le hxc hb hd (mtg_ok ht) (fun hc => by have k := K.go (H' := H) (locs' := locs) I0 hL hcu hsu; simp only [decide_eq_true_eq, if_pos hc] at k; exact k) (fun hc => by have k := K.go (H' := H) (locs' := locs) I0 hL hcu hsu; simp only [decide_eq_true_eq, if_neg hc] at k; exact k)
  case if_icmp cd o =>
    cases cd
    case eq =>
      simp only [mx] at hx
      obtain ⟨rfl, x, y, r, t0, rfl, ht, rfl⟩ := mif2_inv hx
      exact lv_icmp_eq hxc hb hd (mtg_ok ht) (fun hc => by have k := K.go (H' := H) (locs' := locs) I0 hL hcu hsu; simp only [decide_eq_true_eq, if_pos hc] at k; exact k) (fun hc => by have k := K.go (H' := H) (locs' := locs) I0 hL hcu hsu; simp only [decide_eq_true_eq, if_neg hc] at k; exact k)
    case ne =>
      simp only [mx] at hx
      obtain ⟨rfl, x, y, r, t0, rfl, ht, rfl⟩ := mif2_inv hx
      exact lv_icmp_ne hxc hb hd (mtg_ok ht) (fun hc => by have k := K.go (H' := H) (locs' := locs) I0 hL hcu hsu; simp only [decide_eq_true_eq, if_pos hc] at k; exact k) (fun hc => by have k := K.go (H' := H) (locs' := locs) I0 hL hcu hsu; simp only [decide_eq_true_eq, if_neg (not_not_intro hc)] at k; exact k)
    case lt =>
      simp only [mx] at hx
      obtain ⟨rfl, x, y, r, t0, rfl, ht, rfl⟩ := mif2_inv hx
      exact lv_icmp_lt hxc hb hd (mtg_ok ht) (fun hc => by have k := K.go (H' := H) (locs' := locs) I0 hL hcu hsu; simp only [decide_eq_true_eq, if_pos hc] at k; exact k) (fun hc => by have k := K.go (H' := H) (locs' := locs) I0 hL hcu hsu; simp only [decide_eq_true_eq, if_neg hc] at k; exact k)
    case ge =>
      simp only [mx] at hx
      obtain ⟨rfl, x, y, r, t0, rfl, ht, rfl⟩ := mif2_inv hx
      exact lv_icmp_ge hxc hb hd (mtg_ok ht) (fun hc => by have k := K.go (H' := H) (locs' := locs) I0 hL hcu hsu; simp only [decide_eq_true_eq, if_pos hc] at k; exact k) (fun hc => by have k := K.go (H' := H) (locs' := locs) I0 hL hcu hsu; simp only [decide_eq_true_eq, if_neg hc] at k; exact k)
    case gt =>
      simp only [mx] at hx
      obtain ⟨rfl, x, y, r, t0, rfl, ht, rfl⟩ := mif2_inv hx
      exact lv_icmp_gt hxc hb hd (mtg_ok ht) (fun hc => by have k := K.go (H' := H) (locs' := locs) I0 hL hcu hsu; simp only [decide_eq_true_eq, if_pos hc] at k; exact k) (fun hc => by have k := K.go (H' := H) (locs' := locs) I0 hL hcu hsu; simp only [decide_eq_true_eq, if_neg hc] at k; exact k)
    case le =>
      simp only [mx] at hx
      obtain ⟨rfl, x, y, r, t0, rfl, ht, rfl⟩ := mif2_inv hx
      exact lv_icmp_le hxc hb hd (mtg_ok ht) (fun hc => by have k := K.go (H' := H) (locs' := locs) I0 hL hcu hsu; simp only [decide_eq_true_eq, if_pos hc] at k; exact k) (fun hc => by have k := K.go (H' := H) (locs' := locs) I0 hL hcu hsu; simp only [decide_eq_true_eq, if_neg hc] at k; exact k)
  case dup =>
    simp only [mx, mnx] at hx
    split at hx
    · rename_i e1
      subst e1
      split at hx
      · split at hx
        · rename_i hc
          cases hx
          exact lv_dup hxc hb hd (by rw [trV_cat]; exact hc) (K.go I0 hL hcu hsu)
        · cases hx
      · cases hx
    · cases hx
  case dup2 =>
    simp only [mx, mnx] at hx
    split at hx
    · rename_i e1
      subst e1
      split at hx
      · split at hx
        · rename_i hc
          cases hx
          exact lv_dup2_11 hxc hb hd (by rw [trV_cat]; exact hc.1) (by rw [trV_cat]; exact hc.2) (K.go I0 hL hcu hsu)
        · cases hx
      · cases hx
    · cases hx
  case getfield k =>
    simp only [mx] at hx
    obtain ⟨rfl, ci, k1, a, r, v, hf, rfl, hc, rfl⟩ := mGetF_inv hx
    obtain ⟨fs, h1, h2⟩ := cFld_inv hc
    obtain ⟨C, T, N, hv, hk, hlk⟩ := mF_ok hf
    have ha := mI_ge2r I0 h1
    exact va_get hxc hb hts (mU_ok hv).1 hown hK hP (a - 2) (mW_get ha h1) hv k1 hk (hts _ hlk) (fun _ h => h) (v := trV ad v) (by rw [List.getElem?_map, h2]; rfl) hd (K.go I0 hL hcu hsu)
  case putfield k =>
    simp only [mx] at hx
    obtain ⟨rfl, ci, k1, a, r, v, h', hf, rfl, ⟨hok, hfin⟩, hc, rfl⟩ := mPutF_inv hx
    obtain ⟨fs, h1, h2, rfl⟩ := cPut_inv hc
    obtain ⟨C, T, N, hv, hk, hlk⟩ := mF_ok hf
    have ha := mI_ge2r I0 h1
    obtain ⟨hn, hfit⟩ := put_ok (ad := ad) hok
    obtain ⟨u1, u2, u3⟩ := mU_ok hv
    have hset : trE ad cT (.inr (ci, fs.set k1 v)) = .inr (ci, (fs.map (trV ad)).set k1 (trV ad v)) := by
      simp only [trE]
      rw [List.map_set]
    unfold mFin at hfin
    rw [hv] at hfin
    simp only [Bool.or_eq_true, Bool.not_eq_true', Bool.and_eq_true, decide_eq_true_eq] at hfin
    by_cases hf2 : (T k1).2.2.2 = false
    · refine va_put hxc hb hts u1 (mTy ci) u2 u3 hown hK hP hD hS (a - 2) (mW_get ha h1) hv k1 hk (hts _ hlk) (fun _ h => h) hf2 (ty := mTy ci k1) (v := trV ad v) (u2 k1 hk) hn hfit (by rw [List.length_map]; exact h2) hd (fun H1 locs1 q1 q2 q3 => ?_)
      rw [← hset] at q1 q2
      exact K.go (mI_set I0 ha q1 q2 q3) hL hcu hsu
    · rcases hfin with hfin | hfin
      · exact absurd hfin hf2
      · have hci : (T k1).1 = mR (mO j) := by
          rw [hfin.2]
          exact mT_own hv hk
        refine va_putF hxc hb hts u1 (mTy ci) u2 u3 hown hK hP hD hS (a - 2) (mW_get ha h1) hv k1 hk (hts _ hlk) (fun _ h => h) (by simpa using hf2) (hini hfin.1) hci (ty := mTy ci k1) (v := trV ad v) (u2 k1 hk) hn hfit (by rw [List.length_map]; exact h2) hd (fun H1 locs1 q1 q2 q3 => ?_)
        rw [← hset] at q1 q2
        exact K.go (mI_set I0 ha q1 q2 q3) hL hcu hsu
  case iaload =>
    simp only [mx, mnx] at hx
    split at hx
    · rename_i e1
      subst e1
      split at hx
      · rename_i i a r
        split at hx
        · rename_i x hc
          cases hx
          unfold cAldI at hc
          split at hc
          · rename_i t0 n f hh
            split at hc
            · cases hc
            · rename_i hin
              split at hc
              · rename_i ht
                cases hc
                by_cases h5 : t0 = 0
                · subst h5
                  have ha := mI_ge2l I0 hh (by omega) (by omega)
                  exact va_iald hxc hb hK hP (a - 2) 0 (mW_get ha hh) rfl hin hd (K.go I0 hL hcu hsu)
                · rcases ht with ht | ⟨ht, rfl⟩ | ⟨ht, rfl, hj⟩
                  · exact absurd ht h5
                  · rw [ih0] at hh
                    cases hh
                    have k1 := K.go (H' := H) (locs' := locs) (LS' := LS) I0 hL hcu hsu
                    simp only [List.map_cons, trV] at k1 ⊢
                    rw [ia0]
                    exact va_ti hxc hb hT hS hin rfl hd k1
                  · rw [ih1] at hh
                    cases hh
                    obtain ⟨g1, g2, g3⟩ := hlaw (by simpa using hj)
                    have k1 := K.go (H' := H) (locs' := locs) (LS' := LS) I0 hL hcu hsu
                    simp only [List.map_cons, trV] at k1 ⊢
                    rw [ia1]
                    exact va_sld hxc hb g1 g2 g3 hS hin hd k1
              · cases hc
          · cases hc
        · cases hx
      · cases hx
    · cases hx
  case iastore =>
    simp only [mx, mnx] at hx
    split at hx
    · rename_i e1
      subst e1
      split at hx
      · rename_i x i a r
        split at hx
        · rename_i h' hc
          cases hx
          unfold cAstI at hc
          split at hc
          · rename_i t0 n f hh
            split at hc
            · cases hc
            · rename_i hin
              split at hc
              · rename_i ht
                subst ht
                cases hc
                have ha := mI_ge2l I0 hh (by omega) (by omega)
                exact va_iast hxc hb hK hP hD hS (a - 2) 0 (mW_get ha hh) rfl hin hd (fun H1 locs1 q1 q2 q3 => K.go (mI_set I0 ha q1 q2 q3) hL hcu hsu)
              · cases hc
          · cases hc
        · cases hx
      · cases hx
    · cases hx
  case baload =>
    simp only [mx, mnx] at hx
    split at hx
    · rename_i e1
      subst e1
      split at hx
      · rename_i i a r
        split at hx
        · rename_i x hc
          cases hx
          unfold cAldB at hc
          split at hc
          · rename_i t0 n f hh
            split at hc
            · cases hc
            · rename_i hin
              split at hc
              · rename_i ht
                subst ht
                cases hc
                have ha := mI_ge2l I0 hh (by omega) (by omega)
                exact va_bald hxc hb hK hP (a - 2) 1 (mW_get ha hh) rfl hin hd (K.go I0 hL hcu hsu)
              · cases hc
          · cases hc
        · cases hx
      · cases hx
    · cases hx
  case bastore =>
    simp only [mx, mnx] at hx
    split at hx
    · rename_i e1
      subst e1
      split at hx
      · rename_i x i a r
        split at hx
        · rename_i h' hc
          cases hx
          unfold cAstB at hc
          split at hc
          · rename_i t0 n f hh
            split at hc
            · cases hc
            · rename_i hin
              split at hc
              · rename_i ht
                subst ht
                cases hc
                have ha := mI_ge2l I0 hh (by omega) (by omega)
                exact va_bast hxc hb hK hP hD hS (a - 2) 1 (mW_get ha hh) rfl hin hd (fun H1 locs1 q1 q2 q3 => K.go (mI_set I0 ha q1 q2 q3) hL hcu hsu)
              · cases hc
          · cases hc
        · cases hx
      · cases hx
    · cases hx
  case laload =>
    simp only [mx, mnx] at hx
    split at hx
    · rename_i e1
      subst e1
      split at hx
      · rename_i i a r
        split at hx
        · rename_i x hc
          cases hx
          unfold cAldL at hc
          split at hc
          · rename_i t0 n f hh
            split at hc
            · cases hc
            · rename_i hin
              split at hc
              · rename_i ht
                subst ht
                cases hc
                have ha := mI_ge2l I0 hh (by omega) (by omega)
                exact va_lald hxc hb hK hP (a - 2) 2 (mW_get ha hh) rfl hin hd (K.go I0 hL hcu hsu)
              · cases hc
          · cases hc
        · cases hx
      · cases hx
    · cases hx
  case lastore =>
    simp only [mx, mnx] at hx
    split at hx
    · rename_i e1
      subst e1
      split at hx
      · rename_i x i a r
        split at hx
        · rename_i h' hc
          cases hx
          unfold cAstL at hc
          split at hc
          · rename_i t0 n f hh
            split at hc
            · cases hc
            · rename_i hin
              split at hc
              · rename_i ht
                subst ht
                cases hc
                have ha := mI_ge2l I0 hh (by omega) (by omega)
                exact va_last hxc hb hK hP hD hS (a - 2) 2 (mW_get ha hh) rfl hin hd (fun H1 locs1 q1 q2 q3 => K.go (mI_set I0 ha q1 q2 q3) hL hcu hsu)
              · cases hc
          · cases hc
        · cases hx
      · cases hx
    · cases hx
  case aaload =>
    simp only [mx, mnx] at hx
    split at hx
    · rename_i e1
      subst e1
      split at hx
      · rename_i i a r
        split at hx
        · rename_i x hc
          cases hx
          unfold cAldR at hc
          split at hc
          · rename_i t0 n f hh
            split at hc
            · cases hc
            · rename_i hin
              split at hc
              · rename_i ht
                have ha := mI_ge2l I0 hh (by omega) (by omega)
                have hlt : i.toNatClampNeg < n := by
                  rcases Nat.lt_or_ge i.toNatClampNeg n with z | z
                  · exact z
                  · exact absurd (Or.inr z) hin
                have k1 := K.go (H' := H) (locs' := locs) (LS' := LS) I0 hL hcu hsu
                simp only [List.map_cons, trV] at k1 ⊢
                have key : ∀ {C : String}, (mTyl cT)[t0]? = some (cT t0, .object C) → W p l e (mRm j) s m args below meth c H locs cu su Q (F0 m pc LS (.int i :: .ref (ad a) :: r.map (trV ad))) := fun ht0 =>
                  va_aldq hxc hb hK hP (a - 2) t0 (mW_get ha hh) ht0 hin hd (by
                    rw [if_pos hlt, hc]
                    exact k1)
                rcases ht with rfl | rfl
                · exact key rfl
                · exact key rfl
              · cases hc
          · cases hc
        · cases hx
      · cases hx
    · cases hx
  case aastore =>
    simp only [mx, mnx] at hx
    split at hx
    · rename_i e1
      subst e1
      split at hx
      · rename_i x i a r
        split at hx
        · rename_i h' hc
          cases hx
          unfold cAstR at hc
          split at hc
          · rename_i t0 n f ci vs hh hh2
            split at hc
            · cases hc
            · rename_i hin
              split at hc
              · rename_i ht
                cases hc
                have ha := mI_ge2l I0 hh (by omega) (by omega)
                have hax := mI_ge2r I0 hh2
                have hlt : i.toNatClampNeg < n := by
                  rcases Nat.lt_or_ge i.toNatClampNeg n with z | z
                  · exact z
                  · exact absurd (Or.inr z) hin
                have hup : trE ad cT (.inl (t0, n, .inr (.inr (.inr (.inr (va_up f i.toNatClampNeg (some x))))))) = .inl (cT t0, n, .inr (.inr (.inr (.inr (va_up (fun i => if i < n then (f i).map ad else none) i.toNatClampNeg (some (ad x))))))) := by
                  simp only [trE, trA]
                  congr 7
                  funext q
                  unfold va_up
                  by_cases hq : q = i.toNatClampNeg
                  · rw [if_pos hq, if_pos hq, if_pos (by omega)]
                    rfl
                  · rw [if_neg hq, if_neg hq]
                obtain ⟨h34, hce⟩ := ht
                rcases h34 with rfl | rfl
                · subst hce
                  exact va_astq hxc hb hK hP hD hS (a - 2) 3 (x - 2) 6 (r := (RX6, TX6, 2)) (mW_get ha hh) rfl (mW_get hax hh2) rfl hin hd (fun H1 locs1 q1 q2 q3 => K.go (mI_set I0 ha (by rw [hup]; exact q1) (by rw [hup]; exact q2) q3) hL hcu hsu)
                · subst hce
                  exact va_astq hxc hb hK hP hD hS (a - 2) 4 (x - 2) 3 (r := (RX3, TX3, 6)) (mW_get ha hh) rfl (mW_get hax hh2) rfl hin hd (fun H1 locs1 q1 q2 q3 => K.go (mI_set I0 ha (by rw [hup]; exact q1) (by rw [hup]; exact q2) q3) hL hcu hsu)
              · cases hc
          · cases hc
        · cases hx
      · cases hx
    · cases hx
  case arraylength =>
    simp only [mx, mnx] at hx
    split at hx
    · rename_i e1
      subst e1
      split at hx
      · rename_i a r
        split at hx
        · rename_i x hc
          cases hx
          unfold cLen at hc
          split at hc
          · rename_i t0 n f hh
            split at hc
            · rename_i ht
              obtain ⟨rfl, rfl, hj⟩ := ht
              rw [ih1] at hh
              cases hh
              cases hc
              obtain ⟨g1, g2, g3⟩ := hlaw (by simpa using hj)
              have k1 := K.go (H' := H) (locs' := locs) (LS' := LS) I0 hL hcu hsu
              simp only [List.map_cons, trV] at k1 ⊢
              rw [ia1]
              exact va_slen hxc hb g1 g2 g3 hS hd k1
            · cases hc
          · cases hc
        · cases hx
      · cases hx
    · cases hx
  case tableswitch d lo hi offs =>
    simp only [mx] at hx
    obtain ⟨x, r, o, t0, rfl, ho, ht, rfl⟩ := mTab_inv hx
    by_cases hc : x.toInt < lo ∨ hi < x.toInt
    · rw [if_pos hc] at ho
      cases ho
      exact lv_tableOut hxc hb hd hc (mtg_ok ht) (K.go I0 hL hcu hsu)
    · rw [if_neg hc] at ho
      exact lv_tableIn hxc hb hd (fun z => hc (Or.inl z)) (fun z => hc (Or.inr z)) ho (mtg_ok ht) (K.go I0 hL hcu hsu)
  case newarray a =>
    simp only [mx] at hx
    split at hx
    · rename_i e1
      subst e1
      split at hx
      · rename_i n r
        split at hx
        · cases hx
        · rename_i hn
          have hn0 : ¬ n < 0 := fun z => hn (Or.inl z)
          have hn1 : n.toNatClampNeg ≤ 600000 := Nat.le_of_not_lt (fun z => hn (Or.inr z))
          split at hx
          · rename_i x hm
            obtain ⟨⟨g1, g2, g3, g4, g5⟩, rfl⟩ := mNew_inv hx
            simp only [wLS, Bool.and_eq_true] at g3
            have fin : ∀ {q : Nat} {H1 : Heap} {ex : va_E}, trE (adP ad h.length q) cT x = ex → va_P (dC, dI) vwCl (mW ad cT h ++ [(q, ex)]) H1 → va_D A (mW ad cT h ++ [(q, ex)]) → va_S A s.heap H1 locs → W p l e (mRm j) s m args below meth c H1 locs (cu + 1) (su + n.toNatClampNeg) Q (F0 m (pc + 2) LS (.ref q :: r.map (trV ad))) := by
              intro q H1 ex he q1 q2 q3
              have k1 := K (adP ad h.length q) H1 locs LS (fun k hk => adP_lt hk) (fun z => by omega) (mI_push I0 g5 g4 he q1 q2 q3) (hL.same (fun k hk => adP_lt hk) g3.1) g1 g2
              simp only [List.map_cons, trV, adP_at] at k1
              rw [trVs_same (fun k hk => adP_lt hk) g3.2] at k1
              exact k1
            unfold mArr at hm
            split at hm
            · cases hm
              refine va_newa (atype := .int) (ty := .int) hxc hb (hts _ arrI_in) rfl hK hP hD hS hA (a0 := (n.toNatClampNeg, .inl (fun _ => 0))) (fun _ => rfl) hn0 rfl (by show n.toNatClampNeg * 4 ≤ 536870912; omega) g1 g2 hd (fun q cA H1 k1 k2 k3 k4 => ?_)
              have e1 := cA_eq hK (k := 0) rfl k1
              subst e1
              exact fin rfl k2 k3 k4
            · cases hm
              refine va_newa (atype := .byte) (ty := .byte) hxc hb (hts _ arrB_in) rfl hK hP hD hS hA (a0 := (n.toNatClampNeg, .inl (fun _ => 0))) (fun _ => rfl) hn0 rfl (by show n.toNatClampNeg * 1 ≤ 536870912; omega) g1 g2 hd (fun q cA H1 k1 k2 k3 k4 => ?_)
              have e1 := cA_eq hK (k := 1) rfl k1
              subst e1
              exact fin rfl k2 k3 k4
            · cases hm
              refine va_newa (atype := .long) (ty := .long) hxc hb (hts _ arrL_in) rfl hK hP hD hS hA (a0 := (n.toNatClampNeg, .inr (.inl (fun _ => 0)))) (fun _ => rfl) hn0 rfl (by show n.toNatClampNeg * 8 ≤ 536870912; omega) g1 g2 hd (fun q cA H1 k1 k2 k3 k4 => ?_)
              have e1 := cA_eq hK (k := 2) rfl k1
              subst e1
              exact fin rfl k2 k3 k4
            · cases hm
          · cases hx
      · cases hx
    · cases hx
  case anewarray k =>
    simp only [mx] at hx
    split at hx
    · rename_i e1
      subst e1
      split at hx
      · rename_i ci n r hci
        split at hx
        · cases hx
        · rename_i hn
          have hn0 : ¬ n < 0 := fun z => hn (Or.inl z)
          have hn1 : n.toNatClampNeg ≤ 600000 := Nat.le_of_not_lt (fun z => hn (Or.inr (Or.inl z)))
          have hn2 : ci = 6 ∨ ci = 3 := Classical.not_not.mp (fun z => hn (Or.inr (Or.inr z)))
          obtain ⟨⟨g1, g2, g3, g4, g5⟩, rfl⟩ := mNew_inv hx
          simp only [wLS, Bool.and_eq_true] at g3
          obtain ⟨C, T, N, hv, hcl, -, -⟩ := mC_ok hci
          have fin : ∀ {q : Nat} {H1 : Heap} {ex : va_E}, trE (adP ad h.length q) cT (.inl (if ci = 6 then 3 else 4, n.toNatClampNeg, .inr (.inr (.inr (.inr (fun _ => none)))))) = ex → va_P (dC, dI) vwCl (mW ad cT h ++ [(q, ex)]) H1 → va_D A (mW ad cT h ++ [(q, ex)]) → va_S A s.heap H1 locs → W p l e (mRm j) s m args below meth c H1 locs (cu + 1) (su + n.toNatClampNeg) Q (F0 m (pc + 3) LS (.ref q :: r.map (trV ad))) := by
            intro q H1 ex he q1 q2 q3
            have k1 := K (adP ad h.length q) H1 locs LS (fun k hk => adP_lt hk) (fun z => by omega) (mI_push I0 g5 g4 he q1 q2 q3) (hL.same (fun k hk => adP_lt hk) g3.1) g1 g2
            simp only [List.map_cons, trV, adP_at] at k1
            rw [trVs_same (fun k hk => adP_lt hk) g3.2] at k1
            exact k1
          have emp : ∀ (n : Nat) (ad : Nat → Nat), (fun i => if i < n then (none : Option Nat).map ad else none) = fun _ => none := fun n ad => by funext i; simp
          rcases hn2 with rfl | rfl
          · cases hv
            refine va_newq hxc hb hown (hts _ hcl) hao.1 hK hP hD hS hA hn0 rfl (by omega) g1 g2 hd (fun q cA H1 k1 k2 k3 k4 => ?_)
            have e1 := cA_eq hK (k := 3) rfl k1
            subst e1
            exact fin (by simp only [trE, trA, emp]; rfl) k2 k3 k4
          · cases hv
            refine va_newq hxc hb hown (hts _ hcl) hao.2 hK hP hD hS hA hn0 rfl (by omega) g1 g2 hd (fun q cA H1 k1 k2 k3 k4 => ?_)
            have e1 := cA_eq hK (k := 4) rfl k1
            subst e1
            exact fin (by simp only [trE, trA, emp]; rfl) k2 k3 k4
      · cases hx
    · cases hx
  case new k =>
    simp only [mx] at hx
    split at hx
    · rename_i e1
      subst e1
      split at hx
      · rename_i ci hci
        split at hx
        · rename_i C0 T0 N hv0
          obtain ⟨⟨g1, g2, g3, g4, g5⟩, rfl⟩ := mNew_inv hx
          simp only [wLS, Bool.and_eq_true] at g3
          obtain ⟨C, T, N', hv, hcl, hin2, hin3⟩ := mC_ok hci
          cases hv0.symm.trans hv
          obtain ⟨u1, u2, u3⟩ := mU_ok hv
          refine va_new hxc hb hts u1 (mTy ci) u2 hown (hts _ hcl) (hts _ hin2) (hts _ hin3) hK hP hD hS hA hv (fs := (mZero ci).map (trV ad)) (zero_ok hv ad) g1 g2 hd (fun q H1 k2 k3 k4 => ?_)
          have hz : (mZero ci).all (wV 0) = true := by
            refine List.all_eq_true.mpr (fun x hx => ?_)
            unfold mZero at hx
            rw [hv] at hx
            obtain ⟨y, -, rfl⟩ := List.mem_map.mp hx
            cases mTy ci y <;> rfl
          have he : trE (adP ad h.length q) cT (.inr (ci, mZero ci)) = .inr (ci, (mZero ci).map (trV ad)) := by
            simp only [trE]
            rw [trVs_same (ad := ad) (n := 0) (fun k hk => by omega) hz]
          have k1 := K (adP ad h.length q) H1 locs LS (fun k hk => adP_lt hk) (fun z => by omega) (mI_push I0 g5 g4 he k2 k3 k4) (hL.same (fun k hk => adP_lt hk) g3.1) g1 g2
          simp only [List.map_cons, trV, adP_at] at k1
          rw [trVs_same (fun k hk => adP_lt hk) g3.2] at k1
          exact k1
        · cases hx
      · cases hx
    · cases hx
  case invokestatic k => exact mc_next ⟨hxc, hb, hml, hown, hts, ⟨hK, hne, hao, hZ, hT⟩, hA, hini, hlaw⟩ I0 hL hcu hsu (Or.inl ⟨rfl, hd⟩) hx K
  case invokevirtual k => exact mc_next ⟨hxc, hb, hml, hown, hts, ⟨hK, hne, hao, hZ, hT⟩, hA, hini, hlaw⟩ I0 hL hcu hsu (Or.inr (Or.inl rfl)) hx K
  case invokespecial k => exact mc_next ⟨hxc, hb, hml, hown, hts, ⟨hK, hne, hao, hZ, hT⟩, hA, hini, hlaw⟩ I0 hL hcu hsu (Or.inr (Or.inr ⟨rfl, hd⟩)) hx K
  case ireturn =>
    simp only [mx, mRet] at hx
    split at hx
    · split at hx
      · cases hx
      · split at hx <;> cases hx
      · cases hx
    · cases hx
  case lreturn =>
    simp only [mx] at hx
    split at hx
    · split at hx <;> cases hx
    · cases hx
  case return_ =>
    simp only [mx] at hx
    split at hx
    · split at hx <;> cases hx
    · cases hx
  all_goals (simp only [mx] at hx; cases hx)
end NX
