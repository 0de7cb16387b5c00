section MAIN
variable {cT dC : Nat → ClassId} {dI : Nat → Nat → Nat}
theorem mE.call {t : Nat} {A : Nat → Prop} {U : State} (g : JFrame) (mk : MethodId) (a : Array Value) (h : mE cT dC dI t A U) : mE cT dC dI t A (U.calling g mk a) := by
  obtain ⟨h1, h2, ⟨h3, h4⟩, h5, h6⟩ := h
  refine ⟨va_K.moved (u := U) (U := U.calling g mk a) (Vm.Alike.refl U.vm) h1, fun w hw => ?_, ⟨va_AO.moved (u := U) (U := U.calling g mk a) (Vm.Alike.refl U.vm) h3, va_AO.moved (u := U) (U := U.calling g mk a) (Vm.Alike.refl U.vm) h4⟩, va_Z.moved (u := U) (U := U.calling g mk a) (Vm.Alike.refl U.vm) h5, va_T.moved (u := U) (U := U.calling g mk a) (Vm.Alike.refl U.vm) h6⟩
  have h7 := h2 w hw
  have h8 := (List.mem_filter.mp hw).2
  cases w <;> first | exact va_Nw.same (u := U) (U := U.calling g mk a) rfl rfl h7 | cases h8
theorem mE.warm {t : Nat} {A B : Nat → Prop} {s U : State} {H : Heap} {locs : List Loc} (hU : U.heap = H) (hW : s.WarmedH U.vm) (hS : va_S A s.heap H locs) (hAB : ∀ q, B q → A q) (h : mE cT dC dI t A s) : mE cT dC dI t B U := by
  obtain ⟨h1, h2, ⟨h3, h4⟩, h5, h6⟩ := h
  refine ⟨va_K.moved hW.alike h1, fun w hw => ?_, ⟨va_AO.moved hW.alike h3, va_AO.moved hW.alike h4⟩, ?_, ?_⟩
  · have h7 := h2 w hw
    have h8 := (List.mem_filter.mp hw).2
    cases w <;> first | exact va_Nw.warmF hW h7 | exact va_Nw.warmM hW h7 | cases h8
  · rw [hU]
    exact ((h5.kept (fun a ha hn => hS.2.1 a ha hn)).narrow hAB).moved hW.alike
  · rw [hU]
    exact ((h6.kept (fun a ha hn => hS.2.1 a ha hn)).narrow hAB).moved hW.alike
/-- a method's start and end, of the small machine's -/
def mPc (cT dC : Nat → ClassId) (dI : Nat → Nat → Nat) (t sz : Nat) (ad : Nat → Nat) (h : mHeap) (as : List Value) : Array Value → State → Prop :=
  va_Pc (as.map (trV ad)) (fun U => U.heap.size = sz ∧ va_P (dC, dI) vwCl (mW ad cT h) U.heap ∧ va_D (fun _ => True) (mW ad cT h) ∧ mE cT dC dI t (va_A (mW ad cT h) sz) U)
def mQc (cT dC : Nat → ClassId) (dI : Nat → Nat → Nat) (t b L : Nat) (xs : Nat → Int32) (sz j : Nat) (ad : Nat → Nat) (h : mHeap) (r : Option Value) (h' : mHeap) : Array Value → State → Outcome → State → Prop := fun _ st o u =>
  ∃ ad' : Nat → Nat, o = .returned r ∧ (∀ k, k < h.length → ad' k = ad k) ∧ ((mRm j).cells = 0 → ad' = ad) ∧ (ad' 0 = t ∧ ad' 1 = b ∧ h'[0]? = some (.inl (5, 9, .inl mPart)) ∧ h'[1]? = some (.inl (6, L, .inl xs))) ∧ va_P (dC, dI) vwCl (mW ad' cT h') u.heap ∧ va_D (va_A (mW ad cT h) sz) (mW ad' cT h') ∧ va_F (va_A (mW ad cT h) sz) st u
def mEn (l : Launch) (e : Env) (below : List Frame) (Q : State → Prop) (cT dC : Nat → ClassId) (dI : Nat → Nat → Nat) (t b L : Nat) (xs : Nat → Int32) (A : Nat → Prop) (j : Nat) (p : Program) (s : State) (m : MethodId) (meth : Method) (c : Code) (args : Array Value) (ad : Nat → Nat) (n : Nat) (r : Option Value) (h' : mHeap) : Prop :=
  ∀ (ad' : Nat → Nat) (H' : Heap) (locs' : List Loc) (LS' : Array Slot) (pc' cu' su' : Nat), (∀ k, k < n → ad' k = ad k) → ((mRm j).cells = 0 → ad' = ad) → mI cT dC dI t b L xs A s ad' h' H' locs' → cu' ≤ (mRm j).cells → su' ≤ (mRm j).slots → mRe j pc' r → W p l e (mRm j) s m args below meth c H' locs' cu' su' Q (F0 m pc' LS' r.toList)
def Sound (l : Launch) (n : Nat) : Prop := ∀ {j pc : Nat} {ls : mLoc} {st : List Value} {h : mHeap} {cu su : Nat} {r : Option Value} {h' : mHeap}, run n j pc ls st h cu su = some (r, h') → ∀ {cT dC : Nat → ClassId} {dI : Nat → Nat → Nat} {t b L : Nat} {xs : Nat → Int32} {A : Nat → Prop} {p : Program} {e : Env} {s : State} {m : MethodId} {args : Array Value} {below : List Frame} {meth : Method} {c : Code} {Q : State → Prop} {ad : Nat → Nat} {H : Heap} {locs : List Loc} {LS : Array Slot},
  mCx cT dC dI t b L xs A j p s m meth c args → mI cT dC dI t b L xs A s ad h H locs → mHs LS (mL j) ad ls → cu ≤ (mRm j).cells → su ≤ (mRm j).slots → mEn l e below Q cT dC dI t b L xs A j p s m meth c args ad h.length r h' → W p l e (mRm j) s m args below meth c H locs cu su Q (F0 m pc LS (st.map (trV ad)))
set_option maxHeartbeats 4000000 in
/-- what the small machine does of a method is the method's contract -/
theorem sound_met {l : Launch} {n : Nat} (IH : Sound l n) {j : Nat} (hj : j < mN) (hjl : j ≠ mLaw) {as : List Value} {h h' : mHeap} {r : Option Value} (hlen : (mArg as).length ≤ mL j) (hr : run n j 0 (mEnt j as) [] h 0 0 = some (r, h')) (t b L : Nat) (xs : Nat → Int32) (sz : Nat) (ad : Nat → Nat) (h0 : ad 0 = t ∧ ad 1 = b ∧ h[0]? = some (.inl (5, 9, .inl mPart)) ∧ h[1]? = some (.inl (6, L, .inl xs))) :
    Met l (mY j) (mWs j) (mRm j) (mPc cT dC dI t sz ad h as) (mQc cT dC dI t b L xs sz j ad h r h') (mRm j).cells (mRm j).slots (va_A (mW ad cT h) sz) := by
  obtain ⟨hpl, -, hcls, -, -, -, hinit⟩ := mY_ok hj hjl
  refine mMet_of hpl ?_
  intro p e s m args below meth c s₁ B hml hv
  obtain ⟨rfl, hsz, hP, hD0, hE⟩ := hv
  subst hsz
  have hx := B.exec
  have hb := B.bytes
  have hr0 := B.returns
  have hts : ∀ w ∈ mWs j, w.before (as.map (trV ad)).toArray s = true := atoms_spec (ws := mWs j) B.pre
  have hown : s.vm.findClass (mY j).cls = some m.cls := findClass_of_methodNamed B.named
  have hlocks := B.notSynchronized
  have hD := hD0.self (sz := s.heap.size)
  have hin : meth.name = (mY j).name := (name_of_methodNamed B.named B.method).1
  have C : mCx cT dC dI t b L xs (va_A (mW ad cT h) s.heap.size) j p s m meth c (as.map (trV ad)).toArray := ⟨hx, hb, hml, by rw [← hcls]; exact hown, fun w hw => hts w (List.mem_cons_of_mem _ hw), hE, fun q hq => Or.inr hq, fun hk => by rw [hin]; exact (hinit hk).2.1, fun z => absurd z hjl⟩
  rw [lg_entry_eq]
  refine IH hr C ⟨h0.1, h0.2.1, h0.2.2.1, h0.2.2.2, hP, hD, va_S.rf⟩ (mEnt_has ad hlen) (Nat.zero_le _) (Nat.zero_le _) ?_
  intro ad' H' locs' LS' pc' cu' su' ha hc I' h1 h2 hre
  obtain ⟨i1, i2, i3, i4, i5, i6, i7⟩ := I'
  refine W.widen h1 h2 ?_
  have fin : ∀ (v : State), v.heap = H' → mQc cT dC dI t b L xs s.heap.size j ad h r h' (as.map (trV ad)).toArray s (.returned r) v := fun v hv => ⟨ad', rfl, ha, hc, ⟨i1, i2, i3, i4⟩, by rw [hv]; exact i5, i6, i7.F hv⟩
  unfold mRe at hre
  split at hre
  · obtain ⟨q1, q2⟩ := hre
    rcases q2 with q2 | ⟨q2, q3⟩
    · exact W.iret hx hb (hr0.trans q2) (fun v hv _ => fin v hv) i7.2.2 q1
    · exact W.zret hx hb (hr0.trans q2) q3 (fun v hv _ => fin v hv) i7.2.2 q1
  · exact W.lret hx hb (hr0.trans hre.2) (fun v hv _ => fin v hv) i7.2.2 hre.1
  · exact W.vret hx hb (hr0.trans hre.2) (fun v hv _ => fin v hv) i7.2.2 hre.1
  · exact hre.elim
theorem mPc_blind {t sz : Nat} {ad : Nat → Nat} {h : mHeap} {as : List Value} : FrameBlind (mPc cT dC dI t sz ad h as) := fun a U g mk q => ⟨q.1, q.2.1, q.2.2.1, q.2.2.2.1, q.2.2.2.2.call g mk a⟩
theorem mA_in {A : Nat → Prop} {s : State} {ad : Nat → Nat} {h : mHeap} {H : Heap} {locs : List Loc} (hD : va_D A (mW ad cT h)) (hS : va_S A s.heap H locs) (hA : ∀ q, s.heap.size ≤ q → A q) : ∀ q, va_A (mW ad cT h) H.size q → A q := by
  intro q hq
  rcases hq with ⟨k, e, hk⟩ | hq
  · exact hD.2 k _ hk
  · exact hA q (Nat.le_trans hS.1 hq)
theorem mCat_tr (ad : Nat → Nat) (st : List Value) : ((st.map (trV ad)).map fun v => v.category).sum = mCat st := by
  unfold mCat
  rw [List.map_map]
  have : ((fun v => Value.category v) ∘ trV ad) = fun v => v.category := by funext v; exact trV_cat ad v
  rw [this]
set_option maxHeartbeats 4000000 in
theorem sound (l : Launch) : ∀ n, Sound l n := by
  intro n
  induction n with
  | zero => intro j pc ls st h cu su r h' hr; cases hr
  | succ n IH =>
    intro j pc ls st h cu su r h' hr cT dC dI t b L xs A p e s m args below meth c Q ad H locs LS C I hL hcu hsu hend
    unfold run at hr
    split at hr
    · rename_i i len hd
      split at hr
      · rename_i pc1 ls1 st1 h1 cu1 su1 hx
        refine mx_next C I hL hcu hsu hd hx ?_
        intro ad' H' locs' LS' ha hc I' hL' g1 g2
        refine IH hr C I' hL' g1 g2 ?_
        intro ad2 H2 locs2 LS2 pc2 cu2 su2 ha2 hc2 I2 k1 k2 hre
        have hlen := mx_len hx
        exact hend ad2 H2 locs2 LS2 pc2 cu2 su2 (fun k hk => (ha2 k (Nat.lt_of_lt_of_le hk hlen)).trans (ha k hk)) (fun z => (hc2 z).trans (hc z)) I2 k1 k2 hre
      · rename_i v hx
        cases hr
        obtain ⟨hre, rfl⟩ := mx_ret hd hx
        have e1 : r.toList.map (trV ad) = r.toList := by
          unfold mRe at hre
          split at hre
          · rfl
          · rfl
          · rfl
          · exact hre.elim
        rw [e1]
        exact hend ad H locs LS pc cu su (fun _ _ => rfl) (fun _ => rfl) I hcu hsu hre
      · rename_i j' as rest hx
        split at hr
        · rename_i hal
          split at hr
          · rename_i v h1 hr1
            obtain ⟨kd, idx, hki, hx⟩ := mx_call hx
            obtain ⟨rfl, ne, hm, n1, n2, ⟨hkd, hnp, hro, hjn, hjl, hw⟩, h8, has⟩ := mCall_call hx
            obtain ⟨-, hyd, hcls, hyi, hy0, hy1, hy2⟩ := mY_ok hjn hjl
            obtain ⟨-, -, m3⟩ := mM_ok hm
            obtain ⟨m4, m5⟩ := m3 n1 n2
            have C0 := C
            obtain ⟨hxc, hb, hml, hown, hts, hE, hA, hini, hlaw⟩ := C
            have I0 := I
            obtain ⟨ia0, ia1, ih0, ih1, hP, hD, hS⟩ := I
            have hMet := sound_met (cT := cT) (dC := dC) (dI := dI) IH hjn hjl hal hr1 t b L xs H.size ad ⟨ia0, ia1, ih0, ih1⟩
            have hAi := mA_in hD hS hA
            have hpre : ∀ U : State, U.heap = H → s.WarmedH U.vm → mPc cT dC dI t H.size ad h as (as.map (trV ad)).toArray U := fun U hU hW => ⟨rfl, by rw [hU], by rw [hU]; exact hP, hD.weaken (fun _ _ _ _ => trivial), mE.warm hU hW hS hAi hE⟩
            simp only [mRoomOk, decide_eq_true_eq] at hro
            obtain ⟨r1, r2, r3, r4⟩ := hro
            have hrest : mCat rest ≤ 8 := h8
            -- behind the call
            have after : va_Run p l e (mRm j) s m args below meth c H locs cu su (mRm j').cells (mRm j').slots (F0 m pc LS (st.map (trV ad))) (rest.map (trV ad)) (mQc cT dC dI t b L xs H.size j' ad h v h1 (as.map (trV ad)).toArray) (va_A (mW ad cT h) H.size) → W p l e (mRm j) s m args below meth c H locs cu su Q (F0 m pc LS (st.map (trV ad))) := by
              intro hrun T hT X
              obtain ⟨v1, st₀, u, T', Lx, k0, X', kL, k1, k2, ⟨ad', kv, ka, kc, k3, kP, kD, kF⟩, st2⟩ := hrun T hT X
              cases kv
              have hS' : va_S A s.heap T'.heap (locs ++ Lx) := by
                refine ⟨Nat.le_trans hS.1 (by rw [k1, ← k0]; exact kF.1), fun q q1 q2 => ?_, fun q hq => ?_⟩
                · rw [k1, kF.2 q (by rw [k0]; exact Nat.lt_of_lt_of_le q1 hS.1) (fun z => q2 (hAi q z)), k0]
                  exact hS.2.1 q q1 q2
                · rcases List.mem_append.mp hq with z | z
                  · exact hS.2.2 q z
                  · exact hAi _ (kL q z)
              have I1 : mI cT dC dI t b L xs A s ad' h1 T'.heap (locs ++ Lx) := ⟨k3.1, k3.2.1, k3.2.2.1, k3.2.2.2, by rw [k1]; exact kP, kD.weaken (fun _ q _ z => hAi q.1 z), hS'⟩
              have hsame : mHs LS (mL j) ad' ls ∧ rest.map (trV ad') = rest.map (trV ad) := by
                rcases hw with hw | hw
                · rw [kc hw]
                  exact ⟨hL, rfl⟩
                · simp only [wLS, Bool.and_eq_true] at hw
                  have hrw : rest.all (wV h.length) = true := by
                    rcases has with ⟨-, -, hz⟩ | ⟨-, b0, fs, hz, -, -⟩
                    · rw [hz]; exact hw.2
                    · rw [hz, List.all_cons, Bool.and_eq_true] at hw
                      exact hw.2.2
                  exact ⟨hL.same ka hw.1, trVs_same ka hrw⟩
              have e1 : (mAns v rest).map (trV ad') = v.toList ++ rest.map (trV ad) := by
                unfold mAns
                rw [List.map_append, hsame.2]
                congr 1
                have hv : ∀ x, v = some x → ∀ k, x ≠ .ref k := by
                  intro x hx2 k hk
                  subst hx2
                  subst hk
                  -- an answer is never a reference
                  have := kP
                  exact absurd hr1 (run_noref n)
                cases v with
                | none => rfl
                | some x => cases x <;> first | rfl | exact absurd rfl (hv _ rfl _)
              have hlen1 : h.length ≤ h1.length := run_len n hr1
              have goal := IH hr C0 I1 hsame.1 r3 r4 (Q := Q) (fun ad2 H2 locs2 LS2 pc2 cu2 su2 a2 c2 I2 q1 q2 hre => hend ad2 H2 locs2 LS2 pc2 cu2 su2 (fun k hk => (a2 k (Nat.lt_of_lt_of_le hk hlen1)).trans (ka k hk)) (fun z => by
                have z2 : (mRm j').cells = 0 := by omega
                rw [c2 z, kc z2]) I2 q1 q2 hre)
              rw [e1] at goal
              obtain ⟨t2, a1, b1⟩ := goal T' rfl X'
              exact ⟨t2, st2 t2 a1, b1⟩
            refine after ?_
            have hstk : st.map (trV ad) = ((st.take (mNp j')).map (trV ad)) ++ (st.drop (mNp j')).map (trV ad) := by rw [← List.map_append, List.take_append_drop]
            have hnl : (((st.take (mNp j')).reverse).map (trV ad)).length = mNp j' := by simp; omega
            have h8' : 2 * (F0 m pc LS (st.map (trV ad))).monitorRoom + ((rest.map (trV ad)).map fun v => v.category).sum ≤ 8 := lv_room (by rw [mCat_tr]; exact h8)
            rcases hki with ⟨rfl, rfl⟩ | ⟨rfl, rfl⟩ | ⟨rfl, rfl⟩
            · rcases has with ⟨-, rfl, rfl⟩ | ⟨z, -⟩
              · have hst : (F0 m pc LS (st.map (trV ad))).stack = (((st.take (mNp j')).reverse).map (trV ad)).reverse ++ (st.drop (mNp j')).map (trV ad) := by
                  show st.map (trV ad) = _
                  rw [hstk, List.map_reverse, List.reverse_reverse]
                by_cases hne : ne = 0
                · exact va_runS ⟨hxc, hb, hml, hown, hts⟩ hMet ⟨callB_of (mNp j') hts (mWs_in hjn hjl) rfl rfl rfl (hts _ hyi) (hts _ (m4 hne)) hyd ⟨r1, r2⟩, hts _ (hy0 hkd)⟩ ⟨mPc_blind, hpre⟩ rfl hnl hL.2.1 hst h8' hd ⟨r3, r4⟩
                · exact va_runSN ⟨hxc, hb, hml, hown, hts⟩ hMet ⟨va_cnB (mNp j') hts (mWs_in hjn hjl) rfl rfl rfl (hE.2.1 _ (m5 hne)) (hts _ hyi) hyd ⟨r1, r2⟩, hts _ (hy0 hkd), trivial⟩ ⟨mPc_blind, hpre⟩ rfl hnl hL.2.1 hst h8' hd ⟨r3, r4⟩
              · exact absurd rfl z
            · rcases has with ⟨z, -⟩ | ⟨-, b0, fs, hdr, hb0, rfl⟩
              · cases z
              · have hst : (F0 m pc LS (st.map (trV ad))).stack = (((st.take (mNp j')).reverse).map (trV ad)).reverse ++ .ref (ad b0) :: rest.map (trV ad) := by
                  show st.map (trV ad) = _
                  rw [hstk, List.map_reverse, List.reverse_reverse, hdr]
                  rfl
                have hge := mI_ge2r I0 hb0
                have hrv : ∃ cellB : Cell, H[ad b0]? = some cellB ∧ cellB.vm.isStatics = false ∧ s.vm.findClass (mY j').cls = some cellB.cls := by
                  have hat := mW_get (ad := ad) (cT := cT) hge hb0
                  have hvc : ∃ q, vwCl[mO j']? = some q ∧ q.1 = (mY j').cls := by
                    obtain ⟨r0, z1, -⟩ := hP _ _ hat
                    refine ⟨r0, z1, ?_⟩
                    rw [hcls]
                    exact mR_vw z1
                  obtain ⟨q, z1, z2⟩ := hvc
                  rw [← z2]
                  exact va_recv hE.1 hP z1 hat
                by_cases hne : ne = 0
                · exact va_runV ⟨hxc, hb, hml, hown, hts⟩ hMet ⟨callB_of (mNp j') hts (mWs_in hjn hjl) rfl rfl rfl (hts _ hyi) (hts _ (m4 hne)) hyd ⟨r1, r2⟩, hts _ (hy1 hkd).1, hts _ (hy1 hkd).2⟩ ⟨mPc_blind, hrv, hpre⟩ rfl hnl hL.2.1 hst h8' hd ⟨r3, r4⟩
                · exact va_runVN ⟨hxc, hb, hml, hown, hts⟩ hMet ⟨va_cnB (mNp j') hts (mWs_in hjn hjl) rfl rfl rfl (hE.2.1 _ (m5 hne)) (hts _ hyi) hyd ⟨r1, r2⟩, hts _ (hy1 hkd).1, hts _ (hy1 hkd).2⟩ ⟨mPc_blind, hrv, hpre⟩ rfl hnl hL.2.1 hst h8' hd ⟨r3, r4⟩
            · rcases has with ⟨z, -⟩ | ⟨-, b0, fs, hdr, hb0, rfl⟩
              · cases z
              · have hst : (F0 m pc LS (st.map (trV ad))).stack = (((st.take (mNp j')).reverse).map (trV ad)).reverse ++ .ref (ad b0) :: rest.map (trV ad) := by
                  show st.map (trV ad) = _
                  rw [hstk, List.map_reverse, List.reverse_reverse, hdr]
                  rfl
                obtain ⟨z1, z2, z3⟩ := hy2 hkd
                by_cases hne : ne = 0
                · have hcb := callB_of (R := mRm j) (own := mR (mO j)) (index := idx) (mNp j') hts (mWs_in hjn hjl) rfl rfl rfl (hts _ hyi) (hts _ (m4 hne)) hyd ⟨r1, r2⟩
                  rw [z3] at hcb
                  exact va_runI ⟨hxc, hb, hml, hown, hts⟩ hMet ⟨hcb, z2, hts _ z1⟩ ⟨mPc_blind, hpre⟩ rfl hnl hL.2.1 hst h8' hd ⟨r3, r4⟩
                · have hcb := va_cnB (R := mRm j) (own := mR (mO j)) (index := idx) (mNp j') hts (mWs_in hjn hjl) rfl rfl rfl (hE.2.1 _ (m5 hne)) (hts _ hyi) hyd ⟨r1, r2⟩
                  rw [z3] at hcb
                  exact va_runIN ⟨hxc, hb, hml, hown, hts⟩ hMet ⟨hcb, z2, hts _ z1⟩ ⟨mPc_blind, hpre⟩ rfl hnl hL.2.1 hst h8' hd ⟨r3, r4⟩
          · cases hr
        · cases hr
      · cases hr
    · cases hr
end MAIN
