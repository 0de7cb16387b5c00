/-! THE CLAIM OUT OF ONE WALK OF THE LAW'S BODY. Your part is whole_start (and what it stands on); all else here is the same for every law, but numbers. -/
def R_law : String := "SquareGroundsLaw"
def lw_P (b : Addr) (xs : List Int32) (args : Array Value) (s : State) : Prop := args = #[.ref b] ∧ s.IntsAt b xs ∧ xs.length ≤ 3072 ∧ (Jvm.Cond.and given_1 narrow_1).before args s = true
def lw_Q (_ : Array Value) (s : State) (o : Outcome) (t : State) : Prop := o = .returned (some (.int 1)) ∧ Framed s o t [] 600000 7302250
def lw_Z (below : List Frame) (a : Array Value) (s : State) : State → Prop := fun t => ∃ o, t.status = .running ∧ Ended t below o ∧ lw_Q a s o t
/-- the law's own end, with 1 on the stack, nothing written that was there before, its room as the claim has it -/
theorem lw_ret {p : Program} {l : Launch} {e : Env} {s : State} {m : MethodId} {below : List Frame} {meth : Method} {c : Code} {b : Nat} (hx : p.tables.exec = Jvm.exec) (hb : c.code = code) (hr : meth.sig.returnType = ret) (hlocks : meth.locks = false) {pc : Nat} {H : Heap} {ls : Array Slot} (hdg : decode code pc = .ok (.ireturn, 1)) : W p l e room_1 s m #[Value.ref b] below meth c H [] 600000 7302250 (lw_Z below #[Value.ref b] s) (F0 m pc ls [.int 1]) := by
  intro T hT X
  obtain ⟨fs, hret, hrun, hended, hW, hframe⟩ := X.leave (v := some (.int 1)) (hlocks := hlocks) (fun h => by rw [hr] at h; cases h)
  have hmeth' : T.vm.method? m = some meth := X.method'
  refine ⟨T.setFrames fs, ?_, .returned (some (.int 1)), hrun, hended, rfl, ⟨_, rfl⟩, hW, hframe⟩
  jvm_step X.here [X.here.top, hx, hb, hdg, hmeth', hr, ret, narrow_b1]
  (try refine ⟨rfl, ?_⟩); (try refine ⟨rfl, ?_⟩)
  first | (intro acts; rw [hret _ acts rfl rfl rfl]) | rw [hret _ _ rfl rfl rfl]
  exact Steps.refl _
/-- what holds at the law's entry: the machine, the code, the tables' words (any of lw_tbl by 'hts w (by decide +kernel)'), the script of L ints xs at the cell b, what the Statement gives of the start (any of its parts by flat_of_before) -/
def lw_At (p : Program) (s : State) (m : MethodId) (meth : Method) (c : Code) (b L : Nat) (xs : Nat → Int32) : Prop :=
  p.tables.exec = Jvm.exec ∧ c.code = code ∧ meth.sig.returnType = ret ∧ c.maxLocals = 4 ∧ s.vm.findClass R_law = some m.cls ∧ (∀ w ∈ lw_tbl, w.before #[Value.ref b] s = true) ∧ va_X b L xs s s.heap ∧ b < s.heap.size ∧ meth.locks = false ∧ (Jvm.Cond.and given_1 narrow_1).before #[Value.ref b] s = true
def lawHeap (L : Nat) (xs : Nat → Int32) : mHeap := [.inl (5, 9, .inl mPart), .inl (6, L, .inl xs)]
/-- what is left, of the small machine alone -/
def LawPure : Prop := ∀ (L : Nat) (xs : Nat → Int32), L ≤ 3072 → ∃ (n : Nat) (h' : mHeap), run n mLaw 0 [some (.ref 1), none, none, none] [] (lawHeap L xs) 0 0 = some (some (.int 1), h')
theorem part_at : ∀ k, k < 9 → mPart k = ([0, 840, 420, 280, 210, 168, 140, 120, 105] : List Int32).getD k 0 := fun _ _ => rfl
set_option maxHeartbeats 4000000 in
set_option maxRecDepth 100000 in
theorem env_start {s : State} {b : Nat} (hts0 : ∀ w ∈ lw_tbl, w.before #[Value.ref b] s = true) (hgv : (Jvm.Cond.and given_1 narrow_1).before #[Value.ref b] s = true) : ∃ (cT dC : Nat → ClassId) (dI : Nat → Nat → Nat) (t : Nat), mE cT dC dI t (fun q : Nat => s.heap.size ≤ q) s := by
  have hts : ∀ w ∈ mG, w.before #[Value.ref b] s = true := fun w hw => hts0 w (List.mem_filter.mp hw).1
  have hs := flat_of_before _ hgv
  obtain ⟨dC, dI, hKc⟩ : ∃ (dC : Nat → ClassId) (dI : Nat → Nat → Nat), ∀ (k : Nat) (q : vw_C), vwCl[k]? = some q → u_Kn s q.1 q.2.1 q.2.2 (dC k) (dI k) := by
    have h : ∀ k : Nat, ∃ (c : ClassId) (i : Nat → Nat), ∀ q : vw_C, vwCl[k]? = some q → u_Kn s q.1 q.2.1 q.2.2 c i := by
      intro k
      cases hv : vwCl[k]? with
      | none => exact ⟨0, fun _ => 0, fun q hq => by cases hq⟩
      | some q =>
        obtain ⟨C, T, N⟩ := q
        have hin : (Cond.instantiable C N).before #[Value.ref b] s = true := by
          match k, hv with
          | 0, hv => cases hv; exact hts _ (by decide +kernel)
          | 1, hv => cases hv; exact hts _ (by decide +kernel)
          | 2, hv => cases hv; exact hts _ (by decide +kernel)
          | 3, hv => cases hv; exact hts _ (by decide +kernel)
          | 4, hv => cases hv; exact hts _ (by decide +kernel)
          | 5, hv => cases hv; exact hts _ (by decide +kernel)
          | 6, hv => cases hv; exact hts _ (by decide +kernel)
          | 7, hv => cases hv; exact hts _ (by decide +kernel)
          | 8, hv => cases hv; exact hts _ (by decide +kernel)
          | n + 9, hv => simp [vwCl] at hv
        obtain ⟨c, i, hk⟩ := u_known hts (mU_ok hv).1 hin
        exact ⟨c, i, fun q hq => by cases hq; exact hk⟩
    exact ⟨fun k => Classical.choose (h k), fun k => Classical.choose (Classical.choose_spec (h k)), fun k q hq => Classical.choose_spec (Classical.choose_spec (h k)) q hq⟩
  have harr : ∀ (ty : FieldType), (∀ C, ty ≠ .object C) → (Cond.arrayClass ty).before #[Value.ref b] s = true → ∃ cA : ClassId, ArrOfT s cA ty ∧ va_RA s cA ty := by
    intro ty hno h
    obtain ⟨cA, k, comp, h1, h2, h3⟩ := Cond.arrayClass_spec h
    refine ⟨cA, fun n z => ⟨fun k h => (by cases h), k, h2, comp, h3⟩, ?_⟩
    cases ty <;> first | exact absurd rfl (hno _) | exact h1
  have hobj : ∀ (C : String), (Cond.arrayOver (.object C)).before #[Value.ref b] s = true → ∃ cA : ClassId, ArrOfT s cA (.object C) ∧ va_RA s cA (.object C) := by
    intro C h
    obtain ⟨comp, cA, k, h1, h2, h3, h4, h5⟩ := Cond.arrayOver_spec h
    exact ⟨cA, fun n z => ⟨fun k h => (by cases h), k, h3, comp, h4⟩, k, comp, h3, h4, h1, h5⟩
  have ho6 : (Cond.arrayOver (.object RX6)).before #[Value.ref b] s = true := hts0 _ (by decide +kernel)
  have ho3 : (Cond.arrayOver (.object RX3)).before #[Value.ref b] s = true := hts0 _ (by decide +kernel)
  obtain ⟨c0, a0⟩ := harr .int (fun _ => by simp) (hts _ arrI_in)
  obtain ⟨c1, a1⟩ := harr .byte (fun _ => by simp) (hts _ arrB_in)
  obtain ⟨c2, a2⟩ := harr .long (fun _ => by simp) (hts _ arrL_in)
  obtain ⟨c3, a3⟩ := hobj RX6 ho6
  obtain ⟨c4, a4⟩ := hobj RX3 ho3
  have hA : ∀ a : Nat, a < s.heap.size → ¬ (fun q : Nat => s.heap.size ≤ q) a := fun a h1 h2 => Nat.not_le.mpr h1 h2
  have hlen := va_eqt (hs (Cond.eq (.length (.static "SquareGrounds" "PART_OF_WHOLE" "[I")) (.int 9)) (by decide +kernel))
  obtain ⟨t, ht1, ht2⟩ := va_Tof (N := 9) (f := fun k => .int (mPart k)) (by decide) (hs (Cond.arrayOf (.static "SquareGrounds" "PART_OF_WHOLE" "[I") .int) (by decide +kernel)) hlen (fun j hj => by
    have h9 : j = 0 ∨ j = 1 ∨ j = 2 ∨ j = 3 ∨ j = 4 ∨ j = 5 ∨ j = 6 ∨ j = 7 ∨ j = 8 := by omega
    rcases h9 with rfl | rfl | rfl | rfl | rfl | rfl | rfl | rfl | rfl
    · exact va_eqt (hs (Cond.eq (.elem (.static "SquareGrounds" "PART_OF_WHOLE" "[I") (.int 0)) (.int 0)) (by decide +kernel))
    · exact va_eqt (hs (Cond.eq (.elem (.static "SquareGrounds" "PART_OF_WHOLE" "[I") (.int 1)) (.int 840)) (by decide +kernel))
    · exact va_eqt (hs (Cond.eq (.elem (.static "SquareGrounds" "PART_OF_WHOLE" "[I") (.int 2)) (.int 420)) (by decide +kernel))
    · exact va_eqt (hs (Cond.eq (.elem (.static "SquareGrounds" "PART_OF_WHOLE" "[I") (.int 3)) (.int 280)) (by decide +kernel))
    · exact va_eqt (hs (Cond.eq (.elem (.static "SquareGrounds" "PART_OF_WHOLE" "[I") (.int 4)) (.int 210)) (by decide +kernel))
    · exact va_eqt (hs (Cond.eq (.elem (.static "SquareGrounds" "PART_OF_WHOLE" "[I") (.int 5)) (.int 168)) (by decide +kernel))
    · exact va_eqt (hs (Cond.eq (.elem (.static "SquareGrounds" "PART_OF_WHOLE" "[I") (.int 6)) (.int 140)) (by decide +kernel))
    · exact va_eqt (hs (Cond.eq (.elem (.static "SquareGrounds" "PART_OF_WHOLE" "[I") (.int 7)) (.int 120)) (by decide +kernel))
    · exact va_eqt (hs (Cond.eq (.elem (.static "SquareGrounds" "PART_OF_WHOLE" "[I") (.int 8)) (.int 105)) (by decide +kernel))) hA
  have hz := va_Zof (hts0 (Cond.laysStatic "SquareGrounds" "PART_OF_WHOLE" "[I") (by decide +kernel)) (hts0 (Cond.initialized "SquareGrounds") (by decide +kernel)) ht1 hA
  refine ⟨fun k => if k = 0 then c0 else if k = 1 then c1 else if k = 2 then c2 else if k = 3 then c3 else c4, dC, dI, t, ⟨hKc, ?_⟩, fun w hw => ?_, ⟨ho6, ho3⟩, hz, ht2⟩
  · intro k q hq
    match k, hq with
    | 0, hq => cases hq; exact a0
    | 1, hq => cases hq; exact a1
    | 2, hq => cases hq; exact a2
    | 3, hq => cases hq; exact a3
    | 4, hq => cases hq; exact a4
    | n + 5, hq => simp [mTyl] at hq
  · have h7 := hts0 w (List.mem_filter.mp hw).1
    have h8 := (List.mem_filter.mp hw).2
    cases w <;> first | exact va_Nw.of rfl h7 | cases h8
set_option maxHeartbeats 4000000 in
set_option maxRecDepth 100000 in
theorem start_of (hpure : LawPure) {p : Program} {e : Env} {s : State} {m : MethodId} {below : List Frame} {meth : Method} {c : Code} (l : Launch) {b L : Nat} {xs : Nat → Int32} (hL : L ≤ 3072) (C0 : lw_At p s m meth c b L xs) : W p l e room_1 s m #[Value.ref b] below meth c s.heap [] 0 0 (lw_Z below #[Value.ref b] s) (entryFrame m ([Value.ref b] : List Value).toArray 4) := by
  obtain ⟨hx, hb, hr, hml, hown, hts, hX, hbl, hlocks, hgv⟩ := C0
  obtain ⟨cT, dC, dI, t, hE⟩ := env_start hts hgv
  obtain ⟨n, h', hrun⟩ := hpure L xs hL
  have C : mCx cT dC dI t b L xs (fun q : Nat => s.heap.size ≤ q) mLaw p s m meth c #[Value.ref b] := ⟨hx, hb, hml, hown, fun w hw => hts w (List.mem_filter.mp hw).1, hE, fun _ h => h, fun z => absurd z (by decide +kernel), fun _ => ⟨hX, hbl, Nat.not_le.mpr hbl⟩⟩
  have key := mEnt_has (fun k => if k = 0 then t else b) (j := mLaw) (as := [.ref 1]) (by decide +kernel)
  rw [lg_entry_eq]
  refine sound l n hrun C (ad := fun k => if k = 0 then t else b) (locs := []) ⟨rfl, rfl, rfl, rfl, fun k q h => by simp [mW, lawHeap] at h, ⟨fun i j p q h => by simp [mW, lawHeap] at h, fun k q h => by simp [mW, lawHeap] at h⟩, va_S.rf⟩ key (Nat.zero_le _) (Nat.zero_le _) ?_
  intro ad' H' locs' LS' pc' cu' su' _ _ I' h1 h2 hre
  obtain ⟨q1, q2⟩ := hre
  refine va_forget (fun q hq => I'.2.2.2.2.2.2.2.2 q hq) ?_
  refine W.widen h1 h2 ?_
  exact lw_ret hx hb hr hlocks q1
