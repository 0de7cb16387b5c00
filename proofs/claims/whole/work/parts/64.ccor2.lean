theorem lst_le (G : Gr) : ∀ k, lst G k ≤ 8
  | 0 => Nat.le_refl _
  | k + 1 => by
    have := lst_le G k
    unfold lst
    split
    · omega
    · exact this
def CA (f : Nat → mCell) (c : Nat) : Prop := ∃ v w B, CS f c v w B
def CV (f : Nat → mCell) (c : Nat) (G : Gr) : Prop := ∃ v B, CS f c v (lN (bw G G.1)) B ∧ CN (crn G 0 G.1) (crn G 1 G.1) (crn G 2 G.1) (lst G G.1) (crn G 3 G.1) v ∧ ∀ q, q < G.1 → B q = nI (bn G q)
theorem CA.fx {f : Nat → mCell} {c : Nat} (h : CA f c) {lo hi : Nat} {f' : Nat → mCell} (hf : Fx lo hi f f') (hd : c + 1 < lo ∨ hi < c) : CA f' c := by
  obtain ⟨v, w, B, h⟩ := h
  exact ⟨v, w, B, h.fx hf hd⟩
theorem CV.fx {f : Nat → mCell} {c : Nat} {G : Gr} (h : CV f c G) {lo hi : Nat} {f' : Nat → mCell} (hf : Fx lo hi f f') (hd : c + 1 < lo ∨ hi < c) : CV f' c G := by
  obtain ⟨v, B, h, h1⟩ := h
  exact ⟨v, B, h.fx hf hd, h1⟩
theorem CV.ca {f : Nat → mCell} {c : Nat} {G : Gr} (h : CV f c G) : CA f c := by
  obtain ⟨v, B, h, h1⟩ := h
  exact ⟨v, _, B, h⟩
section C6
variable {f : Nat → mCell} {a c : Nat} {v : Nat → Int32} {w : Int64} {B : Nat → Int32} {G : Gr}
theorem Cc_lk1 (g2 : G.1 ≤ 8) (hd : c + 1 < a ∨ a + 5 < c) : ∀ (d k : Nat), k + d = G.1 → ∀ (f : Nat → mCell) (B : Nat → Int32), GV f a G → CS f c v w B → (∀ q, q < k → B q = -1) → ∃ f' B', q1_33 c a (nI k) (HF f) = q1_56 c a 0 (HF f') ∧ CS f' c v w B' ∧ (∀ q, q < G.1 → B' q = -1) ∧ Fx c (c + 1) f f' := by
  intro d
  induction d with
  | zero =>
    intro k hk f B hv h hp
    have : k = G.1 := by omega
    subst this
    refine ⟨f, B, ?_, h, hp, Fx.rf⟩
    rw [q1_33_eq, hv.nn]
    simp only [Option.bind_some]
    rw [if_pos (Int32.le_refl _)]
  | succ d ih =>
    intro k hk f B hv h hp
    obtain ⟨f1, a1, a2, a3⟩ := h.st (q := k) (by omega) (-1)
    obtain ⟨f2, B2, b1, b2, b3, b4⟩ := ih (k + 1) (by omega) f1 _ (hv.fx a3 (by omega)) a2 (by
      intro q hq
      by_cases e : q = k
      · rw [e, pk_us]
      · rw [pk_un e]
        exact hp q (by omega))
    refine ⟨f2, B2, ?_, b2, b3, a3.tr b4⟩
    rw [q1_33_eq, hv.nn]
    simp only [Option.bind_some]
    rw [if_neg (by rw [iLE (by omega) (by omega)]; omega), h.r]
    simp only [Option.bind_some]
    rw [a1]
    simp only [Option.bind_some]
    rw [show nI k + 1 = nI (k + 1) from iAdd k 1]
    exact b1
def BdI (G : Gr) (s : Nat) (B : Nat → Int32) : Prop := ∀ q, q < G.1 → ((∃ i, it (arA G) i q < s) → B q = nI (bn G q)) ∧ ((∀ i, s ≤ it (arA G) i q) → B q = -1)
theorem Cc_lk2 (hG : Gd G) (hd : c + 1 < a ∨ a + 5 < c) (hc0 : 0 < c) (ha0 : 0 < a) : ∀ (d s : Nat), s + d = G.1 → ∀ (f : Nat → mCell) (v : Nat → Int32) (B : Nat → Int32), T0 f → GV f a G → CS f c v (lN (bw G s)) B → CN (crn G 0 s) (crn G 1 s) (crn G 2 s) (lst G s) (crn G 3 s) v → BdI G s B → ∃ f', q1_56 c a (nI s) (HF f) = some (none, HF f') ∧ CV f' c G ∧ Fx c (c + 1) f f' := by
  have g2 := hG.2.1
  intro d
  induction d with
  | zero =>
    intro s hs f v B h0 hv h hn hb
    have : s = G.1 := by omega
    subst this
    refine ⟨f, ?_, ⟨v, B, h, hn, fun q hq => (hb q hq).1 ⟨0, hq⟩⟩, Fx.rf⟩
    rw [q1_56_eq, hv.nn]
    simp only [Option.bind_some]
    rw [if_pos (Int32.le_refl _)]
  | succ d ih =>
    intro s hs f v B h0 hv h hn hb
    have hlt : s < G.1 := by omega
    have pre := q1_56_eq c a (nI s) (HF f)
    rw [hv.nn] at pre
    simp only [Option.bind_some] at pre
    rw [if_neg (by rw [iLE (by omega) (by omega)]; omega), h.r] at pre
    simp only [Option.bind_some] at pre
    rw [h.ld (by omega)] at pre
    simp only [Option.bind_some] at pre
    by_cases c0 : fs G s = true
    · have hmin := (fs_iff hG hlt).1 c0
      have hB : B s = -1 := (hb s hlt).2 hmin
      rw [hB, if_neg (by decide)] at pre
      obtain ⟨f1, B1, a1, a2, a3, a4, a5⟩ := Cc_bendFrom hG hlt hd hv h
      have h01 : T0 f1 := by
        unfold T0
        rw [a5 0 (by omega)]
        exact h0
      have hbn := bn_lt hG hlt
      obtain ⟨f2, v2, b1, b2, b3, b4⟩ := Cc_note (k := bn G s) (by omega) (by have := lst_le G s; omega) (by have := crn_le hG 3 s (by omega); omega) h01 hc0 a2 hn
      rw [a1] at pre
      simp only [Option.bind_some] at pre
      rw [b1] at pre
      simp only [Option.bind_some] at pre
      have hv2 := (hv.fx a5 (by omega)).fx b4 (by omega)
      have h02 : T0 f2 := by
        unfold T0
        rw [b4 0 (by omega)]
        exact h01
      have e0 : crn G 0 (s + 1) = crn G 0 s + 1 := by
        show (if fs G s = true then _ else _) = _
        rw [if_pos c0, stp0]
      have e1 : crn G 1 (s + 1) = crn G 1 s + bent (bn G s) := by
        show (if fs G s = true then _ else _) = _
        rw [if_pos c0, stp1]
      have e2 : crn G 2 (s + 1) = crn G 2 s + bn G s := by
        show (if fs G s = true then _ else _) = _
        rw [if_pos c0, stp2]
      have e3 : crn G 3 (s + 1) = if bn G s ≤ crn G 3 s then crn G 3 s else bn G s := by
        show (if fs G s = true then _ else _) = _
        rw [if_pos c0, stp3]
      have e4 : lst G (s + 1) = if 0 < bn G s then min (lst G s) (bn G s) else lst G s := by
        show (if fs G s = true ∧ 0 < bn G s then _ else _) = _
        simp only [c0, true_and]
      have e5 : bw G (s + 1) = bw G s + bw1 (bn G s) := by
        show bw G s + (if fs G s = true then _ else _) = _
        rw [if_pos c0]
      obtain ⟨f3, d1, d2, d3⟩ := ih (s + 1) (by omega) f2 v2 B1 h02 hv2 (by rw [e5]; exact b2) (by rw [e0, e1, e2, e3, e4]; exact b3) (by
        intro q hq
        constructor
        · rintro ⟨i, hi⟩
          by_cases e : ∃ j, it (arA G) j q = s
          · obtain ⟨j, hj⟩ := e
            rw [a3 q (orb_symm (arA_prm hG) hq hj), ← hj]
            exact congrArg nI (bd_it (arA_prm hG) hq j)
          · have hno : ∀ j, it (arA G) j s ≠ q := fun j hj => e (orb_symm (arA_prm hG) hlt hj)
            rw [a4 q hno]
            refine (hb q hq).1 ⟨i, ?_⟩
            have : it (arA G) i q ≠ s := fun z => e ⟨i, z⟩
            omega
        · intro hq1
          have hno : ∀ j, it (arA G) j s ≠ q := by
            intro j hj
            obtain ⟨i, hi⟩ := orb_symm (arA_prm hG) hlt hj
            have := hq1 i
            omega
          rw [a4 q hno]
          exact (hb q hq).2 (fun i => by have := hq1 i; omega))
      refine ⟨f3, ?_, d2, (a5.tr b4).tr d3⟩
      rw [pre, show nI s + 1 = nI (s + 1) from iAdd s 1]
      exact d1
    · have hex : ∃ i, it (arA G) i s < s := by
        refine Classical.byContradiction fun hx => c0 ((fs_iff hG hlt).2 fun i => ?_)
        exact Nat.le_of_not_lt fun z => hx ⟨i, z⟩
      rw [(hb s hlt).1 hex, if_pos (by rw [l0, iLE (by omega) (by have := bn_lt hG hlt; omega)]; omega)] at pre
      have e : ∀ w, crn G w (s + 1) = crn G w s := fun w => by
        show (if fs G s = true then _ else _) = _
        rw [if_neg c0]
      have e4 : lst G (s + 1) = lst G s := by
        show (if fs G s = true ∧ 0 < bn G s then _ else _) = _
        rw [if_neg (fun z => c0 z.1)]
      have e5 : bw G (s + 1) = bw G s := by
        show bw G s + (if fs G s = true then _ else _) = _
        rw [if_neg c0, Nat.add_zero]
      obtain ⟨f3, d1, d2, d3⟩ := ih (s + 1) (by omega) f v B h0 hv (by rw [e5]; exact h) (by rw [e 0, e 1, e 2, e 3, e4]; exact hn) (by
        intro q hq
        constructor
        · rintro ⟨i, hi⟩
          by_cases e : it (arA G) i q < s
          · exact (hb q hq).1 ⟨i, e⟩
          · obtain ⟨j, hj⟩ := hex
            refine (hb q hq).1 ⟨j + i, ?_⟩
            rw [it_add, show it (arA G) i q = s by omega]
            exact hj
        · intro hq1
          exact (hb q hq).2 (fun i => by have := hq1 i; omega))
      refine ⟨f3, ?_, d2, d3⟩
      rw [pre, show nI s + 1 = nI (s + 1) from iAdd s 1]
      exact d1
theorem Cc_look (hG : Gd G) (hd : c + 1 < a ∨ a + 5 < c) (hc0 : 0 < c) (ha0 : 0 < a) (h0 : T0 f) (hv : GV f a G) (h : CA f c) : ∃ f', vV 1 c [.ref a] (HF f) = some (HF f') ∧ CV f' c G ∧ Fx c (c + 1) f f' := by
  obtain ⟨v, w, B, h⟩ := h
  obtain ⟨f1, a1, a2, a3⟩ := h.put (k := 1) (by decide) 0
  obtain ⟨f2, b1, b2, b3⟩ := a2.put (k := 2) (by decide) 0
  obtain ⟨f3, c1, c2, c3⟩ := b2.put (k := 3) (by decide) 0
  obtain ⟨f4, d1, d2, d3⟩ := c2.put (k := 4) (by decide) 8
  obtain ⟨f5, e1, e2, e3⟩ := d2.put (k := 5) (by decide) 0
  obtain ⟨f6, g1, g2, g3⟩ := e2.putL 0
  have hx := ((((a3.tr b3).tr c3).tr d3).tr e3).tr g3
  obtain ⟨f7, B7, i1, i2, i3, i4⟩ := Cc_lk1 hG.2.1 hd G.1 0 (by omega) f6 B (hv.fx hx (by omega)) g2 (fun q hq => by omega)
  have hx7 := hx.tr i4
  have h07 : T0 f7 := by
    unfold T0
    rw [hx7 0 (by omega)]
    exact h0
  obtain ⟨f8, j1, j2, j3⟩ := Cc_lk2 hG hd hc0 ha0 G.1 0 (by omega) f7 _ B7 h07 (hv.fx hx7 (by omega)) i2 ⟨rfl, rfl, rfl, rfl, rfl⟩ (fun q hq => ⟨fun ⟨i, hi⟩ => by omega, fun _ => i3 q hq⟩)
  refine ⟨f8, vV_of (ci := 0) rfl h.O ?_, j2, hx7.tr j3⟩
  rw [F1_eq, a1]
  simp only [Option.bind_some]
  rw [b1]
  simp only [Option.bind_some]
  rw [c1]
  simp only [Option.bind_some]
  rw [d1]
  simp only [Option.bind_some]
  rw [e1]
  simp only [Option.bind_some]
  rw [g1]
  simp only [Option.bind_some]
  exact i1.trans j1
end C6
theorem crn_rel {G : Gr} (h : Gd G) : ∀ k, k ≤ G.1 → (crn G 1 k = 0 → crn G 2 k = 0 ∧ crn G 3 k = 0 ∧ lst G k = 8) ∧ (crn G 1 k = 1 → crn G 2 k = crn G 3 k ∧ lst G k = crn G 3 k) ∧ (crn G 1 k = 2 → crn G 2 k = lst G k + crn G 3 k) ∧ crn G 4 k = crn G 2 k + crn G 1 k := by
  intro k
  induction k with
  | zero => intro _; exact ⟨fun _ => ⟨rfl, rfl, rfl⟩, fun z => absurd (show (0 : Nat) = 1 from z) (by decide), fun z => absurd (show (0 : Nat) = 2 from z) (by decide), rfl⟩
  | succ k ih =>
    intro hk
    obtain ⟨i1, i2, i3, i4⟩ := ih (by omega)
    have hb := bn_lt h (show k < G.1 by omega)
    have h8 := h.2.1
    by_cases c0 : fs G k = true
    · have e1 : crn G 1 (k + 1) = crn G 1 k + bent (bn G k) := by
        show (if fs G k = true then _ else _) = _
        rw [if_pos c0, stp1]
      have e2 : crn G 2 (k + 1) = crn G 2 k + bn G k := by
        show (if fs G k = true then _ else _) = _
        rw [if_pos c0, stp2]
      have e3 : crn G 3 (k + 1) = if bn G k ≤ crn G 3 k then crn G 3 k else bn G k := by
        show (if fs G k = true then _ else _) = _
        rw [if_pos c0, stp3]
      have e4 : lst G (k + 1) = if 0 < bn G k then min (lst G k) (bn G k) else lst G k := by
        show (if fs G k = true ∧ 0 < bn G k then _ else _) = _
        simp only [c0, true_and]
      have e5 : crn G 4 (k + 1) = crn G 4 k + bent (bn G k) * (bn G k + 1) := by
        show (if fs G k = true then _ else _) = _
        rw [if_pos c0, stp4]
      rw [e1, e2, e3, e4, e5]
      unfold bent
      by_cases c1 : 0 < bn G k
      · simp only [if_pos c1]
        split <;> omega
      · simp only [if_neg c1]
        split <;> omega
    · have e : ∀ w, crn G w (k + 1) = crn G w k := fun w => by
        show (if fs G k = true then _ else _) = _
        rw [if_neg c0]
      have e4 : lst G (k + 1) = lst G k := by
        show (if fs G k = true ∧ 0 < bn G k then _ else _) = _
        rw [if_neg (fun z => c0 z.1)]
      rw [e, e, e, e, e4]
      exact ⟨i1, i2, i3, i4⟩
theorem F6_1 (v0 : Nat) (h : mHeap) : F 6 [.ref v0, .int 1] h = (vI 4 v0 [] h).bind fun q1 => some (some (.int q1.1), q1.2) := by
  show D 6 0 (mEnt 6 [.ref v0, .int 1]) [] h 0 0 = _
  rw [show mEnt 6 [.ref v0, .int 1] = [some (.ref v0), some (.int 1)] from rfl]
  refine e_iload_n (i := 1) (pc' := 1) (by decide +kernel) rfl rfl ?_
  refine e_tsw (t := 28) (d := 46) (lo := 1) (hi := 3) (offs := #[27, 32, 41]) (len := 27) (o := 27) (by decide +kernel) (by decide +kernel) (by decide) ?_
  refine e_aload_n (i := 0) (pc' := 29) (by decide +kernel) rfl rfl ?_
  refine e_vI (idx := 64) (j' := 4) (as := []) (rest := []) (pc' := 32) (by decide +kernel) rfl (show mCk 6 1 64 4 0 = true by decide +kernel) (Or.inl (by decide +kernel)) rfl (Nat.le_of_ble_eq_true rfl) (show 1 ≤ mL 4 by decide +kernel) (fun q1 => ?_)
  exact e_iret (by decide +kernel) (by decide +kernel)
theorem F6_2 (v0 : Nat) (h : mHeap) : F 6 [.ref v0, .int 2] h = (gI h v0 0 3).bind fun x1 => some (some (.int ((x1 + 2) / 2)), h) := by
  show D 6 0 (mEnt 6 [.ref v0, .int 2]) [] h 0 0 = _
  rw [show mEnt 6 [.ref v0, .int 2] = [some (.ref v0), some (.int 2)] from rfl]
  refine e_iload_n (i := 1) (pc' := 1) (by decide +kernel) rfl rfl ?_
  refine e_tsw (t := 33) (d := 46) (lo := 1) (hi := 3) (offs := #[27, 32, 41]) (len := 27) (o := 32) (by decide +kernel) (by decide +kernel) (by decide) ?_
  refine e_aload_n (i := 0) (pc' := 34) (by decide +kernel) rfl rfl ?_
  refine e_getI (idx := 22) (pc' := 37) (by decide +kernel) rfl (ci := 0) (k := 3) (by decide +kernel) (by decide +kernel) (fun x1 => ?_)
  refine e_iconst (n := 2) (v := 2) (pc' := 38) (by decide +kernel) rfl rfl ?_
  refine e_iadd (pc' := 39) (by decide +kernel) rfl ?_
  refine e_iconst (n := 2) (v := 2) (pc' := 40) (by decide +kernel) rfl rfl ?_
  refine (e_idiv (pc' := 41) (R := some (some (.int ((x1 + 2) / 2)), h)) (by decide +kernel) rfl ?_).trans (if_neg (by decide))
  exact e_iret (by decide +kernel) (by decide +kernel)
theorem F6_3 (v0 : Nat) (h : mHeap) : F 6 [.ref v0, .int 3] h = (gI h v0 0 1).bind fun x1 => some (some (.int x1), h) := by
  show D 6 0 (mEnt 6 [.ref v0, .int 3]) [] h 0 0 = _
  rw [show mEnt 6 [.ref v0, .int 3] = [some (.ref v0), some (.int 3)] from rfl]
  refine e_iload_n (i := 1) (pc' := 1) (by decide +kernel) rfl rfl ?_
  refine e_tsw (t := 42) (d := 46) (lo := 1) (hi := 3) (offs := #[27, 32, 41]) (len := 27) (o := 41) (by decide +kernel) (by decide +kernel) (by decide) ?_
  refine e_aload_n (i := 0) (pc' := 43) (by decide +kernel) rfl rfl ?_
  refine e_getI (idx := 15) (pc' := 46) (by decide +kernel) rfl (ci := 0) (k := 1) (by decide +kernel) (by decide +kernel) (fun x1 => ?_)
  exact e_iret (by decide +kernel) (by decide +kernel)
theorem F6_4 (v0 : Nat) (h : mHeap) : F 6 [.ref v0, .int 4] h = (gI h v0 0 2).bind fun x1 => some (some (.int x1), h) := by
  show D 6 0 (mEnt 6 [.ref v0, .int 4]) [] h 0 0 = _
  rw [show mEnt 6 [.ref v0, .int 4] = [some (.ref v0), some (.int 4)] from rfl]
  refine e_iload_n (i := 1) (pc' := 1) (by decide +kernel) rfl rfl ?_
  refine e_tsw (t := 47) (d := 46) (lo := 1) (hi := 3) (offs := #[27, 32, 41]) (len := 27) (o := 46) (by decide +kernel) (by decide +kernel) (by decide) ?_
  refine e_aload_n (i := 0) (pc' := 48) (by decide +kernel) rfl rfl ?_
  refine e_getI (idx := 19) (pc' := 51) (by decide +kernel) rfl (ci := 0) (k := 2) (by decide +kernel) (by decide +kernel) (fun x1 => ?_)
  exact e_iret (by decide +kernel) (by decide +kernel)
section C7
variable {f : Nat → mCell} {c : Nat} {G : Gr}
theorem Cc_kind (hG : Gd G) (h : CV f c G) : vI 4 c [] (HF f) = some (nI (kindG G), HF f) := by
  obtain ⟨v, B, h, ⟨n1, n2, n3, n4, n5⟩, -⟩ := h
  refine vI_of (ci := 0) rfl h.O ?_
  have l1 := crn_le hG 1 G.1 (Nat.le_refl _)
  have l3 := crn_le hG 3 G.1 (Nat.le_refl _)
  have l4 := lst_le G G.1
  have h8 := hG.2.1
  obtain ⟨-, -, r, -⟩ := crn_rel hG G.1 (Nat.le_refl _)
  rw [F4_eq, h.i2, h.i4, h.i5, n2, n4, n5]
  simp only [Option.bind_some]
  have t0 : (nI (crn G 1 G.1) = 0) = (crn G 1 G.1 = 0) := iEQ (b := 0) (by omega) (by omega)
  have t1 : (nI (crn G 1 G.1) = 1) = (crn G 1 G.1 = 1) := iEQ (b := 1) (by omega) (by omega)
  have t2 : (nI (crn G 1 G.1) = 2) = (crn G 1 G.1 = 2) := iEQ (b := 2) (by omega) (by omega)
  have t3 : (nI (lst G G.1) = nI (crn G 3 G.1)) = (lst G G.1 = crn G 3 G.1) := iEQ (by omega) (by omega)
  simp only [t0, t1, t2, t3]
  unfold kindG
  by_cases c0 : crn G 1 G.1 = 0
  · rw [if_neg (fun z => z c0), if_pos c0]; rfl
  · rw [if_pos c0, if_neg c0]
    by_cases c1 : crn G 1 G.1 = 1
    · rw [if_neg (fun z => z c1), if_pos c1]; rfl
    · rw [if_pos c1, if_neg c1]
      by_cases c2 : crn G 1 G.1 = 2
      · rw [if_neg (fun z => z c2)]
        have := r c2
        by_cases c3 : lst G G.1 = crn G 3 G.1
        · rw [if_neg (fun z => z c3), if_pos (by omega)]; rfl
        · rw [if_pos c3, if_neg (by omega)]; rfl
      · rw [if_pos c2, if_neg (fun z => c2 z.1)]; rfl
theorem Cc_bentSq (hG : Gd G) (h : CV f c G) : vI 5 c [] (HF f) = some (nI (crn G 4 G.1), HF f) := by
  obtain ⟨v, B, h, ⟨n1, n2, n3, n4, n5⟩, -⟩ := h
  refine vI_of (ci := 0) rfl h.O ?_
  obtain ⟨-, -, -, r⟩ := crn_rel hG G.1 (Nat.le_refl _)
  rw [F5_eq, h.i3, h.i2, n2, n3]
  simp only [Option.bind_some]
  rw [iAdd, r]
theorem Cc_fact1 (hG : Gd G) (h : CV f c G) : vI 6 c [.int 1] (HF f) = some (nI (kindG G), HF f) := by
  have hk := Cc_kind hG h
  obtain ⟨v, B, h, -⟩ := h
  refine vI_of (ci := 0) rfl h.O ?_
  rw [F6_1, hk]; rfl
theorem Cc_fact2 (hG : Gd G) (h : CV f c G) : vI 6 c [.int 2] (HF f) = some (nI ((crn G 2 G.1 + 2) / 2), HF f) := by
  obtain ⟨v, B, h, ⟨n1, n2, n3, n4, n5⟩, -⟩ := h
  have l3 := crn_le hG 2 G.1 (Nat.le_refl _)
  have h8 := hG.2.1
  refine vI_of (ci := 0) rfl h.O ?_
  rw [F6_2, h.i3, n3]
  simp only [Option.bind_some]
  have e : (nI (crn G 2 G.1) + 2) / 2 = nI ((crn G 2 G.1 + 2) / 2) := by
    have : ∀ m, m < 200 → (nI m + 2) / 2 = nI ((m + 2) / 2) := by decide +kernel
    exact this _ (by omega)
  rw [e]
theorem Cc_fact3 (h : CV f c G) : vI 6 c [.int 3] (HF f) = some (nI (crn G 0 G.1), HF f) := by
  obtain ⟨v, B, h, ⟨n1, n2, n3, n4, n5⟩, -⟩ := h
  refine vI_of (ci := 0) rfl h.O ?_
  rw [F6_3, h.i1, n1]; rfl
theorem Cc_fact4 (h : CV f c G) : vI 6 c [.int 4] (HF f) = some (nI (crn G 1 G.1), HF f) := by
  obtain ⟨v, B, h, ⟨n1, n2, n3, n4, n5⟩, -⟩ := h
  refine vI_of (ci := 0) rfl h.O ?_
  rw [F6_4, h.i2, n2]; rfl
end C7
