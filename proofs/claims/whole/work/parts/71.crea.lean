/-! the class: what can be come to -/
theorem Iso.tu {φ : Nat → Nat} {G H : Gr} (h : Iso φ G H) (hG : Gd G) (hH : Gd H) : Iso φ (tuG false G) (tuG false H) := by
  obtain ⟨h1, h2, h3⟩ := h
  refine ⟨h1, h2, fun q hq => ⟨?_, (h3 q hq).1⟩⟩
  have hq : q < G.1 := hq
  obtain ⟨i1, i2⟩ := inv_ok hG.2.2.2 hq
  have e1 := (h3 _ i1).2
  rw [i2] at e1
  have e2 : inv H.1 H.2.2 (φ q) = φ (inv G.1 G.2.2 q) := inv_uniq hH.2.2.2 (by rw [← h1]; exact h2.1 _ i1) e1.symm
  exact e2.symm
theorem nm_back {G : Gr} (h : Ok G) : nmV (tuG false (shG true (shG false G))) = nmV (tuG false G) := by
  have h1 := (h.sh false).sh true
  exact (nm_iso ((Iso.back h.1).tu h1.1 h.1) (h1.tu false) (h.tu false)).1
theorem IsNm.lt {n v : Nat} (h : IsNm n v) : n ≤ 8 ∧ v < 2 ^ 48 := by
  obtain ⟨H, h1, h2, h3⟩ := h
  have h4 := (un_nm h1).2.2.2.1
  have h5 := h1.1.2.1
  have h6 : 8 ^ (2 * H.1) ≤ 8 ^ 16 := Nat.pow_le_pow_right (by decide) (by omega)
  have h7 : (8 : Nat) ^ 16 = 2 ^ 48 := by decide
  omega
def rOb (nn z sp : Int32) : List Value := [.ref 25, .ref 26, .ref 27, .ref 28, .ref 34, .int nn, .int z, .int sp]
def RS (f : Nat → mCell) (nn z sp : Int32) (NL : Nat → Int64) (SH TU : Nat → Int32) : Prop := f 24 = .inr (5, rOb nn z sp) ∧ f 25 = .inl (2, 500, .inr (.inl NL)) ∧ f 26 = .inl (0, 500, .inl SH) ∧ f 27 = .inl (0, 500, .inl TU)
def op1 (o : Option Nat) : Int32 := match o with
  | none => -1
  | some p => nI p
section C14
variable {f : Nat → mCell} {a : Nat} {nn z sp : Int32} {NL : Nat → Int64} {SH TU : Nat → Int32} {G : Gr}
theorem RS.fx (h : RS f nn z sp NL SH TU) {f' : Nat → mCell} (hf : ∀ b, 24 ≤ b → b ≤ 27 → f' b = f b) : RS f' nn z sp NL SH TU := by
  obtain ⟨h1, h2, h3, h4⟩ := h
  exact ⟨by rw [hf _ (by omega) (by omega)]; exact h1, by rw [hf _ (by omega) (by omega)]; exact h2, by rw [hf _ (by omega) (by omega)]; exact h3, by rw [hf _ (by omega) (by omega)]; exact h4⟩
theorem RS.O (h : RS f nn z sp NL SH TU) : gO (HF f) 24 5 = some () := gO_of (by omega) h.1
theorem RS.r0 (h : RS f nn z sp NL SH TU) : gR (HF f) 24 5 0 = some 25 := gR_of (by omega) h.1 rfl
theorem RS.r1 (h : RS f nn z sp NL SH TU) : gR (HF f) 24 5 1 = some 26 := gR_of (by omega) h.1 rfl
theorem RS.r2 (h : RS f nn z sp NL SH TU) : gR (HF f) 24 5 2 = some 27 := gR_of (by omega) h.1 rfl
theorem RS.r3 (h : RS f nn z sp NL SH TU) : gR (HF f) 24 5 3 = some 28 := gR_of (by omega) h.1 rfl
theorem RS.r4 (h : RS f nn z sp NL SH TU) : gR (HF f) 24 5 4 = some 34 := gR_of (by omega) h.1 rfl
theorem RS.i5 (h : RS f nn z sp NL SH TU) : gI (HF f) 24 5 5 = some nn := gI_of (by omega) h.1 rfl
theorem RS.i6 (h : RS f nn z sp NL SH TU) : gI (HF f) 24 5 6 = some z := gI_of (by omega) h.1 rfl
theorem RS.i7 (h : RS f nn z sp NL SH TU) : gI (HF f) 24 5 7 = some sp := gI_of (by omega) h.1 rfl
theorem RS.ldN (h : RS f nn z sp NL SH TU) {q : Nat} (hq : q < 500) : cAldL (HF f) 25 (nI q) = some (NL q) := cAldL_of (by omega) h.2.1 hq (by omega)
theorem RS.ldS (h : RS f nn z sp NL SH TU) {q : Nat} (hq : q < 500) : cAldI false (HF f) 26 (nI q) = some (SH q) := cAldI_of (by omega) h.2.2.1 hq (by omega)
theorem RS.ldT (h : RS f nn z sp NL SH TU) {q : Nat} (hq : q < 500) : cAldI false (HF f) 27 (nI q) = some (TU q) := cAldI_of (by omega) h.2.2.2 hq (by omega)
theorem RS.stN (h : RS f nn z sp NL SH TU) {q : Nat} (hq : q < 500) (y : Int64) : ∃ f', cAstL (HF f) 25 (nI q) y = some (HF f') ∧ RS f' nn z sp (vp_updL NL q y) SH TU ∧ Fx 24 27 f f' := by
  obtain ⟨h1, h2, h3, h4⟩ := h
  exact ⟨_, cAstL_of (by omega) h2 hq (by omega) y, ⟨by rw [up_ne (by decide)]; exact h1, up_at, by rw [up_ne (by decide)]; exact h3, by rw [up_ne (by decide)]; exact h4⟩, Fx.up (by omega) (by omega)⟩
theorem RS.stS (h : RS f nn z sp NL SH TU) {q : Nat} (hq : q < 500) (y : Int32) : ∃ f', cAstI (HF f) 26 (nI q) y = some (HF f') ∧ RS f' nn z sp NL (upd SH q y) TU ∧ Fx 24 27 f f' := by
  obtain ⟨h1, h2, h3, h4⟩ := h
  exact ⟨_, cAstI_of (by omega) h3 hq (by omega) y, ⟨by rw [up_ne (by decide)]; exact h1, by rw [up_ne (by decide)]; exact h2, up_at, by rw [up_ne (by decide)]; exact h4⟩, Fx.up (by omega) (by omega)⟩
theorem RS.stT (h : RS f nn z sp NL SH TU) {q : Nat} (hq : q < 500) (y : Int32) : ∃ f', cAstI (HF f) 27 (nI q) y = some (HF f') ∧ RS f' nn z sp NL SH (upd TU q y) ∧ Fx 24 27 f f' := by
  obtain ⟨h1, h2, h3, h4⟩ := h
  exact ⟨_, cAstI_of (by omega) h4 hq (by omega) y, ⟨by rw [up_ne (by decide)]; exact h1, by rw [up_ne (by decide)]; exact h2, by rw [up_ne (by decide)]; exact h3, up_at⟩, Fx.up (by omega) (by omega)⟩
theorem RS.put5 (h : RS f nn z sp NL SH TU) (y : Int32) : ∃ f', cPut (HF f) 24 5 5 (.int y) = some (HF f') ∧ RS f' y z sp NL SH TU ∧ Fx 24 27 f f' := by
  obtain ⟨h1, h2, h3, h4⟩ := h
  exact ⟨_, cPut_of (by omega) h1 (by show 5 < 8; omega) _, ⟨up_at, by rw [up_ne (by decide)]; exact h2, by rw [up_ne (by decide)]; exact h3, by rw [up_ne (by decide)]; exact h4⟩, Fx.up (by omega) (by omega)⟩
theorem RS.put6 (h : RS f nn z sp NL SH TU) (y : Int32) : ∃ f', cPut (HF f) 24 5 6 (.int y) = some (HF f') ∧ RS f' nn y sp NL SH TU ∧ Fx 24 27 f f' := by
  obtain ⟨h1, h2, h3, h4⟩ := h
  exact ⟨_, cPut_of (by omega) h1 (by show 6 < 8; omega) _, ⟨up_at, by rw [up_ne (by decide)]; exact h2, by rw [up_ne (by decide)]; exact h3, by rw [up_ne (by decide)]; exact h4⟩, Fx.up (by omega) (by omega)⟩
theorem RS.put7 (h : RS f nn z sp NL SH TU) (y : Int32) : ∃ f', cPut (HF f) 24 5 7 (.int y) = some (HF f') ∧ RS f' nn z y NL SH TU ∧ Fx 24 27 f f' := by
  obtain ⟨h1, h2, h3, h4⟩ := h
  exact ⟨_, cPut_of (by omega) h1 (by show 7 < 8; omega) _, ⟨up_at, by rw [up_ne (by decide)]; exact h2, by rw [up_ne (by decide)]; exact h3, by rw [up_ne (by decide)]; exact h4⟩, Fx.up (by omega) (by omega)⟩
theorem Cr_ofL {k : Nat} (hk : k ≤ 500) {nm : Nat → Nat} (hb : ∀ i, i < k → nm i < 2 ^ 62) (h : RS f nn (nI k) sp NL SH TU) (hN : ∀ i, i < k → NL i = lN (nm i)) {v : Nat} (hv : v < 2 ^ 62) : ∀ (d i : Nat), i + d = k → (∀ j, j < i → nm j ≠ v) → q40_2 24 (lN v) (nI i) (HF f) = some (some (.int (op1 (rfind nm k v))), HF f) := by
  intro d
  induction d with
  | zero =>
    intro i hi hp
    have : i = k := by omega
    subst this
    rw [q40_2_eq, h.i6]
    simp only [Option.bind_some]
    rw [if_pos (Int32.le_refl _), rfind_no hp]
    rfl
  | succ d ih =>
    intro i hi hp
    have hil : i < k := by omega
    have hbi := hb i hil
    rw [q40_2_eq, h.i6, h.r0]
    simp only [Option.bind_some]
    rw [if_neg (by rw [iLE (by omega) (by omega)]; omega), h.ldN (by omega), hN i hil]
    simp only [Option.bind_some]
    have q2 : (lg_cmp (lN (nm i)) (lN v) = 0) = (nm i = v) := by
      rw [lg_cmp_eq]
      exact propext (pk_lEQ (by omega) (by omega))
    simp only [q2]
    by_cases c0 : nm i = v
    · rw [if_neg (fun z => z c0), rfind_at hil c0 hp]
      rfl
    · rw [if_pos c0, show nI i + 1 = nI (i + 1) from iAdd i 1]
      exact ih (i + 1) (by omega) (fun j hj => by
        by_cases e : j = i
        · rw [e]; exact c0
        · exact hp j (by omega))
theorem Cr_of {k : Nat} (hk : k ≤ 500) {nm : Nat → Nat} (hb : ∀ i, i < k → nm i < 2 ^ 62) (h : RS f nn (nI k) sp NL SH TU) (hN : ∀ i, i < k → NL i = lN (nm i)) {v : Nat} (hv : v < 2 ^ 62) : vI 40 24 [.long (lN v)] (HF f) = some (op1 (rfind nm k v), HF f) := by
  refine vI_of (ci := 5) rfl h.O ?_
  rw [F40_eq]
  exact Cr_ofL hk hb h hN hv k 0 (by omega) (fun j hj => by omega)
theorem NV.l3 {m : Nat} (h : NV f m G) : gL (HF f) m 4 3 = some (lN (nmV G)) := by
  obtain ⟨gv, N, Q, h⟩ := h
  exact h.l3
theorem NV.i4 {m : Nat} (h : NV f m G) : gI (HF f) m 4 4 = some (nI (nmS G)) := by
  obtain ⟨gv, N, Q, h⟩ := h
  exact h.i4
def spN (o : Option Nat) (sp : Int32) : Int32 := match o with
  | none => 1
  | some _ => sp
theorem Cr_new {K : Gr} {k : Nat} {nm : Nat → Nat} (hok : Ok K) (hI : NmI K.1 k nm) (h : RS f nn (nI k) sp NL SH TU) (hN : ∀ i, i < k → NL i = lN (nm i)) (hv : GV f 28 K) (hna : NA f 34) : ∃ f' NL', vI 39 24 [] (HF f) = some (op1 (radd k nm (nmV K)).2.2, HF f') ∧ RS f' nn (nI (radd k nm (nmV K)).1) (spN (radd k nm (nmV K)).2.2 sp) NL' SH TU ∧ (∀ i, i < (radd k nm (nmV K)).1 → NL' i = lN ((radd k nm (nmV K)).2.1 i)) ∧ GV f' 28 K ∧ NA f' 34 ∧ Fx 24 36 f f' := by
  have hk := hI.1
  have hlt := (IsNm.of hok).lt.2
  obtain ⟨f1, a1, a2, a3⟩ := Cn_look hok (by omega) hv hna
  have h1 : RS f1 nn (nI k) sp NL SH TU := h.fx (fun b b1 b2 => a3 b (by omega))
  have hv1 := hv.fx a3 (by omega)
  have pre := F39_eq 24 (HF f)
  rw [h.r4, h.r3] at pre
  simp only [Option.bind_some] at pre
  rw [a1] at pre
  simp only [Option.bind_some] at pre
  rw [h1.r4] at pre
  simp only [Option.bind_some] at pre
  rw [a2.l3] at pre
  simp only [Option.bind_some] at pre
  rw [Cr_of hk (fun i hi => by have := (hI.2.1 i hi).lt.2; omega) h1 hN (by omega)] at pre
  simp only [Option.bind_some] at pre
  have hx1 : Fx 24 36 f f1 := a3.wi (by omega) (by omega)
  unfold radd
  cases e : rfind nm k (nmV K) with
  | some p =>
    rw [e] at pre
    have hp := rfind_some e
    rw [if_neg (show ¬ op1 (some p) < 0 by show ¬ nI p < nI 0; rw [iLT (by omega) (by omega)]; omega)] at pre
    exact ⟨f1, NL, vI_of (ci := 5) rfl h.O pre, h1, hN, hv1, a2.na, hx1⟩
  | none =>
    rw [e] at pre
    rw [if_pos (show op1 none < 0 by decide), h1.i6] at pre
    simp only [Option.bind_some] at pre
    by_cases c0 : k = 500
    · simp only [if_pos c0]
      obtain ⟨f2, b1, b2, b3⟩ := h1.put7 1
      rw [if_neg (fun z => z (by rw [c0]; rfl)), b1] at pre
      exact ⟨f2, NL, vI_of (ci := 5) rfl h.O pre, b2, hN, hv1.fx b3 (by omega), a2.na.fx b3 (by omega), hx1.tr (b3.wi (by omega) (by omega))⟩
    · simp only [if_neg c0]
      rw [if_pos (show ¬ nI k = 500 by rw [l500, iEQ (by omega) (by omega)]; exact c0), h1.r0, h1.r4] at pre
      simp only [Option.bind_some] at pre
      rw [a2.l3] at pre
      simp only [Option.bind_some] at pre
      obtain ⟨f2, b1, b2, b3⟩ := h1.stN (q := k) (by omega) (lN (nmV K))
      rw [b1] at pre
      simp only [Option.bind_some] at pre
      rw [b2.i6] at pre
      simp only [Option.bind_some] at pre
      obtain ⟨f3, c1, c2, c3⟩ := b2.put6 (nI (k + 1))
      rw [show nI k + 1 = nI (k + 1) from iAdd k 1, c1] at pre
      simp only [Option.bind_some] at pre
      rw [c2.i6] at pre
      simp only [Option.bind_some] at pre
      rw [show nI (k + 1) - 1 = nI k from iSub (b := 1) (by omega)] at pre
      refine ⟨f3, _, vI_of (ci := 5) rfl h.O pre, c2, ?_, (hv1.fx b3 (by omega)).fx c3 (by omega), (a2.na.fx b3 (by omega)).fx c3 (by omega), (hx1.tr (b3.wi (by omega) (by omega))).tr (c3.wi (by omega) (by omega))⟩
      intro i hi
      show (if i = k then _ else _) = lN (fu nm k (nmV K) i)
      by_cases e : i = k
      · rw [if_pos e, e, fu_at]
      · rw [if_neg e, fu_ne e]
        exact hN i (by have : i < k + 1 := hi; omega)
/-- the state when the filling ends -/
def OrS (o : Option Rs) (z sp : Int32) (NL : Nat → Int64) (SH TU : Nat → Int32) : Prop := match o with
  | none => sp = 1 ∧ ∃ k, 1 ≤ k ∧ k ≤ 500 ∧ z = nI k
  | some r => sp = 0 ∧ z = nI r.1 ∧ (∀ i, i < r.1 → NL i = lN (r.2.1 i)) ∧ ∀ i, i < r.1 → SH i = nI (r.2.2.1 i) ∧ TU i = nI (r.2.2.2 i)
theorem Cr_go {n : Nat} (hn8 : n ≤ 8) {v1 : Nat} : ∀ (u i : Nat) (r : Rs) (f : Nat → mCell) (NL : Nat → Int64) (SH TU : Nat → Int32), i + u = 501 → RI n i r → 1 ≤ r.1 → RS f (nI n) (nI r.1) 0 NL SH TU → (∀ i, i < r.1 → NL i = lN (r.2.1 i)) → (∀ k, k < i → SH k = nI (r.2.2.1 k) ∧ TU k = nI (r.2.2.2 k)) → GA f 28 → NA f 34 → ∃ f' z' sp' NL' SH' TU', q38_77 24 v1 (nI i) (HF f) = some (none, HF f') ∧ RS f' (nI n) z' sp' NL' SH' TU' ∧ NL' 0 = NL 0 ∧ OrS (rgo n u i r) z' sp' NL' SH' TU' ∧ GA f' 28 ∧ NA f' 34 ∧ Fx 24 36 f f' := by
  intro u
  induction u with
  | zero =>
    intro i r f NL SH TU hu hI
    have := hI.1.1
    have := hI.2.1
    omega
  | succ u ih =>
    intro i r f NL SH TU hu hI hr1 h hN hD hga hna
    have h500 := hI.1.1
    unfold rgo
    by_cases c : i < r.1
    · rw [if_pos c]
      obtain ⟨hok, hnm⟩ := (hI.1.2.1 i c).un
      have hlt := (hI.1.2.1 i c).lt.2
      obtain ⟨f1, a1, a2, a3⟩ := Cg_unfold hok (by omega) hga
      have h1 : RS f1 (nI n) (nI r.1) 0 NL SH TU := h.fx (fun b b1 b2 => a3 b (by omega))
      have hna1 := hna.fx a3 (by omega)
      obtain ⟨f2, b1, b2, b3⟩ := Cg_slide hok.1 a2 false (m := 1) (by omega) (by intro z; cases z)
      have h2 : RS f2 (nI n) (nI r.1) 0 NL SH TU := h1.fx (fun b b1 b2 => b3 b (by omega))
      have hna2 := hna1.fx b3 (by omega)
      obtain ⟨f3, NL3, c1, c2, c3, c4, c5, c6⟩ := Cr_new (K := shG false (unN n (r.2.1 i))) (hok.sh false) hI.1 h2 hN b2 hna2
      have ra := radd_ok (v := nmV (shG false (unN n (r.2.1 i)))) hI.1 ⟨_, hok.sh false, rfl, rfl⟩
      obtain ⟨f4, d1, d2, d3⟩ := c2.stS (q := i) (by omega) (op1 (radd r.1 r.2.1 (nmV (shG false (unN n (r.2.1 i))))).2.2)
      have hv4 := c4.fx d3 (by omega)
      have hna4 := c5.fx d3 (by omega)
      obtain ⟨f5, e1, e2, e3⟩ := Cg_slide (hok.sh false).1 hv4 true (m := 1) (by omega) (by intro _; omega)
      have h5 : RS f5 (nI n) _ _ NL3 _ TU := d2.fx (fun b b1 b2 => e3 b (by omega))
      have hna5 := hna4.fx e3 (by omega)
      obtain ⟨f6, g1, g2, g3⟩ := Cg_quarter ((hok.sh false).sh true).1 e2
      have h6 : RS f6 (nI n) _ _ NL3 _ TU := h5.fx (fun b b1 b2 => g3 b (by omega))
      have hna6 := hna5.fx g3 (by omega)
      have ro := radd_ok (v := nmV (tuG false (unN n (r.2.1 i)))) ra.2.2.1 ⟨_, hok.tu false, rfl, rfl⟩
      obtain ⟨f7, NL7, i1, i2, i3, i4, i5, i6⟩ := Cr_new (K := tuG false (shG true (shG false (unN n (r.2.1 i))))) (((hok.sh false).sh true).tu false) ra.2.2.1 h6 c3 g2 hna6
      rw [nm_back hok] at i1 i2 i3
      have hx : Fx 24 36 f f7 := ((((((a3.wi (by omega) (by omega)).tr (b3.wi (by omega) (by omega))).tr c6).tr (d3.wi (by omega) (by omega))).tr (e3.wi (by omega) (by omega))).tr (g3.wi (by omega) (by omega))).tr i6
      have pre := q38_77_eq 24 v1 (nI i) (HF f)
      rw [if_neg (show ¬ (500 : Int32) ≤ nI i by rw [l500, iLE (by omega) (by omega)]; omega), h.i6, h.i7, h.r3, h.i5, h.r0] at pre
      simp only [Option.bind_some] at pre
      rw [if_neg (by rw [iLE (by omega) (by omega)]; omega), if_neg (fun z => z trivial), h.ldN (by omega), hN i c] at pre
      simp only [Option.bind_some] at pre
      rw [a1] at pre
      simp only [Option.bind_some] at pre
      rw [h1.r3] at pre
      simp only [Option.bind_some] at pre
      rw [show vV 25 28 [.int 1] (HF f1) = some (HF f2) from b1] at pre
      simp only [Option.bind_some] at pre
      rw [h2.r1] at pre
      simp only [Option.bind_some] at pre
      rw [c1] at pre
      simp only [Option.bind_some] at pre
      rw [d1] at pre
      simp only [Option.bind_some] at pre
      rw [d2.r3] at pre
      simp only [Option.bind_some] at pre
      rw [show vV 25 28 [.int (-1)] (HF f4) = some (HF f5) from e1] at pre
      simp only [Option.bind_some] at pre
      rw [h5.r3] at pre
      simp only [Option.bind_some] at pre
      rw [g1] at pre
      simp only [Option.bind_some] at pre
      rw [h6.r2] at pre
      simp only [Option.bind_some] at pre
      rw [i1] at pre
      simp only [Option.bind_some] at pre
      obtain ⟨f8, j1, j2, j3⟩ := i2.stT (q := i) (by omega) (op1 (radd (radd r.1 r.2.1 (nmV (shG false (unN n (r.2.1 i))))).1 (radd r.1 r.2.1 (nmV (shG false (unN n (r.2.1 i))))).2.1 (nmV (tuG false (unN n (r.2.1 i))))).2.2)
      rw [j1] at pre
      simp only [Option.bind_some] at pre
      rw [show nI i + 1 = nI (i + 1) from iAdd i 1] at pre
      have hx8 := hx.tr (j3.wi (show 24 ≤ 24 by omega) (show 27 ≤ 36 by omega))
      have hga8 : GA f8 28 := (i4.fx j3 (by omega)).ga
      have hna8 : NA f8 34 := i5.fx j3 (by omega)
      have hN0 : NL7 0 = NL 0 := by
        have q1 := ra.1
        have q2 := ro.1
        rw [i3 0 (by omega), ro.2.1 0 (by omega), ra.2.1 0 (by omega), hN 0 (by omega)]
      unfold rst
      -- when it is spent
      have stop : ∀ (k : Nat), 1 ≤ k → k ≤ 500 → RS f8 (nI n) (nI k) 1 NL7 (upd SH i (op1 (radd r.1 r.2.1 (nmV (shG false (unN n (r.2.1 i))))).2.2)) (upd TU i (op1 (radd (radd r.1 r.2.1 (nmV (shG false (unN n (r.2.1 i))))).1 (radd r.1 r.2.1 (nmV (shG false (unN n (r.2.1 i))))).2.1 (nmV (tuG false (unN n (r.2.1 i))))).2.2)) → ∃ f' z' sp' NL' SH' TU', q38_77 24 v1 (nI i) (HF f) = some (none, HF f') ∧ RS f' (nI n) z' sp' NL' SH' TU' ∧ NL' 0 = NL 0 ∧ OrS none z' sp' NL' SH' TU' ∧ GA f' 28 ∧ NA f' 34 ∧ Fx 24 36 f f' := by
        intro k k1 k2 hk
        refine ⟨f8, _, _, _, _, _, ?_, hk, hN0, ⟨rfl, k, k1, k2, rfl⟩, hga8, hna8, hx8⟩
        rw [pre, q38_77_eq]
        by_cases c1 : (500 : Int32) ≤ nI (i + 1)
        · rw [if_pos c1]
        · rw [if_neg c1, hk.i6, hk.i7]
          simp only [Option.bind_some]
          by_cases c2 : nI k ≤ nI (i + 1)
          · rw [if_pos c2]
          · rw [if_neg c2, if_pos (by decide)]
      generalize hA : radd r.1 r.2.1 (nmV (shG false (unN n (r.2.1 i)))) = A at *
      generalize hB : radd A.1 A.2.1 (nmV (tuG false (unN n (r.2.1 i)))) = B at *
      have q1 := ra.1
      have q2 := ro.1
      have qb := ro.2.2.1.1
      cases hp : A.2.2 with
      | none =>
        refine stop B.1 (by omega) qb ?_
        rw [hp] at j2
        rw [hp]
        have e : spN B.2.2 (spN none 0) = 1 := by cases B.2.2 <;> rfl
        rw [e] at j2
        exact j2
      | some p =>
        cases hq : B.2.2 with
        | none =>
          refine stop B.1 (by omega) qb ?_
          rw [hp, hq] at j2
          rw [hp, hq]
          exact j2
        | some q =>
          have hrst : rst n i r = some (B.1, B.2.1, fu r.2.2.1 i p, fu r.2.2.2 i q) := by
            unfold rst
            rw [hA, hp]
            simp only
            rw [hB, hq]
          have hRI := (rst_RI hI c hrst).1
          rw [hp, hq] at j2
          obtain ⟨f9, z9, s9, NL9, SH9, TU9, k1, k2, k3, k4, k5, k6, k7⟩ := ih (i + 1) (B.1, B.2.1, fu r.2.2.1 i p, fu r.2.2.2 i q) f8 NL7 _ _ (by omega) hRI (show 1 ≤ B.1 by omega) j2 i3 (by
            intro k hk
            show upd SH i (nI p) k = nI (fu r.2.2.1 i p k) ∧ upd TU i (nI q) k = nI (fu r.2.2.2 i q k)
            by_cases e : k = i
            · rw [e, pk_us, pk_us, fu_at, fu_at]
              exact ⟨rfl, rfl⟩
            · rw [pk_un e, pk_un e, fu_ne e, fu_ne e]
              exact hD k (by omega)) hga8 hna8
          exact ⟨f9, z9, s9, NL9, SH9, TU9, pre.trans k1, k2, k3.trans hN0, k4, k5, k6, hx8.tr k7⟩
    · rw [if_neg c]
      have hi : i = r.1 := by
        have := hI.2.1
        omega
      refine ⟨f, _, _, NL, SH, TU, ?_, h, rfl, ⟨rfl, rfl, hN, fun k hk => hD k (by omega)⟩, hga, hna, Fx.rf⟩
      rw [q38_77_eq]
      by_cases c1 : (500 : Int32) ≤ nI i
      · rw [if_pos c1]
      · rw [if_neg c1, h.i6]
        simp only [Option.bind_some]
        rw [if_pos (by rw [iLE (by omega) (by omega)]; omega)]
end C14
