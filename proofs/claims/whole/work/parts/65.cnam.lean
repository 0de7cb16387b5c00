/-! the class: names -/
theorem lN_tn (n : Nat) : (lN n).toBitVec.toNat = n % 2 ^ 64 := by
  show (BitVec.ofNat 64 n).toNat = _
  exact BitVec.toNat_ofNat n 64
theorem shlOr {a b d : Nat} {D : Int64} (hD : (D.toBitVec.smod 64).toNat = d) (hb : b < 2 ^ d) (h : a * 2 ^ d + b < 2 ^ 63) : (lN a <<< D) ||| lN b = lN (a * 2 ^ d + b) := by
  have hp : 0 < 2 ^ d := Nat.two_pow_pos d
  have ha : a ≤ a * 2 ^ d := Nat.le_mul_of_pos_right _ hp
  apply Int64.toBitVec_inj.mp
  apply BitVec.eq_of_toNat_eq
  show (((lN a).toBitVec <<< (D.toBitVec.smod 64).toNat) ||| (lN b).toBitVec).toNat = _
  rw [hD, BitVec.toNat_or, BitVec.toNat_shiftLeft, lN_tn, lN_tn, lN_tn, Nat.mod_eq_of_lt (show a < 2 ^ 64 by omega), Nat.mod_eq_of_lt (show b < 2 ^ 64 by omega), Nat.mod_eq_of_lt (show a * 2 ^ d + b < 2 ^ 64 by omega), Nat.shiftLeft_eq, Nat.mod_eq_of_lt (show a * 2 ^ d < 2 ^ 64 by omega), ← Nat.shiftLeft_eq, ← Nat.shiftLeft_add_eq_or_of_lt hb]
theorem pkv_add (f : Nat → Nat) (n : Nat) : ∀ m, pkv f (n + m) = pkv f n * 8 ^ m + pkv (fun i => f (n + i)) m
  | 0 => by simp [pkv]
  | m + 1 => by
    show pkv f (n + m) * 8 + f (n + m) = _
    rw [pkv_add f n m]
    show _ = pkv f n * 8 ^ (m + 1) + (pkv (fun i => f (n + i)) m * 8 + f (n + m))
    rw [Nat.pow_succ, Nat.add_mul, Nat.mul_assoc, Nat.add_assoc]
def nOb (m : Nat) (gv : Int32) (ls : Int64) (sv : Int32) : List Value := [.ref (m + 1), .ref (m + 2), .int gv, .long ls, .int sv]
def NS (f : Nat → mCell) (m : Nat) (gv : Int32) (ls : Int64) (sv : Int32) (N Q : Nat → Int32) : Prop := m < 130 ∧ f m = .inr (4, nOb m gv ls sv) ∧ f (m + 1) = AI N ∧ f (m + 2) = AI Q
section C8
variable {f : Nat → mCell} {a m : Nat} {gv sv : Int32} {ls : Int64} {N Q : Nat → Int32} {G : Gr}
theorem NS.fx (h : NS f m gv ls sv N Q) {lo hi : Nat} {f' : Nat → mCell} (hf : Fx lo hi f f') (hd : m + 2 < lo ∨ hi < m) : NS f' m gv ls sv N Q := by
  obtain ⟨h1, h2, h3, h4⟩ := h
  exact ⟨h1, by rw [hf m (by omega)]; exact h2, by rw [hf (m + 1) (by omega)]; exact h3, by rw [hf (m + 2) (by omega)]; exact h4⟩
theorem NS.O (h : NS f m gv ls sv N Q) : gO (HF f) m 4 = some () := gO_of (by have := h.1; omega) h.2.1
theorem NS.r0 (h : NS f m gv ls sv N Q) : gR (HF f) m 4 0 = some (m + 1) := gR_of (by have := h.1; omega) h.2.1 rfl
theorem NS.r1 (h : NS f m gv ls sv N Q) : gR (HF f) m 4 1 = some (m + 2) := gR_of (by have := h.1; omega) h.2.1 rfl
theorem NS.i2 (h : NS f m gv ls sv N Q) : gI (HF f) m 4 2 = some gv := gI_of (by have := h.1; omega) h.2.1 rfl
theorem NS.i4 (h : NS f m gv ls sv N Q) : gI (HF f) m 4 4 = some sv := gI_of (by have := h.1; omega) h.2.1 rfl
theorem NS.l3 (h : NS f m gv ls sv N Q) : gL (HF f) m 4 3 = some ls := gL_of (by have := h.1; omega) h.2.1 rfl
theorem NS.ld0 (h : NS f m gv ls sv N Q) {q : Nat} (hq : q < 8) : cAldI false (HF f) (m + 1) (nI q) = some (N q) := cAldI_of (by have := h.1; omega) h.2.2.1 hq (by omega)
theorem NS.ld1 (h : NS f m gv ls sv N Q) {q : Nat} (hq : q < 8) : cAldI false (HF f) (m + 2) (nI q) = some (Q q) := cAldI_of (by have := h.1; omega) h.2.2.2 hq (by omega)
theorem NS.st0 (h : NS f m gv ls sv N Q) {q : Nat} (hq : q < 8) (y : Int32) : ∃ f', cAstI (HF f) (m + 1) (nI q) y = some (HF f') ∧ NS f' m gv ls sv (upd N q y) Q ∧ Fx m (m + 2) f f' := by
  obtain ⟨h1, h2, h3, h4⟩ := h
  exact ⟨_, cAstI_of (by omega) h3 hq (by omega) y, ⟨h1, by rw [up_ne (by omega)]; exact h2, by rw [up_at]; rfl, by rw [up_ne (by omega)]; exact h4⟩, Fx.up (by omega) (by omega)⟩
theorem NS.st1 (h : NS f m gv ls sv N Q) {q : Nat} (hq : q < 8) (y : Int32) : ∃ f', cAstI (HF f) (m + 2) (nI q) y = some (HF f') ∧ NS f' m gv ls sv N (upd Q q y) ∧ Fx m (m + 2) f f' := by
  obtain ⟨h1, h2, h3, h4⟩ := h
  exact ⟨_, cAstI_of (by omega) h4 hq (by omega) y, ⟨h1, by rw [up_ne (by omega)]; exact h2, by rw [up_ne (by omega)]; exact h3, by rw [up_at]; rfl⟩, Fx.up (by omega) (by omega)⟩
theorem NS.put2 (h : NS f m gv ls sv N Q) (y : Int32) : ∃ f', cPut (HF f) m 4 2 (.int y) = some (HF f') ∧ NS f' m y ls sv N Q ∧ Fx m (m + 2) f f' := by
  obtain ⟨h1, h2, h3, h4⟩ := h
  exact ⟨_, cPut_of (by omega) h2 (by show 2 < 5; omega) _, ⟨h1, by rw [up_at]; rfl, by rw [up_ne (by omega)]; exact h3, by rw [up_ne (by omega)]; exact h4⟩, Fx.up (by omega) (by omega)⟩
theorem NS.put3 (h : NS f m gv ls sv N Q) (y : Int64) : ∃ f', cPut (HF f) m 4 3 (.long y) = some (HF f') ∧ NS f' m gv y sv N Q ∧ Fx m (m + 2) f f' := by
  obtain ⟨h1, h2, h3, h4⟩ := h
  exact ⟨_, cPut_of (by omega) h2 (by show 3 < 5; omega) _, ⟨h1, by rw [up_at]; rfl, by rw [up_ne (by omega)]; exact h3, by rw [up_ne (by omega)]; exact h4⟩, Fx.up (by omega) (by omega)⟩
theorem NS.put4 (h : NS f m gv ls sv N Q) (y : Int32) : ∃ f', cPut (HF f) m 4 4 (.int y) = some (HF f') ∧ NS f' m gv ls y N Q ∧ Fx m (m + 2) f f' := by
  obtain ⟨h1, h2, h3, h4⟩ := h
  exact ⟨_, cPut_of (by omega) h2 (by show 4 < 5; omega) _, ⟨h1, by rw [up_at]; rfl, by rw [up_ne (by omega)]; exact h3, by rw [up_ne (by omega)]; exact h4⟩, Fx.up (by omega) (by omega)⟩
def NuI (n : Nat) (b : Bs) (N Q : Nat → Int32) : Prop := (∀ t, t < n → N t = match b.2.1 t with
  | none => -1
  | some i => nI i) ∧ ∀ i, i < b.1 → Q i = nI (b.2.2 i)
/-- the class numbers a square -/
theorem Cn_number {n : Nat} (hn : n ≤ 8) {b : Bs} (hb : BI n b) {t : Nat} (ht : t < n) (h : NS f m (nI b.1) ls sv N Q) (hI : NuI n b N Q) : ∃ f' N' Q' i, vI 36 m [.int (nI t)] (HF f) = some (nI i, HF f') ∧ (vis b t).2.1 t = some i ∧ NS f' m (nI (vis b t).1) ls sv N' Q' ∧ NuI n (vis b t) N' Q' ∧ Fx m (m + 2) f f' := by
  have pre := F36_eq m (nI t) (HF f)
  rw [h.r0] at pre
  simp only [Option.bind_some] at pre
  rw [h.ld0 (by omega), hI.1 t ht] at pre
  simp only [Option.bind_some] at pre
  cases e : b.2.1 t with
  | some i =>
    have ev : vis b t = b := by unfold vis; rw [e]
    have hi := (hb.1 t i e).1
    have hle := hb.le
    rw [e] at pre
    simp only at pre
    rw [if_pos (by rw [l0, iLE (by omega) (by omega)]; omega)] at pre
    exact ⟨f, N, Q, i, vI_of (ci := 4) rfl h.O pre, by rw [ev]; exact e, by rw [ev]; exact h, by rw [ev]; exact hI, Fx.rf⟩
  | none =>
    have ev : vis b t = (b.1 + 1, fu b.2.1 t (some b.1), fu b.2.2 b.1 t) := by unfold vis; rw [e]
    have hlt := hb.new ht e
    rw [e] at pre
    simp only at pre
    rw [if_neg (by decide), h.i2] at pre
    simp only [Option.bind_some] at pre
    obtain ⟨f1, a1, a2, a3⟩ := h.st0 (q := t) (by omega) (nI b.1)
    obtain ⟨f2, b1, b2, b3⟩ := a2.st1 (q := b.1) (by omega) (nI t)
    obtain ⟨f3, c1, c2, c3⟩ := b2.put2 (nI (b.1 + 1))
    rw [a1] at pre
    simp only [Option.bind_some] at pre
    rw [a2.r1, a2.i2] at pre
    simp only [Option.bind_some] at pre
    rw [b1] at pre
    simp only [Option.bind_some] at pre
    rw [b2.i2] at pre
    simp only [Option.bind_some] at pre
    rw [show nI b.1 + 1 = nI (b.1 + 1) from iAdd b.1 1, c1] at pre
    simp only [Option.bind_some] at pre
    rw [c2.r0] at pre
    simp only [Option.bind_some] at pre
    rw [c2.ld0 (by omega), pk_us] at pre
    refine ⟨f3, _, _, b.1, vI_of (ci := 4) rfl h.O pre, by rw [ev]; exact fu_at, by rw [ev]; exact c2, ?_, (a3.tr b3).tr c3⟩
    rw [ev]
    constructor
    · intro q hq
      show _ = match fu b.2.1 t (some b.1) q with
        | none => -1
        | some i => nI i
      by_cases eq : q = t
      · rw [eq, pk_us, fu_at]
      · rw [pk_un eq, fu_ne eq]
        exact hI.1 q hq
    · intro i hi
      show _ = nI (fu b.2.2 b.1 t i)
      by_cases eq : i = b.1
      · rw [eq, pk_us, fu_at]
      · rw [pk_un eq, fu_ne eq]
        exact hI.2 i (by have : i < b.1 + 1 := hi; omega)
theorem bfs_go {G : Gr} (h : Ok G) {s : Nat} (hs : s < G.1) {k : Nat} (hk : k < G.1) : k < (bfs G.2.1 G.2.2 s k).1 := by
  refine Nat.lt_of_not_le fun z => ?_
  have h1 := bfs_stop z (G.1 - k)
  rw [show k + (G.1 - k) = G.1 by omega] at h1
  have h2 := bfs_full h.1.2.2.1.1 h.1.2.2.2.1 hs h.2
  rw [h1] at h2
  omega
end C8
theorem sh3 {a b : Nat} (hb : b < 8) (h : a * 8 + b < 2 ^ 63) : (lN a <<< (Int32.toInt64 3 &&& 63)) ||| lN b = lN (a * 8 + b) := by
  rw [show (Int32.toInt64 3 &&& 63) = lN 3 from (pl_c 3 (by decide)).1]
  exact shlOr (d := 3) (pl_c 3 (by decide)).2 hb h
theorem pkv_8 {f : Nat → Nat} {m : Nat} (hm : m ≤ 16) (h : ∀ i, i < m → f i < 8) : pkv f m < 2 ^ 48 := by
  have h1 := pkv_lt_pow m h
  have h2 : 8 ^ m ≤ 8 ^ 16 := Nat.pow_le_pow_right (by decide) hm
  have h3 : (8 : Nat) ^ 16 = 2 ^ 48 := by decide
  omega
section C9
variable {f : Nat → mCell} {a m : Nat} {gv sv : Int32} {ls : Int64} {N Q : Nat → Int32} {G : Gr}
theorem Cn_row2 (hG : Ok G) {s : Nat} (hs : s < G.1) (hd : m + 2 < a ∨ a + 5 < m) {v2 : Int32} : ∀ (d i : Nat), i + d = G.1 → ∀ (f : Nat → mCell) (N Q : Nat → Int32) (d8 : Option Value), GV f a G → NS f m (nI (bfs G.2.1 G.2.2 s i).1) ls sv N Q → NuI G.1 (bfs G.2.1 G.2.2 s i) N Q → ∃ f' gv' N' Q', q35_41 m a v2 (lN (pkv (dgt G s) i)) (lN (pkv (fun k => dgt G s (G.1 + k)) i)) (nI i) d8 (HF f) = some (some (.long (lN (rowv G s))), HF f') ∧ NS f' m gv' ls sv N' Q' ∧ Fx m (m + 2) f f' := by
  have g2 := hG.1.2.1
  have hR := hG.1.2.2.1.1
  have hU := hG.1.2.2.2.1
  have hdl : ∀ k, k < 2 * G.1 → dgt G s k < 8 := fun k hk => by have := dgt_lt hG hs hk; omega
  intro d
  induction d with
  | zero =>
    intro i hi f N Q d8 hv h hI
    have : i = G.1 := by omega
    subst this
    refine ⟨f, _, N, Q, ?_, h, Fx.rf⟩
    rw [q35_41_eq, hv.nn]
    simp only [Option.bind_some]
    have q1 := pkv_8 (f := dgt G s) (m := G.1 + G.1) (by omega) (fun k hk => hdl k (by omega))
    have q2 := pkv_lt_pow (f := fun k => dgt G s (G.1 + k)) G.1 (fun k hk => hdl _ (by omega))
    have e8 : 2 ^ (3 * G.1) = 8 ^ G.1 := Nat.pow_mul 2 3 G.1
    have ea := pkv_add (dgt G s) G.1 G.1
    rw [if_pos (Int32.le_refl _), show (3 : Int32) * nI G.1 = nI (3 * G.1) from iMul 3 G.1, (pl_c (3 * G.1) (by omega)).1, shlOr (d := 3 * G.1) (pl_c (3 * G.1) (by omega)).2 (by rw [e8]; exact q2) (by rw [e8, ← ea]; omega), e8, ← ea]
    unfold rowv
    rw [show 2 * G.1 = G.1 + G.1 by omega]
  | succ d ih =>
    intro i hi f N Q d8 hv h hI
    have hin : i < G.1 := by omega
    have hgo := bfs_go hG hs hin
    have hBI := bfs_BI (n := G.1) hR hU hs i
    obtain ⟨od, hod⟩ : ∃ od, od = (bfs G.2.1 G.2.2 s i).2.2 i := ⟨_, rfl⟩
    have hodl : od < G.1 := by rw [hod]; exact (hBI.2 i hgo).1
    obtain ⟨r0, y1, y2⟩ := hv.ld0 g2 hodl
    have pre := q35_41_eq m a v2 (lN (pkv (dgt G s) i)) (lN (pkv (fun k => dgt G s (G.1 + k)) i)) (nI i) d8 (HF f)
    rw [hv.nn] at pre
    simp only [Option.bind_some] at pre
    rw [if_neg (by rw [iLE (by omega) (by omega)]; omega), h.r1] at pre
    simp only [Option.bind_some] at pre
    rw [h.ld1 (by omega), hI.2 i hgo, ← hod] at pre
    simp only [Option.bind_some] at pre
    rw [y1] at pre
    simp only [Option.bind_some] at pre
    rw [y2] at pre
    simp only [Option.bind_some] at pre
    obtain ⟨f1, N1, Q1, p1, a1, a2, a3, a4, a5⟩ := Cn_number g2 hBI (hR od hodl) h hI
    rw [a1] at pre
    simp only [Option.bind_some] at pre
    have hv1 := hv.fx a5 (by omega)
    obtain ⟨r1, z1, z2⟩ := hv1.ld1 g2 hodl
    rw [z1] at pre
    simp only [Option.bind_some] at pre
    rw [z2] at pre
    simp only [Option.bind_some] at pre
    obtain ⟨f2, N2, Q2, p2, b1, b2, b3, b4, b5⟩ := Cn_number g2 (hBI.vis (hR od hodl)) (hU od hodl) a3 a4
    rw [b1] at pre
    simp only [Option.bind_some] at pre
    have eb : bfs G.2.1 G.2.2 s (i + 1) = vis (vis (bfs G.2.1 G.2.2 s i) (G.2.1 od)) (G.2.2 od) := by
      show (if i < (bfs G.2.1 G.2.2 s i).1 then bst _ _ _ i else _) = _
      rw [if_pos hgo, hod]
      rfl
    have eod : (bfs G.2.1 G.2.2 s G.1).2.2 i = od := by
      have := bfs_od (R := G.2.1) (U := G.2.2) (s := s) hgo (G.1 - i)
      rw [show i + (G.1 - i) = G.1 by omega] at this
      rw [this, hod]
    have em : ∀ t p, (bfs G.2.1 G.2.2 s (i + 1)).2.1 t = some p → (bfs G.2.1 G.2.2 s G.1).2.1 t = some p := by
      intro t p hp
      have := bfs_mono hp (G.1 - (i + 1))
      rw [show i + 1 + (G.1 - (i + 1)) = G.1 by omega] at this
      exact this
    have d1 : dgt G s i = p1 := by
      unfold dgt
      rw [if_pos hin, eod, em _ p1 (by rw [eb]; exact vis_mono a2)]
      rfl
    have d2 : dgt G s (G.1 + i) = p2 := by
      unfold dgt
      rw [if_neg (by omega), show G.1 + i - G.1 = i by omega, eod, em _ p2 (by rw [eb]; exact b2)]
      rfl
    have k1 := hdl i (by omega)
    have k2 := hdl (G.1 + i) (by omega)
    have s1 := pkv_8 (f := dgt G s) (m := i) (by omega) (fun k hk => hdl k (by omega))
    have s2 := pkv_8 (f := fun k => dgt G s (G.1 + k)) (m := i) (by omega) (fun k hk => hdl _ (by omega))
    rw [nI_l (show p1 < 2 ^ 31 by omega), nI_l (show p2 < 2 ^ 31 by omega), sh3 (by omega) (by omega), sh3 (by omega) (by omega), show nI i + 1 = nI (i + 1) from iAdd i 1] at pre
    obtain ⟨f3, gv3, N3, Q3, c1, c2, c3⟩ := ih (i + 1) (by omega) f2 N2 Q2 (some (.int (nI od))) (hv1.fx b5 (by omega)) (by rw [eb]; exact b3) (by rw [eb]; exact b4)
    refine ⟨f3, gv3, N3, Q3, ?_, c2, (a5.tr b5).tr c3⟩
    rw [pre, ← d1, ← d2]
    exact c1
theorem Cn_row1 (hG : Ok G) {s : Nat} (hs : s < G.1) (hd : m + 2 < a ∨ a + 5 < m) : ∀ (d k : Nat), k + d = G.1 → ∀ (f : Nat → mCell) (gv : Int32) (N Q : Nat → Int32), GV f a G → NS f m gv ls sv N Q → (∀ q, q < k → N q = -1) → ∃ f' gv' N' Q', q35_2 m a (nI s) (nI k) (HF f) = some (some (.long (lN (rowv G s))), HF f') ∧ NS f' m gv' ls sv N' Q' ∧ Fx m (m + 2) f f' := by
  have g2 := hG.1.2.1
  intro d
  induction d with
  | zero =>
    intro k hk f gv N Q hv h hp
    have : k = G.1 := by omega
    subst this
    have pre := q35_2_eq m a (nI s) (nI G.1) (HF f)
    rw [hv.nn] at pre
    simp only [Option.bind_some] at pre
    obtain ⟨f1, a1, a2, a3⟩ := h.put2 0
    rw [if_pos (Int32.le_refl _), a1] at pre
    simp only [Option.bind_some] at pre
    have pre2 := F36_eq m (nI s) (HF f1)
    obtain ⟨f2, b1, b2, b3⟩ := a2.st0 (q := s) (by omega) 0
    obtain ⟨f3, c1, c2, c3⟩ := b2.st1 (q := 0) (by omega) (nI s)
    obtain ⟨f4, d1, d2, d3⟩ := c2.put2 1
    rw [a2.r0, a2.i2] at pre2
    simp only [Option.bind_some] at pre2
    rw [a2.ld0 (by omega), hp s hs] at pre2
    simp only [Option.bind_some] at pre2
    rw [if_neg (by decide), b1] at pre2
    simp only [Option.bind_some] at pre2
    rw [b2.r1, b2.i2] at pre2
    simp only [Option.bind_some] at pre2
    rw [show cAstI (HF f2) (m + 2) 0 (nI s) = some (HF f3) from c1] at pre2
    simp only [Option.bind_some] at pre2
    rw [c2.i2] at pre2
    simp only [Option.bind_some] at pre2
    rw [show (0 : Int32) + 1 = 1 from rfl, d1] at pre2
    simp only [Option.bind_some] at pre2
    rw [d2.r0] at pre2
    simp only [Option.bind_some] at pre2
    rw [d2.ld0 (by omega), pk_us] at pre2
    rw [vI_of (ci := 4) rfl a2.O pre2] at pre
    simp only [Option.bind_some] at pre
    have hx := ((a3.tr b3).tr c3).tr d3
    obtain ⟨f5, gv5, N5, Q5, e1, e2, e3⟩ := Cn_row2 (ls := ls) (sv := sv) hG hs hd (v2 := nI s) G.1 0 (by omega) f4 _ _ none (hv.fx hx (by omega)) d2 (by
      constructor
      · intro t ht
        show _ = match fu (fun _ => none) s (some 0) t with
          | none => -1
          | some i => nI i
        by_cases e : t = s
        · rw [e, pk_us, fu_at]; rfl
        · rw [pk_un e, fu_ne e]
          exact hp t ht
      · intro i hi
        have : i = 0 := by
          have : i < 1 := hi
          omega
        subst this
        rw [pk_us]
        exact congrArg nI (show s = fu (fun _ => 0) 0 s 0 from fu_at.symm))
    exact ⟨f5, gv5, N5, Q5, pre.trans e1, e2, hx.tr e3⟩
  | succ d ih =>
    intro k hk f gv N Q hv h hp
    obtain ⟨f1, a1, a2, a3⟩ := h.st0 (q := k) (by omega) (-1)
    obtain ⟨f2, gv2, N2, Q2, b1, b2, b3⟩ := ih (k + 1) (by omega) f1 gv _ Q (hv.fx a3 (by omega)) a2 (by
      intro q hq
      by_cases e : q = k
      · rw [e, pk_us]
      · rw [pk_un e]
        exact hp q (by omega))
    refine ⟨f2, gv2, N2, Q2, ?_, b2, a3.tr b3⟩
    rw [q35_2_eq, hv.nn]
    simp only [Option.bind_some]
    rw [if_neg (by rw [iLE (by omega) (by omega)]; omega), h.r0]
    simp only [Option.bind_some]
    rw [a1]
    simp only [Option.bind_some]
    rw [show nI k + 1 = nI (k + 1) from iAdd k 1]
    exact b1
theorem Cn_row (hG : Ok G) {s : Nat} (hs : s < G.1) (hd : m + 2 < a ∨ a + 5 < m) (hv : GV f a G) (h : NS f m gv ls sv N Q) : ∃ f' gv' N' Q', vL 35 m [.ref a, .int (nI s)] (HF f) = some (lN (rowv G s), HF f') ∧ NS f' m gv' ls sv N' Q' ∧ Fx m (m + 2) f f' := by
  obtain ⟨f2, gv2, N2, Q2, b1, b2, b3⟩ := Cn_row1 (ls := ls) (sv := sv) hG hs hd G.1 0 (by omega) f gv N Q hv h (fun q hq => by omega)
  refine ⟨f2, gv2, N2, Q2, vL_of (ci := 4) rfl h.O ?_, b2, b3⟩
  rw [F35_eq]
  exact b1
def NA (f : Nat → mCell) (m : Nat) : Prop := ∃ gv ls sv N Q, NS f m gv ls sv N Q
def NV (f : Nat → mCell) (m : Nat) (G : Gr) : Prop := ∃ gv N Q, NS f m gv (lN (nmV G)) (nI (nmS G)) N Q
theorem NA.fx (h : NA f m) {lo hi : Nat} {f' : Nat → mCell} (hf : Fx lo hi f f') (hd : m + 2 < lo ∨ hi < m) : NA f' m := by
  obtain ⟨v1, v2, v3, v4, v5, h⟩ := h
  exact ⟨v1, v2, v3, v4, v5, h.fx hf hd⟩
theorem NV.fx (h : NV f m G) {lo hi : Nat} {f' : Nat → mCell} (hf : Fx lo hi f f') (hd : m + 2 < lo ∨ hi < m) : NV f' m G := by
  obtain ⟨v1, v4, v5, h⟩ := h
  exact ⟨v1, v4, v5, h.fx hf hd⟩
theorem NV.na (h : NV f m G) : NA f m := by
  obtain ⟨v1, v4, v5, h⟩ := h
  exact ⟨v1, _, _, v4, v5, h⟩
theorem Cn_lk (hG : Ok G) (hd : m + 2 < a ∨ a + 5 < m) : ∀ (d k : Nat), k + d = G.1 → ∀ (f : Nat → mCell) (gv : Int32) (N Q : Nat → Int32) (L V : Nat) (d3 d4 : Option Value), GV f a G → NS f m gv (lN L) (nI V) N Q → ((L, V) = nmA G k ∨ (k = 0 ∧ L = 2 ^ 63 - 1 ∧ V = 0)) → ∃ f' gv' N' Q', q34_14 m a (nI k) d3 d4 (HF f) = some (none, HF f') ∧ NS f' m gv' (lN (nmV G)) (nI (nmS G)) N' Q' ∧ Fx m (m + 2) f f' := by
  have g1 := hG.1.1
  have g2 := hG.1.2.1
  intro d
  induction d with
  | zero =>
    intro k hk f gv N Q L V d3 d4 hv h hp
    have : k = G.1 := by omega
    subst this
    have hp' : (L, V) = nmA G G.1 := hp.resolve_right (fun z => by omega)
    refine ⟨f, gv, N, Q, ?_, ?_, Fx.rf⟩
    · rw [q34_14_eq, hv.nn]
      simp only [Option.bind_some]
      rw [if_pos (Int32.le_refl _)]
    · unfold nmV nmS
      rw [← hp']
      exact h
  | succ d ih =>
    intro k hk f gv N Q L V d3 d4 hv h hp
    have hk1 : k < G.1 := by omega
    have h48 : (8 : Nat) ^ 16 = 2 ^ 48 := by decide
    have hr := rowv_lt hG hk1
    have hL : L < 2 ^ 63 ∧ (if rowv G k < L then (rowv G k, 1) else if rowv G k = L then (L, V + 1) else (L, V)) = nmA G (k + 1) := by
      rcases hp with hp | ⟨z1, z2, z3⟩
      · have e1 : L = (nmA G k).1 := by rw [← hp]
        have e2 : V = (nmA G k).2 := by rw [← hp]
        constructor
        · rw [e1]
          cases k with
          | zero =>
            show 8 ^ 16 < 2 ^ 63
            decide
          | succ k =>
            obtain ⟨s, s1, s2⟩ := nmA_row hG (k + 1) (by omega) (by omega)
            rw [s2]
            have := rowv_lt hG (show s < G.1 by omega)
            omega
        · rw [e1, e2]
          rfl
      · subst z1
        refine ⟨by omega, ?_⟩
        rw [if_pos (by omega), nmA_1 hG]
    obtain ⟨f1, gv1, N1, Q1, a1, a2, a3⟩ := Cn_row hG hk1 hd hv h
    have hv1 := hv.fx a3 (by omega)
    have pre := q34_14_eq m a (nI k) d3 d4 (HF f)
    rw [hv.nn] at pre
    simp only [Option.bind_some] at pre
    rw [if_neg (by rw [iLE (by omega) (by omega)]; omega), a1] at pre
    simp only [Option.bind_some] at pre
    rw [a2.l3] at pre
    simp only [Option.bind_some] at pre
    have q1 : (0 ≤ lg_cmp (lN (rowv G k)) (lN L)) = (L ≤ rowv G k) := by
      rw [lg_cmp_ge]
      exact propext (pk_lLE (by omega) (by omega))
    have q2 : (lg_cmp (lN (rowv G k)) (lN L) = 0) = (rowv G k = L) := by
      rw [lg_cmp_eq]
      exact propext (pk_lEQ (by omega) (by omega))
    have q3 : (lg_cmp (lN (rowv G k)) (lN (rowv G k)) = 0) = True := by
      rw [lg_cmp_eq]
      exact eq_true rfl
    rw [show nI k + 1 = nI (k + 1) from iAdd k 1] at pre
    simp only [q1, q2] at pre
    by_cases c0 : rowv G k < L
    · rw [if_neg (by omega)] at pre
      obtain ⟨f2, b1, b2, b3⟩ := a2.put3 (lN (rowv G k))
      obtain ⟨f3, c1, c2, c3⟩ := b2.put4 0
      obtain ⟨f4, d1, d2, d3'⟩ := c2.put4 1
      rw [b1] at pre
      simp only [Option.bind_some] at pre
      rw [c1] at pre
      simp only [Option.bind_some] at pre
      rw [c2.l3, c2.i4] at pre
      simp only [Option.bind_some] at pre
      rw [if_neg (by rw [q3]; exact fun z => z trivial), show (0 : Int32) + 1 = 1 from rfl, d1] at pre
      simp only [Option.bind_some] at pre
      have hx := ((a3.tr b3).tr c3).tr d3'
      obtain ⟨f5, gv5, N5, Q5, e1, e2, e3⟩ := ih (k + 1) (by omega) f4 gv1 N1 Q1 (rowv G k) 1 (some (.long (lN (rowv G k)))) none (hv.fx hx (by omega)) d2 (Or.inl (by rw [← hL.2, if_pos c0]))
      exact ⟨f5, gv5, N5, Q5, pre.trans e1, e2, hx.tr e3⟩
    · rw [if_pos (by omega)] at pre
      by_cases c1 : rowv G k = L
      · rw [if_neg (fun z => z c1), a2.i4] at pre
        simp only [Option.bind_some] at pre
        obtain ⟨f2, b1, b2, b3⟩ := a2.put4 (nI (V + 1))
        rw [show nI V + 1 = nI (V + 1) from iAdd V 1, b1] at pre
        simp only [Option.bind_some] at pre
        have hx := a3.tr b3
        obtain ⟨f5, gv5, N5, Q5, e1, e2, e3⟩ := ih (k + 1) (by omega) f2 gv1 N1 Q1 L (V + 1) (some (.long (lN (rowv G k)))) none (hv.fx hx (by omega)) b2 (Or.inl (by rw [← hL.2, if_neg c0, if_pos c1]))
        exact ⟨f5, gv5, N5, Q5, pre.trans e1, e2, hx.tr e3⟩
      · rw [if_pos c1] at pre
        obtain ⟨f5, gv5, N5, Q5, e1, e2, e3⟩ := ih (k + 1) (by omega) f1 gv1 N1 Q1 L V (some (.long (lN (rowv G k)))) none hv1 a2 (Or.inl (by rw [← hL.2, if_neg c0, if_neg c1]))
        exact ⟨f5, gv5, N5, Q5, pre.trans e1, e2, a3.tr e3⟩
theorem Cn_look (hG : Ok G) (hd : m + 2 < a ∨ a + 5 < m) (hv : GV f a G) (h : NA f m) : ∃ f', vV 34 m [.ref a] (HF f) = some (HF f') ∧ NV f' m G ∧ Fx m (m + 2) f f' := by
  obtain ⟨gv, ls, sv, N, Q, h⟩ := h
  obtain ⟨f1, a1, a2, a3⟩ := h.put3 9223372036854775807
  obtain ⟨f2, b1, b2, b3⟩ := a2.put4 0
  have hx := a3.tr b3
  obtain ⟨f3, gv3, N3, Q3, c1, c2, c3⟩ := Cn_lk hG hd G.1 0 (by omega) f2 gv N Q (2 ^ 63 - 1) 0 none none (hv.fx hx (by omega)) (by rw [show lN (2 ^ 63 - 1) = (9223372036854775807 : Int64) by decide +kernel]; exact b2) (Or.inr ⟨rfl, rfl, rfl⟩)
  refine ⟨f3, vV_of (ci := 4) rfl h.O ?_, ⟨gv3, N3, Q3, c2⟩, hx.tr c3⟩
  rw [F34_eq, a1]
  simp only [Option.bind_some]
  rw [b1]
  simp only [Option.bind_some]
  exact c1
end C9
