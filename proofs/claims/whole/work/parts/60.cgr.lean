/-! the class: its grounds -/
def AI (g : Nat → Int32) : mCell := .inl (0, 8, .inl g)
def Fx (lo hi : Nat) (f f' : Nat → mCell) : Prop := ∀ b, (b < lo ∨ hi < b) → f' b = f b
theorem Fx.rf {lo hi : Nat} {f : Nat → mCell} : Fx lo hi f f := fun _ _ => rfl
theorem Fx.tr {lo hi : Nat} {f g k : Nat → mCell} (h1 : Fx lo hi f g) (h2 : Fx lo hi g k) : Fx lo hi f k := fun b hb => (h2 b hb).trans (h1 b hb)
theorem Fx.wi {lo hi lo' hi' : Nat} {f g : Nat → mCell} (h : Fx lo hi f g) (h1 : lo' ≤ lo) (h2 : hi ≤ hi') : Fx lo' hi' f g := fun b hb => h b (by omega)
theorem Fx.up {lo hi a : Nat} {f : Nat → mCell} {c : mCell} (h1 : lo ≤ a) (h2 : a ≤ hi) : Fx lo hi f (up f a c) := fun b hb => up_ne (by omega)
def gOb (n : Int32) (ρ : Nat → Nat) : List Value := [.int n, .ref (ρ 0), .ref (ρ 1), .ref (ρ 2), .ref (ρ 3), .ref (ρ 4)]
/-- a ground's object and its five rows: right, up, left, down, spare -/
def GS (f : Nat → mCell) (a : Nat) (n : Int32) (ρ : Nat → Nat) (C : Nat → Nat → Int32) : Prop := a < 126 ∧ (∀ i, i < 5 → a < ρ i ∧ ρ i ≤ a + 5) ∧ (∀ i j, i < 5 → j < 5 → ρ i = ρ j → i = j) ∧ f a = .inr (3, gOb n ρ) ∧ ∀ i, i < 5 → f (ρ i) = AI (C i)
section C1
variable {f : Nat → mCell} {a : Nat} {n : Int32} {ρ : Nat → Nat} {C : Nat → Nat → Int32}
theorem GS.fx (h : GS f a n ρ C) {lo hi : Nat} {f' : Nat → mCell} (hf : Fx lo hi f f') (hd : a + 5 < lo ∨ hi < a) : GS f' a n ρ C := by
  obtain ⟨h1, h2, h3, h4, h5⟩ := h
  exact ⟨h1, h2, h3, by rw [hf a (by omega)]; exact h4, fun i hi => by rw [hf _ (by have := h2 i hi; omega)]; exact h5 i hi⟩
theorem GS.O (h : GS f a n ρ C) : gO (HF f) a 3 = some () := gO_of (by have := h.1; omega) h.2.2.2.1
theorem GS.nn (h : GS f a n ρ C) : gI (HF f) a 3 0 = some n := gI_of (by have := h.1; omega) h.2.2.2.1 rfl
theorem GS.r0 (h : GS f a n ρ C) : gR (HF f) a 3 1 = some (ρ 0) := gR_of (by have := h.1; omega) h.2.2.2.1 rfl
theorem GS.r1 (h : GS f a n ρ C) : gR (HF f) a 3 2 = some (ρ 1) := gR_of (by have := h.1; omega) h.2.2.2.1 rfl
theorem GS.r2 (h : GS f a n ρ C) : gR (HF f) a 3 3 = some (ρ 2) := gR_of (by have := h.1; omega) h.2.2.2.1 rfl
theorem GS.r3 (h : GS f a n ρ C) : gR (HF f) a 3 4 = some (ρ 3) := gR_of (by have := h.1; omega) h.2.2.2.1 rfl
theorem GS.r4 (h : GS f a n ρ C) : gR (HF f) a 3 5 = some (ρ 4) := gR_of (by have := h.1; omega) h.2.2.2.1 rfl
theorem GS.ld (h : GS f a n ρ C) {i q : Nat} (hi : i < 5) (hq : q < 8) : cAldI false (HF f) (ρ i) (nI q) = some (C i q) := cAldI_of (by have := h.1; have := h.2.1 i hi; omega) (h.2.2.2.2 i hi) hq (by omega)
theorem GS.st (h : GS f a n ρ C) {i q : Nat} (hi : i < 5) (hq : q < 8) (v : Int32) : ∃ f', cAstI (HF f) (ρ i) (nI q) v = some (HF f') ∧ GS f' a n ρ (fu C i (upd (C i) q v)) ∧ Fx a (a + 5) f f' := by
  obtain ⟨h1, h2, h3, h4, h5⟩ := h
  have hr := h2 i hi
  refine ⟨_, cAstI_of (by omega) (h5 i hi) hq (by omega) v, ⟨h1, h2, h3, by rw [up_ne (by omega)]; exact h4, fun j hj => ?_⟩, Fx.up (by omega) (by omega)⟩
  by_cases e : j = i
  · subst e; rw [up_at, fu_at]; rfl
  · rw [up_ne (fun z => e (h3 j i hj hi z)), fu_ne e]; exact h5 j hj
theorem GS.setN (h : GS f a n ρ C) (m : Int32) : ∃ f', cPut (HF f) a 3 0 (.int m) = some (HF f') ∧ GS f' a m ρ C ∧ Fx a (a + 5) f f' := by
  obtain ⟨h1, h2, h3, h4, h5⟩ := h
  refine ⟨_, cPut_of (by omega) h4 (by show 0 < 6; omega) _, ⟨h1, h2, h3, by rw [up_at]; rfl, fun j hj => ?_⟩, Fx.up (by omega) (by omega)⟩
  have := h2 j hj
  rw [up_ne (by omega)]
  exact h5 j hj
/-- the object alone is written -/
theorem GS.obj (h : GS f a n ρ C) {ρ' : Nat → Nat} {C' : Nat → Nat → Int32} {f' : Nat → mCell} (hf : ∀ b, b ≠ a → f' b = f b) (h0 : f' a = .inr (3, gOb n ρ')) (hp : ∀ i, i < 5 → ∃ j, j < 5 ∧ ρ' i = ρ j ∧ C' i = C j) (hq : ∀ i j, i < 5 → j < 5 → ρ' i = ρ' j → i = j) : GS f' a n ρ' C' := by
  obtain ⟨h1, h2, h3, h4, h5⟩ := h
  refine ⟨h1, fun i hi => ?_, hq, h0, fun i hi => ?_⟩
  · obtain ⟨j, j1, j2, j3⟩ := hp i hi
    rw [j2]
    exact h2 j j1
  · obtain ⟨j, j1, j2, j3⟩ := hp i hi
    have := h2 j j1
    rw [j2, hf _ (by omega), h5 j j1, j3]
end C1
/-- a ground that is there -/
def GC (G : Gr) (C : Nat → Nat → Int32) : Prop := ∀ q, q < G.1 → C 0 q = nI (G.2.1 q) ∧ C 1 q = nI (G.2.2 q) ∧ C 2 q = nI (inv G.1 G.2.1 q) ∧ C 3 q = nI (inv G.1 G.2.2 q)
def GV (f : Nat → mCell) (a : Nat) (G : Gr) : Prop := ∃ ρ C, GS f a (nI G.1) ρ C ∧ GC G C
def GA (f : Nat → mCell) (a : Nat) : Prop := ∃ n ρ C, GS f a n ρ C
theorem GV.fx {f : Nat → mCell} {a : Nat} {G : Gr} (h : GV f a G) {lo hi : Nat} {f' : Nat → mCell} (hf : Fx lo hi f f') (hd : a + 5 < lo ∨ hi < a) : GV f' a G := by
  obtain ⟨ρ, C, h1, h2⟩ := h
  exact ⟨ρ, C, h1.fx hf hd, h2⟩
theorem GA.fx {f : Nat → mCell} {a : Nat} (h : GA f a) {lo hi : Nat} {f' : Nat → mCell} (hf : Fx lo hi f f') (hd : a + 5 < lo ∨ hi < a) : GA f' a := by
  obtain ⟨n, ρ, C, h1⟩ := h
  exact ⟨n, ρ, C, h1.fx hf hd⟩
theorem GV.ga {f : Nat → mCell} {a : Nat} {G : Gr} (h : GV f a G) : GA f a := by
  obtain ⟨ρ, C, h1, h2⟩ := h
  exact ⟨_, ρ, C, h1⟩
theorem inv_inv {n : Nat} {R : Nat → Nat} (h : Prm n R) {q : Nat} (hq : q < n) : inv n (inv n R) q = R q := inv_uniq (inv_prm h) (h.1 q hq) (inv_l h hq)
section C2
variable {f : Nat → mCell} {a : Nat} {G : Gr}
/-- glue -/
def GP (A B : Nat → Nat) (k : Nat) (C : Nat → Nat → Int32) : Prop := ∀ q, q < k → C 0 q = nI (A q) ∧ C 2 (A q) = nI q ∧ C 1 q = nI (B q) ∧ C 3 (B q) = nI q
theorem Cg_glue {m : Int32} {n : Nat} {A B : Nat → Nat} {ρ : Nat → Nat} {C : Nat → Nat → Int32} (hn : n ≤ 8) (hA : Prm n A) (hB : Prm n B) {k : Nat} (hk : k < n) (h : GS f a m ρ C) (hp : GP A B k C) : ∃ f' C', vV 24 a [.int (nI k), .int (nI (A k)), .int (nI (B k))] (HF f) = some (HF f') ∧ GS f' a m ρ C' ∧ GP A B (k + 1) C' ∧ Fx a (a + 5) f f' := by
  have hAk := hA.1 k hk
  have hBk := hB.1 k hk
  obtain ⟨f1, a1, a2, a3⟩ := h.st (i := 0) (q := k) (by decide) (by omega) (nI (A k))
  obtain ⟨f2, b1, b2, b3⟩ := a2.st (i := 2) (q := A k) (by decide) (by omega) (nI k)
  obtain ⟨f3, c1, c2, c3⟩ := b2.st (i := 1) (q := k) (by decide) (by omega) (nI (B k))
  obtain ⟨f4, d1, d2, d3⟩ := c2.st (i := 3) (q := B k) (by decide) (by omega) (nI k)
  refine ⟨f4, _, vV_of (ci := 3) rfl h.O ?_, d2, ?_, ((a3.tr b3).tr c3).tr d3⟩
  · rw [F24_eq, h.r0]
    simp only [Option.bind_some]
    rw [a1]
    simp only [Option.bind_some]
    rw [a2.r2]
    simp only [Option.bind_some]
    rw [b1]
    simp only [Option.bind_some]
    rw [b2.r1]
    simp only [Option.bind_some]
    rw [c1]
    simp only [Option.bind_some]
    rw [c2.r3]
    simp only [Option.bind_some]
    rw [d1]
    rfl
  · intro q hq
    simp only [fu_at, fu_ne (show 0 ≠ 3 by decide), fu_ne (show 0 ≠ 1 by decide), fu_ne (show 0 ≠ 2 by decide), fu_ne (show 2 ≠ 3 by decide), fu_ne (show 2 ≠ 1 by decide), fu_ne (show 2 ≠ 0 by decide), fu_ne (show 1 ≠ 3 by decide), fu_ne (show 1 ≠ 2 by decide), fu_ne (show 1 ≠ 0 by decide), fu_ne (show 3 ≠ 1 by decide), fu_ne (show 3 ≠ 2 by decide), fu_ne (show 3 ≠ 0 by decide)]
    by_cases e : q = k
    · subst e
      rw [pk_us, pk_us, pk_us, pk_us]
      exact ⟨rfl, rfl, rfl, rfl⟩
    · obtain ⟨p1, p2, p3, p4⟩ := hp q (by omega)
      rw [pk_un e, pk_un (fun z => e (hA.2 q k (by omega) hk z)), pk_un e, pk_un (fun z => e (hB.2 q k (by omega) hk z))]
      exact ⟨p1, p2, p3, p4⟩
theorem GP.full {n : Nat} {A B : Nat → Nat} {C : Nat → Nat → Int32} (hA : Prm n A) (hB : Prm n B) (h : GP A B n C) : GC (n, A, B) C := by
  intro q hq
  have hq' : q < n := hq
  obtain ⟨i1, i2⟩ := inv_ok hA hq'
  obtain ⟨j1, j2⟩ := inv_ok hB hq'
  have p1 := h q hq'
  have p2 := (h _ i1).2.1
  have p3 := (h _ j1).2.2.2
  rw [i2] at p2
  rw [j2] at p3
  exact ⟨p1.1, p1.2.2.1, p2, p3⟩
theorem GC.gp (hG : Gd G) {C : Nat → Nat → Int32} (h : GC G C) (k : Nat) (hk : k ≤ G.1) : GP G.2.1 G.2.2 k C := by
  intro q hq
  obtain ⟨a1, a2, a3, a4⟩ := h q (by omega)
  have b1 := (h _ (hG.2.2.1.1 q (by omega))).2.2.1
  have b2 := (h _ (hG.2.2.2.1 q (by omega))).2.2.2
  rw [inv_l hG.2.2.1 (by omega)] at b1
  rw [inv_l hG.2.2.2 (by omega)] at b2
  exact ⟨a1, b1, a2, b2⟩
/-- become another -/
theorem Cg_becomeL (hG : Gd G) {b : Nat} {ρ : Nat → Nat} (hd : a + 5 < b ∨ b + 5 < a) : ∀ (d k : Nat), k + d = G.1 → ∀ (f : Nat → mCell) (C : Nat → Nat → Int32), GV f b G → GS f a (nI G.1) ρ C → GP G.2.1 G.2.2 k C → ∃ f' C', q23_10 a b (nI k) (HF f) = some (none, HF f') ∧ GS f' a (nI G.1) ρ C' ∧ GP G.2.1 G.2.2 G.1 C' ∧ Fx a (a + 5) f f' := by
  have g2 := hG.2.1
  intro d
  induction d with
  | zero =>
    intro k hk f C hv h hp
    have ek : k = G.1 := by omega
    subst ek
    refine ⟨f, C, ?_, h, hp, Fx.rf⟩
    rw [q23_10_eq, h.nn]
    simp only [Option.bind_some]
    rw [if_pos (by rw [iLE (by omega) (by omega)]; omega)]
  | succ d ih =>
    intro k hk f C hv h hp
    obtain ⟨f1, C1, a1, a2, a3, a4⟩ := Cg_glue hG.2.1 hG.2.2.1 hG.2.2.2 (show k < G.1 by omega) h hp
    obtain ⟨f2, C2, b1, b2, b3, b4⟩ := ih (k + 1) (by omega) f1 C1 (hv.fx a4 (by omega)) a2 a3
    refine ⟨f2, C2, ?_, b2, b3, a4.tr b4⟩
    obtain ⟨σ, D, v1, v2⟩ := hv
    obtain ⟨w1, w2, _, _⟩ := v2 k (by omega)
    rw [q23_10_eq, h.nn]
    simp only [Option.bind_some]
    rw [if_neg (by rw [iLE (by omega) (by omega)]; omega), v1.r0]
    simp only [Option.bind_some]
    rw [v1.ld (i := 0) (by decide) (show k < 8 by omega), w1]
    simp only [Option.bind_some]
    rw [v1.r1]
    simp only [Option.bind_some]
    rw [v1.ld (i := 1) (by decide) (show k < 8 by omega), w2]
    simp only [Option.bind_some]
    rw [a1]
    simp only [Option.bind_some]
    rw [show nI k + 1 = nI (k + 1) from iAdd k 1]
    exact b1
theorem Cg_become (hG : Gd G) {b : Nat} (hd : a + 5 < b ∨ b + 5 < a) (hv : GV f b G) (h : GA f a) : ∃ f', vV 23 a [.ref b] (HF f) = some (HF f') ∧ GV f' a G ∧ Fx a (a + 5) f f' := by
  obtain ⟨n, ρ, C, h1⟩ := h
  obtain ⟨f1, a1, a2, a3⟩ := h1.setN (nI G.1)
  obtain ⟨f2, C2, b1, b2, b3, b4⟩ := Cg_becomeL hG hd G.1 0 (by omega) f1 C (hv.fx a3 (by omega)) a2 (fun q hq => by omega)
  refine ⟨f2, vV_of (ci := 3) rfl h1.O ?_, ⟨ρ, C2, b2, b3.full hG.2.2.1 hG.2.2.2⟩, a3.tr b4⟩
  obtain ⟨σ, D, v1, v2⟩ := hv
  rw [F23_eq, v1.nn]
  simp only [Option.bind_some]
  rw [a1]
  exact b1
/-- become itself -/
theorem Cg_selfL (hG : Gd G) {ρ : Nat → Nat} : ∀ (d k : Nat), k + d = G.1 → ∀ (f : Nat → mCell) (C : Nat → Nat → Int32), GS f a (nI G.1) ρ C → GC G C → ∃ f' C', q23_10 a a (nI k) (HF f) = some (none, HF f') ∧ GS f' a (nI G.1) ρ C' ∧ GC G C' ∧ Fx a (a + 5) f f' := by
  have g2 := hG.2.1
  intro d
  induction d with
  | zero =>
    intro k hk f C h hp
    have ek : k = G.1 := by omega
    subst ek
    refine ⟨f, C, ?_, h, hp, Fx.rf⟩
    rw [q23_10_eq, h.nn]
    simp only [Option.bind_some]
    rw [if_pos (by rw [iLE (by omega) (by omega)]; omega)]
  | succ d ih =>
    intro k hk f C h hp
    have hkn : k < G.1 := by omega
    have hAk := hG.2.2.1.1 k hkn
    have hBk := hG.2.2.2.1 k hkn
    obtain ⟨w1, w2, _, _⟩ := hp k hkn
    obtain ⟨f1, a1, a2, a3⟩ := h.st (i := 0) (q := k) (by decide) (by omega) (nI (G.2.1 k))
    obtain ⟨f2, b1, b2, b3⟩ := a2.st (i := 2) (q := G.2.1 k) (by decide) (by omega) (nI k)
    obtain ⟨f3, c1, c2, c3⟩ := b2.st (i := 1) (q := k) (by decide) (by omega) (nI (G.2.2 k))
    obtain ⟨f4, d1, d2, d3⟩ := c2.st (i := 3) (q := G.2.2 k) (by decide) (by omega) (nI k)
    have e24 : vV 24 a [.int (nI k), .int (nI (G.2.1 k)), .int (nI (G.2.2 k))] (HF f) = some (HF f4) := by
      refine vV_of (ci := 3) rfl h.O ?_
      rw [F24_eq, h.r0]
      simp only [Option.bind_some]
      rw [a1]
      simp only [Option.bind_some]
      rw [a2.r2]
      simp only [Option.bind_some]
      rw [b1]
      simp only [Option.bind_some]
      rw [b2.r1]
      simp only [Option.bind_some]
      rw [c1]
      simp only [Option.bind_some]
      rw [c2.r3]
      simp only [Option.bind_some]
      rw [d1]
      rfl
    obtain ⟨fz, Cz, z1, z2, z3, z4⟩ := ih (k + 1) (by omega) f4 _ d2 (by
      intro q hq
      simp only [fu_at, fu_ne (show 0 ≠ 3 by decide), fu_ne (show 0 ≠ 1 by decide), fu_ne (show 0 ≠ 2 by decide), fu_ne (show 2 ≠ 3 by decide), fu_ne (show 2 ≠ 1 by decide), fu_ne (show 2 ≠ 0 by decide), fu_ne (show 1 ≠ 3 by decide), fu_ne (show 1 ≠ 2 by decide), fu_ne (show 1 ≠ 0 by decide), fu_ne (show 3 ≠ 1 by decide), fu_ne (show 3 ≠ 2 by decide), fu_ne (show 3 ≠ 0 by decide)]
      obtain ⟨p1, p2, p3, p4⟩ := hp q hq
      refine ⟨?_, ?_, ?_, ?_⟩
      · by_cases e : q = k
        · subst e; exact pk_us
        · rw [pk_un e]; exact p1
      · by_cases e : q = k
        · subst e; exact pk_us
        · rw [pk_un e]; exact p2
      · by_cases e : q = G.2.1 k
        · subst e; rw [pk_us, inv_l hG.2.2.1 hkn]
        · rw [pk_un e]; exact p3
      · by_cases e : q = G.2.2 k
        · subst e; rw [pk_us, inv_l hG.2.2.2 hkn]
        · rw [pk_un e]; exact p4)
    refine ⟨fz, Cz, ?_, z2, z3, (((a3.tr b3).tr c3).tr d3).tr z4⟩
    rw [q23_10_eq, h.nn]
    simp only [Option.bind_some]
    rw [if_neg (by rw [iLE (by omega) (by omega)]; omega), h.r0]
    simp only [Option.bind_some]
    rw [h.ld (i := 0) (by decide) (show k < 8 by omega), w1]
    simp only [Option.bind_some]
    rw [h.r1]
    simp only [Option.bind_some]
    rw [h.ld (i := 1) (by decide) (show k < 8 by omega), w2]
    simp only [Option.bind_some]
    rw [e24]
    simp only [Option.bind_some]
    rw [show nI k + 1 = nI (k + 1) from iAdd k 1]
    exact z1
theorem Cg_self (hG : Gd G) (hv : GV f a G) : ∃ f', vV 23 a [.ref a] (HF f) = some (HF f') ∧ GV f' a G ∧ Fx a (a + 5) f f' := by
  obtain ⟨ρ, C, h1, h2⟩ := hv
  obtain ⟨f1, a1, a2, a3⟩ := h1.setN (nI G.1)
  obtain ⟨f2, C2, b1, b2, b3, b4⟩ := Cg_selfL hG G.1 0 (by omega) f1 C a2 h2
  refine ⟨f2, vV_of (ci := 3) rfl h1.O ?_, ⟨ρ, C2, b2, b3⟩, a3.tr b4⟩
  rw [F23_eq, h1.nn]
  simp only [Option.bind_some]
  rw [a1]
  exact b1
end C2
