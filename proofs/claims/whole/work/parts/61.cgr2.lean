section C3
variable {f : Nat → mCell} {a : Nat} {G : Gr}
theorem GS.perm {n : Int32} {ρ : Nat → Nat} {C : Nat → Nat → Int32} (h : GS f a n ρ C) (τ : Nat → Nat) (h1 : ∀ i, i < 5 → τ i < 5) (h2 : ∀ i, i < 5 → ∀ j, j < 5 → τ i = τ j → i = j) {f' : Nat → mCell} (hf : ∀ b, b ≠ a → f' b = f b) (h0 : f' a = .inr (3, gOb n (fun i => ρ (τ i)))) : GS f' a n (fun i => ρ (τ i)) (fun i => C (τ i)) :=
  h.obj hf h0 (fun i hi => ⟨τ i, h1 i hi, rfl, rfl⟩) (fun i j hi hj e => h2 i hi j hj (h.2.2.1 _ _ (h1 i hi) (h1 j hj) e))
def tQ (i : Nat) : Nat := ([3, 0, 1, 2, 4] : List Nat).getD i 0
def tB (i : Nat) : Nat := ([1, 2, 3, 0, 4] : List Nat).getD i 0
def tU (i : Nat) : Nat := ([0, 4, 2, 3, 1] : List Nat).getD i 0
def tD (i : Nat) : Nat := ([0, 1, 2, 4, 3] : List Nat).getD i 0
theorem Cg_quarter (hG : Gd G) (h : GV f a G) : ∃ f', vV 27 a [] (HF f) = some (HF f') ∧ GV f' a (tuG false G) ∧ Fx a (a + 5) f f' := by
  obtain ⟨ρ, C, h1, h2⟩ := h
  have h132 : a < 132 := by have := h1.1; omega
  have g4 := h1.2.2.2.1
  have len : ∀ r : Nat → Nat, (gOb (nI G.1) r).length = 6 := fun _ => rfl
  refine ⟨_, vV_of (ci := 3) rfl h1.O ?_, ⟨_, _, h1.perm tQ (by decide) (by decide) (f' := up (up (up (up f a (.inr (3, (gOb (nI G.1) ρ).set 1 (.ref (ρ 3))))) a (.inr (3, ((gOb (nI G.1) ρ).set 1 (.ref (ρ 3))).set 4 (.ref (ρ 2))))) a (.inr (3, (((gOb (nI G.1) ρ).set 1 (.ref (ρ 3))).set 4 (.ref (ρ 2))).set 3 (.ref (ρ 1))))) a (.inr (3, ((((gOb (nI G.1) ρ).set 1 (.ref (ρ 3))).set 4 (.ref (ρ 2))).set 3 (.ref (ρ 1))).set 2 (.ref (ρ 0))))) (fun b hb => by rw [up_ne hb, up_ne hb, up_ne hb, up_ne hb]) (by rw [up_at]; rfl), ?_⟩, fun b hb => by rw [up_ne (by omega), up_ne (by omega), up_ne (by omega), up_ne (by omega)]⟩
  · rw [F27_eq, h1.r0]
    simp only [Option.bind_some]
    rw [h1.r3]
    simp only [Option.bind_some]
    rw [cPut_of h132 g4 (by simp [gOb])]
    simp only [Option.bind_some]
    rw [gR_of h132 up_at (x := ρ 2) rfl]
    simp only [Option.bind_some]
    rw [cPut_of h132 up_at (by simp [gOb])]
    simp only [Option.bind_some]
    rw [gR_of h132 up_at (x := ρ 1) rfl]
    simp only [Option.bind_some]
    rw [cPut_of h132 up_at (by simp [gOb])]
    simp only [Option.bind_some]
    rw [cPut_of h132 up_at (by simp [gOb])]
    rfl
  · intro q hq
    have hq' : q < G.1 := hq
    obtain ⟨p1, p2, p3, p4⟩ := h2 q hq'
    refine ⟨p4, p1, ?_, ?_⟩
    · show C 1 q = nI (inv G.1 (inv G.1 G.2.2) q)
      rw [inv_inv hG.2.2.2 hq']
      exact p2
    · exact p3
theorem Cg_quarterBack (hG : Gd G) (h : GV f a G) : ∃ f', vV 28 a [] (HF f) = some (HF f') ∧ GV f' a (tuG true G) ∧ Fx a (a + 5) f f' := by
  obtain ⟨ρ, C, h1, h2⟩ := h
  have h132 : a < 132 := by have := h1.1; omega
  have g4 := h1.2.2.2.1
  refine ⟨_, vV_of (ci := 3) rfl h1.O ?_, ⟨_, _, h1.perm tB (by decide) (by decide) (f' := up (up (up (up f a (.inr (3, (gOb (nI G.1) ρ).set 1 (.ref (ρ 1))))) a (.inr (3, ((gOb (nI G.1) ρ).set 1 (.ref (ρ 1))).set 2 (.ref (ρ 2))))) a (.inr (3, (((gOb (nI G.1) ρ).set 1 (.ref (ρ 1))).set 2 (.ref (ρ 2))).set 3 (.ref (ρ 3))))) a (.inr (3, ((((gOb (nI G.1) ρ).set 1 (.ref (ρ 1))).set 2 (.ref (ρ 2))).set 3 (.ref (ρ 3))).set 4 (.ref (ρ 0))))) (fun b hb => by rw [up_ne hb, up_ne hb, up_ne hb, up_ne hb]) (by rw [up_at]; rfl), ?_⟩, fun b hb => by rw [up_ne (by omega), up_ne (by omega), up_ne (by omega), up_ne (by omega)]⟩
  · rw [F28_eq, h1.r0]
    simp only [Option.bind_some]
    rw [h1.r1]
    simp only [Option.bind_some]
    rw [cPut_of h132 g4 (by simp [gOb])]
    simp only [Option.bind_some]
    rw [gR_of h132 up_at (x := ρ 2) rfl]
    simp only [Option.bind_some]
    rw [cPut_of h132 up_at (by simp [gOb])]
    simp only [Option.bind_some]
    rw [gR_of h132 up_at (x := ρ 3) rfl]
    simp only [Option.bind_some]
    rw [cPut_of h132 up_at (by simp [gOb])]
    simp only [Option.bind_some]
    rw [cPut_of h132 up_at (by simp [gOb])]
    rfl
  · intro q hq
    have hq' : q < G.1 := hq
    obtain ⟨p1, p2, p3, p4⟩ := h2 q hq'
    refine ⟨p2, p3, p4, ?_⟩
    show C 0 q = nI (inv G.1 (inv G.1 G.2.1) q)
    rw [inv_inv hG.2.2.1 hq']
    exact p1
/-- roles that a shear reads -/
def rBy (u : Bool) : Nat := if u = true then 0 else 2
def rBk (u : Bool) : Nat := if u = true then 2 else 0
theorem rBy_lt (u : Bool) : rBy u < 4 ∧ rBk u < 4 ∧ rBy u ≠ 1 ∧ rBk u ≠ 1 ∧ rBk u ≠ 3 := by cases u <;> decide
theorem by_lt (hG : Gd G) (u : Bool) {q : Nat} (hq : q < G.1) : (if u = true then G.2.1 q else inv G.1 G.2.1 q) < G.1 := by
  cases u
  · exact (inv_ok hG.2.2.1 hq).1
  · exact hG.2.2.1.1 q hq
theorem GC.by (hG : Gd G) {C : Nat → Nat → Int32} (h : GC G C) (u : Bool) {q : Nat} (hq : q < G.1) : C (rBy u) q = nI (if u = true then G.2.1 q else inv G.1 G.2.1 q) ∧ C (rBk u) q = nI (if u = true then inv G.1 G.2.1 q else G.2.1 q) := by
  obtain ⟨p1, p2, p3, p4⟩ := h q hq
  cases u
  · exact ⟨p3, p1⟩
  · exact ⟨p1, p3⟩
theorem Cg_sl1 (hG : Gd G) (u : Bool) {ρ : Nat → Nat} {v1 v2 : Nat} (e1 : v1 = ρ (rBy u)) : ∀ (d k : Nat), k + d = G.1 → ∀ (f : Nat → mCell) (C : Nat → Nat → Int32), GS f a (nI G.1) ρ C → GC G C → (∀ q, q < k → C 4 q = nI ((shG u G).2.2 q)) → ∃ f' C', q26_2 a v1 v2 (nI k) (HF f) = q26_51 a v1 v2 (ρ 4) 0 (HF f') ∧ GS f' a (nI G.1) (fun i => ρ (tU i)) (fun i => C' (tU i)) ∧ GC G C' ∧ (∀ q, q < G.1 → C' 4 q = nI ((shG u G).2.2 q)) ∧ Fx a (a + 5) f f' := by
  have g2 := hG.2.1
  intro d
  induction d with
  | zero =>
    intro k hk f C h hc hp
    have ek : k = G.1 := by omega
    subst ek
    have h132 : a < 132 := by have := h.1; omega
    have g4 := h.2.2.2.1
    refine ⟨_, C, ?_, h.perm tU (by decide) (by decide) (f' := up (up f a (.inr (3, (gOb (nI G.1) ρ).set 5 (.ref (ρ 1))))) a (.inr (3, ((gOb (nI G.1) ρ).set 5 (.ref (ρ 1))).set 2 (.ref (ρ 4))))) (fun b hb => by rw [up_ne hb, up_ne hb]) (by rw [up_at]; rfl), hc, hp, fun b hb => by rw [up_ne (by omega), up_ne (by omega)]⟩
    rw [q26_2_eq, h.nn]
    simp only [Option.bind_some]
    rw [if_pos (by rw [iLE (by omega) (by omega)]; omega), h.r4]
    simp only [Option.bind_some]
    rw [h.r1]
    simp only [Option.bind_some]
    rw [cPut_of h132 g4 (by simp [gOb])]
    simp only [Option.bind_some]
    rw [cPut_of h132 up_at (by simp [gOb])]
    rfl
  | succ d ih =>
    intro k hk f C h hc hp
    have hkn : k < G.1 := by omega
    have hb := by_lt hG u hkn
    obtain ⟨y1, y2⟩ := hc.by hG u hkn
    have y3 := (hc _ hb).2.1
    obtain ⟨f1, a1, a2, a3⟩ := h.st (i := 4) (q := k) (by decide) (by omega) (nI ((shG u G).2.2 k))
    obtain ⟨f2, C2, b1, b2, b3, b4, b5⟩ := ih (k + 1) (by omega) f1 _ a2 (by
      intro q hq
      simp only [fu_ne (show 0 ≠ 4 by decide), fu_ne (show 1 ≠ 4 by decide), fu_ne (show 2 ≠ 4 by decide), fu_ne (show 3 ≠ 4 by decide)]
      exact hc q hq) (by
      intro q hq
      rw [fu_at]
      by_cases e : q = k
      · subst e; exact pk_us
      · rw [pk_un e]; exact hp q (by omega))
    refine ⟨f2, C2, ?_, b2, b3, b4, a3.tr b5⟩
    rw [q26_2_eq, h.nn]
    simp only [Option.bind_some]
    rw [if_neg (by rw [iLE (by omega) (by omega)]; omega), h.r4]
    simp only [Option.bind_some]
    rw [h.r1]
    simp only [Option.bind_some]
    rw [e1, h.ld (show rBy u < 5 by have := (rBy_lt u).1; omega) (show k < 8 by omega), y1]
    simp only [Option.bind_some]
    rw [h.ld (i := 1) (by decide) (show _ < 8 from Nat.lt_of_lt_of_le hb g2), y3]
    simp only [Option.bind_some]
    rw [show nI (G.2.2 (if u = true then G.2.1 k else inv G.1 G.2.1 k)) = nI ((shG u G).2.2 k) from rfl, a1]
    simp only [Option.bind_some]
    rw [show nI k + 1 = nI (k + 1) from iAdd k 1, ← e1]
    exact b1
theorem Cg_sl2 (hG : Gd G) (u : Bool) {ρ : Nat → Nat} {v1 v2 v3 : Nat} (e2 : v2 = ρ (rBk u)) : ∀ (d k : Nat), k + d = G.1 → ∀ (f : Nat → mCell) (C : Nat → Nat → Int32), GS f a (nI G.1) ρ C → (∀ q, q < G.1 → C 0 q = nI (G.2.1 q) ∧ C 1 q = nI ((shG u G).2.2 q) ∧ C 2 q = nI (inv G.1 G.2.1 q) ∧ C 3 q = nI (inv G.1 G.2.2 q)) → (∀ q, q < k → C 4 q = nI (inv G.1 (shG u G).2.2 q)) → ∃ f', q26_51 a v1 v2 v3 (nI k) (HF f) = some (none, HF f') ∧ GV f' a (shG u G) ∧ Fx a (a + 5) f f' := by
  have g2 := hG.2.1
  intro d
  induction d with
  | zero =>
    intro k hk f C h hc hp
    have ek : k = G.1 := by omega
    subst ek
    have h132 : a < 132 := by have := h.1; omega
    have g4 := h.2.2.2.1
    refine ⟨_, ?_, ⟨_, _, h.perm tD (by decide) (by decide) (f' := up (up f a (.inr (3, (gOb (nI G.1) ρ).set 5 (.ref (ρ 3))))) a (.inr (3, ((gOb (nI G.1) ρ).set 5 (.ref (ρ 3))).set 4 (.ref (ρ 4))))) (fun b hb => by rw [up_ne hb, up_ne hb]) (by rw [up_at]; rfl), ?_⟩, fun b hb => by rw [up_ne (by omega), up_ne (by omega)]⟩
    · rw [q26_51_eq, h.nn]
      simp only [Option.bind_some]
      rw [if_pos (by rw [iLE (by omega) (by omega)]; omega), h.r4]
      simp only [Option.bind_some]
      rw [h.r3]
      simp only [Option.bind_some]
      rw [cPut_of h132 g4 (by simp [gOb])]
      simp only [Option.bind_some]
      rw [cPut_of h132 up_at (by simp [gOb])]
      rfl
    · intro q hq
      obtain ⟨p1, p2, p3, p4⟩ := hc q hq
      exact ⟨p1, p2, p3, hp q hq⟩
  | succ d ih =>
    intro k hk f C h hc hp
    have hkn : k < G.1 := by omega
    obtain ⟨p1, p2, p3, p4⟩ := hc k hkn
    obtain ⟨i1, i2⟩ := inv_ok hG.2.2.2 hkn
    have hsh := (hG.sh u).2.2.2
    have bk : C (rBk u) (inv G.1 G.2.2 k) = nI (inv G.1 (shG u G).2.2 k) := by
      obtain ⟨q1, q2, q3, q4⟩ := hc _ i1
      cases u
      · have e : inv G.1 (shG false G).2.2 k = G.2.1 (inv G.1 G.2.2 k) := inv_uniq hsh (hG.2.2.1.1 _ i1) (by
          show G.2.2 (inv G.1 G.2.1 (G.2.1 (inv G.1 G.2.2 k))) = k
          rw [inv_l hG.2.2.1 i1, i2])
        rw [e]
        exact q1
      · obtain ⟨j1, j2⟩ := inv_ok hG.2.2.1 i1
        have e : inv G.1 (shG true G).2.2 k = inv G.1 G.2.1 (inv G.1 G.2.2 k) := inv_uniq hsh j1 (by
          show G.2.2 (G.2.1 (inv G.1 G.2.1 (inv G.1 G.2.2 k))) = k
          rw [j2, i2])
        rw [e]
        exact q3
    obtain ⟨f1, a1, a2, a3⟩ := h.st (i := 4) (q := k) (by decide) (by omega) (nI (inv G.1 (shG u G).2.2 k))
    obtain ⟨f2, b1, b2, b3⟩ := ih (k + 1) (by omega) f1 _ a2 (by
      intro q hq
      simp only [fu_ne (show 0 ≠ 4 by decide), fu_ne (show 1 ≠ 4 by decide), fu_ne (show 2 ≠ 4 by decide), fu_ne (show 3 ≠ 4 by decide)]
      exact hc q hq) (by
      intro q hq
      rw [fu_at]
      by_cases e : q = k
      · subst e; exact pk_us
      · rw [pk_un e]; exact hp q (by omega))
    refine ⟨f2, ?_, b2, a3.tr b3⟩
    rw [q26_51_eq, h.nn]
    simp only [Option.bind_some]
    rw [if_neg (by rw [iLE (by omega) (by omega)]; omega), h.r4]
    simp only [Option.bind_some]
    rw [h.r3]
    simp only [Option.bind_some]
    rw [h.ld (i := 3) (by decide) (show k < 8 by omega), p4]
    simp only [Option.bind_some]
    rw [e2, h.ld (show rBk u < 5 by have := (rBy_lt u).2.1; omega) (show _ < 8 from Nat.lt_of_lt_of_le i1 g2), bk]
    simp only [Option.bind_some]
    rw [a1]
    simp only [Option.bind_some]
    rw [show nI k + 1 = nI (k + 1) from iAdd k 1, ← e2]
    exact b1
theorem Cg_slideOnce (hG : Gd G) (u : Bool) {ρ : Nat → Nat} {C : Nat → Nat → Int32} (h : GS f a (nI G.1) ρ C) (hc : GC G C) : ∃ f', vV 26 a [.ref (ρ (rBy u)), .ref (ρ (rBk u))] (HF f) = some (HF f') ∧ GV f' a (shG u G) ∧ Fx a (a + 5) f f' := by
  obtain ⟨f1, C1, a1, a2, a3, a4, a5⟩ := Cg_sl1 (v2 := ρ (rBk u)) hG u rfl G.1 0 (by omega) f C h hc (fun q hq => by omega)
  have eb : ρ (rBk u) = (fun i => ρ (tU i)) (rBk u) := by cases u <;> rfl
  obtain ⟨f2, b1, b2, b3⟩ := Cg_sl2 (v1 := ρ (rBy u)) (v3 := ρ 4) hG u eb G.1 0 (by omega) f1 _ a2 (by
    intro q hq
    obtain ⟨p1, p2, p3, p4⟩ := a3 q hq
    exact ⟨p1, a4 q hq, p3, p4⟩) (fun q hq => by omega)
  refine ⟨f2, vV_of (ci := 3) rfl h.O ?_, b2, a5.tr b3⟩
  rw [F26_eq]
  exact a1.trans b1
theorem Cg_slide1 {m : Nat} (hm : m < 1000000) : ∀ (d k : Nat), k + d = m → ∀ (G : Gr) (f : Nat → mCell), Gd G → GV f a G → ∃ f', q25_2 a (nI m) (nI k) (HF f) = some (none, HF f') ∧ GV f' a (shIt false d G) ∧ Fx a (a + 5) f f' := by
  intro d
  induction d with
  | zero =>
    intro k hk G f hG h
    have ek : k = m := by omega
    subst ek
    refine ⟨f, ?_, h, Fx.rf⟩
    rw [q25_2_eq, if_pos (by rw [iLE (by omega) (by omega)]; omega), q25_27_eq, if_pos (nI_pos' (by omega))]
  | succ d ih =>
    intro k hk G f hG h
    obtain ⟨ρ, C, h1, h2⟩ := h
    obtain ⟨f1, a1, a2, a3⟩ := Cg_slideOnce hG false h1 h2
    obtain ⟨f2, b1, b2, b3⟩ := ih (k + 1) (by omega) (shG false G) f1 (hG.sh false) a2
    rw [shIt_comm] at b2
    refine ⟨f2, ?_, b2, a3.tr b3⟩
    rw [q25_2_eq, if_neg (by rw [iLE (by omega) (by omega)]; omega), h1.r2]
    simp only [Option.bind_some]
    rw [h1.r0]
    simp only [Option.bind_some]
    rw [show vV 26 a [.ref (ρ 2), .ref (ρ 0)] (HF f) = _ from a1]
    simp only [Option.bind_some]
    rw [show nI k + 1 = nI (k + 1) from iAdd k 1]
    exact b1
theorem Cg_slide2 {m : Nat} (hm : m < 1000000) : ∀ (d k : Nat), k + d = m → ∀ (G : Gr) (f : Nat → mCell), Gd G → GV f a G → ∃ f', q25_27 a (-(nI m)) (-(nI k)) (HF f) = some (none, HF f') ∧ GV f' a (shIt true d G) ∧ Fx a (a + 5) f f' := by
  have ng : ∀ j : Nat, j < 1000000 → (-(nI j)).toInt = -(j : Int) := fun j hj => by rw [i_neg (by rw [nI_toInt (by omega)]; omega), nI_toInt (by omega)]
  intro d
  induction d with
  | zero =>
    intro k hk G f hG h
    have ek : k = m := by omega
    subst ek
    refine ⟨f, ?_, h, Fx.rf⟩
    rw [q25_27_eq, if_pos (by rw [Int32.le_iff_toInt_le]; omega)]
  | succ d ih =>
    intro k hk G f hG h
    obtain ⟨ρ, C, h1, h2⟩ := h
    obtain ⟨f1, a1, a2, a3⟩ := Cg_slideOnce hG true h1 h2
    obtain ⟨f2, b1, b2, b3⟩ := ih (k + 1) (by omega) (shG true G) f1 (hG.sh true) a2
    rw [shIt_comm] at b2
    refine ⟨f2, ?_, b2, a3.tr b3⟩
    have z : -(nI k) + (-1) = -(nI (k + 1)) := by
      apply Int32.toInt_inj.mp
      have t1 : (-1 : Int32).toInt = -1 := rfl
      rw [i_add (by rw [ng k (by omega), t1]; omega), ng k (by omega), ng (k + 1) (by omega), t1]
      omega
    rw [q25_27_eq, if_neg (by rw [Int32.le_iff_toInt_le, ng k (by omega), ng m (by omega)]; omega), h1.r0]
    simp only [Option.bind_some]
    rw [h1.r2]
    simp only [Option.bind_some]
    rw [show vV 26 a [.ref (ρ 0), .ref (ρ 2)] (HF f) = _ from a1]
    simp only [Option.bind_some]
    rw [z]
    exact b1
theorem Cg_slide (hG : Gd G) (h : GV f a G) (u : Bool) {m : Nat} (hm : m < 1000000) (hu : u = true → 0 < m) : ∃ f', vV 25 a [.int (sgn u m)] (HF f) = some (HF f') ∧ GV f' a (shIt u m G) ∧ Fx a (a + 5) f f' := by
  have hO : gO (HF f) a 3 = some () := by obtain ⟨ρ, C, h1, _⟩ := h; exact h1.O
  cases u
  · obtain ⟨f1, a1, a2, a3⟩ := Cg_slide1 hm m 0 (by omega) G f hG h
    refine ⟨f1, vV_of (ci := 3) rfl hO ?_, a2, a3⟩
    rw [F25_eq]
    exact a1
  · have hm0 := hu rfl
    obtain ⟨f1, a1, a2, a3⟩ := Cg_slide2 hm m 0 (by omega) G f hG h
    refine ⟨f1, vV_of (ci := 3) rfl hO ?_, a2, a3⟩
    rw [F25_eq, q25_2_eq, if_pos]
    · exact a1
    · rw [show sgn true m = -(nI m) from rfl, Int32.le_iff_toInt_le, i_neg (by rw [nI_toInt (by omega)]; omega), nI_toInt (by omega)]
      show _ ≤ (0 : Int)
      omega
end C3
