/-! the class: cylinders -/
def yOb (c : Nat) (n : Int32) : List Value := [.ref (c + 1), .ref (c + 3), .ref (c + 4), .int n, .ref (c + 5), .ref (c + 6), .ref (c + 7)]
def YS (f : Nat → mCell) (c : Nat) (n : Int32) (A : Nat → Nat → Int32) : Prop := c < 124 ∧ f c = .inr (1, yOb c n) ∧ ∀ k, 3 ≤ k → k ≤ 7 → f (c + k) = AI (A k)
section C12
variable {f : Nat → mCell} {a c : Nat} {n : Int32} {A : Nat → Nat → Int32} {G : Gr}
/-- all but the corners -/
def Fy (c : Nat) (f f' : Nat → mCell) : Prop := ∀ b, (b < c ∨ c + 7 < b ∨ b = c + 1 ∨ b = c + 2) → f' b = f b
theorem Fy.rf : Fy c f f := fun _ _ => rfl
theorem Fy.tr {f1 f2 f3 : Nat → mCell} (h1 : Fy c f1 f2) (h2 : Fy c f2 f3) : Fy c f1 f3 := fun b hb => (h2 b hb).trans (h1 b hb)
theorem Fy.fx {f1 f2 : Nat → mCell} (h1 : Fy c f1 f2) : Fx c (c + 7) f1 f2 := fun b hb => h1 b (by omega)
theorem Fy.cv {f1 f2 : Nat → mCell} (h1 : Fy c f1 f2) (h : CV f1 (c + 1) G) : CV f2 (c + 1) G := by
  obtain ⟨v, B, ⟨k1, k2, k3⟩, h1'⟩ := h
  exact ⟨v, B, ⟨k1, by rw [h1 _ (by omega)]; exact k2, by rw [h1 _ (by omega)]; exact k3⟩, h1'⟩
theorem YS.O (h : YS f c n A) : gO (HF f) c 1 = some () := gO_of (by have := h.1; omega) h.2.1
theorem YS.nn (h : YS f c n A) : gI (HF f) c 1 3 = some n := gI_of (by have := h.1; omega) h.2.1 rfl
theorem YS.r0 (h : YS f c n A) : gR (HF f) c 1 0 = some (c + 1) := gR_of (by have := h.1; omega) h.2.1 rfl
theorem YS.r1 (h : YS f c n A) : gR (HF f) c 1 1 = some (c + 3) := gR_of (by have := h.1; omega) h.2.1 rfl
theorem YS.r2 (h : YS f c n A) : gR (HF f) c 1 2 = some (c + 4) := gR_of (by have := h.1; omega) h.2.1 rfl
theorem YS.r4 (h : YS f c n A) : gR (HF f) c 1 4 = some (c + 5) := gR_of (by have := h.1; omega) h.2.1 rfl
theorem YS.r5 (h : YS f c n A) : gR (HF f) c 1 5 = some (c + 6) := gR_of (by have := h.1; omega) h.2.1 rfl
theorem YS.r6 (h : YS f c n A) : gR (HF f) c 1 6 = some (c + 7) := gR_of (by have := h.1; omega) h.2.1 rfl
theorem YS.ld (h : YS f c n A) (k : Nat) (h3 : 3 ≤ k) (h7 : k ≤ 7) {q : Nat} (hq : q < 8) : cAldI false (HF f) (c + k) (nI q) = some (A k q) := cAldI_of (by have := h.1; omega) (h.2.2 k h3 h7) hq (by omega)
theorem YS.st (h : YS f c n A) (k : Nat) (h3 : 3 ≤ k) (h7 : k ≤ 7) {q : Nat} (hq : q < 8) (y : Int32) : ∃ f', cAstI (HF f) (c + k) (nI q) y = some (HF f') ∧ YS f' c n (fu A k (upd (A k) q y)) ∧ Fy c f f' := by
  obtain ⟨h1, h2, h4⟩ := h
  refine ⟨_, cAstI_of (by omega) (h4 k h3 h7) hq (by omega) y, ⟨h1, by rw [up_ne (by omega)]; exact h2, fun j j3 j7 => ?_⟩, fun b hb => up_ne (by omega)⟩
  by_cases e : j = k
  · subst e; rw [up_at, fu_at]; rfl
  · rw [up_ne (by omega), fu_ne e]; exact h4 j j3 j7
theorem YS.put (h : YS f c n A) (y : Int32) : ∃ f', cPut (HF f) c 1 3 (.int y) = some (HF f') ∧ YS f' c y A ∧ Fy c f f' := by
  obtain ⟨h1, h2, h4⟩ := h
  exact ⟨_, cPut_of (by omega) h2 (by show 3 < 7; omega) _, ⟨h1, by rw [up_at]; rfl, fun j j3 j7 => by rw [up_ne (by omega)]; exact h4 j j3 j7⟩, fun b hb => up_ne (by omega)⟩
theorem YS.fx (h : YS f c n A) {f' : Nat → mCell} (h0 : f' c = f c) (hk : ∀ k, 3 ≤ k → k ≤ 7 → f' (c + k) = f (c + k)) : YS f' c n A := ⟨h.1, by rw [h0]; exact h.2.1, fun k h3 h7 => by rw [hk k h3 h7]; exact h.2.2 k h3 h7⟩
theorem Cy_p1 (g2 : G.1 ≤ 8) (hd : c + 7 < a ∨ a + 5 < c) : ∀ (d k : Nat), k + d = G.1 → ∀ (f : Nat → mCell) (A : Nat → Nat → Int32), GV f a G → YS f c n A → (∀ q, q < k → A 3 q = -1) → ∃ f' A', q9_2 c a (nI k) (HF f) = q9_25 c a 0 none none (HF f') ∧ YS f' c n A' ∧ (∀ q, q < G.1 → A' 3 q = -1) ∧ Fy c f f' := by
  intro d
  induction d with
  | zero =>
    intro k hk f A hv h hp
    have : k = G.1 := by omega
    subst this
    refine ⟨f, A, ?_, h, hp, Fy.rf⟩
    rw [q9_2_eq, hv.nn]
    simp only [Option.bind_some]
    rw [if_pos (Int32.le_refl _)]
  | succ d ih =>
    intro k hk f A hv h hp
    obtain ⟨f1, a1, a2, a3⟩ := h.st 3 (by omega) (by omega) (q := k) (by omega) (-1)
    obtain ⟨f2, A2, b1, b2, b3, b4⟩ := ih (k + 1) (by omega) f1 _ (hv.fx a3.fx (by omega)) a2 (by
      intro q hq
      rw [fu_at]
      by_cases e : q = k
      · rw [e, pk_us]
      · rw [pk_un e]
        exact hp q (by omega))
    refine ⟨f2, A2, ?_, b2, b3, a3.tr b4⟩
    rw [q9_2_eq, hv.nn]
    simp only [Option.bind_some]
    rw [if_neg (by rw [iLE (by omega) (by omega)]; omega), h.r1]
    simp only [Option.bind_some]
    rw [a1]
    simp only [Option.bind_some]
    rw [show nI k + 1 = nI (k + 1) from iAdd k 1]
    exact b1
theorem Cy_p3 (hG : Gd G) (hd : c + 7 < a ∨ a + 5 < c) {s : Nat} (hs : s < G.1) {A0 : Nat → Nat → Int32} (h0 : ∀ j, A0 3 (it G.2.1 j s) = -1) : ∀ (d k : Nat), k + d = bd G.2.1 G.1 s + 1 → ∀ (f : Nat → mCell) (A : Nat → Nat → Int32), GV f a G → YS f c n A → (∀ j, j < k → A 3 (it G.2.1 j s) = nI s ∧ A 4 (it G.2.1 j s) = nI s) → (∀ q, (∀ j, j < k → it G.2.1 j s ≠ q) → A 3 q = A0 3 q ∧ A 4 q = A0 4 q) → ∃ f' A' d3 d4, q9_38 c a (nI s) (nI (it G.2.1 k s)) (nI k) (HF f) = q9_25 c a (nI (s + 1)) d3 d4 (HF f') ∧ YS f' c n A' ∧ (∀ q, (∃ j, it G.2.1 j s = q) → A' 3 q = nI s ∧ A' 4 q = nI s) ∧ (∀ q, (∀ j, it G.2.1 j s ≠ q) → A' 3 q = A0 3 q ∧ A' 4 q = A0 4 q) ∧ Fy c f f' := by
  have g2 := hG.2.1
  have hR := hG.2.2.1
  obtain ⟨b1, b2, b3⟩ := bd_ok hR hs
  intro d
  induction d with
  | zero =>
    intro k hk f A hv h hp hu
    have ek : k = bd G.2.1 G.1 s + 1 := by omega
    subst ek
    refine ⟨f, A, some (.int (nI s)), some (.int (nI (bd G.2.1 G.1 s + 1))), ?_, h, ?_, ?_, Fy.rf⟩
    · rw [b2, q9_38_eq, hv.nn]
      simp only [Option.bind_some]
      rw [show nI s + 1 = nI (s + 1) from iAdd s 1]
      by_cases c0 : G.1 ≤ bd G.2.1 G.1 s + 1
      · rw [if_pos (by rw [iLE (by omega) (by omega)]; exact c0)]
      · rw [if_neg (by rw [iLE (by omega) (by omega)]; exact c0), h.r1]
        simp only [Option.bind_some]
        rw [h.ld 3 (by omega) (by omega) (by omega), show A 3 s = nI s from (hp 0 (by omega)).1]
        simp only [Option.bind_some]
        rw [if_pos (by rw [l0, iLE (by omega) (by omega)]; omega)]
    · rintro q ⟨j, rfl⟩
      rw [it_mod b2 j]
      exact hp _ (Nat.mod_lt _ (by omega))
    · exact fun q hq => hu q (fun j _ => hq j)
  | succ d ih =>
    intro k hk f A hv h hp hu
    have hlt := it_lt hR.1 hs k
    have hno : A 3 (it G.2.1 k s) = -1 := by
      rw [(hu _ (fun j hj e => it_dist hR hs (show k ≤ bd G.2.1 G.1 s by omega) hj e.symm)).1]
      exact h0 k
    obtain ⟨f1, a1, a2, a3⟩ := h.st 3 (by omega) (by omega) (q := it G.2.1 k s) (by omega) (nI s)
    obtain ⟨f2, c1, c2, c3⟩ := a2.st 4 (by omega) (by omega) (q := it G.2.1 k s) (by omega) (nI s)
    have hv2 := (hv.fx a3.fx (by omega)).fx c3.fx (by omega)
    have e3 : ∀ q, fu (fu A 3 (upd (A 3) (it G.2.1 k s) (nI s))) 4 (upd (fu A 3 (upd (A 3) (it G.2.1 k s) (nI s)) 4) (it G.2.1 k s) (nI s)) 3 q = upd (A 3) (it G.2.1 k s) (nI s) q := by
      intro q
      rw [fu_ne (by decide), fu_at]
    have e4 : ∀ q, fu (fu A 3 (upd (A 3) (it G.2.1 k s) (nI s))) 4 (upd (fu A 3 (upd (A 3) (it G.2.1 k s) (nI s)) 4) (it G.2.1 k s) (nI s)) 4 q = upd (A 4) (it G.2.1 k s) (nI s) q := by
      intro q
      rw [fu_at, fu_ne (by decide)]
    obtain ⟨f3, A3, d3, d4, g1, g2', g3, g4, g5⟩ := ih (k + 1) (by omega) f2 _ hv2 c2 (by
      intro j hj
      rw [e3, e4]
      by_cases e : it G.2.1 j s = it G.2.1 k s
      · rw [e, pk_us, pk_us]
        exact ⟨rfl, rfl⟩
      · rw [pk_un e, pk_un e]
        refine hp j ?_
        have : j ≠ k := fun z => e (by rw [z])
        omega) (by
      intro q hq
      have hk : q ≠ it G.2.1 k s := fun z => hq k (by omega) z.symm
      rw [e3, e4, pk_un hk, pk_un hk]
      exact hu q (fun j hj => hq j (by omega)))
    refine ⟨f3, A3, d3, d4, ?_, g2', g3, g4, (a3.tr c3).tr g5⟩
    obtain ⟨r, y1, y2⟩ := hv2.ld0 g2 hlt
    rw [q9_38_eq, hv.nn]
    simp only [Option.bind_some]
    rw [if_neg (by rw [iLE (by omega) (by omega)]; omega), h.r1]
    simp only [Option.bind_some]
    rw [h.ld 3 (by omega) (by omega) (by omega), hno]
    simp only [Option.bind_some]
    rw [if_neg (by decide), a1]
    simp only [Option.bind_some]
    rw [a2.r2]
    simp only [Option.bind_some]
    rw [c1]
    simp only [Option.bind_some]
    rw [y1]
    simp only [Option.bind_some]
    rw [y2]
    simp only [Option.bind_some]
    rw [show nI k + 1 = nI (k + 1) from iAdd k 1]
    exact g1
def RoI (G : Gr) (s : Nat) (A : Nat → Nat → Int32) : Prop := ∀ q, q < G.1 → ((∃ i, it G.2.1 i q < s) → A 3 q = nI (mnO G.2.1 G.1 q) ∧ A 4 q = nI (mnO G.2.1 G.1 q)) ∧ ((∀ i, s ≤ it G.2.1 i q) → A 3 q = -1)
theorem Cy_p2 (hG : Gd G) (hd : c + 7 < a ∨ a + 5 < c) : ∀ (d s : Nat), s + d = G.1 → ∀ (f : Nat → mCell) (A : Nat → Nat → Int32) (d3 d4 : Option Value), GV f a G → YS f c n A → RoI G s A → ∃ f' A', q9_25 c a (nI s) d3 d4 (HF f) = some (none, HF f') ∧ YS f' c n A' ∧ (∀ q, q < G.1 → A' 3 q = nI (mnO G.2.1 G.1 q) ∧ A' 4 q = nI (mnO G.2.1 G.1 q)) ∧ Fy c f f' := by
  have g2 := hG.2.1
  have hR := hG.2.2.1
  intro d
  induction d with
  | zero =>
    intro s hs f A d3 d4 hv h hI
    have : s = G.1 := by omega
    subst this
    refine ⟨f, A, ?_, h, fun q hq => (hI q hq).1 ⟨0, hq⟩, Fy.rf⟩
    rw [q9_25_eq, hv.nn]
    simp only [Option.bind_some]
    rw [if_pos (Int32.le_refl _)]
  | succ d ih =>
    intro s hs f A d3 d4 hv h hI
    have hlt : s < G.1 := by omega
    have pre := q9_25_eq c a (nI s) d3 d4 (HF f)
    rw [hv.nn] at pre
    simp only [Option.bind_some] at pre
    rw [if_neg (by rw [iLE (by omega) (by omega)]; omega)] at pre
    by_cases c0 : ∀ i, s ≤ it G.2.1 i s
    · obtain ⟨f1, A1, e3, e4, x1, x2, x3, x4, x5⟩ := Cy_p3 hG hd hlt (A0 := A) (fun j => (hI _ (it_lt hR.1 hlt j)).2 (fun i => by rw [← it_add]; exact c0 _)) (bd G.2.1 G.1 s + 1) 0 (by omega) f A hv h (fun j hj => by omega) (fun q _ => ⟨rfl, rfl⟩)
      obtain ⟨f2, A2, y1, y2, y3, y4⟩ := ih (s + 1) (by omega) f1 A1 e3 e4 (hv.fx x5.fx (by omega)) x2 (by
        intro q hq
        constructor
        · rintro ⟨i, hi⟩
          by_cases e : ∃ j, it G.2.1 j q = s
          · obtain ⟨j, hj⟩ := e
            have ho := orb_symm hR hq hj
            rw [(x3 q ho).1, (x3 q ho).2, mnO_orb hR hq hlt ho c0]
            exact ⟨rfl, rfl⟩
          · have hno : ∀ j, it G.2.1 j s ≠ q := fun j hj => e (orb_symm hR hlt hj)
            rw [(x4 q hno).1, (x4 q hno).2]
            refine (hI q hq).1 ⟨i, ?_⟩
            have : it G.2.1 i q ≠ s := fun z => e ⟨i, z⟩
            omega
        · intro hq1
          have hno : ∀ j, it G.2.1 j s ≠ q := by
            intro j hj
            obtain ⟨i, hi⟩ := orb_symm hR hlt hj
            have := hq1 i
            omega
          rw [(x4 q hno).1]
          exact (hI q hq).2 (fun i => by have := hq1 i; omega))
      exact ⟨f2, A2, pre.trans (Eq.trans x1 y1), y2, y3, x5.tr y4⟩
    · have hex : ∃ i, it G.2.1 i s < s := by
        refine Classical.byContradiction fun hx => c0 fun i => ?_
        exact Nat.le_of_not_lt fun z => hx ⟨i, z⟩
      have hml := mnO_lt hR hlt
      obtain ⟨f2, A2, y1, y2, y3, y4⟩ := ih (s + 1) (by omega) f A (some (.int (nI s))) (some (.int 0)) hv h (by
        intro q hq
        constructor
        · rintro ⟨i, hi⟩
          by_cases e : it G.2.1 i q < s
          · exact (hI q hq).1 ⟨i, e⟩
          · obtain ⟨j, hj⟩ := hex
            refine (hI q hq).1 ⟨j + i, ?_⟩
            rw [it_add, show it G.2.1 i q = s by omega]
            exact hj
        · intro hq1
          exact (hI q hq).2 (fun i => by have := hq1 i; omega))
      refine ⟨f2, A2, ?_, y2, y3, y4⟩
      rw [pre, q9_38_eq, hv.nn]
      simp only [Option.bind_some]
      rw [if_neg (by rw [l0, iLE (by omega) (by omega)]; omega), h.r1]
      simp only [Option.bind_some]
      rw [h.ld 3 (by omega) (by omega) (by omega), ((hI s hlt).1 hex).1]
      simp only [Option.bind_some]
      rw [if_pos (by rw [l0, iLE (by omega) (by omega)]; omega), show nI s + 1 = nI (s + 1) from iAdd s 1]
      exact y1
theorem Cy_part (hG : Gd G) (hd : c + 7 < a ∨ a + 5 < c) (hv : GV f a G) (h : YS f c n A) : ∃ f' A', vV 9 c [.ref a] (HF f) = some (HF f') ∧ YS f' c n A' ∧ (∀ q, q < G.1 → A' 3 q = nI (mnO G.2.1 G.1 q) ∧ A' 4 q = nI (mnO G.2.1 G.1 q)) ∧ Fy c f f' := by
  obtain ⟨f1, A1, a1, a2, a3, a4⟩ := Cy_p1 hG.2.1 hd G.1 0 (by omega) f A hv h (fun q hq => by omega)
  obtain ⟨f2, A2, b1, b2, b3, b4⟩ := Cy_p2 hG hd G.1 0 (by omega) f1 A1 none none (hv.fx a4.fx (by omega)) a2 (fun q hq => ⟨fun ⟨i, hi⟩ => by omega, fun _ => a3 q hq⟩)
  refine ⟨f2, A2, vV_of (ci := 1) rfl h.O ?_, b2, b3, a4.tr b4⟩
  rw [F9_eq]
  exact Eq.trans a1 b1
end C12
