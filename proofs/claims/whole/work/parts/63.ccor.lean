/-! orbits -/
theorem it_mul {A : Nat → Nat} {q m : Nat} (h : it A m q = q) : ∀ t, it A (t * m) q = q
  | 0 => by rw [Nat.zero_mul]; rfl
  | t + 1 => by rw [Nat.succ_mul, it_add, h, it_mul h t]
theorem it_mod {A : Nat → Nat} {q m : Nat} (h : it A m q = q) (i : Nat) : it A i q = it A (i % m) q := by
  have e : i = i % m + (i / m) * m := by rw [Nat.mul_comm]; exact (Nat.mod_add_div i m).symm
  conv => lhs; rw [e, it_add, it_mul h]
theorem orb_symm {n : Nat} {A : Nat → Nat} (hA : Prm n A) {q s i : Nat} (hq : q < n) (e : it A i q = s) : ∃ j, it A j s = q := by
  obtain ⟨b1, b2, b3⟩ := bd_ok hA hq
  refine ⟨i * (bd A n q + 1) - i, ?_⟩
  rw [← e, ← it_add]
  have h1 : i ≤ i * (bd A n q + 1) := Nat.le_mul_of_pos_right _ (by omega)
  rw [show i * (bd A n q + 1) - i + i = i * (bd A n q + 1) by omega]
  exact it_mul b2 i
theorem fs_iff {G : Gr} (hG : Gd G) {s : Nat} (hs : s < G.1) : fs G s = true ↔ ∀ i, s ≤ it (arA G) i s := by
  obtain ⟨b1, b2, b3⟩ := bd_ok (arA_prm hG) hs
  unfold fs
  rw [fsK_iff]
  constructor
  · intro h i
    rw [it_mod b2 i]
    have hl : i % (bd (arA G) G.1 s + 1) < bd (arA G) G.1 s + 1 := Nat.mod_lt _ (by omega)
    cases hm : i % (bd (arA G) G.1 s + 1) with
    | zero => exact Nat.le_refl _
    | succ t => exact Nat.le_of_lt (h t (by unfold bn; omega))
  · intro h i hi
    have h1 := h (i + 1)
    have h2 := b3 i (by unfold bn at hi; exact hi)
    omega
/-! the class: corners -/
def lst (G : Gr) : Nat → Nat
  | 0 => 8
  | k + 1 => if fs G k = true ∧ 0 < bn G k then min (lst G k) (bn G k) else lst G k
def cOb (c : Nat) (v : Nat → Int32) (w : Int64) : List Value := [.ref (c + 1), .int (v 1), .int (v 2), .int (v 3), .int (v 4), .int (v 5), .long w]
def CS (f : Nat → mCell) (c : Nat) (v : Nat → Int32) (w : Int64) (B : Nat → Int32) : Prop := c < 131 ∧ f c = .inr (0, cOb c v w) ∧ f (c + 1) = AI B
section C5
variable {f : Nat → mCell} {a c : Nat} {v : Nat → Int32} {w : Int64} {B : Nat → Int32} {G : Gr}
theorem CS.fx (h : CS f c v w B) {lo hi : Nat} {f' : Nat → mCell} (hf : Fx lo hi f f') (hd : c + 1 < lo ∨ hi < c) : CS f' c v w B := by
  obtain ⟨h1, h2, h3⟩ := h
  exact ⟨h1, by rw [hf c (by omega)]; exact h2, by rw [hf (c + 1) (by omega)]; exact h3⟩
theorem CS.O (h : CS f c v w B) : gO (HF f) c 0 = some () := gO_of (by have := h.1; omega) h.2.1
theorem CS.r (h : CS f c v w B) : gR (HF f) c 0 0 = some (c + 1) := gR_of (by have := h.1; omega) h.2.1 rfl
theorem CS.i1 (h : CS f c v w B) : gI (HF f) c 0 1 = some (v 1) := gI_of (by have := h.1; omega) h.2.1 rfl
theorem CS.i2 (h : CS f c v w B) : gI (HF f) c 0 2 = some (v 2) := gI_of (by have := h.1; omega) h.2.1 rfl
theorem CS.i3 (h : CS f c v w B) : gI (HF f) c 0 3 = some (v 3) := gI_of (by have := h.1; omega) h.2.1 rfl
theorem CS.i4 (h : CS f c v w B) : gI (HF f) c 0 4 = some (v 4) := gI_of (by have := h.1; omega) h.2.1 rfl
theorem CS.i5 (h : CS f c v w B) : gI (HF f) c 0 5 = some (v 5) := gI_of (by have := h.1; omega) h.2.1 rfl
theorem CS.l6 (h : CS f c v w B) : gL (HF f) c 0 6 = some w := gL_of (by have := h.1; omega) h.2.1 rfl
theorem CS.ld (h : CS f c v w B) {q : Nat} (hq : q < 8) : cAldI false (HF f) (c + 1) (nI q) = some (B q) := cAldI_of (by have := h.1; omega) h.2.2 hq (by omega)
theorem CS.st (h : CS f c v w B) {q : Nat} (hq : q < 8) (y : Int32) : ∃ f', cAstI (HF f) (c + 1) (nI q) y = some (HF f') ∧ CS f' c v w (upd B q y) ∧ Fx c (c + 1) f f' := by
  obtain ⟨h1, h2, h3⟩ := h
  exact ⟨_, cAstI_of (by omega) h3 hq (by omega) y, ⟨h1, by rw [up_ne (by omega)]; exact h2, by rw [up_at]; rfl⟩, Fx.up (by omega) (by omega)⟩
theorem CS.put (h : CS f c v w B) {k : Nat} (hk : 1 ≤ k ∧ k ≤ 5) (y : Int32) : ∃ f', cPut (HF f) c 0 k (.int y) = some (HF f') ∧ CS f' c (iup v k y) w B ∧ Fx c (c + 1) f f' := by
  obtain ⟨h1, h2, h3⟩ := h
  refine ⟨_, cPut_of (by omega) h2 (by show k < 7; omega) _, ⟨h1, ?_, by rw [up_ne (by omega)]; exact h3⟩, Fx.up (by omega) (by omega)⟩
  rw [up_at]
  have : k = 1 ∨ k = 2 ∨ k = 3 ∨ k = 4 ∨ k = 5 := by omega
  rcases this with rfl | rfl | rfl | rfl | rfl <;> rfl
theorem CS.putL (h : CS f c v w B) (y : Int64) : ∃ f', cPut (HF f) c 0 6 (.long y) = some (HF f') ∧ CS f' c v y B ∧ Fx c (c + 1) f f' := by
  obtain ⟨h1, h2, h3⟩ := h
  exact ⟨_, cPut_of (by omega) h2 (by show 6 < 7; omega) _, ⟨h1, by rw [up_at]; rfl, by rw [up_ne (by omega)]; exact h3⟩, Fx.up (by omega) (by omega)⟩
def T0 (f : Nat → mCell) : Prop := f 0 = .inl (5, 9, .inl mPart)
theorem mPart_ok : ∀ k, k < 9 → 1 ≤ k → mPart k = nI (840 / k) := by decide +kernel
theorem Cg_min {x y : Nat} (hx : x < 2000000) (hy : y < 2000000) (h : mHeap) : sI 175 [.int (nI x), .int (nI y)] h = some (nI (min x y), h) := by
  refine sI_of ?_
  rw [F175_eq]
  simp only [iLT (show y < 2000000000 by omega) (show x < 2000000000 by omega)]
  by_cases e : y < x
  · rw [if_pos e, Nat.min_eq_right (by omega)]
  · rw [if_neg e, Nat.min_eq_left (by omega)]
theorem Cg_max {x y : Nat} (hx : x < 2000000) (hy : y < 2000000) (h : mHeap) : sI 174 [.int (nI x), .int (nI y)] h = some (nI (max x y), h) := by
  refine sI_of ?_
  rw [F174_eq]
  simp only [iLT (show x < 2000000000 by omega) (show y < 2000000000 by omega)]
  by_cases e : x < y
  · rw [if_pos e, Nat.max_eq_right (by omega)]
  · rw [if_neg e, Nat.max_eq_left (by omega)]
/-- a corner is noted -/
def CN (al be su le mo : Nat) (v : Nat → Int32) : Prop := v 1 = nI al ∧ v 2 = nI be ∧ v 3 = nI su ∧ v 4 = nI le ∧ v 5 = nI mo
theorem Cc_note {al be su le mo ww k : Nat} (hk : k < 8) (hle : le < 1000) (hmo : mo < 1000) (h0 : T0 f) (hc0 : 0 < c) (h : CS f c v (lN ww) B) (hn : CN al be su le mo v) : ∃ f' v', vV 3 c [.int (nI k)] (HF f) = some (HF f') ∧ CS f' c v' (lN (ww + bw1 k)) B ∧ CN (al + 1) (be + bent k) (su + k) (if 0 < k then min le k else le) (if k ≤ mo then mo else k) v' ∧ Fx c (c + 1) f f' := by
  obtain ⟨n1, n2, n3, n4, n5⟩ := hn
  obtain ⟨f1, a1, a2, a3⟩ := h.put (k := 1) (by decide) (nI (al + 1))
  have pre := F3_eq c (nI k) (HF f)
  rw [h.i1, n1] at pre
  simp only [Option.bind_some] at pre
  rw [show nI al + 1 = nI (al + 1) from iAdd al 1, a1] at pre
  simp only [Option.bind_some] at pre
  have q0 : (nI k ≤ 0) = (k ≤ 0) := iLE (b := 0) (by omega) (by omega)
  simp only [q0] at pre
  have z : ∀ (j i : Nat) (x : Int32) (u : Nat → Int32), j ≠ i → iup u i x j = u j := fun j i x u hji => iup_ne hji
  by_cases c0 : k ≤ 0
  · rw [if_pos c0] at pre
    have : k = 0 := by omega
    subst this
    refine ⟨f1, _, vV_of (ci := 0) rfl h.O pre, a2, ?_, a3⟩
    rw [if_neg (by omega), if_pos (by omega)]
    exact ⟨iup_at, (z 2 1 _ _ (by decide)).trans n2, (z 3 1 _ _ (by decide)).trans n3, (z 4 1 _ _ (by decide)).trans n4, (z 5 1 _ _ (by decide)).trans n5⟩
  · rw [if_neg c0] at pre
    obtain ⟨f2, b1, b2, b3⟩ := a2.put (k := 2) (by decide) (nI (be + 1))
    obtain ⟨f3, c1, c2, c3⟩ := b2.put (k := 3) (by decide) (nI (su + k))
    obtain ⟨f4, d1, d2, d3⟩ := c2.put (k := 4) (by decide) (nI (min le k))
    obtain ⟨f5, e1, e2, e3⟩ := d2.put (k := 5) (by decide) (nI (max mo k))
    obtain ⟨f6, g1, g2, g3⟩ := e2.putL (lN (ww + bw1 k))
    have hT : f5 0 = .inl (5, 9, .inl mPart) := by
      rw [e3 0 (by omega), d3 0 (by omega), c3 0 (by omega), b3 0 (by omega), a3 0 (by omega)]
      exact h0
    have hb := bw1_le k hk
    rw [a2.i2, z 2 1 _ _ (by decide), n2] at pre
    simp only [Option.bind_some] at pre
    rw [show nI be + 1 = nI (be + 1) from iAdd be 1, b1] at pre
    simp only [Option.bind_some] at pre
    rw [b2.i3, z 3 2 _ _ (by decide), z 3 1 _ _ (by decide), n3] at pre
    simp only [Option.bind_some] at pre
    rw [iAdd, c1] at pre
    simp only [Option.bind_some] at pre
    rw [c2.i4, z 4 3 _ _ (by decide), z 4 2 _ _ (by decide), z 4 1 _ _ (by decide), n4] at pre
    simp only [Option.bind_some] at pre
    rw [Cg_min (by omega) (by omega)] at pre
    simp only [Option.bind_some] at pre
    rw [d1] at pre
    simp only [Option.bind_some] at pre
    rw [d2.i5, z 5 4 _ _ (by decide), z 5 3 _ _ (by decide), z 5 2 _ _ (by decide), z 5 1 _ _ (by decide), n5] at pre
    simp only [Option.bind_some] at pre
    rw [Cg_max (by omega) (by omega)] at pre
    simp only [Option.bind_some] at pre
    rw [e1] at pre
    simp only [Option.bind_some] at pre
    rw [e2.l6, show nI k + 1 = nI (k + 1) from iAdd k 1, show nI k + 2 = nI (k + 2) from iAdd k 2] at pre
    simp only [Option.bind_some] at pre
    rw [cAldT_of hT (show k + 1 < 9 by omega), mPart_ok (k + 1) (by omega) (by omega)] at pre
    simp only [Option.bind_some] at pre
    rw [iMul, iMul, nI_l (show k * (k + 2) * (840 / (k + 1)) < 2 ^ 31 by unfold bw1 at hb; omega), lN_add] at pre
    rw [show lN (ww + k * (k + 2) * (840 / (k + 1))) = lN (ww + bw1 k) from rfl, g1] at pre
    refine ⟨f6, _, vV_of (ci := 0) rfl h.O pre, g2, ?_, ((((a3.tr b3).tr c3).tr d3).tr e3).tr g3⟩
    rw [if_pos (by omega)]
    refine ⟨?_, ?_, ?_, ?_, ?_⟩
    · rw [z 1 5 _ _ (by decide), z 1 4 _ _ (by decide), z 1 3 _ _ (by decide), z 1 2 _ _ (by decide), iup_at]
    · rw [z 2 5 _ _ (by decide), z 2 4 _ _ (by decide), z 2 3 _ _ (by decide), iup_at]
      unfold bent
      rw [if_pos (by omega)]
    · rw [z 3 5 _ _ (by decide), z 3 4 _ _ (by decide), iup_at]
    · rw [z 4 5 _ _ (by decide), iup_at]
    · rw [iup_at]
      by_cases e : k ≤ mo
      · rw [if_pos e, Nat.max_eq_left e]
      · rw [if_neg e, Nat.max_eq_right (by omega)]
/-- one corner's bend, laid at each of its squares -/
theorem Cc_bf1 (hG : Gd G) {s : Nat} (hs : s < G.1) (h : GV f a G) : ∀ (d k : Nat), k + d = bn G s → q2_9 c a (nI s) (nI k) (nI (it (arA G) (k + 1) s)) (HF f) = q2_42 c a (nI s) (nI (bn G s)) (nI s) 0 (HF f) := by
  have g2 := hG.2.1
  obtain ⟨b1, b2, b3⟩ := bd_ok (arA_prm hG) hs
  intro d
  induction d with
  | zero =>
    intro k hk
    have ek : k = bn G s := by omega
    rw [q2_9_eq, h.nn]
    simp only [Option.bind_some]
    rw [ek]
    have hb : bn G s < G.1 := b1
    rw [show nI G.1 - 1 = nI (G.1 - 1) from iSub (b := 1) (by omega), show it (arA G) (bn G s + 1) s = s from b2, if_pos (rfl : nI s = nI s)]
    exact ite_self _
  | succ d ih =>
    intro k hk
    have hb : bn G s < G.1 := b1
    have hlt := it_lt (arA_prm hG).1 hs (k + 1)
    rw [q2_9_eq, h.nn]
    simp only [Option.bind_some]
    rw [show nI G.1 - 1 = nI (G.1 - 1) from iSub (b := 1) (by omega), if_neg (by rw [iLE (by omega) (by omega)]; omega), if_neg (by rw [iEQ (by omega) (by omega)]; exact b3 k (by unfold bn at hk; omega)), Cg_around hG h hlt]
    simp only [Option.bind_some]
    rw [show nI k + 1 = nI (k + 1) from iAdd k 1]
    exact ih (k + 1) (by omega)
theorem Cc_bf2 (hG : Gd G) {s : Nat} (hs : s < G.1) (hd : c + 1 < a ∨ a + 5 < c) : ∀ (d i : Nat), i + d = bn G s + 1 → ∀ (f : Nat → mCell) (B : Nat → Int32), GV f a G → CS f c v w B → (∀ j, j < i → B (it (arA G) j s) = nI (bn G s)) → ∃ f' B', q2_42 c a (nI s) (nI (bn G s)) (nI (it (arA G) i s)) (nI i) (HF f) = some (some (.int (nI (bn G s))), HF f') ∧ CS f' c v w B' ∧ (∀ j, j < bn G s + 1 → B' (it (arA G) j s) = nI (bn G s)) ∧ (∀ q, (∀ j, it (arA G) j s ≠ q) → B' q = B q) ∧ Fx c (c + 1) f f' := by
  have g2 := hG.2.1
  have hb : bn G s < G.1 := bn_lt hG hs
  intro d
  induction d with
  | zero =>
    intro i hi f B hv h hp
    have ei : i = bn G s + 1 := by omega
    subst ei
    refine ⟨f, B, ?_, h, hp, fun _ _ => rfl, Fx.rf⟩
    rw [q2_42_eq, if_pos (by rw [iLT (by omega) (by omega)]; omega)]
  | succ d ih =>
    intro i hi f B hv h hp
    have hlt := it_lt (arA_prm hG).1 hs i
    obtain ⟨f1, a1, a2, a3⟩ := h.st (q := it (arA G) i s) (by omega) (nI (bn G s))
    have hv1 := hv.fx a3 (by omega)
    obtain ⟨f2, B2, b1, b2, b3, b4, b5⟩ := ih (i + 1) (by omega) f1 _ hv1 a2 (by
      intro j hj
      by_cases e : it (arA G) j s = it (arA G) i s
      · rw [e, pk_us]
      · rw [pk_un e]
        exact hp j (by
          have : j ≠ i := fun z => e (by rw [z])
          omega))
    refine ⟨f2, B2, ?_, b2, b3, fun q hq => by rw [b4 q hq, pk_un (fun z => hq i z.symm)], a3.tr b5⟩
    rw [q2_42_eq, if_neg (by rw [iLT (by omega) (by omega)]; omega), h.r]
    simp only [Option.bind_some]
    rw [a1]
    simp only [Option.bind_some]
    rw [Cg_around hG hv1 hlt]
    simp only [Option.bind_some]
    rw [show nI i + 1 = nI (i + 1) from iAdd i 1]
    exact b1
theorem Cc_bendFrom (hG : Gd G) {s : Nat} (hs : s < G.1) (hd : c + 1 < a ∨ a + 5 < c) (hv : GV f a G) (h : CS f c v w B) : ∃ f' B', vI 2 c [.ref a, .int (nI s)] (HF f) = some (nI (bn G s), HF f') ∧ CS f' c v w B' ∧ (∀ q, (∃ j, it (arA G) j s = q) → B' q = nI (bn G s)) ∧ (∀ q, (∀ j, it (arA G) j s ≠ q) → B' q = B q) ∧ Fx c (c + 1) f f' := by
  obtain ⟨f2, B2, b1, b2, b3, b4, b5⟩ := Cc_bf2 hG hs hd (bn G s + 1) 0 (by omega) f B hv h (fun j hj => by omega)
  refine ⟨f2, B2, vI_of (ci := 0) rfl h.O ?_, b2, ?_, b4, b5⟩
  · rw [F2_eq, Cg_around hG hv hs]
    simp only [Option.bind_some]
    exact (Cc_bf1 hG hs hv (bn G s) 0 (by omega)).trans b1
  · rintro q ⟨j, rfl⟩
    have e : it (arA G) (bn G s + 1) s = s := (bd_ok (arA_prm hG) hs).2.1
    rw [it_mod e j]
    exact b3 _ (Nat.mod_lt _ (by omega))
end C5
