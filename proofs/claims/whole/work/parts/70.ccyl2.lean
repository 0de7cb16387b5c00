theorem vI_zb {b : Bool} : (b2i b = 1) = (b = true) := by
  cases b
  · exact propext ⟨fun z => absurd z (by decide), fun z => by cases z⟩
  · exact propext ⟨fun _ => rfl, fun _ => rfl⟩
section C13
variable {f : Nat → mCell} {a c : Nat} {n : Int32} {A : Nat → Nat → Int32} {G : Gr}
theorem Cy_fl (hG : Gd G) (hv : GV f a G) (h : YS f c n A) (hC : CV f (c + 1) G) (h3 : ∀ q, q < G.1 → A 3 q = nI (mnO G.2.1 G.1 q)) {s : Nat} (hs : s < G.1) (hl : mnO G.2.1 G.1 s = s) : ∀ (d k : Nat), k + d = G.1 → s ≤ k → (∀ q, s ≤ q → q < k → mnO G.2.1 G.1 q = s → bn G q = 0) → q10_2 c a (nI s) (nI k) (HF f) = some (some (.int (b2i (smo G s))), HF f) := by
  have g2 := hG.2.1
  have hR := hG.2.2.1
  intro d
  induction d with
  | zero =>
    intro k hk hsk hp
    have : k = G.1 := by omega
    subst this
    have : smo G s = true := by
      rw [smo_iff hG hs]
      intro i
      have hlt := it_lt hR.1 hs i
      refine hp _ ?_ hlt (by rw [mnO_it hR hs, hl])
      have := mnO_le hR hs i
      omega
    rw [q10_2_eq, hv.nn]
    simp only [Option.bind_some, nz1, if_true]
    rw [if_pos (Int32.le_refl _), this]; rfl
  | succ d ih =>
    intro k hk hsk hp
    have hlt : k < G.1 := by omega
    have hml := mnO_lt hR hlt
    obtain ⟨v, B, hC1, hC2, hC3⟩ := hC
    rw [q10_2_eq, hv.nn]
    simp only [Option.bind_some, nz0, if_true]
    rw [if_neg (by rw [iLE (by omega) (by omega)]; omega), h.r1, h.r0]
    simp only [Option.bind_some]
    rw [h.ld 3 (by omega) (by omega) (by omega), h3 k hlt]
    simp only [Option.bind_some, iEQ (show mnO G.2.1 G.1 k < 2000000000 by omega) (show s < 2000000000 by omega)]
    rw [show nI k + 1 = nI (k + 1) from iAdd k 1]
    by_cases c0 : mnO G.2.1 G.1 k = s
    · rw [if_neg (fun z => z c0), hC1.r]
      simp only [Option.bind_some]
      rw [hC1.ld (by omega), hC3 k hlt]
      simp only [Option.bind_some]
      have hb := bn_lt hG hlt
      have t0 : (nI (bn G k) ≤ 0) = (bn G k ≤ 0) := iLE (b := 0) (by omega) (by omega)
      simp only [t0]
      by_cases c1 : bn G k ≤ 0
      · rw [if_pos c1]
        refine ih (k + 1) (by omega) (by omega) (fun q q1 q2 q3 => ?_)
        by_cases e : q = k
        · rw [e]; omega
        · exact hp q q1 (by omega) q3
      · rw [if_neg c1]
        have : smo G s = false := by
          cases e : smo G s with
          | false => rfl
          | true =>
            obtain ⟨i, -, i2⟩ := mnO_ex (A := G.2.1) (n := G.1) (q := k)
            rw [c0] at i2
            obtain ⟨j, hj⟩ := orb_symm hR hlt i2
            have := (smo_iff hG hs).1 e j
            rw [hj] at this
            omega
        rw [this]; rfl
    · rw [if_pos c0]
      refine ih (k + 1) (by omega) (by omega) (fun q q1 q2 q3 => ?_)
      by_cases e : q = k
      · rw [e] at q3; exact absurd q3 c0
      · exact hp q q1 (by omega) q3
theorem Cy_flat (hG : Gd G) (hv : GV f a G) (h : YS f c n A) (hC : CV f (c + 1) G) (h3 : ∀ q, q < G.1 → A 3 q = nI (mnO G.2.1 G.1 q)) {s : Nat} (hs : s < G.1) (hl : mnO G.2.1 G.1 s = s) : vI 10 c [.ref a, .int (nI s)] (HF f) = some (b2i (smo G s), HF f) := by
  refine vI_of (ci := 1) rfl h.O ?_
  rw [F10_eq]
  exact Cy_fl hG hv h hC h3 hs hl (G.1 - s) s (by omega) (Nat.le_refl _) (fun q q1 q2 => by omega)
def rlb (lb : Nat → Nat) (x y q : Nat) : Nat := if lb q = max x y then min x y else lb q
theorem Cy_jnL {m : Nat} (hm : m ≤ 8) {lb : Nat → Nat} {x y : Nat} (hx : x < 8) (hy : y < 8) (hl : ∀ q, q < m → lb q < 8) {v2 v3 : Int32} : ∀ (d k : Nat), k + d = m → ∀ (f : Nat → mCell) (A : Nat → Nat → Int32), YS f c n A → (∀ q, q < k → A 4 q = nI (rlb lb x y q)) → (∀ q, k ≤ q → q < m → A 4 q = nI (lb q)) → ∃ f' A', q11_17 c (nI m) v2 v3 (nI (min x y)) (nI (max x y)) (nI k) (HF f) = some (none, HF f') ∧ YS f' c n A' ∧ A' 3 = A 3 ∧ (∀ q, q < m → A' 4 q = nI (rlb lb x y q)) ∧ Fy c f f' := by
  intro d
  induction d with
  | zero =>
    intro k hk f A h hp hu
    have : k = m := by omega
    subst this
    refine ⟨f, A, ?_, h, rfl, hp, Fy.rf⟩
    rw [q11_17_eq, if_pos (Int32.le_refl _)]
  | succ d ih =>
    intro k hk f A h hp hu
    have hlk := hl k (by omega)
    have pre := q11_17_eq c (nI m) v2 v3 (nI (min x y)) (nI (max x y)) (nI k) (HF f)
    rw [if_neg (by rw [iLE (by omega) (by omega)]; omega), h.r2] at pre
    simp only [Option.bind_some] at pre
    rw [h.ld 4 (by omega) (by omega) (by omega), hu k (Nat.le_refl _) (by omega)] at pre
    simp only [Option.bind_some, iEQ (show lb k < 2000000000 by omega) (show max x y < 2000000000 by omega)] at pre
    rw [show nI k + 1 = nI (k + 1) from iAdd k 1] at pre
    by_cases c0 : lb k = max x y
    · rw [if_neg (fun z => z c0)] at pre
      obtain ⟨f1, a1, a2, a3⟩ := h.st 4 (by omega) (by omega) (q := k) (by omega) (nI (min x y))
      rw [a1] at pre
      simp only [Option.bind_some] at pre
      obtain ⟨f2, A2, b1, b2, b3, b4, b5⟩ := ih (k + 1) (by omega) f1 _ a2 (by
        intro q hq
        rw [fu_at]
        by_cases e : q = k
        · rw [e, pk_us]
          unfold rlb
          rw [if_pos c0]
        · rw [pk_un e]
          exact hp q (by omega)) (by
        intro q q1 q2
        rw [fu_at, pk_un (by omega)]
        exact hu q (by omega) q2)
      exact ⟨f2, A2, pre.trans b1, b2, b3.trans (fu_ne (by decide)), b4, a3.tr b5⟩
    · rw [if_pos c0] at pre
      obtain ⟨f2, A2, b1, b2, b3, b4, b5⟩ := ih (k + 1) (by omega) f A h (by
        intro q hq
        by_cases e : q = k
        · rw [e, hu k (Nat.le_refl _) (by omega)]
          unfold rlb
          rw [if_neg c0]
        · exact hp q (by omega)) (fun q q1 q2 => hu q (by omega) q2)
      exact ⟨f2, A2, pre.trans b1, b2, b3, b4, b5⟩
theorem Cy_join {m : Nat} (hm : m ≤ 8) {lb : Nat → Nat} {x y : Nat} (hx : x < 8) (hy : y < 8) (hl : ∀ q, q < m → lb q < 8) (h : YS f c n A) (h4 : ∀ q, q < m → A 4 q = nI (lb q)) : ∃ f' A', vV 11 c [.int (nI m), .int (nI x), .int (nI y)] (HF f) = some (HF f') ∧ YS f' c n A' ∧ A' 3 = A 3 ∧ (∀ q, q < m → A' 4 q = nI (rlb lb x y q)) ∧ Fy c f f' := by
  obtain ⟨f2, A2, b1, b2, b3, b4, b5⟩ := Cy_jnL hm hx hy hl (v2 := nI x) (v3 := nI y) m 0 (by omega) f A h (fun q hq => by omega) (fun q _ hq => h4 q hq)
  refine ⟨f2, A2, vV_of (ci := 1) rfl h.O ?_, b2, b3, b4, b5⟩
  rw [F11_eq, Cg_min (by omega) (by omega)]
  simp only [Option.bind_some]
  rw [Cg_max (by omega) (by omega)]
  simp only [Option.bind_some]
  exact b1
theorem rlb_J {lb : Nat → Nat} {s : Nat} (hG : Gd G) (hs : s < G.1) (hm : smo G s = true) (hJ : Jn G lb) : Jn G (rlb lb (lb s) (lb (G.2.2 s))) := by
  have hU := hG.2.2.2.1 s hs
  constructor
  · intro q hq
    have := hJ.1 q hq
    unfold rlb
    split <;> omega
  · intro k hk q hq
    have e1 : k (lb s) = k s := hJ.2 k hk s hs
    have e2 : k (lb (G.2.2 s)) = k s := (hJ.2 k hk _ hU).trans ((hk s hs).2 hm)
    unfold rlb
    by_cases c0 : lb q = max (lb s) (lb (G.2.2 s))
    · rw [if_pos c0, ← hJ.2 k hk q hq, c0]
      by_cases c1 : lb s ≤ lb (G.2.2 s)
      · rw [Nat.min_eq_left c1, Nat.max_eq_right c1, e1, e2]
      · rw [Nat.min_eq_right (by omega), Nat.max_eq_left (by omega), e1, e2]
    · rw [if_neg c0]
      exact hJ.2 k hk q hq
theorem rlb_eq {lb : Nat → Nat} {x y p q : Nat} (h : lb p = lb q) : rlb lb x y p = rlb lb x y q := by
  unfold rlb
  rw [h]
theorem rlb_xy {lb : Nat → Nat} {x y p q : Nat} (hp : lb p = x) (hq : lb q = y) : rlb lb x y q = rlb lb x y p := by
  unfold rlb
  rw [hp, hq]
  by_cases c : x ≤ y
  · rw [Nat.min_eq_left c, Nat.max_eq_right c]
    by_cases c1 : x = y
    · rw [if_pos rfl, if_pos c1]
    · rw [if_pos rfl, if_neg c1]
  · rw [Nat.min_eq_right (by omega), Nat.max_eq_left (by omega), if_pos rfl, if_neg (by omega)]
theorem lab_of {lb : Nat → Nat} (hG : Gd G) (hJ : Jn G lb) (hr : ∀ q, q < G.1 → lb (G.2.1 q) = lb q) (hs : ∀ s, s < G.1 → mnO G.2.1 G.1 s = s → smo G s = true → lb (G.2.2 s) = lb s) : Lab G lb := by
  have hR := hG.2.2.1
  have hri : ∀ q, q < G.1 → ∀ i, lb (it G.2.1 i q) = lb q := by
    intro q hq i
    induction i with
    | zero => rfl
    | succ i ih =>
      show lb (G.2.1 (it G.2.1 i q)) = _
      rw [hr _ (it_lt hR.1 hq i), ih]
  refine ⟨hJ, fun q hq => ⟨hr q hq, fun hm => ?_⟩⟩
  obtain ⟨i, -, i2⟩ := mnO_ex (A := G.2.1) (n := G.1) (q := q)
  have hl := mnO_lt hR hq
  have hml : smo G (mnO G.2.1 G.1 q) = true := by
    rw [← i2]
    exact smo_it hG hq hm i
  have hlead : mnO G.2.1 G.1 (mnO G.2.1 G.1 q) = mnO G.2.1 G.1 q := by
    conv => lhs; rw [← i2]
    rw [mnO_it hR hq]
  obtain ⟨j, hj⟩ := orb_symm hR hq i2
  have e1 := hs _ hl hlead hml
  have e2 := smo_up hG hl hml j
  rw [hj] at e2
  rw [e2, hri _ (hG.2.2.2.1 _ hl) j, e1, ← hri _ hl j, hj]
theorem Cy_rgL (g2 : G.1 ≤ 8) {lb : Nat → Nat} (hb : ∀ q, q < G.1 → lb q ≤ q) (hR : Prm G.1 G.2.1) (h : YS f c n A) (h3 : ∀ q, q < G.1 → A 3 q = nI (mnO G.2.1 G.1 q)) (h4 : ∀ q, q < G.1 → A 4 q = nI (lb q)) {s : Nat} (hs : s < G.1) : ∀ (d k : Nat), k + d = G.1 → q13_5 c (nI G.1) (nI s) (nI (cnt (fun q => decide (lb q = s) && decide (mnO G.2.1 G.1 q = q)) k)) (nI k) (HF f) = some (some (.int (nI (cnt (fun q => decide (lb q = s) && decide (mnO G.2.1 G.1 q = q)) G.1))), HF f) := by
  intro d
  induction d with
  | zero =>
    intro k hk
    have : k = G.1 := by omega
    subst this
    rw [q13_5_eq, if_pos (Int32.le_refl _)]
  | succ d ih =>
    intro k hk
    have hlt : k < G.1 := by omega
    have e : cnt (fun q => decide (lb q = s) && decide (mnO G.2.1 G.1 q = q)) (k + 1) = cnt (fun q => decide (lb q = s) && decide (mnO G.2.1 G.1 q = q)) k + (if (decide (lb k = s) && decide (mnO G.2.1 G.1 k = k)) = true then 1 else 0) := rfl
    have hbk := hb k hlt
    have hml := mnO_lt hR hlt
    have ih1 := ih (k + 1) (by omega)
    rw [e] at ih1
    rw [q13_5_eq, if_neg (by rw [iLE (by omega) (by omega)]; omega), h.r2, h.r1]
    simp only [Option.bind_some]
    rw [h.ld 4 (by omega) (by omega) (by omega), h.ld 3 (by omega) (by omega) (by omega), h4 k hlt, h3 k hlt]
    simp only [Option.bind_some, iEQ (show lb k < 2000000000 by omega) (show s < 2000000000 by omega), iEQ (show mnO G.2.1 G.1 k < 2000000000 by omega) (show k < 2000000000 by omega)]
    rw [show nI k + 1 = nI (k + 1) from iAdd k 1]
    by_cases c0 : lb k = s
    · rw [if_neg (fun z => z c0)]
      by_cases c1 : mnO G.2.1 G.1 k = k
      · rw [if_neg (fun z => z c1), show ∀ m, nI m + 1 = nI (m + 1) from fun m => iAdd m 1]
        rw [decide_eq_true c0, decide_eq_true c1, if_pos (show (true && true) = true from rfl)] at ih1
        exact ih1
      · rw [if_pos c1]
        rw [decide_eq_false c1, Bool.and_false, if_neg (by decide), Nat.add_zero] at ih1
        exact ih1
    · rw [if_pos c0]
      rw [decide_eq_false c0, Bool.false_and, if_neg (by decide), Nat.add_zero] at ih1
      exact ih1
theorem Cy_rings (g2 : G.1 ≤ 8) {lb : Nat → Nat} (hb : ∀ q, q < G.1 → lb q ≤ q) (hR : Prm G.1 G.2.1) (h : YS f c n A) (h3 : ∀ q, q < G.1 → A 3 q = nI (mnO G.2.1 G.1 q)) (h4 : ∀ q, q < G.1 → A 4 q = nI (lb q)) {s : Nat} (hs : s < G.1) : vI 13 c [.int (nI G.1), .int (nI s)] (HF f) = some (nI (cnt (fun q => decide (lb q = s) && decide (mnO G.2.1 G.1 q = q)) G.1), HF f) := by
  refine vI_of (ci := 1) rfl h.O ?_
  rw [F13_eq]
  have := Cy_rgL g2 hb hR h h3 h4 hs (G.1 - s) s (by omega)
  rw [cnt_0 s (by
    intro q hq
    have := hb q (by omega)
    show (decide (lb q = s) && _) = false
    rw [decide_eq_false (by omega)]; rfl)] at this
  exact this
def YV (f : Nat → mCell) (c : Nat) (G : Gr) : Prop := ∃ A, YS f c (nI (cyN G)) A ∧ ∀ q, q < G.1 → cyP G q = true → A 5 (cnt (cyP G) q) = nI (rl G q) ∧ A 6 (cnt (cyP G) q) = nI (cyZ G q / rl G q) ∧ A 7 (cnt (cyP G) q) = nI q
theorem Cy_lsL (hG : Gd G) (hd : c + 7 < a ∨ a + 5 < c) {lb : Nat → Nat} (hL : Lab G lb) : ∀ (d k : Nat), k + d = G.1 → ∀ (f : Nat → mCell) (A : Nat → Nat → Int32), GV f a G → YS f c (nI (cnt (cyP G) k)) A → (∀ q, q < G.1 → A 3 q = nI (mnO G.2.1 G.1 q)) → (∀ q, q < G.1 → A 4 q = nI (lb q)) → (∀ q, q < k → cyP G q = true → A 5 (cnt (cyP G) q) = nI (rl G q) ∧ A 6 (cnt (cyP G) q) = nI (cyZ G q / rl G q) ∧ A 7 (cnt (cyP G) q) = nI q) → ∃ f', q12_7 c a (nI k) (HF f) = some (none, HF f') ∧ YV f' c G ∧ Fy c f f' := by
  have g2 := hG.2.1
  intro d
  induction d with
  | zero =>
    intro k hk f A hv h h3 h4 hp
    have : k = G.1 := by omega
    subst this
    refine ⟨f, ?_, ⟨A, h, hp⟩, Fy.rf⟩
    rw [q12_7_eq, hv.nn]
    simp only [Option.bind_some]
    rw [if_pos (Int32.le_refl _)]
  | succ d ih =>
    intro k hk f A hv h h3 h4 hp
    have hlt : k < G.1 := by omega
    have hbk := hL.1.1 k hlt
    have hck := cnt_le (cyP G) k
    have ec : cnt (cyP G) (k + 1) = cnt (cyP G) k + (if cyP G k = true then 1 else 0) := rfl
    have hcp : cyP G k = decide (lb k = k) := by
      unfold cyP
      rw [labF_ok hL k hlt]
    have pre := q12_7_eq c a (nI k) (HF f)
    rw [hv.nn] at pre
    simp only [Option.bind_some] at pre
    rw [if_neg (by rw [iLE (by omega) (by omega)]; omega), h.r2] at pre
    simp only [Option.bind_some] at pre
    rw [h.ld 4 (by omega) (by omega) (by omega), h4 k hlt] at pre
    simp only [Option.bind_some, iEQ (show lb k < 2000000000 by omega) (show k < 2000000000 by omega)] at pre
    rw [show nI k + 1 = nI (k + 1) from iAdd k 1] at pre
    by_cases c0 : lb k = k
    · have hcp1 : cyP G k = true := by rw [hcp, decide_eq_true c0]
      rw [if_pos hcp1] at ec
      rw [if_neg (fun z => z c0), h.r4, h.nn] at pre
      simp only [Option.bind_some] at pre
      rw [Cg_ring hG hv hlt] at pre
      simp only [Option.bind_some] at pre
      obtain ⟨f1, a1, a2, a3⟩ := h.st 5 (by omega) (by omega) (q := cnt (cyP G) k) (by omega) (nI (rl G k))
      rw [a1] at pre
      simp only [Option.bind_some] at pre
      have hv1 := hv.fx a3.fx (by omega)
      rw [a2.r5, a2.nn, hv1.nn] at pre
      simp only [Option.bind_some] at pre
      rw [Cy_rings g2 hL.1.1 hG.2.2.1 a2 (fun q hq => by rw [fu_ne (by decide)]; exact h3 q hq) (fun q hq => by rw [fu_ne (by decide)]; exact h4 q hq) hlt, high_eq hG hL hlt] at pre
      simp only [Option.bind_some] at pre
      obtain ⟨f2, b1, b2, b3⟩ := a2.st 6 (by omega) (by omega) (q := cnt (cyP G) k) (by omega) (nI (cyZ G k / rl G k))
      rw [b1] at pre
      simp only [Option.bind_some] at pre
      rw [b2.r6, b2.nn] at pre
      simp only [Option.bind_some] at pre
      obtain ⟨f3, c1, c2, c3⟩ := b2.st 7 (by omega) (by omega) (q := cnt (cyP G) k) (by omega) (nI k)
      rw [c1] at pre
      simp only [Option.bind_some] at pre
      rw [c2.nn] at pre
      simp only [Option.bind_some] at pre
      obtain ⟨f4, d1, d2, d3⟩ := c2.put (nI (cnt (cyP G) (k + 1)))
      rw [show nI (cnt (cyP G) k) + 1 = nI (cnt (cyP G) (k + 1)) by rw [ec]; exact iAdd _ 1, d1] at pre
      simp only [Option.bind_some] at pre
      have hx := ((a3.tr b3).tr c3).tr d3
      have q3 : ∀ q, fu (fu (fu A 5 (upd (A 5) (cnt (cyP G) k) (nI (rl G k)))) 6 (upd (fu A 5 (upd (A 5) (cnt (cyP G) k) (nI (rl G k))) 6) (cnt (cyP G) k) (nI (cyZ G k / rl G k)))) 7 (upd (fu (fu A 5 (upd (A 5) (cnt (cyP G) k) (nI (rl G k)))) 6 (upd (fu A 5 (upd (A 5) (cnt (cyP G) k) (nI (rl G k))) 6) (cnt (cyP G) k) (nI (cyZ G k / rl G k))) 7) (cnt (cyP G) k) (nI k)) q = if q = 5 then upd (A 5) (cnt (cyP G) k) (nI (rl G k)) else if q = 6 then upd (A 6) (cnt (cyP G) k) (nI (cyZ G k / rl G k)) else if q = 7 then upd (A 7) (cnt (cyP G) k) (nI k) else A q := by
        intro q
        by_cases e7 : q = 7
        · subst e7
          rw [fu_at, fu_ne (by decide), fu_ne (by decide)]
          rfl
        · rw [fu_ne e7]
          by_cases e6 : q = 6
          · subst e6
            rw [fu_at, fu_ne (by decide)]
            rfl
          · rw [fu_ne e6]
            by_cases e5 : q = 5
            · subst e5
              rw [fu_at]
              rfl
            · rw [fu_ne e5, if_neg e5, if_neg e6, if_neg e7]
      obtain ⟨f5, e1, e2, e3⟩ := ih (k + 1) (by omega) f4 _ (hv.fx hx.fx (by omega)) d2 (fun q hq => by rw [q3]; exact h3 q hq) (fun q hq => by rw [q3]; exact h4 q hq) (by
        intro q hq hq1
        rw [q3, q3, q3, if_pos rfl, if_neg (by decide), if_pos rfl, if_neg (by decide), if_neg (by decide), if_pos rfl]
        by_cases e : q = k
        · rw [e, pk_us, pk_us, pk_us]
          exact ⟨rfl, rfl, rfl⟩
        · have : cnt (cyP G) q ≠ cnt (cyP G) k := by
            have := cnt_lt (P := cyP G) (show q < k by omega) hq1
            omega
          rw [pk_un this, pk_un this, pk_un this]
          exact hp q (by omega) hq1)
      exact ⟨f5, pre.trans e1, e2, hx.tr e3⟩
    · have hcp1 : ¬ cyP G k = true := by
        rw [hcp, decide_eq_false c0]
        decide
      rw [if_neg hcp1, Nat.add_zero] at ec
      rw [if_pos c0] at pre
      obtain ⟨f5, e1, e2, e3⟩ := ih (k + 1) (by omega) f A hv (by rw [ec]; exact h) h3 h4 (by
        intro q hq hq1
        by_cases e : q = k
        · rw [e] at hq1; exact absurd hq1 hcp1
        · exact hp q (by omega) hq1)
      exact ⟨f5, pre.trans e1, e2, e3⟩
theorem Cy_list (hG : Gd G) (hd : c + 7 < a ∨ a + 5 < c) {lb : Nat → Nat} (hL : Lab G lb) (hv : GV f a G) (h : YS f c n A) (h3 : ∀ q, q < G.1 → A 3 q = nI (mnO G.2.1 G.1 q)) (h4 : ∀ q, q < G.1 → A 4 q = nI (lb q)) : ∃ f', vV 12 c [.ref a] (HF f) = some (HF f') ∧ YV f' c G ∧ Fy c f f' := by
  obtain ⟨f1, a1, a2, a3⟩ := h.put 0
  obtain ⟨f2, b1, b2, b3⟩ := Cy_lsL hG hd hL G.1 0 (by omega) f1 A (hv.fx a3.fx (by omega)) a2 h3 h4 (fun q hq => by omega)
  refine ⟨f2, vV_of (ci := 1) rfl h.O ?_, b2, a3.tr b3⟩
  rw [F12_eq, a1]
  exact b1
theorem Cy_lkL (hG : Gd G) (hd : c + 7 < a ∨ a + 5 < c) : ∀ (d s : Nat), s + d = G.1 → ∀ (f : Nat → mCell) (A : Nat → Nat → Int32) (lb : Nat → Nat), GV f a G → CV f (c + 1) G → YS f c n A → (∀ q, q < G.1 → A 3 q = nI (mnO G.2.1 G.1 q)) → (∀ q, q < G.1 → A 4 q = nI (lb q)) → Jn G lb → (∀ q, q < G.1 → lb (G.2.1 q) = lb q) → (∀ q, q < s → mnO G.2.1 G.1 q = q → smo G q = true → lb (G.2.2 q) = lb q) → ∃ f', q8_15 c a (nI s) (HF f) = some (none, HF f') ∧ YV f' c G ∧ Fy c f f' := by
  have g2 := hG.2.1
  have hR := hG.2.2.1
  intro d
  induction d with
  | zero =>
    intro s hs f A lb hv hC h h3 h4 hJ hr hu
    have : s = G.1 := by omega
    subst this
    obtain ⟨f1, a1, a2, a3⟩ := Cy_list hG hd (lab_of hG hJ hr hu) hv h h3 h4
    refine ⟨f1, ?_, a2, a3⟩
    rw [q8_15_eq, hv.nn]
    simp only [Option.bind_some]
    rw [if_pos (Int32.le_refl _), a1]
    rfl
  | succ d ih =>
    intro s hs f A lb hv hC h h3 h4 hJ hr hu
    have hlt : s < G.1 := by omega
    have hml := mnO_lt hR hlt
    have pre := q8_15_eq c a (nI s) (HF f)
    rw [hv.nn] at pre
    simp only [Option.bind_some] at pre
    rw [if_neg (by rw [iLE (by omega) (by omega)]; omega), h.r1] at pre
    simp only [Option.bind_some] at pre
    rw [h.ld 3 (by omega) (by omega) (by omega), h3 s hlt] at pre
    simp only [Option.bind_some, iEQ (show mnO G.2.1 G.1 s < 2000000000 by omega) (show s < 2000000000 by omega)] at pre
    rw [show nI s + 1 = nI (s + 1) from iAdd s 1] at pre
    by_cases c0 : mnO G.2.1 G.1 s = s
    · rw [if_neg (fun z => z c0), Cy_flat hG hv h hC h3 hlt c0] at pre
      simp only [Option.bind_some, b2i_0] at pre
      by_cases c1 : smo G s = false
      · rw [if_pos c1] at pre
        obtain ⟨f5, e1, e2, e3⟩ := ih (s + 1) (by omega) f A lb hv hC h h3 h4 hJ hr (by
          intro q hq q1 q2
          by_cases e : q = s
          · rw [e, c1] at q2; cases q2
          · exact hu q (by omega) q1 q2)
        exact ⟨f5, pre.trans e1, e2, e3⟩
      · have c1 : smo G s = true := by
          cases e : smo G s with
          | true => rfl
          | false => exact absurd e c1
        obtain ⟨r, y1, y2⟩ := hv.ld1 g2 hlt
        have hU := hG.2.2.2.1 s hlt
        have l8 : ∀ q, q < G.1 → lb q < 8 := fun q hq => by have := hJ.1 q hq; omega
        rw [if_neg (by rw [c1]; decide), hv.nn, h.r2] at pre
        simp only [Option.bind_some] at pre
        rw [h.ld 4 (by omega) (by omega) (by omega), h4 s hlt] at pre
        simp only [Option.bind_some] at pre
        rw [y1] at pre
        simp only [Option.bind_some] at pre
        rw [y2] at pre
        simp only [Option.bind_some] at pre
        rw [h.ld 4 (by omega) (by omega) (by omega), h4 _ hU] at pre
        simp only [Option.bind_some] at pre
        obtain ⟨f1, A1, a1, a2, a3, a4, a5⟩ := Cy_join g2 (l8 s hlt) (l8 _ hU) l8 h h4
        rw [a1] at pre
        simp only [Option.bind_some] at pre
        obtain ⟨f5, e1, e2, e3⟩ := ih (s + 1) (by omega) f1 A1 (rlb lb (lb s) (lb (G.2.2 s))) (hv.fx a5.fx (by omega)) (a5.cv hC) a2 (fun q hq => by rw [a3]; exact h3 q hq) a4 (rlb_J hG hlt c1 hJ) (fun q hq => rlb_eq (hr q hq)) (by
          intro q hq q1 q2
          by_cases e : q = s
          · rw [e]
            exact rlb_xy rfl rfl
          · exact rlb_eq (hu q (by omega) q1 q2))
        exact ⟨f5, pre.trans e1, e2, a5.tr e3⟩
    · rw [if_pos c0] at pre
      obtain ⟨f5, e1, e2, e3⟩ := ih (s + 1) (by omega) f A lb hv hC h h3 h4 hJ hr (by
        intro q hq q1 q2
        by_cases e : q = s
        · rw [e] at q1; exact absurd q1 c0
        · exact hu q (by omega) q1 q2)
      exact ⟨f5, pre.trans e1, e2, e3⟩
/-- what the class keeps of cylinders -/
def YA (f : Nat → mCell) (c : Nat) : Prop := CA f (c + 1) ∧ ∃ n A, YS f c n A
theorem YA.fx (h : YA f c) {lo hi : Nat} {f' : Nat → mCell} (hf : Fx lo hi f f') (hd : c + 7 < lo ∨ hi < c) : YA f' c := by
  obtain ⟨h1, n, A, h2⟩ := h
  exact ⟨h1.fx hf (by omega), n, A, h2.fx (hf _ (by omega)) (fun k k3 k7 => hf _ (by omega))⟩
theorem YV.fx (h : YV f c G) {lo hi : Nat} {f' : Nat → mCell} (hf : Fx lo hi f f') (hd : c + 7 < lo ∨ hi < c) : YV f' c G := by
  obtain ⟨A, h1, h2⟩ := h
  exact ⟨A, h1.fx (hf _ (by omega)) (fun k k3 k7 => hf _ (by omega)), h2⟩
theorem Cy_look (hG : Gd G) (hd : c + 7 < a ∨ a + 5 < c) (ha0 : 0 < a) (h0 : T0 f) (hv : GV f a G) (h : YA f c) : ∃ f', vV 8 c [.ref a] (HF f) = some (HF f') ∧ YV f' c G ∧ YA f' c ∧ Fx c (c + 7) f f' := by
  obtain ⟨hC, n, A, h⟩ := h
  have hR := hG.2.2.1
  obtain ⟨f1, a1, a2, a3⟩ := Cc_look hG (by omega) (by omega) ha0 h0 hv hC
  have h1 : YS f1 c n A := h.fx (a3 _ (by omega)) (fun k k3 k7 => a3 _ (by omega))
  have hv1 := hv.fx a3 (by omega)
  obtain ⟨f2, A2, b1, b2, b3, b4⟩ := Cy_part hG hd hv1 h1
  have hv2 := hv1.fx b4.fx (by omega)
  have hJ : Jn G (mnO G.2.1 G.1) := by
    constructor
    · intro q hq
      exact mnO_le hR hq 0
    · intro k hk q hq
      obtain ⟨i, -, i2⟩ := mnO_ex (A := G.2.1) (n := G.1) (q := q)
      rw [← i2]
      clear i2
      induction i with
      | zero => rfl
      | succ i ih =>
        show k (G.2.1 (it G.2.1 i q)) = _
        rw [(hk _ (it_lt hR.1 hq i)).1, ih]
  obtain ⟨f3, c1, c2, c3⟩ := Cy_lkL hG hd G.1 0 (by omega) f2 A2 (mnO G.2.1 G.1) hv2 (b4.cv a2) b2 (fun q hq => (b3 q hq).1) (fun q hq => (b3 q hq).2) hJ (fun q hq => mnO_it hR hq 1) (fun q hq => by omega)
  refine ⟨f3, vV_of (ci := 1) rfl h.O ?_, c2, ⟨(c3.cv (b4.cv a2)).ca, ?_⟩, ((a3.wi (by omega) (by omega)).tr b4.fx).tr c3.fx⟩
  · rw [F8_eq, h.r0]
    simp only [Option.bind_some]
    rw [a1]
    simp only [Option.bind_some]
    rw [b1]
    simp only [Option.bind_some]
    exact c1
  · obtain ⟨A', k1, -⟩ := c2
    exact ⟨_, _, k1⟩
theorem Cy_wpL (hG : Gd G) (h0 : T0 f) (h : YV f c G) : ∀ (d k : Nat), k + d = G.1 → q14_4 c (lN (shr G k)) (nI (cnt (cyP G) k)) (HF f) = some (some (.long (lN (shr G G.1))), HF f) := by
  have g2 := hG.2.1
  obtain ⟨A, h, hA⟩ := h
  have hcn : cyN G ≤ G.1 := cnt_le _ _
  intro d
  induction d with
  | zero =>
    intro k hk
    have : k = G.1 := by omega
    subst this
    rw [q14_4_eq, h.nn]
    simp only [Option.bind_some]
    exact if_pos (Int32.le_refl _)
  | succ d ih =>
    intro k hk
    have hlt : k < G.1 := by omega
    have hck := cnt_le (cyP G) k
    have ih1 := ih (k + 1) (by omega)
    have ec : cnt (cyP G) (k + 1) = cnt (cyP G) k + (if cyP G k = true then 1 else 0) := rfl
    have es : shr G (k + 1) = shr G k + (if cyP G k = true then cyT G k else 0) := rfl
    by_cases c0 : cyP G k = true
    · rw [if_pos c0] at ec es
      obtain ⟨x1, x2, x3⟩ := hA k hlt c0
      have hcl : cnt (cyP G) k < cyN G := cnt_lt hlt c0
      have hrl : 1 ≤ rl G k ∧ rl G k ≤ 8 := by
        have := (bd_ok hG.2.2.1 hlt).1
        unfold rl
        omega
      have hcT := cyT_le g2 k
      rw [q14_4_eq, h.nn]
      simp only [Option.bind_some]
      rw [if_neg (by rw [iLE (by omega) (by omega)]; omega), h.r5, h.r4]
      simp only [Option.bind_some]
      rw [h.ld 6 (by omega) (by omega) (by omega), h.ld 5 (by omega) (by omega) (by omega), x1, x2]
      simp only [Option.bind_some]
      rw [cAldT_of h0 (show rl G k < 9 by omega), mPart_ok (rl G k) (by omega) (by omega)]
      simp only [Option.bind_some]
      rw [iMul, nI_l (show cyZ G k / rl G k * (840 / rl G k) < 2 ^ 31 by unfold cyT at hcT; omega), lN_add, show shr G k + cyZ G k / rl G k * (840 / rl G k) = shr G (k + 1) by rw [es]; rfl, show nI (cnt (cyP G) k) + 1 = nI (cnt (cyP G) (k + 1)) by rw [ec]; exact iAdd _ 1]
      exact ih1
    · rw [if_neg c0, Nat.add_zero] at ec es
      rw [ec, es] at ih1
      exact ih1
theorem Cy_wp (hG : Gd G) (h0 : T0 f) (h : YV f c G) : vL 14 c [] (HF f) = some (lN (shr G G.1), HF f) := by
  have hO : gO (HF f) c 1 = some () := by
    obtain ⟨A, h, -⟩ := h
    exact h.O
  refine vL_of (ci := 1) rfl hO ?_
  rw [F14_eq]
  exact Cy_wpL hG h0 h G.1 0 (by omega)
end C13
