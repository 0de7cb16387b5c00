/-! rings: the least of an orbit, how many rings -/
def mnK (A : Nat → Nat) (q : Nat) : Nat → Nat
  | 0 => q
  | k + 1 => min (mnK A q k) (it A (k + 1) q)
def mnO (A : Nat → Nat) (n q : Nat) : Nat := mnK A q (bd A n q)
theorem mnK_le (A : Nat → Nat) (q : Nat) : ∀ k i, i ≤ k → mnK A q k ≤ it A i q := by
  intro k
  induction k with
  | zero =>
    intro i hi
    have : i = 0 := by omega
    subst this
    exact Nat.le_refl _
  | succ k ih =>
    intro i hi
    show min (mnK A q k) (it A (k + 1) q) ≤ _
    by_cases e : i = k + 1
    · rw [e]; omega
    · have := ih i (by omega)
      omega
theorem mnK_ex (A : Nat → Nat) (q : Nat) : ∀ k, ∃ i, i ≤ k ∧ it A i q = mnK A q k := by
  intro k
  induction k with
  | zero => exact ⟨0, Nat.le_refl _, rfl⟩
  | succ k ih =>
    obtain ⟨i, h1, h2⟩ := ih
    show ∃ i, _ ∧ it A i q = min (mnK A q k) (it A (k + 1) q)
    by_cases e : mnK A q k ≤ it A (k + 1) q
    · exact ⟨i, by omega, by omega⟩
    · exact ⟨k + 1, Nat.le_refl _, by omega⟩
section OR
variable {n : Nat} {A : Nat → Nat} {q : Nat}
theorem mnO_le (h : Prm n A) (hq : q < n) (i : Nat) : mnO A n q ≤ it A i q := by
  obtain ⟨b1, b2, b3⟩ := bd_ok h hq
  rw [it_mod b2 i]
  exact mnK_le A q _ _ (by have := Nat.mod_lt i (show 0 < bd A n q + 1 by omega); omega)
theorem mnO_ex : ∃ i, i < bd A n q + 1 ∧ it A i q = mnO A n q := by
  obtain ⟨i, h1, h2⟩ := mnK_ex A q (bd A n q)
  exact ⟨i, by omega, h2⟩
theorem mnO_lt (h : Prm n A) (hq : q < n) : mnO A n q < n := by
  obtain ⟨i, -, h2⟩ := mnO_ex (A := A) (n := n) (q := q)
  rw [← h2]
  exact it_lt h.1 hq i
theorem mnO_it (h : Prm n A) (hq : q < n) (j : Nat) : mnO A n (it A j q) = mnO A n q := by
  have hq2 := it_lt h.1 hq j
  apply Nat.le_antisymm
  · obtain ⟨i, -, h2⟩ := mnO_ex (A := A) (n := n) (q := q)
    obtain ⟨k, hk⟩ := orb_symm h hq (rfl : it A j q = it A j q)
    rw [← h2]
    have := mnO_le h hq2 (i + k)
    rw [it_add, hk] at this
    exact this
  · obtain ⟨i, -, h2⟩ := mnO_ex (A := A) (n := n) (q := it A j q)
    rw [← h2, ← it_add]
    exact mnO_le h hq _
theorem mnO_lead (h : Prm n A) (hq : q < n) : mnO A n q = q ↔ ∀ i, q ≤ it A i q := by
  constructor
  · intro e i
    have := mnO_le h hq i
    omega
  · intro e
    apply Nat.le_antisymm
    · exact mnO_le h hq 0
    · obtain ⟨i, -, h2⟩ := mnO_ex (A := A) (n := n) (q := q)
      rw [← h2]
      exact e i
theorem mnO_orb (h : Prm n A) (hq : q < n) {s : Nat} (hs : s < n) (e : ∃ j, it A j s = q) (hl : ∀ i, s ≤ it A i s) : mnO A n q = s := by
  obtain ⟨j, rfl⟩ := e
  rw [mnO_it h hs]
  exact (mnO_lead h hs).2 hl
theorem it_dist (h : Prm n A) (hq : q < n) {j k : Nat} (hj : j ≤ bd A n q) (hk : k < j) : it A j q ≠ it A k q := by
  intro e
  obtain ⟨b1, b2, b3⟩ := bd_ok h hq
  have e1 : it A j q = it A k (it A (j - k) q) := by
    rw [← it_add]
    congr 1
    omega
  rw [e1] at e
  have := it_inj h (it_lt h.1 hq _) hq k e
  refine b3 (j - k - 1) (by omega) ?_
  rw [show j - k - 1 + 1 = j - k by omega]
  exact this
theorem it_prm (h : Prm n A) : ∀ i, Prm n (it A i)
  | 0 => ⟨fun q hq => hq, fun p q _ _ e => e⟩
  | i + 1 => show Prm n (fun q => A (it A i q)) from Prm.comp h (it_prm h i)
end OR
theorem sumT_add (f g : Nat → Nat) : ∀ n, sumT (fun q => f q + g q) n = sumT f n + sumT g n
  | 0 => rfl
  | n + 1 => by
    show sumT (fun q => f q + g q) n + (f n + g n) = (sumT f n + f n) + (sumT g n + g n)
    rw [sumT_add f g n]
    omega
theorem sumT_c (c : Nat) : ∀ n, sumT (fun _ => c) n = n * c
  | 0 => by rw [Nat.zero_mul]; rfl
  | n + 1 => by
    show sumT (fun _ => c) n + c = _
    rw [sumT_c c n, Nat.succ_mul]
theorem sumT_swap (f : Nat → Nat → Nat) (m : Nat) : ∀ n, sumT (fun q => sumT (f q) m) n = sumT (fun i => sumT (fun q => f q i) n) m
  | 0 => by
    show 0 = sumT (fun _ => 0) m
    rw [sumT_c, Nat.mul_zero]
  | n + 1 => by
    show sumT (fun q => sumT (f q) m) n + sumT (f n) m = sumT (fun i => sumT (fun q => f q i) n + f n i) m
    rw [sumT_swap f m n, sumT_add]
theorem cnt_one {P : Nat → Bool} {n a : Nat} (ha : a < n) (hp : P a = true) (hu : ∀ b, b < n → P b = true → b = a) : cnt P n = 1 := by
  rw [cnt_sum, sumT_fu _ n ha]
  show sumT (fu (fun q => if P q = true then 1 else 0) a 0) n + (if P a = true then 1 else 0) = 1
  rw [if_pos hp, sumT_congr (g := fun _ => 0) n, sumT_c, Nat.mul_zero]
  intro q hq
  by_cases e : q = a
  · rw [e, fu_at]
  · rw [fu_ne e]
    exact if_neg fun z => e (hu q hq z)
/-- rings of one length -/
theorem rings_mul {n : Nat} {A : Nat → Nat} (h : Prm n A) {P : Nat → Bool} {L : Nat} (hP : ∀ q, q < n → P (A q) = P q) (hL : ∀ q, q < n → P q = true → bd A n q + 1 = L) : cnt P n = L * cnt (fun q => P q && decide (mnO A n q = q)) n := by
  have hPi : ∀ q, q < n → ∀ i, P (it A i q) = P q := by
    intro q hq i
    induction i with
    | zero => rfl
    | succ i ih =>
      show P (A (it A i q)) = _
      rw [hP _ (it_lt h.1 hq i), ih]
  have e1 : cnt P n = sumT (fun q => sumT (fun i => if (P (it A i q) && decide (mnO A n (it A i q) = it A i q)) = true then 1 else 0) L) n := by
    rw [cnt_sum]
    refine sumT_congr n fun q hq => ?_
    rw [← cnt_sum (fun i => P (it A i q) && decide (mnO A n (it A i q) = it A i q)) L]
    by_cases c : P q = true
    · rw [if_pos c]
      obtain ⟨i0, i1, i2⟩ := mnO_ex (A := A) (n := n) (q := q)
      rw [cnt_one (a := i0) (by rw [← hL q hq c]; exact i1)]
      · show (P (it A i0 q) && decide (mnO A n (it A i0 q) = it A i0 q)) = true
        rw [hPi q hq, c, mnO_it h hq, i2]
        simp
      · intro b hb hb2
        rw [← hL q hq c] at hb
        have hb2 : (P (it A b q) && decide (mnO A n (it A b q) = it A b q)) = true := hb2
        rw [hPi q hq, c, mnO_it h hq, Bool.true_and, decide_eq_true_eq] at hb2
        have e : it A b q = it A i0 q := by rw [i2, ← hb2]
        rcases Nat.lt_trichotomy b i0 with z | z | z
        · exact absurd e.symm (it_dist h hq (by omega) z)
        · exact z
        · exact absurd e (it_dist h hq (by omega) z)
    · rw [if_neg c, cnt_0 L]
      intro i hi
      show (P (it A i q) && _) = false
      rw [hPi q hq]
      cases e : P q with
      | true => exact absurd e c
      | false => rfl
  rw [e1, sumT_swap]
  rw [sumT_congr (g := fun _ => cnt (fun q => P q && decide (mnO A n q = q)) n) L, sumT_c]
  intro i hi
  rw [← cnt_sum (fun q => P (it A i q) && decide (mnO A n (it A i q) = it A i q)) n]
  exact cnt_prm (it_prm h i) (fun q => P q && decide (mnO A n q = q))
/-- smooth rings -/
theorem bn0 {G : Gr} (hG : Gd G) {q : Nat} (hq : q < G.1) (h : bn G q = 0) : G.2.2 (G.2.1 q) = G.2.1 (G.2.2 q) := by
  obtain ⟨b1, b2, b3⟩ := bd_ok (arA_prm hG) hq
  have e : arA G q = q := by
    have : it (arA G) (bn G q + 1) q = q := b2
    rw [h] at this
    exact this
  have hR := hG.2.2.1
  have hU := hG.2.2.2
  have r1 := hR.1 q hq
  have r2 := hU.1 _ r1
  have i1 := inv_ok hR r2
  have i2 := inv_ok hU i1.1
  have e1 : G.2.2 q = inv G.1 G.2.1 (G.2.2 (G.2.1 q)) := by
    conv => lhs; rw [← e]
    exact i2.2
  rw [e1]
  exact i1.2.symm
theorem smK_iff (G : Gr) (q : Nat) : ∀ k, smK G q k = true ↔ ∀ i, i ≤ k → bn G (it G.2.1 i q) = 0 := by
  intro k
  induction k with
  | zero =>
    show decide (bn G q = 0) = true ↔ _
    rw [decide_eq_true_eq]
    constructor
    · intro e i hi
      have : i = 0 := by omega
      subst this
      exact e
    · intro e
      exact e 0 (Nat.le_refl _)
  | succ k ih =>
    show (smK G q k && decide (bn G (it G.2.1 (k + 1) q) = 0)) = true ↔ _
    rw [Bool.and_eq_true, ih, decide_eq_true_eq]
    constructor
    · rintro ⟨e1, e2⟩ i hi
      by_cases c : i = k + 1
      · rw [c]; exact e2
      · exact e1 i (by omega)
    · intro e
      exact ⟨fun i hi => e i (by omega), e (k + 1) (Nat.le_refl _)⟩
theorem smo_iff {G : Gr} (hG : Gd G) {q : Nat} (hq : q < G.1) : smo G q = true ↔ ∀ i, bn G (it G.2.1 i q) = 0 := by
  obtain ⟨b1, b2, b3⟩ := bd_ok hG.2.2.1 hq
  unfold smo
  rw [smK_iff]
  constructor
  · intro h i
    rw [it_mod b2 i]
    exact h _ (by have := Nat.mod_lt i (show 0 < bd G.2.1 G.1 q + 1 by omega); omega)
  · intro h i _
    exact h i
theorem smo_it {G : Gr} (hG : Gd G) {q : Nat} (hq : q < G.1) (h : smo G q = true) (j : Nat) : smo G (it G.2.1 j q) = true := by
  rw [smo_iff hG (it_lt hG.2.2.1.1 hq j)]
  intro i
  rw [← it_add]
  exact (smo_iff hG hq).1 h _
theorem smo_or {G : Gr} (hG : Gd G) {q : Nat} (hq : q < G.1) {j : Nat} (h : smo G (it G.2.1 j q) = true) : smo G q = true := by
  obtain ⟨k, hk⟩ := orb_symm hG.2.2.1 hq (rfl : it G.2.1 j q = it G.2.1 j q)
  have := smo_it hG (it_lt hG.2.2.1.1 hq j) h k
  rw [hk] at this
  exact this
theorem smo_up {G : Gr} (hG : Gd G) {q : Nat} (hq : q < G.1) (h : smo G q = true) : ∀ i, G.2.2 (it G.2.1 i q) = it G.2.1 i (G.2.2 q)
  | 0 => rfl
  | i + 1 => by
    show G.2.2 (G.2.1 (it G.2.1 i q)) = G.2.1 (it G.2.1 i (G.2.2 q))
    rw [bn0 hG (it_lt hG.2.2.1.1 hq i) ((smo_iff hG hq).1 h i), smo_up hG hq h i]
theorem rl_const {G : Gr} (hG : Gd G) : Const G (rl G) := by
  intro q hq
  have hR := hG.2.2.1
  constructor
  · unfold rl
    rw [bd_step hR hq]
  · intro h
    unfold rl
    obtain ⟨b1, b2, b3⟩ := bd_ok hR hq
    congr 1
    refine bd_uniq hR (hG.2.2.2.1 q hq) ?_ ?_
    · rw [← smo_up hG hq h, b2]
    · intro i hi e
      rw [← smo_up hG hq h] at e
      exact b3 i hi (hG.2.2.2.2 _ _ (it_lt hR.1 hq _) hq e)
theorem high_eq {G : Gr} (hG : Gd G) {lb : Nat → Nat} (hL : Lab G lb) {s : Nat} (hs : s < G.1) : cnt (fun q => decide (lb q = s) && decide (mnO G.2.1 G.1 q = q)) G.1 = cyZ G s / rl G s := by
  have h1 := rings_mul hG.2.2.1 (P := fun q => decide (lb q = s)) (L := rl G s) (fun q hq => by
    show decide (lb (G.2.1 q) = s) = decide (lb q = s)
    rw [(hL.2 q hq).1]) (fun q hq hp => by
    have := of_decide_eq_true hp
    show rl G q = rl G s
    rw [← this]
    exact (hL.1.2 (rl G) (rl_const hG) q hq).symm)
  have h2 : cyZ G s = cnt (fun q => decide (lb q = s)) G.1 := by
    unfold cyZ
    refine cnt_congr G.1 fun q hq => ?_
    show decide (labF G q = s) = decide (lb q = s)
    rw [labF_ok hL q hq]
  rw [h2, h1, Nat.mul_div_cancel_left _ (show 0 < rl G s from Nat.succ_pos _)]
