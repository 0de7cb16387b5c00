/-! permutations of 0 .. n - 1 -/
def Inj (n : Nat) (R : Nat → Nat) : Prop := ∀ p q, p < n → q < n → R p = R q → p = q
def Map (n : Nat) (R : Nat → Nat) : Prop := ∀ q, q < n → R q < n
def Prm (n : Nat) (R : Nat → Nat) : Prop := Map n R ∧ Inj n R
theorem surj_of_inj : ∀ (n : Nat) (R : Nat → Nat), Map n R → Inj n R → ∀ y, y < n → ∃ q, q < n ∧ R q = y := by
  intro n
  induction n with
  | zero => intro R _ _ y h; omega
  | succ n ih =>
    intro R hM hI y hy
    have hm := hM n (by omega)
    have key : ∀ z, z < n → ∃ q, q < n ∧ (if R q = n then R n else R q) = z := by
      refine ih (fun q => if R q = n then R n else R q) (fun q hq => ?_) (fun p q hp hq h => ?_)
      · have h1 := hM q (by omega)
        show (if R q = n then R n else R q) < n
        by_cases e : R q = n
        · rw [if_pos e]
          have : R n ≠ n := fun z => by
            have := hI q n (by omega) (by omega) (by omega)
            omega
          omega
        · rw [if_neg e]; omega
      · dsimp only at h
        by_cases e1 : R p = n <;> by_cases e2 : R q = n
        · exact hI p q (by omega) (by omega) (by omega)
        · rw [if_pos e1, if_neg e2] at h
          have := hI n q (by omega) (by omega) h
          omega
        · rw [if_neg e1, if_pos e2] at h
          have := hI p n (by omega) (by omega) h
          omega
        · rw [if_neg e1, if_neg e2] at h
          exact hI p q (by omega) (by omega) h
    by_cases e : y = R n
    · exact ⟨n, by omega, e.symm⟩
    · by_cases e2 : y = n
      · obtain ⟨q, hq, h⟩ := key (R n) (by omega)
        by_cases e3 : R q = n
        · exact ⟨q, by omega, by omega⟩
        · rw [if_neg e3] at h
          have := hI q n (by omega) (by omega) h
          omega
      · obtain ⟨q, hq, h⟩ := key y (by omega)
        by_cases e3 : R q = n
        · rw [if_pos e3] at h; omega
        · rw [if_neg e3] at h
          exact ⟨q, by omega, h⟩
/-- the inverse -/
def inv (n : Nat) (R : Nat → Nat) (y : Nat) : Nat := ((List.range n).find? (fun q => R q == y)).getD 0
theorem inv_ok {n : Nat} {R : Nat → Nat} (h : Prm n R) {y : Nat} (hy : y < n) : inv n R y < n ∧ R (inv n R y) = y := by
  obtain ⟨q, hq, hr⟩ := surj_of_inj n R h.1 h.2 y hy
  unfold inv
  cases hf : (List.range n).find? (fun q => R q == y) with
  | none =>
    have := List.find?_eq_none.mp hf q (List.mem_range.mpr hq)
    simp [hr] at this
  | some p =>
    have h1 := List.find?_some hf
    have h2 := List.mem_range.mp (List.mem_of_find?_eq_some hf)
    exact ⟨h2, by simpa using h1⟩
theorem inv_l {n : Nat} {R : Nat → Nat} (h : Prm n R) {q : Nat} (hq : q < n) : inv n R (R q) = q := by
  obtain ⟨h1, h2⟩ := inv_ok h (h.1 q hq)
  exact h.2 _ _ h1 hq h2
theorem inv_prm {n : Nat} {R : Nat → Nat} (h : Prm n R) : Prm n (inv n R) :=
  ⟨fun q hq => (inv_ok h hq).1, fun p q hp hq e => by
    have h1 := (inv_ok h hp).2
    have h2 := (inv_ok h hq).2
    rw [e] at h1
    omega⟩
theorem inv_uniq {n : Nat} {R : Nat → Nat} (h : Prm n R) {y q : Nat} (hq : q < n) (e : R q = y) : inv n R y = q := by
  rw [← e]
  exact inv_l h hq
theorem Prm.comp {n : Nat} {R T : Nat → Nat} (h1 : Prm n R) (h2 : Prm n T) : Prm n (fun q => R (T q)) :=
  ⟨fun q hq => h1.1 _ (h2.1 q hq), fun p q hp hq e => h2.2 p q hp hq (h1.2 _ _ (h2.1 p hp) (h2.1 q hq) e)⟩
theorem Prm.congr {n : Nat} {R T : Nat → Nat} (h : Prm n R) (e : ∀ q, q < n → T q = R q) : Prm n T :=
  ⟨fun q hq => by rw [e q hq]; exact h.1 q hq, fun p q hp hq z => h.2 p q hp hq (by rw [← e p hp, ← e q hq]; exact z)⟩
theorem inv_congr {n : Nat} {R T : Nat → Nat} (e : ∀ q, q < n → T q = R q) (y : Nat) : inv n T y = inv n R y := by
  unfold inv
  congr 1
  have key : ∀ l : List Nat, (∀ q ∈ l, q < n) → l.find? (fun q => T q == y) = l.find? (fun q => R q == y) := by
    intro l
    induction l with
    | nil => intro _; rfl
    | cons a l ih =>
      intro h
      rw [List.find?_cons, List.find?_cons, e a (h a List.mem_cons_self), ih (fun q hq => h q (List.mem_cons_of_mem _ hq))]
  exact key _ (fun q hq => List.mem_range.mp hq)
/-- covering all by n values: each comes once, none is beyond -/
theorem inj_of_surj {n : Nat} {R : Nat → Nat} (h : ∀ y, y < n → ∃ q, q < n ∧ R q = y) : Prm n R := by
  have hs : Prm n (fun y => ((List.range n).find? (fun q => R q == y)).getD 0) ∧ ∀ y, y < n → R (((List.range n).find? (fun q => R q == y)).getD 0) = y := by
    have key : ∀ y, y < n → ((List.range n).find? (fun q => R q == y)).getD 0 < n ∧ R (((List.range n).find? (fun q => R q == y)).getD 0) = y := by
      intro y hy
      obtain ⟨q, hq, hr⟩ := h y hy
      cases hf : (List.range n).find? (fun q => R q == y) with
      | none =>
        have := List.find?_eq_none.mp hf q (List.mem_range.mpr hq)
        simp [hr] at this
      | some p =>
        have h1 := List.find?_some hf
        have h2 := List.mem_range.mp (List.mem_of_find?_eq_some hf)
        exact ⟨h2, by simpa using h1⟩
    refine ⟨⟨fun y hy => (key y hy).1, fun p q hp hq e => ?_⟩, fun y hy => (key y hy).2⟩
    have h1 := (key p hp).2
    have h2 := (key q hq).2
    dsimp only at e
    rw [e] at h1
    omega
  obtain ⟨hs, hr⟩ := hs
  have hsurj := surj_of_inj n _ hs.1 hs.2
  refine ⟨fun q hq => ?_, fun p q hp hq e => ?_⟩
  · obtain ⟨y, hy, e⟩ := hsurj q hq
    rw [← e, hr y hy]
    exact hy
  · obtain ⟨y, hy, e1⟩ := hsurj p hp
    obtain ⟨z, hz, e2⟩ := hsurj q hq
    have h1 := hr y hy
    have h2 := hr z hz
    rw [e1] at h1
    rw [e2] at h2
    have : y = z := by omega
    subst this
    omega
/-- again and again -/
def it (A : Nat → Nat) : Nat → Nat → Nat
  | 0, q => q
  | k + 1, q => A (it A k q)
theorem it_lt {n : Nat} {A : Nat → Nat} (h : Map n A) {q : Nat} (hq : q < n) : ∀ k, it A k q < n
  | 0 => hq
  | k + 1 => h _ (it_lt h hq k)
theorem it_add (A : Nat → Nat) (q : Nat) (a : Nat) : ∀ b, it A (b + a) q = it A b (it A a q)
  | 0 => by rw [Nat.zero_add]; rfl
  | b + 1 => by rw [show b + 1 + a = (b + a) + 1 by omega]; show A (it A (b + a) q) = A (it A b (it A a q)); rw [it_add A q a b]
theorem it_succ (A : Nat → Nat) (q k : Nat) : it A (k + 1) q = it A k (A q) := it_add A q 1 k
theorem it_inj {n : Nat} {A : Nat → Nat} (h : Prm n A) {p q : Nat} (hp : p < n) (hq : q < n) : ∀ k, it A k p = it A k q → p = q
  | 0, e => e
  | k + 1, e => it_inj h hp hq k (h.2 _ _ (it_lt h.1 hp k) (it_lt h.1 hq k) e)
/-- n + 1 values below n aren't all different -/
theorem pigeon (n : Nat) (f : Nat → Nat) (h : ∀ k, k ≤ n → f k < n) : ∃ a b, a < b ∧ b ≤ n ∧ f a = f b := by
  refine Classical.byContradiction (fun hno => ?_)
  have hI : Inj n f := by
    intro p q hp hq e
    rcases Nat.lt_trichotomy p q with z | z | z
    · exact absurd ⟨p, q, z, by omega, e⟩ hno
    · exact z
    · exact absurd ⟨q, p, z, by omega, e.symm⟩ hno
  obtain ⟨q, hq, e⟩ := surj_of_inj n f (fun q hq => h q (by omega)) hI (f n) (h n (Nat.le_refl n))
  exact hno ⟨q, n, hq, Nat.le_refl n, e⟩
theorem it_back {n : Nat} {A : Nat → Nat} (h : Prm n A) {q : Nat} (hq : q < n) : ∃ k, k < n ∧ it A (k + 1) q = q := by
  obtain ⟨a, b, hab, hb, e⟩ := pigeon n (fun k => it A k q) (fun k _ => it_lt h.1 hq k)
  refine ⟨b - a - 1, by omega, ?_⟩
  have e1 : it A b q = it A a (it A (b - a) q) := by
    have := it_add A q (b - a) a
    rw [show a + (b - a) = b by omega] at this
    exact this
  have e2 := it_inj h hq (it_lt h.1 hq (b - a)) a (by rw [← e1]; exact e)
  rw [show b - a - 1 + 1 = b - a by omega]
  exact e2.symm
/-- how many steps more than one lead back -/
def bd (A : Nat → Nat) (n q : Nat) : Nat := ((List.range n).find? (fun k => it A (k + 1) q == q)).getD 0
theorem find_range {n : Nat} {P : Nat → Bool} {k : Nat} (h : (List.range n).find? P = some k) : k < n ∧ P k = true ∧ ∀ j, j < k → P j = false := by
  refine ⟨List.mem_range.mp (List.mem_of_find?_eq_some h), List.find?_some h, fun j hj => ?_⟩
  rw [List.find?_range_eq_some] at h
  have := h.2.2 j hj
  simpa using this
theorem bd_ok {n : Nat} {A : Nat → Nat} (h : Prm n A) {q : Nat} (hq : q < n) : bd A n q < n ∧ it A (bd A n q + 1) q = q ∧ ∀ k, k < bd A n q → it A (k + 1) q ≠ q := by
  obtain ⟨k, hk, e⟩ := it_back h hq
  unfold bd
  cases hf : (List.range n).find? (fun k => it A (k + 1) q == q) with
  | none =>
    have := List.find?_eq_none.mp hf k (List.mem_range.mpr hk)
    simp [e] at this
  | some p =>
    obtain ⟨h1, h2, h3⟩ := find_range hf
    refine ⟨h1, by simpa using h2, fun j hj => ?_⟩
    have := h3 j hj
    simpa using this
theorem bd_uniq {n : Nat} {A : Nat → Nat} (h : Prm n A) {q k : Nat} (hq : q < n) (e : it A (k + 1) q = q) (hn : ∀ i, i < k → it A (i + 1) q ≠ q) : bd A n q = k := by
  obtain ⟨h1, h2, h3⟩ := bd_ok h hq
  rcases Nat.lt_trichotomy (bd A n q) k with z | z | z
  · exact absurd h2 (hn _ z)
  · exact z
  · exact absurd e (h3 _ z)
theorem bd_step {n : Nat} {A : Nat → Nat} (h : Prm n A) {q : Nat} (hq : q < n) : bd A n (A q) = bd A n q := by
  obtain ⟨h1, h2, h3⟩ := bd_ok h hq
  refine bd_uniq h (h.1 q hq) ?_ (fun i hi e => ?_)
  · rw [← it_succ]
    exact congrArg A h2
  · rw [← it_succ] at e
    exact h3 i hi (h.2 _ _ (it_lt h.1 hq (i + 1)) hq e)
theorem bd_it {n : Nat} {A : Nat → Nat} (h : Prm n A) {q : Nat} (hq : q < n) : ∀ k, bd A n (it A k q) = bd A n q
  | 0 => rfl
  | k + 1 => (bd_step h (it_lt h.1 hq k)).trans (bd_it h hq k)
theorem bd_congr {n : Nat} {A B : Nat → Nat} (hA : Map n A) (e : ∀ q, q < n → B q = A q) {q : Nat} (hq : q < n) : bd B n q = bd A n q := by
  have key : ∀ k, it B k q = it A k q := by
    intro k
    induction k with
    | zero => rfl
    | succ k ih => show B (it B k q) = A (it A k q); rw [ih, e _ (it_lt hA hq k)]
  unfold bd
  simp only [key]
