/-! numbering -/
abbrev Bs : Type := Nat × (Nat → Option Nat) × (Nat → Nat)
def vis (b : Bs) (s : Nat) : Bs := match b.2.1 s with
  | some _ => b
  | none => (b.1 + 1, fu b.2.1 s (some b.1), fu b.2.2 b.1 s)
def bst (R U : Nat → Nat) (b : Bs) (k : Nat) : Bs := vis (vis b (R (b.2.2 k))) (U (b.2.2 k))
def b0 (s : Nat) : Bs := (1, fu (fun _ => none) s (some 0), fu (fun _ => 0) 0 s)
def bfs (R U : Nat → Nat) (s : Nat) : Nat → Bs
  | 0 => b0 s
  | k + 1 => if k < (bfs R U s k).1 then bst R U (bfs R U s k) k else bfs R U s k
/-- numbers and places fit -/
def BI (n : Nat) (b : Bs) : Prop := (∀ s i, b.2.1 s = some i → i < b.1 ∧ b.2.2 i = s) ∧ (∀ i, i < b.1 → b.2.2 i < n ∧ b.2.1 (b.2.2 i) = some i)
theorem BI.le {n : Nat} {b : Bs} (h : BI n b) : b.1 ≤ n := by
  refine Classical.byContradiction (fun hn => ?_)
  obtain ⟨a, c, h1, h2, h3⟩ := pigeon n b.2.2 (fun k hk => (h.2 k (by omega)).1)
  have e1 := (h.2 a (by omega)).2
  have e2 := (h.2 c (by omega)).2
  rw [h3, e2] at e1
  cases e1
  omega
theorem BI.new {n : Nat} {b : Bs} (h : BI n b) {s : Nat} (hs : s < n) (hn : b.2.1 s = none) : b.1 < n := by
  have hle := h.le
  rcases Nat.lt_or_ge b.1 n with z | z
  · exact z
  · obtain ⟨i, hi, e⟩ := surj_of_inj n b.2.2 (fun q hq => (h.2 q (by omega)).1) (fun p q hp hq e => by
      have e1 := (h.2 p (by omega)).2
      have e2 := (h.2 q (by omega)).2
      rw [e, e2] at e1
      cases e1
      rfl) s hs
    have := (h.2 i (by omega)).2
    rw [e, hn] at this
    cases this
theorem BI.b0 {n s : Nat} (hs : s < n) : BI n (b0 s) := by
  refine ⟨fun t i h => ?_, fun i hi => ?_⟩
  · have h : fu (fun _ => none) s (some 0) t = some i := h
    by_cases e : t = s
    · subst e
      rw [fu_at] at h
      cases h
      exact ⟨Nat.one_pos, (fu_at : fu (fun _ => 0) 0 t 0 = t)⟩
    · rw [fu_ne e] at h
      cases h
  · have hi : i < 1 := hi
    have : i = 0 := by omega
    subst this
    exact ⟨by show fu (fun _ => 0) 0 s 0 < n; rw [fu_at]; exact hs, by show fu (fun _ => none) s (some 0) (fu (fun _ => 0) 0 s 0) = some 0; rw [fu_at, fu_at]⟩
theorem BI.vis {n : Nat} {b : Bs} (h : BI n b) {s : Nat} (hs : s < n) : BI n (vis b s) := by
  unfold CSquareGroundsLaw_law_r5734_d6814d.vis
  cases hn : b.2.1 s with
  | some i => exact h
  | none =>
    refine ⟨fun t i e => ?_, fun i hi => ?_⟩
    · have e : fu b.2.1 s (some b.1) t = some i := e
      show i < b.1 + 1 ∧ fu b.2.2 b.1 s i = t
      by_cases c : t = s
      · subst c
        rw [fu_at] at e
        cases e
        exact ⟨by omega, fu_at⟩
      · rw [fu_ne c] at e
        obtain ⟨h1, h2⟩ := h.1 t i e
        exact ⟨by omega, by rw [fu_ne (by omega)]; exact h2⟩
    · have hi : i < b.1 + 1 := hi
      show fu b.2.2 b.1 s i < n ∧ fu b.2.1 s (some b.1) (fu b.2.2 b.1 s i) = some i
      by_cases c : i = b.1
      · subst c
        rw [fu_at, fu_at]
        exact ⟨hs, rfl⟩
      · obtain ⟨h1, h2⟩ := h.2 i (by omega)
        rw [fu_ne c]
        refine ⟨h1, ?_⟩
        rw [fu_ne (fun z => by rw [z, hn] at h2; cases h2)]
        exact h2
theorem vis_mono {b : Bs} {s t i : Nat} (h : b.2.1 t = some i) : (vis b s).2.1 t = some i := by
  unfold vis
  cases hn : b.2.1 s with
  | some _ => exact h
  | none =>
    show fu b.2.1 s (some b.1) t = some i
    rw [fu_ne (fun z => by rw [z, hn] at h; cases h)]
    exact h
theorem vis_od {b : Bs} {s i : Nat} (h : i < b.1) : (vis b s).2.2 i = b.2.2 i := by
  unfold vis
  cases hn : b.2.1 s with
  | some _ => rfl
  | none =>
    show fu b.2.2 b.1 s i = b.2.2 i
    rw [fu_ne (by omega)]
theorem vis_le (b : Bs) (s : Nat) : b.1 ≤ (vis b s).1 := by
  unfold vis
  cases hn : b.2.1 s with
  | some _ => exact Nat.le_refl _
  | none => exact Nat.le_succ _
theorem vis_self (b : Bs) (s : Nat) : ∃ i, (vis b s).2.1 s = some i := by
  unfold vis
  cases hn : b.2.1 s with
  | some i => exact ⟨i, hn⟩
  | none => exact ⟨b.1, fu_at⟩
section BF
variable {n : Nat} {R U : Nat → Nat} {s : Nat}
theorem bst_BI (hR : Map n R) (hU : Map n U) {b : Bs} (h : BI n b) {k : Nat} (hk : k < b.1) : BI n (bst R U b k) :=
  (h.vis (hR _ (h.2 k hk).1)).vis (hU _ (h.2 k hk).1)
theorem bfs_BI (hR : Map n R) (hU : Map n U) (hs : s < n) : ∀ k, BI n (bfs R U s k)
  | 0 => BI.b0 hs
  | k + 1 => by
    have ih := bfs_BI hR hU hs k
    unfold bfs
    split
    · rename_i h; exact bst_BI hR hU ih h
    · exact ih
theorem bfs_le1 (k : Nat) : (bfs R U s k).1 ≤ (bfs R U s (k + 1)).1 := by
  show _ ≤ (if k < (bfs R U s k).1 then bst R U (bfs R U s k) k else bfs R U s k).1
  split
  · exact Nat.le_trans (vis_le _ _) (vis_le _ _)
  · exact Nat.le_refl _
theorem bfs_mono1 {t i k : Nat} (h : (bfs R U s k).2.1 t = some i) : (bfs R U s (k + 1)).2.1 t = some i := by
  show (if k < (bfs R U s k).1 then bst R U (bfs R U s k) k else bfs R U s k).2.1 t = some i
  split
  · exact vis_mono (vis_mono h)
  · exact h
theorem bfs_mono {t i k : Nat} (h : (bfs R U s k).2.1 t = some i) : ∀ d, (bfs R U s (k + d)).2.1 t = some i
  | 0 => h
  | d + 1 => bfs_mono1 (bfs_mono h d)
theorem bfs_stop {k : Nat} (h : (bfs R U s k).1 ≤ k) : ∀ d, bfs R U s (k + d) = bfs R U s k
  | 0 => rfl
  | d + 1 => by
    have ih := bfs_stop h d
    show (if k + d < (bfs R U s (k + d)).1 then bst R U (bfs R U s (k + d)) (k + d) else bfs R U s (k + d)) = _
    rw [ih, if_neg (by omega)]
theorem bfs_od1 (i k : Nat) (h : i < (bfs R U s k).1) : (bfs R U s (k + 1)).2.2 i = (bfs R U s k).2.2 i := by
  show (if k < (bfs R U s k).1 then bst R U (bfs R U s k) k else bfs R U s k).2.2 i = _
  split
  · exact (vis_od (Nat.lt_of_lt_of_le h (vis_le _ _))).trans (vis_od h)
  · rfl
theorem bfs_le {k : Nat} : ∀ d, (bfs R U s k).1 ≤ (bfs R U s (k + d)).1
  | 0 => Nat.le_refl _
  | d + 1 => Nat.le_trans (bfs_le d) (bfs_le1 _)
theorem bfs_od {i k : Nat} (h : i < (bfs R U s k).1) : ∀ d, (bfs R U s (k + d)).2.2 i = (bfs R U s k).2.2 i
  | 0 => rfl
  | d + 1 => (bfs_od1 i (k + d) (Nat.lt_of_lt_of_le h (bfs_le d))).trans (bfs_od h d)
/-- what is numbered in the end has its right and its up numbered -/
theorem bfs_closed (hR : Map n R) (hU : Map n U) (hs : s < n) {i : Nat} (hi : i < (bfs R U s n).1) : (∃ a, (bfs R U s n).2.1 (R ((bfs R U s n).2.2 i)) = some a) ∧ ∃ a, (bfs R U s n).2.1 (U ((bfs R U s n).2.2 i)) = some a := by
  have hn := (bfs_BI hR hU hs n).le
  have hin : i < n := by omega
  have h1 : i < (bfs R U s i).1 := by
    rcases Nat.lt_or_ge i (bfs R U s i).1 with z | z
    · exact z
    · have := bfs_stop z (n - i)
      rw [show i + (n - i) = n by omega] at this
      rw [this] at hi
      exact hi
  have e1 : bfs R U s (i + 1) = bst R U (bfs R U s i) i := by
    show (if i < (bfs R U s i).1 then _ else _) = _
    rw [if_pos h1]
  have eo : (bfs R U s n).2.2 i = (bfs R U s i).2.2 i := by
    have := bfs_od (R := R) (U := U) (s := s) (k := i) h1 (n - i)
    rw [show i + (n - i) = n by omega] at this
    exact this
  have up : ∀ t a, (bfs R U s (i + 1)).2.1 t = some a → (bfs R U s n).2.1 t = some a := by
    intro t a h
    have := bfs_mono (R := R) (U := U) (s := s) h (n - (i + 1))
    rw [show i + 1 + (n - (i + 1)) = n by omega] at this
    exact this
  rw [eo]
  constructor
  · obtain ⟨a, ha⟩ := vis_self (bfs R U s i) (R ((bfs R U s i).2.2 i))
    exact ⟨a, up _ _ (by rw [e1]; exact vis_mono ha)⟩
  · obtain ⟨a, ha⟩ := vis_self (vis (bfs R U s i) (R ((bfs R U s i).2.2 i))) (U ((bfs R U s i).2.2 i))
    exact ⟨a, up _ _ (by rw [e1]; exact ha)⟩
/-- what is numbered comes from the first -/
theorem bfs_in {X : Nat → Prop} (hR : Map n R) (hU : Map n U) (hs : s < n) (hX : ∀ q, q < n → X q → X (R q) ∧ X (U q)) (h0 : X s) : ∀ k i, i < (bfs R U s k).1 → X ((bfs R U s k).2.2 i) := by
  have key : ∀ (b : Bs) (t : Nat), BI n b → t < n → X t → (∀ i, i < b.1 → X (b.2.2 i)) → ∀ i, i < (vis b t).1 → X ((vis b t).2.2 i) := by
    intro b t hb ht hXt h i hi
    unfold vis at hi ⊢
    cases hn : b.2.1 t with
    | some a => rw [hn] at hi; exact h i hi
    | none =>
      rw [hn] at hi
      have hi : i < b.1 + 1 := hi
      show X (fu b.2.2 b.1 t i)
      by_cases c : i = b.1
      · subst c; rw [fu_at]; exact hXt
      · rw [fu_ne c]; exact h i (by omega)
  intro k
  induction k with
  | zero =>
    intro i hi
    have hi : i < 1 := hi
    have : i = 0 := by omega
    subst this
    show X (fu (fun _ => 0) 0 s 0)
    rw [fu_at]
    exact h0
  | succ k ih =>
    intro i hi
    have hb := bfs_BI hR hU hs k
    have e : bfs R U s (k + 1) = if k < (bfs R U s k).1 then bst R U (bfs R U s k) k else bfs R U s k := rfl
    rw [e] at hi ⊢
    by_cases c : k < (bfs R U s k).1
    · rw [if_pos c] at hi ⊢
      have hl := (hb.2 k c).1
      have hx := hX _ hl (ih k c)
      exact key _ _ (hb.vis (hR _ hl)) (hU _ hl) hx.2 (key _ _ hb (hR _ hl) hx.1 ih) i hi
    · rw [if_neg c] at hi ⊢
      exact ih i hi
theorem bfs_full (hR : Map n R) (hU : Map n U) (hs : s < n) (hc : Conn n R U) : (bfs R U s n).1 = n := by
  have hb := bfs_BI hR hU hs n
  have hall := hc (fun q => ∃ a, (bfs R U s n).2.1 q = some a) (fun q hq ⟨a, ha⟩ => by
    obtain ⟨h1, h2⟩ := hb.1 q a ha
    have := bfs_closed hR hU hs h1
    rw [h2] at this
    exact this) ⟨s, hs, by
      have h0 : (bfs R U s 0).2.1 s = some 0 := (fu_at : fu (fun _ => none) s (some 0) s = some 0)
      have := bfs_mono (R := R) (U := U) (s := s) h0 n
      rw [Nat.zero_add] at this
      exact ⟨0, this⟩⟩
  have hle := hb.le
  rcases Nat.lt_or_ge (bfs R U s n).1 n with z | z
  · exfalso
    obtain ⟨a, c, h1, h2, h3⟩ := pigeon (bfs R U s n).1 (fun q => ((bfs R U s n).2.1 q).getD 0) (fun k hk => by
      obtain ⟨i, hi⟩ := hall k (by omega)
      show ((bfs R U s n).2.1 k).getD 0 < _
      rw [hi]
      exact (hb.1 k i hi).1)
    obtain ⟨i, hi⟩ := hall a (by omega)
    obtain ⟨j, hj⟩ := hall c (by omega)
    have h3 : ((bfs R U s n).2.1 a).getD 0 = ((bfs R U s n).2.1 c).getD 0 := h3
    rw [hi, hj] at h3
    have h3 : i = j := h3
    subst h3
    have e1 := (hb.1 a i hi).2
    have e2 := (hb.1 c i hj).2
    omega
  · omega
theorem conn_of_full (hR : Prm n R) (hU : Prm n U) (hs : s < n) (hf : (bfs R U s n).1 = n) : Conn n R U := by
  have hb := bfs_BI hR.1 hU.1 hs n
  have hall : ∀ q, q < n → ∃ i, i < (bfs R U s n).1 ∧ (bfs R U s n).2.2 i = q := by
    intro q hq
    obtain ⟨i, hi, e⟩ := surj_of_inj n (bfs R U s n).2.2 (fun q hq => (hb.2 q (by omega)).1) (fun p q hp hq e => by
      have e1 := (hb.2 p (by omega)).2
      have e2 := (hb.2 q (by omega)).2
      rw [e, e2] at e1
      cases e1
      rfl) q hq
    exact ⟨i, by omega, e⟩
  have main : ∀ X : Nat → Prop, (∀ q, q < n → X q → X (R q) ∧ X (U q)) → X s → ∀ q, q < n → X q := by
    intro X hX h0 q hq
    obtain ⟨i, hi, e⟩ := hall q hq
    rw [← e]
    exact bfs_in hR.1 hU.1 hs hX h0 n i hi
  intro X hX ⟨q0, hq0, hx0⟩
  by_cases h0 : X s
  · exact main X hX h0
  · exfalso
    refine main (fun q => ¬ X q) (fun q hq hn => ⟨fun z => hn ?_, fun z => hn ?_⟩) h0 q0 hq0 hx0
    · have := closed_inv hR (X := X) (fun q hq h => (hX q hq h).1) (hR.1 q hq) z
      rw [inv_l hR hq] at this
      exact this
    · have := closed_inv hU (X := X) (fun q hq h => (hX q hq h).2) (hU.1 q hq) z
      rw [inv_l hU hq] at this
      exact this
end BF
