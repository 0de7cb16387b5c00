/-! the class: does it hang together -/
def hgS (R U : Nat → Nat) (M s : Nat) : Nat := if M.testBit s = true then M ||| (2 ^ R s ||| 2 ^ U s) else M
def hgP (R U : Nat → Nat) (M : Nat) : Nat → Nat
  | 0 => M
  | k + 1 => hgS R U (hgP R U M k) k
def hgM (R U : Nat → Nat) (n : Nat) : Nat → Nat
  | 0 => 1
  | r + 1 => hgP R U (hgM R U n r) n
def MB (n M : Nat) : Prop := ∀ v, M.testBit v = true → v < n
theorem hgS_bit {R U : Nat → Nat} {M s v : Nat} : (hgS R U M s).testBit v = true ↔ M.testBit v = true ∨ (M.testBit s = true ∧ (R s = v ∨ U s = v)) := by
  unfold hgS
  by_cases h : M.testBit s = true
  · rw [if_pos h, Nat.testBit_or, Nat.testBit_or, Nat.testBit_two_pow, Nat.testBit_two_pow]
    simp [h]
  · rw [if_neg h]
    constructor
    · exact Or.inl
    · rintro (z | z)
      · exact z
      · exact absurd z.1 h
theorem hgP_mono {R U : Nat → Nat} {M v k : Nat} (h : (hgP R U M k).testBit v = true) : ∀ d, (hgP R U M (k + d)).testBit v = true
  | 0 => h
  | d + 1 => hgS_bit.2 (Or.inl (hgP_mono h d))
theorem hgP_MB {n : Nat} {R U : Nat → Nat} (hR : Map n R) (hU : Map n U) {M : Nat} (h : MB n M) : ∀ k, k ≤ n → MB n (hgP R U M k)
  | 0, _ => h
  | k + 1, hk => by
    intro v hv
    rcases hgS_bit.1 hv with z | ⟨z, rfl | rfl⟩
    · exact hgP_MB hR hU h k (by omega) v z
    · exact hR k (by omega)
    · exact hU k (by omega)
theorem hgM_MB {n : Nat} {R U : Nat → Nat} (h1 : 1 ≤ n) (hR : Map n R) (hU : Map n U) : ∀ r, MB n (hgM R U n r)
  | 0 => by
    intro v hv
    have hv : (2 ^ 0).testBit v = true := hv
    rw [Nat.testBit_two_pow] at hv
    have := of_decide_eq_true hv
    omega
  | r + 1 => hgP_MB hR hU (hgM_MB h1 hR hU r) n (Nat.le_refl _)
theorem MB.lt {n M : Nat} (hn : n ≤ 8) (h : MB n M) : M < 256 := by
  apply Nat.lt_pow_two_of_testBit (n := 8)
  intro i hi
  cases e : M.testBit i with
  | false => rfl
  | true =>
    have := h i e
    omega
theorem MB.full {n M : Nat} (h : MB n M) : M = 2 ^ n - 1 ↔ ∀ v, v < n → M.testBit v = true := by
  constructor
  · intro e v hv
    rw [e, Nat.testBit_two_pow_sub_one]
    simpa using hv
  · intro e
    apply Nat.eq_of_testBit_eq
    intro v
    rw [Nat.testBit_two_pow_sub_one]
    by_cases hv : v < n
    · rw [decide_eq_true hv]
      exact e v hv
    · rw [decide_eq_false hv]
      cases e : M.testBit v with
      | false => rfl
      | true => exact absurd (h v e) hv
/-- what a pass does not change is closed -/
theorem hgP_fix {n : Nat} {R U : Nat → Nat} {M : Nat} (h : ∀ v, (hgP R U M n).testBit v = true → M.testBit v = true) {s : Nat} (hs : s < n) (hb : M.testBit s = true) : M.testBit (R s) = true ∧ M.testBit (U s) = true := by
  have h1 : (hgP R U M s).testBit s = true := by
    have := hgP_mono (R := R) (U := U) (k := 0) hb s
    rw [Nat.zero_add] at this
    exact this
  have h2 : ∀ v, (hgP R U M (s + 1)).testBit v = true → M.testBit v = true := by
    intro v hv
    have := hgP_mono hv (n - (s + 1))
    rw [show s + 1 + (n - (s + 1)) = n by omega] at this
    exact h v this
  exact ⟨h2 _ (hgS_bit.2 (Or.inr ⟨h1, Or.inl rfl⟩)), h2 _ (hgS_bit.2 (Or.inr ⟨h1, Or.inr rfl⟩))⟩
theorem cnt_sub_lt {P Q : Nat → Bool} {n v : Nat} (h : ∀ q, P q = true → Q q = true) (hv : v < n) (h1 : Q v = true) (h2 : ¬ P v = true) : cnt P n < cnt Q n := by
  rw [cnt_sum, cnt_sum]
  refine sumT_lt (a := v) (fun q => ?_) ?_ n hv
  · by_cases c : P q = true
    · rw [if_pos c, if_pos (h q c)]
      exact Nat.le_refl _
    · rw [if_neg c]
      exact Nat.zero_le _
  · show (if P v = true then 1 else 0) < (if Q v = true then 1 else 0)
    rw [if_neg h2, if_pos h1]
    decide
theorem cnt_all {P : Nat → Bool} {n : Nat} (h : n ≤ cnt P n) : ∀ q, q < n → P q = true := by
  intro q hq
  refine Classical.byContradiction fun c => ?_
  have h1 := cnt_sub_lt (P := P) (Q := fun _ => true) (fun _ _ => rfl) hq rfl c
  have h2 := cnt_le (fun _ => true) n
  omega
theorem hgM_go {n : Nat} {R U : Nat → Nat} (h1 : 1 ≤ n) (hR : Map n R) (hU : Map n U) (hc : Conn n R U) : ∀ r, (∀ v, v < n → (hgM R U n r).testBit v = true) ∨ r + 1 ≤ cnt (fun v => (hgM R U n r).testBit v) n := by
  have h0 : ∀ r, (hgM R U n r).testBit 0 = true := by
    intro r
    induction r with
    | zero =>
      show (1 : Nat).testBit 0 = true
      decide
    | succ r ih =>
      have := hgP_mono (R := R) (U := U) (M := hgM R U n r) (k := 0) ih n
      rw [Nat.zero_add] at this
      exact this
  have hmo : ∀ r v, (hgM R U n r).testBit v = true → (hgM R U n (r + 1)).testBit v = true := by
    intro r v hv
    have := hgP_mono (R := R) (U := U) (M := hgM R U n r) (k := 0) hv n
    rw [Nat.zero_add] at this
    exact this
  intro r
  induction r with
  | zero =>
    refine Or.inr ?_
    have := cnt_sub_lt (P := fun _ => false) (Q := fun v => (hgM R U n 0).testBit v) (n := n) (v := 0) (fun _ z => by cases z) (by omega) (h0 0) (by decide)
    omega
  | succ r ih =>
    rcases ih with ih | ih
    · exact Or.inl fun v hv => hmo r v (ih v hv)
    · by_cases c : ∀ v, (hgM R U n (r + 1)).testBit v = true → (hgM R U n r).testBit v = true
      · refine Or.inl fun v hv => hmo r v ?_
        exact hc (fun q => (hgM R U n r).testBit q = true) (fun q hq hx => hgP_fix c hq hx) ⟨0, by omega, h0 r⟩ v hv
      · refine Or.inr ?_
        have : ∃ v, (hgM R U n (r + 1)).testBit v = true ∧ ¬ (hgM R U n r).testBit v = true := by
          refine Classical.byContradiction fun z => c fun v hv => ?_
          exact Classical.byContradiction fun y => z ⟨v, hv, y⟩
        obtain ⟨v, v1, v2⟩ := this
        have := cnt_sub_lt (P := fun v => (hgM R U n r).testBit v) (Q := fun v => (hgM R U n (r + 1)).testBit v) (hmo r) (hgM_MB h1 hR hU (r + 1) v v1) v1 v2
        omega
theorem hgM_in {n : Nat} {R U : Nat → Nat} (hR : Map n R) (hU : Map n U) {X : Nat → Prop} (hX : ∀ q, q < n → X q → X (R q) ∧ X (U q)) (h0 : X 0) : ∀ r v, (hgM R U n r).testBit v = true → X v := by
  have hp : ∀ M, (∀ v, M.testBit v = true → X v) → ∀ k, k ≤ n → ∀ v, (hgP R U M k).testBit v = true → X v := by
    intro M hM k
    induction k with
    | zero => exact fun _ => hM
    | succ k ih =>
      intro hk v hv
      rcases hgS_bit.1 hv with z | ⟨z, rfl | rfl⟩
      · exact ih (by omega) v z
      · exact (hX k (by omega) (ih (by omega) k z)).1
      · exact (hX k (by omega) (ih (by omega) k z)).2
  intro r
  induction r with
  | zero =>
    intro v hv
    have hv : (2 ^ 0).testBit v = true := hv
    rw [Nat.testBit_two_pow] at hv
    rw [← of_decide_eq_true hv]
    exact h0
  | succ r ih => exact hp _ ih n (Nat.le_refl _)
theorem hg_iff {n : Nat} {R U : Nat → Nat} (h1 : 1 ≤ n) (hR : Prm n R) (hU : Prm n U) : hgM R U n (n - 1) = 2 ^ n - 1 ↔ (bfs R U 0 n).1 = n := by
  rw [(hgM_MB h1 hR.1 hU.1 (n - 1)).full]
  constructor
  · intro h
    have hB := bfs_BI (n := n) hR.1 hU.1 (show 0 < n by omega) n
    have hin : ∀ v, v < n → ∃ i, (bfs R U 0 n).2.1 v = some i := by
      intro v hv
      refine hgM_in (X := fun v => ∃ i, (bfs R U 0 n).2.1 v = some i) hR.1 hU.1 ?_ ?_ (n - 1) v (h v hv)
      · rintro q hq ⟨i, hi⟩
        have := hB.1 q i hi
        have hcl := bfs_closed (n := n) hR.1 hU.1 (show 0 < n by omega) this.1
        rw [this.2] at hcl
        exact hcl
      · have := bfs_mono (R := R) (U := U) (s := 0) (t := 0) (i := 0) (k := 0) (show fu (fun _ => none) 0 (some 0) 0 = some 0 from fu_at) n
        rw [Nat.zero_add] at this
        exact ⟨0, this⟩
    refine Nat.le_antisymm hB.le (Nat.le_of_not_lt fun hlt => ?_)
    obtain ⟨a, b, ab, bl, e⟩ := pigeon (bfs R U 0 n).1 (fun v => ((bfs R U 0 n).2.1 v).getD 0) (by
      intro k hk
      obtain ⟨i, hi⟩ := hin k (by omega)
      show ((bfs R U 0 n).2.1 k).getD 0 < _
      rw [hi]
      exact (hB.1 k i hi).1)
    obtain ⟨i, hi⟩ := hin a (by omega)
    obtain ⟨j, hj⟩ := hin b (by omega)
    have e : ((bfs R U 0 n).2.1 a).getD 0 = ((bfs R U 0 n).2.1 b).getD 0 := e
    rw [hi, hj] at e
    have e : i = j := e
    have e1 := (hB.1 a i hi).2
    have e2 := (hB.1 b j hj).2
    rw [e, e2] at e1
    omega
  · intro h
    have hc := conn_of_full hR hU (show 0 < n by omega) h
    rcases hgM_go h1 hR.1 hU.1 hc (n - 1) with z | z
    · exact z
    · exact cnt_all (P := fun v => (hgM R U n (n - 1)).testBit v) (by omega)
theorem bitI : ∀ M, M < 256 → ∀ s, s < 8 → ((((nI M >>> (nI s &&& 31)) &&& 1) : Int32) = 1 ↔ M.testBit s = true) := by decide +kernel
section C11
variable {f : Nat → mCell} {z y a : Nat} {n : Nat} {B C b c : Nat → Int32}
theorem Cs_hg2 (hn : n ≤ 8) (hz : SS f z (nI n) B) (hy : SS f y (nI n) C) {R U : Nat → Nat} (hR : Map n R) (hU : Map n U) (hb : ∀ i, i < n → B i = nI (R i)) (hc : ∀ i, i < n → C i = nI (U i)) {M : Nat} (hM : MB n M) (v3 : Int32) : ∀ (d i : Nat), i + d = n → q91_15 z y (nI (hgP R U M i)) v3 (nI i) (HF f) = q91_4 z y (nI (hgP R U M n)) (v3 + 1) (some (.int (nI n))) (HF f) := by
  intro d
  induction d with
  | zero =>
    intro i hi
    have : i = n := by omega
    subst this
    rw [q91_15_eq, hz.nn]
    simp only [Option.bind_some]
    rw [if_pos (Int32.le_refl _)]
  | succ d ih =>
    intro i hi
    have hlt := (hgP_MB hR hU hM i (by omega)).lt hn
    have hin : i < n := by omega
    rw [q91_15_eq, hz.nn]
    simp only [Option.bind_some]
    rw [if_neg (by rw [iLE (by omega) (by omega)]; omega), show nI i + 1 = nI (i + 1) from iAdd i 1]
    simp only [bitI _ hlt i (by omega)]
    have e1 : hgP R U M (i + 1) = hgS R U (hgP R U M i) i := rfl
    unfold hgS at e1
    by_cases c0 : (hgP R U M i).testBit i = true
    · have r1 := hR i hin
      have r2 := hU i hin
      rw [if_neg (fun z => z c0), hz.r, hy.r]
      simp only [Option.bind_some]
      rw [hz.ld (by omega), hy.ld (by omega), hb i hin, hc i hin]
      simp only [Option.bind_some]
      rw [shl1 _ (by omega), shl1 _ (by omega), nI_or, nI_or]
      rw [if_pos c0] at e1
      rw [← e1]
      exact ih (i + 1) (by omega)
    · rw [if_pos c0]
      rw [if_neg c0] at e1
      rw [← e1]
      exact ih (i + 1) (by omega)
theorem Cs_hg1 (h1 : 1 ≤ n) (hn : n ≤ 8) (hz : SS f z (nI n) B) (hy : SS f y (nI n) C) {R U : Nat → Nat} (hR : Map n R) (hU : Map n U) (hb : ∀ i, i < n → B i = nI (R i)) (hc : ∀ i, i < n → C i = nI (U i)) : ∀ (d r : Nat), r + 1 + d = n → ∀ d4 : Option Value, q91_4 z y (nI (hgM R U n r)) (nI (r + 1)) d4 (HF f) = some (some (.int (b2i (decide (hgM R U n (n - 1) = 2 ^ n - 1)))), HF f) := by
  intro d
  induction d with
  | zero =>
    intro r hr d4
    have : r = n - 1 := by omega
    subst this
    have hlt := (hgM_MB h1 hR hU (n - 1)).lt hn
    have hpw : 2 ^ n ≤ 2 ^ 8 := Nat.pow_le_pow_right (by decide) hn
    have hpp := Nat.two_pow_pos n
    rw [q91_4_eq, hz.nn]
    simp only [Option.bind_some, nz0, nz1, if_true]
    rw [if_pos (by rw [iLE (by omega) (by omega)]; omega), shl1 n (by omega), show nI (2 ^ n) - 1 = nI (2 ^ n - 1) from iSub hpp]
    simp only [iEQ (show hgM R U n (n - 1) < 2000000000 by omega) (show 2 ^ n - 1 < 2000000000 by omega)]
    by_cases c0 : hgM R U n (n - 1) = 2 ^ n - 1
    · rw [if_neg (fun z => z c0), decide_eq_true c0]; rfl
    · rw [if_pos c0, decide_eq_false c0]; rfl
  | succ d ih =>
    intro r hr d4
    rw [q91_4_eq, hz.nn]
    simp only [Option.bind_some]
    rw [if_neg (by rw [iLE (by omega) (by omega)]; omega)]
    have := Cs_hg2 hn hz hy hR hU hb hc (hgM_MB h1 hR hU r) (nI (r + 1)) n 0 (by omega)
    refine Eq.trans this ?_
    rw [show nI (r + 1) + 1 = nI (r + 1 + 1) from iAdd (r + 1) 1]
    exact ih (r + 1) (by omega) _
theorem Cs_hang (h1 : 1 ≤ n) (hn : n ≤ 8) (hz : SO f z (some n) b) (hy : SO f y (some n) c) (hb : whB n b = true) (hc : whB n c = true) : sI 91 [.ref z, .ref y] (HF f) = some (b2i (decide ((bfs (rowN b) (rowN c) 0 n).1 = n)), HF f) := by
  obtain ⟨B, hz, hB⟩ := hz
  obtain ⟨C, hy, hC⟩ := hy
  obtain ⟨p1, p2⟩ := wh_prm hn hb
  obtain ⟨s1, s2⟩ := wh_prm hn hc
  refine sI_of ?_
  rw [F91_eq]
  have := Cs_hg1 h1 hn hz hy p1.1 s1.1 (fun i hi => (hB i (by omega)).trans (p2 i hi)) (fun i hi => (hC i (by omega)).trans (s2 i hi)) (n - 1) 0 (by omega) none
  refine Eq.trans this ?_
  rw [decide_eq_decide.2 (hg_iff h1 p1 s1)]
theorem Cs_tell {n m : Nat} (hn : n ≤ 8) (hm : m ≤ 8) (hz : SO f z (some n) b) (hy : SO f y (some m) c) : sI 90 [.ref z, .ref y] (HF f) = some (b2i (decide (n = m ∧ grOk n b c = true)), HF f) := by
  refine sI_of ?_
  have nz : gI (HF f) z 6 0 = some (nI n) := by obtain ⟨B, hz, hB⟩ := hz; exact hz.nn
  have ny : gI (HF f) y 6 0 = some (nI m) := by obtain ⟨B, hz, hB⟩ := hy; exact hz.nn
  rw [F90_eq, nz, ny]
  simp only [Option.bind_some, nz0, nz1, if_true, iEQ (show n < 2000000000 by omega) (show m < 2000000000 by omega)]
  by_cases c0 : n = m
  · subst c0
    rw [if_neg (fun z => z rfl)]
    have t0 : (nI n ≤ 0) = (n ≤ 0) := iLE (b := 0) (by omega) (by omega)
    simp only [t0]
    unfold grOk
    by_cases c1 : n ≤ 0
    · have : n = 0 := by omega
      subst this
      rw [if_pos c1]; rfl
    · rw [if_neg c1, Cs_once hn hz]
      simp only [Option.bind_some, b2i_0]
      by_cases c2 : whB n b = false
      · rw [if_pos c2, c2]
        simp only [Bool.and_false, Bool.false_and, and_false, Bool.false_eq_true]
        rfl
      · have c2 : whB n b = true := by
          cases e : whB n b with
          | true => rfl
          | false => exact absurd e c2
        rw [if_neg (by rw [c2]; decide), Cs_once hn hy]
        simp only [Option.bind_some, b2i_0]
        by_cases c3 : whB n c = false
        · rw [if_pos c3, c3]
          simp only [Bool.and_false, Bool.false_and, and_false, Bool.false_eq_true]
          rfl
        · have c3 : whB n c = true := by
            cases e : whB n c with
            | true => rfl
            | false => exact absurd e c3
          rw [if_neg (by rw [c3]; decide), Cs_hang (by omega) hn hz hy c2 c3]
          simp only [Option.bind_some, b2i_0]
          rw [c2, c3, decide_eq_true (show n ≠ 0 by omega)]
          simp only [Bool.and_true, Bool.true_and, true_and, decide_eq_true_eq]
          by_cases c4 : (bfs (rowN b) (rowN c) 0 n).1 = n
          · rw [if_neg (by rw [decide_eq_true c4]; decide), decide_eq_true c4]; rfl
          · rw [if_pos (decide_eq_false c4), decide_eq_false c4]; rfl
  · rw [if_pos c0, decide_eq_false (fun z => c0 z.1)]; rfl
theorem Cs_layL (hn : n ≤ 8) {R U : Nat → Nat} (hR : Prm n R) (hU : Prm n U) (hb : ∀ i, i < n → B i = nI (R i)) (hc : ∀ i, i < n → C i = nI (U i)) {ρ : Nat → Nat} (d1 : z + 1 < a ∨ a + 5 < z) (d2 : y + 1 < a ∨ a + 5 < y) : ∀ (d k : Nat), k + d = n → ∀ (f : Nat → mCell) (D : Nat → Nat → Int32), SS f z (nI n) B → SS f y (nI n) C → GS f a (nI n) ρ D → GP R U k D → ∃ f' D', q21_10 a z y (nI k) (HF f) = some (none, HF f') ∧ GS f' a (nI n) ρ D' ∧ GP R U n D' ∧ Fx a (a + 5) f f' := by
  intro d
  induction d with
  | zero =>
    intro k hk f D hz hy h hp
    have : k = n := by omega
    subst this
    refine ⟨f, D, ?_, h, hp, Fx.rf⟩
    rw [q21_10_eq, h.nn]
    simp only [Option.bind_some]
    rw [if_pos (Int32.le_refl _)]
  | succ d ih =>
    intro k hk f D hz hy h hp
    obtain ⟨f1, D1, a1, a2, a3, a4⟩ := Cg_glue hn hR hU (show k < n by omega) h hp
    obtain ⟨f2, D2, b1, b2, b3, b4⟩ := ih (k + 1) (by omega) f1 D1 (hz.fx a4 d1) (hy.fx a4 d2) a2 a3
    refine ⟨f2, D2, ?_, b2, b3, a4.tr b4⟩
    rw [q21_10_eq, h.nn]
    simp only [Option.bind_some]
    rw [if_neg (by rw [iLE (by omega) (by omega)]; omega), hz.r, hy.r]
    simp only [Option.bind_some]
    rw [hz.ld (by omega), hy.ld (by omega), hb k (by omega), hc k (by omega)]
    simp only [Option.bind_some]
    rw [a1]
    simp only [Option.bind_some]
    rw [show nI k + 1 = nI (k + 1) from iAdd k 1]
    exact b1
theorem Cs_layOut (hn : n ≤ 8) (d1 : z + 1 < a ∨ a + 5 < z) (d2 : y + 1 < a ∨ a + 5 < y) (hz : SO f z (some n) b) (hy : SO f y (some n) c) (hb : whB n b = true) (hc : whB n c = true) (h : GA f a) : ∃ f', vV 21 a [.ref z, .ref y] (HF f) = some (HF f') ∧ GV f' a (n, rowN b, rowN c) ∧ Fx a (a + 5) f f' := by
  obtain ⟨B, hz, hB⟩ := hz
  obtain ⟨C, hy, hC⟩ := hy
  obtain ⟨p1, p2⟩ := wh_prm hn hb
  obtain ⟨s1, s2⟩ := wh_prm hn hc
  obtain ⟨m, ρ, D, h⟩ := h
  obtain ⟨f1, a1, a2, a3⟩ := h.setN (nI n)
  obtain ⟨f2, D2, b1, b2, b3, b4⟩ := Cs_layL hn p1 s1 (fun i hi => (hB i (by omega)).trans (p2 i hi)) (fun i hi => (hC i (by omega)).trans (s2 i hi)) d1 d2 n 0 (by omega) f1 D (hz.fx a3 d1) (hy.fx a3 d2) a2 (fun q hq => by omega)
  refine ⟨f2, vV_of (ci := 3) rfl h.O ?_, ⟨ρ, D2, b2, GP.full p1 s1 b3⟩, a3.tr b4⟩
  have e : gI (HF f) z 6 0 = some (nI n) := hz.nn
  rw [F21_eq, e]
  simp only [Option.bind_some]
  rw [a1]
  exact b1
end C11
