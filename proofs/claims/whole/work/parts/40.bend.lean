/-! corners -/
def arA (G : Gr) : Nat → Nat := fun q => inv G.1 G.2.2 (inv G.1 G.2.1 (G.2.2 (G.2.1 q)))
theorem arA_prm {G : Gr} (h : Gd G) : Prm G.1 (arA G) := (inv_prm h.2.2.2).comp ((inv_prm h.2.2.1).comp (h.2.2.2.comp h.2.2.1))
def bn (G : Gr) (q : Nat) : Nat := bd (arA G) G.1 q
def fsK (A : Nat → Nat) (q : Nat) : Nat → Bool
  | 0 => true
  | k + 1 => fsK A q k && decide (q < it A (k + 1) q)
def fs (G : Gr) (q : Nat) : Bool := fsK (arA G) q (bn G q)
theorem fsK_iff (A : Nat → Nat) (q : Nat) : ∀ k, fsK A q k = true ↔ ∀ i, i < k → q < it A (i + 1) q
  | 0 => ⟨fun _ i hi => by omega, fun _ => rfl⟩
  | k + 1 => by
    show (fsK A q k && decide (q < it A (k + 1) q)) = true ↔ _
    rw [Bool.and_eq_true, decide_eq_true_eq, fsK_iff A q k]
    constructor
    · rintro ⟨h1, h2⟩ i hi
      by_cases e : i = k
      · subst e; exact h2
      · exact h1 i (by omega)
    · intro h
      exact ⟨fun i hi => h i (by omega), h k (by omega)⟩
def bent (k : Nat) : Nat := if 0 < k then 1 else 0
def stp (w a k : Nat) : Nat := if w = 3 then (if k ≤ a then a else k) else a + (if w = 0 then 1 else if w = 1 then bent k else if w = 2 then k else bent k * (k + 1))
theorem stp0 (a k : Nat) : stp 0 a k = a + 1 := rfl
theorem stp1 (a k : Nat) : stp 1 a k = a + bent k := rfl
theorem stp2 (a k : Nat) : stp 2 a k = a + k := rfl
theorem stp3 (a k : Nat) : stp 3 a k = if k ≤ a then a else k := rfl
theorem stp4 (a k : Nat) : stp 4 a k = a + bent k * (k + 1) := rfl
def crn (G : Gr) (w : Nat) : Nat → Nat
  | 0 => 0
  | k + 1 => if fs G k = true then stp w (crn G w k) (bn G k) else crn G w k
theorem bn_lt {G : Gr} (h : Gd G) {q : Nat} (hq : q < G.1) : bn G q < G.1 := (bd_ok (arA_prm h) hq).1
theorem crn_le {G : Gr} (h : Gd G) (w : Nat) : ∀ k, k ≤ G.1 → crn G w k ≤ 10 * k
  | 0, _ => Nat.le_refl _
  | k + 1, hk => by
    have ih := crn_le h w k (by omega)
    have h1 := bn_lt h (show k < G.1 by omega)
    have h2 := h.2.1
    unfold crn
    split
    · unfold stp bent
      repeat' split
      all_goals omega
    · omega
def kindG (G : Gr) : Nat := if crn G 1 G.1 = 0 then 1 else if crn G 1 G.1 = 1 then 2 else if crn G 1 G.1 = 2 ∧ crn G 2 G.1 = 2 * crn G 3 G.1 then 3 else 0
def rl (G : Gr) (q : Nat) : Nat := bd G.2.1 G.1 q + 1
section M9
variable {x : Nat → mCell} {mi : Nat → Int32} {ml : Nat → Int64} {ma : Nat → Nat → Int32} {S : St} {G : Gr}
theorem Mo_around (hG : Gd G) (hC : Cur G mi ma) {q : Nat} (hq : q < G.1) : vI 118 107 [.int (nI q)] (MH x mi ml ma) = some (nI (arA G q), MH x mi ml ma) := by
  obtain ⟨g1, g2, g3, g4⟩ := hG
  obtain ⟨c1, c2, c3, c4, c5⟩ := hC
  have r1 := g3.1 q hq
  have r2 := g4.1 _ r1
  have r3 := (inv_prm g3).1 _ r2
  refine vI_of (ci := 8) rfl mo_O ?_
  rw [F118_eq, moR9]
  simp only [Option.bind_some, moR8, moR7, moR6]
  rw [moAld (by decide) (show q < moLen 112 by show q < 8; omega), c2 q hq]
  simp only [Option.bind_some]
  rw [moAld (by decide) (show _ < moLen 113 by show _ < 8; omega), c3 _ r1]
  simp only [Option.bind_some]
  rw [moAld (by decide) (show _ < moLen 114 by show _ < 8; omega), c4 _ r2]
  simp only [Option.bind_some]
  rw [moAld (by decide) (show _ < moLen 115 by show _ < 8; omega), c5 _ r3]
  rfl
theorem Mo_bendL (hG : Gd G) (hC : Cur G mi ma) {q : Nat} (hq : q < G.1) : ∀ (d k : Nat), k + d = bn G q → q119_8 107 (nI q) (nI k) (nI (it (arA G) (k + 1) q)) (MH x mi ml ma) = some (some (.int (nI (bn G q))), MH x mi ml ma) := by
  have hA := arA_prm hG
  have g2 := hG.2.1
  obtain ⟨b1, b2, b3⟩ := bd_ok hA hq
  intro d
  induction d with
  | zero =>
    intro k hk
    have e : it (arA G) (k + 1) q = q := by rw [show k = bn G q by omega]; exact b2
    rw [q119_8_eq, e, if_pos rfl, show k = bn G q by omega]
  | succ d ih =>
    intro k hk
    have hlt := it_lt hA.1 hq (k + 1)
    rw [q119_8_eq, if_neg (by rw [iEQ (by omega) (by omega)]; exact b3 k (by have : bn G q = bd (arA G) G.1 q := rfl; omega)), Mo_around hG hC hlt]
    simp only [Option.bind_some]
    rw [l1, iAdd]
    exact ih (k + 1) (by omega)
theorem Mo_bendAt (hG : Gd G) (hC : Cur G mi ma) {q : Nat} (hq : q < G.1) : vI 119 107 [.int (nI q)] (MH x mi ml ma) = some (nI (bn G q), MH x mi ml ma) := by
  refine vI_of (ci := 8) rfl mo_O ?_
  rw [F119_eq, Mo_around hG hC hq]
  exact Mo_bendL hG hC hq (bn G q) 0 (by omega)
theorem Mo_firstL (hG : Gd G) (hC : Cur G mi ma) {q : Nat} (hq : q < G.1) : ∀ (d k : Nat), k + d = bn G q → q120_8 107 (nI q) (b2i (fsK (arA G) q k)) (nI (it (arA G) (k + 1) q)) (MH x mi ml ma) = some (some (.int (b2i (fs G q))), MH x mi ml ma) := by
  have hA := arA_prm hG
  have g2 := hG.2.1
  obtain ⟨b1, b2, b3⟩ := bd_ok hA hq
  intro d
  induction d with
  | zero =>
    intro k hk
    have ek : k = bn G q := by omega
    have e : it (arA G) (k + 1) q = q := by rw [ek]; exact b2
    rw [q120_8_eq, e, if_pos rfl, if_pos (nzb _), ek]
    rfl
  | succ d ih =>
    intro k hk
    have hlt := it_lt hA.1 hq (k + 1)
    have hne := b3 k (by have : bn G q = bd (arA G) G.1 q := rfl; omega)
    have hn := ih (k + 1) (by omega)
    rw [q120_8_eq, if_neg (by rw [iEQ (by omega) (by omega)]; exact hne)]
    have hs : fsK (arA G) q (k + 1) = (fsK (arA G) q k && decide (q < it (arA G) (k + 1) q)) := rfl
    rw [hs] at hn
    cases hf : fsK (arA G) q k with
    | false =>
      rw [hf] at hn
      rw [if_pos (show b2i false = 0 from rfl), Mo_around hG hC hlt]
      exact hn
    | true =>
      rw [hf] at hn
      rw [if_neg (by decide)]
      by_cases c : it (arA G) (k + 1) q ≤ q
      · rw [if_pos (by rw [iLE (by omega) (by omega)]; exact c), Mo_around hG hC hlt]
        rw [decide_eq_false (by omega)] at hn
        exact hn
      · rw [if_neg (by rw [iLE (by omega) (by omega)]; exact c), Mo_around hG hC hlt]
        rw [decide_eq_true (by omega)] at hn
        exact hn
theorem Mo_isFirst (hG : Gd G) (hC : Cur G mi ma) {q : Nat} (hq : q < G.1) : vI 120 107 [.int (nI q)] (MH x mi ml ma) = some (b2i (fs G q), MH x mi ml ma) := by
  refine vI_of (ci := 8) rfl mo_O ?_
  rw [F120_eq, Mo_around hG hC hq]
  exact Mo_firstL hG hC hq (bn G q) 0 (by omega)
theorem Mo_cornersL (hG : Gd G) (hC : Cur G mi ma) {w : Nat} (hw : w < 5) : ∀ (d k : Nat), k + d = G.1 → ∀ (d4 d5 : Option Value), q121_4 107 (nI w) (nI (crn G w k)) (nI k) d4 d5 (MH x mi ml ma) = some (some (.int (nI (crn G w G.1))), MH x mi ml ma) := by
  have g2 := hG.2.1
  intro d
  induction d with
  | zero =>
    intro k hk d4 d5
    rw [q121_4_eq, moI5]
    simp only [Option.bind_some]
    rw [hC.1, if_pos (by rw [iLE (by omega) (by omega)]; omega), show k = G.1 by omega]
  | succ d ih =>
    intro k hk d4 d5
    have hn := ih (k + 1) (by omega)
    have hb := bn_lt hG (show k < G.1 by omega)
    have hc := crn_le hG w k (by omega)
    rw [q121_4_eq, moI5]
    simp only [Option.bind_some]
    rw [hC.1, if_neg (by rw [iLE (by omega) (by omega)]; omega), Mo_isFirst hG hC (show k < G.1 by omega)]
    simp only [Option.bind_some, b2i_0]
    have hcs : crn G w (k + 1) = if fs G k = true then stp w (crn G w k) (bn G k) else crn G w k := rfl
    rw [hcs] at hn
    cases hf : fs G k with
    | false =>
      rw [hf, if_neg (by decide)] at hn
      rw [if_pos rfl, l1, iAdd]
      exact hn _ _
    | true =>
      rw [hf, if_pos rfl] at hn
      rw [if_neg (by decide), Mo_bendAt hG hC (show k < G.1 by omega)]
      simp only [Option.bind_some]
      have hz : (nI (bn G k) ≤ 0) = (bn G k ≤ 0) := iLE (b := 0) (by omega) (by omega)
      have hle : (nI (bn G k) ≤ nI (crn G w k)) = (bn G k ≤ crn G w k) := iLE (by omega) (by omega)
      have a0 : nI (crn G w k) + 0 = nI (crn G w k + 0) := iAdd _ 0
      have a1 : nI (crn G w k) + 1 = nI (crn G w k + 1) := iAdd _ 1
      have hk1 : nI k + 1 = nI (k + 1) := iAdd k 1
      simp only [hz, hle, hk1, a0, a1]
      have w5 : w = 0 ∨ w = 1 ∨ w = 2 ∨ w = 3 ∨ w = 4 := by omega
      by_cases h0 : bn G k ≤ 0
      · have e0 : bn G k = 0 := by omega
        have eb : bent (bn G k) = 0 := by unfold bent; rw [if_neg (by omega)]
        rw [if_pos h0]
        rcases w5 with rfl | rfl | rfl | rfl | rfl
        · rw [if_pos (by decide), if_neg (by decide)]
          have := hn (some (.int (nI (bn G k)))) (some (.int 0))
          exact this
        · rw [if_pos (by decide), if_pos (by decide), if_neg (by decide)]
          have := hn (some (.int (nI (bn G k)))) (some (.int 0))
          rw [stp1, eb] at this
          exact this
        · rw [if_pos (by decide), if_pos (by decide), if_pos (by decide), if_neg (by decide), iAdd]
          exact hn (some (.int (nI (bn G k)))) (some (.int 0))
        · rw [if_neg (by decide)]
          have := hn (some (.int (nI (bn G k)))) (some (.int 0))
          rw [stp3] at this
          by_cases c : bn G k ≤ crn G 3 k
          · rw [if_pos c] at this ⊢; exact this
          · rw [if_neg c] at this ⊢; exact this
        · rw [if_pos (by decide), if_pos (by decide), if_pos (by decide), if_pos (by decide)]
          have := hn (some (.int (nI (bn G k)))) (some (.int 0))
          rw [stp4, eb, Nat.zero_mul] at this
          rw [show (0 : Int32) * (nI (bn G k) + 1) = nI 0 by rw [l1, iAdd, l0, iMul, Nat.zero_mul], iAdd]
          exact this
      · have eb : bent (bn G k) = 1 := by unfold bent; rw [if_pos (by omega)]
        rw [if_neg h0]
        rcases w5 with rfl | rfl | rfl | rfl | rfl
        · rw [if_pos (by decide), if_neg (by decide)]
          have := hn (some (.int (nI (bn G k)))) (some (.int 1))
          exact this
        · rw [if_pos (by decide), if_pos (by decide), if_neg (by decide)]
          have := hn (some (.int (nI (bn G k)))) (some (.int 1))
          rw [stp1, eb] at this
          exact this
        · rw [if_pos (by decide), if_pos (by decide), if_pos (by decide), if_neg (by decide), iAdd]
          exact hn (some (.int (nI (bn G k)))) (some (.int 1))
        · rw [if_neg (by decide)]
          have := hn (some (.int (nI (bn G k)))) (some (.int 1))
          rw [stp3] at this
          by_cases c : bn G k ≤ crn G 3 k
          · rw [if_pos c] at this ⊢; exact this
          · rw [if_neg c] at this ⊢; exact this
        · rw [if_pos (by decide), if_pos (by decide), if_pos (by decide), if_pos (by decide)]
          have := hn (some (.int (nI (bn G k)))) (some (.int 1))
          rw [stp4, eb] at this
          rw [show (1 : Int32) * (nI (bn G k) + 1) = nI (1 * (bn G k + 1)) by rw [l1, iAdd, iMul], iAdd]
          exact this
theorem Mo_corners (hG : Gd G) (hC : Cur G mi ma) {w : Nat} (hw : w < 5) : vI 121 107 [.int (nI w)] (MH x mi ml ma) = some (nI (crn G w G.1), MH x mi ml ma) := by
  refine vI_of (ci := 8) rfl mo_O ?_
  rw [F121_eq]
  exact Mo_cornersL hG hC hw G.1 0 (by omega) none none
theorem Mo_kindOf (hG : Gd G) (hC : Cur G mi ma) : vI 122 107 [] (MH x mi ml ma) = some (nI (kindG G), MH x mi ml ma) := by
  have g2 := hG.2.1
  have k1 := crn_le hG 1 G.1 (Nat.le_refl _)
  have k2 := crn_le hG 2 G.1 (Nat.le_refl _)
  have k3 := crn_le hG 3 G.1 (Nat.le_refl _)
  have q0 : (nI (crn G 1 G.1) = 0) = (crn G 1 G.1 = 0) := iEQ (b := 0) (by omega) (by omega)
  have q1 : (nI (crn G 1 G.1) = 1) = (crn G 1 G.1 = 1) := iEQ (b := 1) (by omega) (by omega)
  have q2 : (nI (crn G 1 G.1) = 2) = (crn G 1 G.1 = 2) := iEQ (b := 2) (by omega) (by omega)
  have q3 : (nI (crn G 2 G.1) = 2 * nI (crn G 3 G.1)) = (crn G 2 G.1 = 2 * crn G 3 G.1) := by rw [l2, iMul]; exact iEQ (by omega) (by omega)
  refine vI_of (ci := 8) rfl mo_O ?_
  have m1 := Mo_corners (x := x) (ml := ml) hG hC (w := 1) (by decide)
  have m2 := Mo_corners (x := x) (ml := ml) hG hC (w := 2) (by decide)
  have m3 := Mo_corners (x := x) (ml := ml) hG hC (w := 3) (by decide)
  rw [← l1] at m1
  rw [← l2] at m2
  rw [← l3] at m3
  rw [F122_eq, m1]
  simp only [Option.bind_some, m2, m3, q0, q1, q2, q3]
  unfold kindG
  by_cases c0 : crn G 1 G.1 = 0
  · rw [if_neg (fun z => z c0), if_pos c0]; rfl
  · rw [if_pos c0, if_neg c0]
    by_cases c1 : crn G 1 G.1 = 1
    · rw [if_neg (fun z => z c1), if_pos c1]; rfl
    · rw [if_pos c1, if_neg c1]
      by_cases c2 : crn G 1 G.1 = 2
      · rw [if_neg (fun z => z c2)]
        by_cases c3 : crn G 2 G.1 = 2 * crn G 3 G.1
        · rw [if_neg (fun z => z c3), if_pos ⟨c2, c3⟩]; rfl
        · rw [if_pos c3, if_neg (fun z => c3 z.2)]; rfl
      · rw [if_pos c2, if_neg (fun z => c2 z.1)]; rfl
theorem Mo_ringL (hG : Gd G) (hC : Cur G mi ma) {q : Nat} (hq : q < G.1) : ∀ (d k : Nat), k + d = bd G.2.1 G.1 q → q127_9 107 (nI q) (nI (k + 1)) (nI (it G.2.1 (k + 1) q)) (MH x mi ml ma) = some (some (.int (nI (rl G q))), MH x mi ml ma) := by
  have hA := hG.2.2.1
  have g2 := hG.2.1
  obtain ⟨b1, b2, b3⟩ := bd_ok hA hq
  intro d
  induction d with
  | zero =>
    intro k hk
    have ek : k = bd G.2.1 G.1 q := by omega
    have e : it G.2.1 (k + 1) q = q := by rw [ek]; exact b2
    rw [q127_9_eq, e, if_pos rfl, ek]
    rfl
  | succ d ih =>
    intro k hk
    have hlt := it_lt hA.1 hq (k + 1)
    rw [q127_9_eq, if_neg (by rw [iEQ (by omega) (by omega)]; exact b3 k (by omega)), moR6]
    simp only [Option.bind_some]
    rw [moAld (by decide) (show _ < moLen 112 by show _ < 8; omega), hC.2.1 _ hlt]
    simp only [Option.bind_some]
    rw [l1, iAdd]
    exact ih (k + 1) (by omega)
theorem Mo_ringOf (hG : Gd G) (hC : Cur G mi ma) {q : Nat} (hq : q < G.1) : vI 127 107 [.int (nI q)] (MH x mi ml ma) = some (nI (rl G q), MH x mi ml ma) := by
  have g2 := hG.2.1
  refine vI_of (ci := 8) rfl mo_O ?_
  rw [F127_eq, moR6]
  simp only [Option.bind_some]
  rw [moAld (by decide) (show _ < moLen 112 by show _ < 8; omega), hC.2.1 _ hq]
  simp only [Option.bind_some]
  exact Mo_ringL hG hC hq (bd G.2.1 G.1 q) 0 (by omega)
end M9
def spBend (S : St) (g q : Int32) : Int32 × St := spAsk S g (fun G => if isIn G.1 q = false then (-3, sMeet S 2) else (nI (bn G q.toNatClampNeg), S))
theorem Mo_bend (S : St) (hW : Wf S) (g q : Int32) : MoSp 130 [.int g, .int q] S (spBend S g q) := by
  intro x mi ml ma h
  refine Mo_ask hW h rfl (F130_eq 107 g q _) (fun k G ma' hk e hs hok hC hM => ?_)
  have h8 := hok.1.2.1
  dsimp only
  rw [moI5]
  simp only [Option.bind_some]
  rw [hC.1, Mo_in]
  simp only [Option.bind_some, isIn_nIm h8, b2i_0]
  by_cases hi : isIn G.1 q = false
  · rw [if_pos hi, if_pos hi]
    refine ⟨_, ml, _, ?_, hM.meet (k := 2) (by decide)⟩
    rw [show (Value.int 2) = Value.int (nI 2) from rfl, Mo_meets (by decide)]
    rfl
  · rw [if_neg hi, if_neg hi]
    obtain ⟨p, hp, rfl, hcp⟩ := isIn_ok (n := G.1) (by omega) (by simpa using hi)
    rw [hcp, Mo_bendAt hok.1 hC hp]
    exact ⟨_, ml, ma', rfl, hM⟩
def spMean (S : St) (g : Int32) : Int32 × St := spAsk S g (fun G => if crn G 1 G.1 = 0 then (-3, sMeet S 4) else (nI (crn G 4 G.1 / crn G 1 G.1), S))
theorem Mo_mean (S : St) (hW : Wf S) (g : Int32) : MoSp 135 [.int g] S (spMean S g) := by
  intro x mi ml ma h
  refine Mo_ask hW h rfl (F135_eq 107 g _) (fun k G ma' hk e hs hok hC hM => ?_)
  have h8 := hok.1.2.1
  have k1 := crn_le hok.1 1 G.1 (Nat.le_refl _)
  have k4 := crn_le hok.1 4 G.1 (Nat.le_refl _)
  have m1 := Mo_corners (x := x) (ml := ml) hok.1 hC (w := 1) (by decide)
  have m4 := Mo_corners (x := x) (ml := ml) hok.1 hC (w := 4) (by decide)
  rw [← l1] at m1
  rw [← l4] at m4
  have q0 : (nI (crn G 1 G.1) = 0) = (crn G 1 G.1 = 0) := iEQ (b := 0) (by omega) (by omega)
  dsimp only
  rw [m1]
  simp only [Option.bind_some, m4, m1, q0]
  by_cases c : crn G 1 G.1 = 0
  · rw [if_neg (fun z => z c), if_pos c]
    refine ⟨_, ml, _, ?_, hM.meet (k := 4) (by decide)⟩
    rw [show (Value.int 4) = Value.int (nI 4) from rfl, Mo_meets (by decide)]
    rfl
  · rw [if_pos c, if_neg c, if_neg c, pk_div (by omega) (by omega) (by omega)]
    exact ⟨_, ml, ma', rfl, hM⟩
def spMark (S : St) (g k : Int32) : Int32 × St := if 1 ≤ k.toInt ∧ k.toInt ≤ 3 then spAsk S g (fun G => if (kindG G : Int) = k.toInt then ((if k.toInt = 1 then nI (rl G 0) else if k.toInt = 2 then nI (crn G 3 G.1) else nI (crn G 4 G.1)), S) else (-3, sMeet S 3)) else (-1, S)
theorem Mo_mark (S : St) (hW : Wf S) (g k : Int32) : MoSp 128 [.int g, .int k] S (spMark S g k) := by
  intro x mi ml ma h
  unfold spMark
  have t1 : (1 : Int32).toInt = 1 := rfl
  have t3 : (3 : Int32).toInt = 3 := rfl
  by_cases hb : 1 ≤ k.toInt ∧ k.toInt ≤ 3
  · rw [if_pos hb]
    refine Mo_ask (K := fun q2 => (vI 122 107 [] q2.2).bind fun q3 => if q3.1 = k then (if ¬ k = 1 then (if ¬ k = 2 then ((vI 121 107 [.int 4] q3.2).bind fun q4 => some (some (.int q4.1), q4.2)) else ((vI 121 107 [.int 3] q3.2).bind fun q5 => some (some (.int q5.1), q5.2))) else ((vI 127 107 [.int 0] q3.2).bind fun q6 => some (some (.int q6.1), q6.2))) else ((vI 101 107 [.int 3] q3.2).bind fun q7 => some (some (.int q7.1), q7.2))) hW h rfl ?_ (fun j G ma' hj e hs hok hC hM => ?_)
    · rw [F128_eq, Mo_in]
      simp only [Option.bind_some, in_toInt, b2i_0, decide_eq_false_iff_not]
      rw [if_pos (fun z => z (by rw [t1, t3]; exact hb))]
    · have h8 := hok.1.2.1
      have hkk : kindG G ≤ 3 := by unfold kindG; repeat' split
                                   all_goals omega
      have m3 := Mo_corners (x := x) (ml := ml) hok.1 hC (w := 3) (by decide)
      have m4 := Mo_corners (x := x) (ml := ml) hok.1 hC (w := 4) (by decide)
      have r0 := Mo_ringOf (x := x) (ml := ml) hok.1 hC (q := 0) hok.1.1
      rw [← l3] at m3
      rw [← l4] at m4
      rw [← l0] at r0
      have ek : (nI (kindG G) = k) = ((kindG G : Int) = k.toInt) := propext (by
        rw [← Int32.toInt_inj, nI_toInt (by omega)])
      have e1 : (k = 1) = (k.toInt = 1) := propext (by rw [← Int32.toInt_inj]; rfl)
      have e2 : (k = 2) = (k.toInt = 2) := propext (by rw [← Int32.toInt_inj]; rfl)
      dsimp only
      rw [Mo_kindOf hok.1 hC]
      simp only [Option.bind_some, ek, e1, e2, m3, m4, r0]
      by_cases c : (kindG G : Int) = k.toInt
      · rw [if_pos c, if_pos c]
        refine ⟨_, ml, ma', ?_, hM⟩
        by_cases c1 : k.toInt = 1
        · rw [if_neg (fun z => z c1), if_pos c1]
        · rw [if_pos c1, if_neg c1]
          by_cases c2 : k.toInt = 2
          · rw [if_neg (fun z => z c2), if_pos c2]
          · rw [if_pos c2, if_neg c2]
      · rw [if_neg c, if_neg c]
        refine ⟨_, ml, _, ?_, hM.meet (k := 3) (by decide)⟩
        rw [show (Value.int 3) = Value.int (nI 3) from rfl, Mo_meets (by decide)]
        rfl
  · rw [if_neg hb]
    refine ⟨mi, ml, ma, vI_of (ci := 8) rfl mo_O ?_, h⟩
    rw [F128_eq, Mo_in]
    simp only [Option.bind_some, in_toInt, b2i_0, decide_eq_false_iff_not]
    rw [if_neg (fun z => z (by rw [t1, t3]; exact hb))]
