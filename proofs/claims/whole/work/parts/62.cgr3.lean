/-! places of a name, slopes, rings -/
theorem pl_c : ∀ k, k < 48 → ((nI k).toInt64 &&& 63) = lN k ∧ ((lN k).toBitVec.smod 64).toNat = k := by decide +kernel
theorem shrL {a d : Nat} {D : Int64} (hD : (D.toBitVec.smod 64).toNat = d) (h : a < 2 ^ 62) : lN a >>> D = lN (a / 2 ^ d) := by
  have hd : a / 2 ^ d ≤ a := Nat.div_le_self _ _
  apply Int64.toInt_inj.mp
  have e : (lN a >>> D).toInt = (lN a).toInt >>> d := by
    rw [← hD]
    exact BitVec.toInt_sshiftRight ..
  rw [e, Int.shiftRight_eq_div_pow, pk_lT (by omega), pk_lT (by omega)]
  rfl
theorem nI_tn (n : Nat) : (nI n).toBitVec.toNat = n % 2 ^ 32 := by
  show (BitVec.ofNat 32 n).toNat = _
  exact BitVec.toNat_ofNat n 32
theorem Cg_place {n v i : Nat} (hn : n ≤ 8) (hi : i < 2 * n) (hv : v < 2 ^ 62) (h : mHeap) : sI 89 [.long (lN v), .int (nI n), .int (nI i)] h = some (nI (dg n v i), h) := by
  refine sI_of ?_
  rw [F89_eq]
  have e1 : (3 : Int32) * ((2 * nI n - 1) - nI i) = nI (3 * (2 * n - 1 - i)) := by
    rw [l2, iMul, l1, iSub (by omega), iSub (by omega), l3, iMul]
  obtain ⟨c1, c2⟩ := pl_c (3 * (2 * n - 1 - i)) (by omega)
  rw [e1, c1, shrL c2 hv, lN_i, pk_and _ 3 (by decide), nI_tn]
  have e2 : (2 : Nat) ^ (3 * (2 * n - 1 - i)) = 8 ^ (2 * n - 1 - i) := by rw [Nat.pow_mul]
  unfold dg
  rw [e2, show (2 : Nat) ^ 3 = 8 from rfl]
  have : v / 8 ^ (2 * n - 1 - i) % 2 ^ 32 % 8 = v / 8 ^ (2 * n - 1 - i) % 8 := by omega
  rw [this]
theorem xor_pos {p q : Int32} (hq : 0 ≤ q.toInt) : (0 ≤ p ^^^ q) = (0 ≤ p.toInt) := by
  apply propext
  rw [Int32.le_iff_toInt_le]
  have m1 : (p ^^^ q).toBitVec.msb = (p.toBitVec.msb ^^ q.toBitVec.msb) := by
    rw [Int32.toBitVec_xor, BitVec.msb_xor]
  rw [BitVec.msb_eq_toInt, BitVec.msb_eq_toInt, BitVec.msb_eq_toInt] at m1
  have e1 : (p ^^^ q).toBitVec.toInt = (p ^^^ q).toInt := rfl
  have e2 : p.toBitVec.toInt = p.toInt := rfl
  have e3 : q.toBitVec.toInt = q.toInt := rfl
  rw [e1, e2, e3, decide_eq_false (show ¬ q.toInt < 0 by omega), Bool.xor_false, decide_eq_decide] at m1
  show 0 ≤ (p ^^^ q).toInt ↔ _
  omega
theorem Cg_floorDiv {p q : Int32} (hp : -50 ≤ p.toInt ∧ p.toInt ≤ 50) (hq : 0 < q.toInt ∧ q.toInt ≤ 50) (h : mHeap) : ∃ k : Int32, sI 172 [.int p, .int q] h = some (k, h) ∧ k.toInt = flo p.toInt q.toInt := by
  have hne : ¬ q = 0 := fun z => by subst z; exact absurd hq.1 (by decide)
  obtain ⟨t1, t2, t3⟩ := i_div (a := p) (b := q) (by omega)
  have t4 : (p.toInt.tdiv q.toInt).natAbs ≤ p.toInt.natAbs := by
    rw [Int.natAbs_tdiv]
    exact Nat.div_le_self _ _
  have hX := tmod_of p.toInt q.toInt
  have hXb := tmod_bounds (a := p.toInt) hq.1
  have m1 : (p / q * q).toInt = q.toInt * p.toInt.tdiv q.toInt := i_mul (by rw [t1, Int.mul_comm]) (by omega)
  have hsg : 0 ≤ p.toInt → 0 ≤ p.toInt.tmod q.toInt := fun z => Int.tmod_nonneg _ z
  have hsn : p.toInt < 0 → p.toInt.tmod q.toInt ≤ 0 := fun z => by
    have := Int.tmod_nonneg (a := -p.toInt) q.toInt (by omega)
    rw [Int.neg_tmod] at this
    omega
  have pre := F172_eq p q h
  rw [if_neg hne] at pre
  simp only [xor_pos (p := p) (q := q) (by omega), i32eq (p / q * q) p, m1] at pre
  by_cases c : 0 ≤ p.toInt
  · rw [if_pos c] at pre
    refine ⟨p / q, sI_of pre, ?_⟩
    have := hsg c
    unfold flo
    rw [if_neg (by omega), t1]
  · rw [if_neg c] at pre
    by_cases c2 : q.toInt * p.toInt.tdiv q.toInt = p.toInt
    · rw [if_pos c2] at pre
      refine ⟨p / q, sI_of pre, ?_⟩
      unfold flo
      rw [if_neg (by omega), t1]
    · rw [if_neg c2] at pre
      refine ⟨p / q - 1, sI_of pre, ?_⟩
      have := hsn (by omega)
      unfold flo
      rw [if_pos (by omega), i_sub (by rw [t1]; show _ ≤ _ - 1 ∧ _ - 1 < _; omega), t1]
      rfl
theorem Gd.its {G : Gr} (h : Gd G) (u : Bool) : ∀ m, Gd (shIt u m G)
  | 0 => h
  | m + 1 => (h.its u m).sh u
section C4
variable {f : Nat → mCell} {a : Nat} {G : Gr}
theorem GV.O (h : GV f a G) : gO (HF f) a 3 = some () := by obtain ⟨ρ, C, h1, _⟩ := h; exact h1.O
theorem GV.nn (h : GV f a G) : gI (HF f) a 3 0 = some (nI G.1) := by obtain ⟨ρ, C, h1, _⟩ := h; exact h1.nn
theorem GA.O (h : GA f a) : gO (HF f) a 3 = some () := by obtain ⟨n, ρ, C, h1⟩ := h; exact h1.O
theorem Cg_tilt : ∀ (t : Nat) (s : Nat) (p q : Int32) (d4 d5 : Option Value) (G : Gr) (f : Nat → mCell), s + t = 51 → 0 ≤ q.toInt ∧ q.toInt ≤ 50 → -50 ≤ p.toInt ∧ p.toInt ≤ 50 → Gd G → GV f a G → ∃ f', q29_2 a p q (nI s) d4 d5 (HF f) = some (none, HF f') ∧ GV f' a (sg t p.toInt q.toInt G) ∧ Fx a (a + 5) f f' := by
  intro t
  induction t with
  | zero =>
    intro s p q d4 d5 G f hs hq hp hG h
    have es : s = 51 := by omega
    subst es
    refine ⟨f, ?_, h, Fx.rf⟩
    rw [q29_2_eq, if_pos (by decide)]
  | succ t ih =>
    intro s p q d4 d5 G f hs hq hp hG h
    have h50 : ¬ (50 : Int32) < nI s := by
      rw [show (50 : Int32) = nI 50 from rfl, iLT (by omega) (by omega)]
      omega
    unfold sg
    by_cases c : q.toInt ≤ 0
    · rw [if_pos c]
      refine ⟨f, ?_, h, Fx.rf⟩
      rw [q29_2_eq, if_neg h50, if_pos (by rw [Int32.le_iff_toInt_le]; exact c)]
    · rw [if_neg c]
      obtain ⟨k, k1, k2⟩ := Cg_floorDiv hp (q := q) (by omega) (HF f)
      have hfl := flo_ok (A := p.toInt) (B := q.toInt) (by omega)
      have hfb := flo_bd (A := p.toInt) (B := q.toInt) hp (by omega)
      obtain ⟨u, m, e, hm, hu, hz⟩ := sgn_of (k := -k) (z := -(flo p.toInt q.toInt)) (by rw [i_neg (by omega), k2]) (by omega)
      obtain ⟨f1, a1, a2, a3⟩ := Cg_slide hG h u hm hu
      have hG1 : Gd (shIt u m G) := by rw [← hz]; unfold shZ; split <;> exact Gd.its hG _ _
      obtain ⟨f2, b1, b2, b3⟩ := Cg_quarterBack hG1 a2
      have nq : (-q).toInt = -q.toInt := i_neg (by omega)
      have mk : (q * k).toInt = q.toInt * flo p.toInt q.toInt := i_mul (by rw [k2]) (by omega)
      have np : (p - q * k).toInt = p.toInt - q.toInt * flo p.toInt q.toInt := by rw [i_sub (by rw [mk]; omega), mk]
      obtain ⟨f3, c1, c2, c3⟩ := ih (s + 1) (-q) (p - q * k) (some (.int k)) (some (.int (p - q * k))) (tuG true (shIt u m G)) f2 (by omega) (by omega) (by omega) (hG1.tu true) b2
      rw [nq, np] at c2
      rw [hz]
      refine ⟨f3, ?_, c2, (a3.tr b3).tr c3⟩
      rw [q29_2_eq, if_neg h50, if_neg (by rw [Int32.le_iff_toInt_le]; exact c), k1]
      simp only [Option.bind_some]
      rw [e, a1]
      simp only [Option.bind_some]
      rw [b1]
      simp only [Option.bind_some]
      rw [show nI s + 1 = nI (s + 1) from iAdd s 1]
      exact c1
theorem Cg_see {p q : Int32} (hq : 0 ≤ q.toInt ∧ q.toInt ≤ 50) (hp : -50 ≤ p.toInt ∧ p.toInt ≤ 50) (hG : Gd G) (h : GV f a G) : ∃ f', vV 29 a [.int p, .int q] (HF f) = some (HF f') ∧ GV f' a (seeG p.toInt q.toInt G) ∧ Fx a (a + 5) f f' := by
  obtain ⟨f1, a1, a2, a3⟩ := Cg_tilt 51 0 p q none none G f rfl hq hp hG h
  refine ⟨f1, vV_of (ci := 3) rfl h.O ?_, a2, a3⟩
  rw [F29_eq]
  exact a1
theorem GV.ld0 (h : GV f a G) (g2 : G.1 ≤ 8) {q : Nat} (hq : q < G.1) : ∃ r, gR (HF f) a 3 1 = some r ∧ cAldI false (HF f) r (nI q) = some (nI (G.2.1 q)) := by
  obtain ⟨ρ, C, h1, h2⟩ := h
  exact ⟨ρ 0, h1.r0, by rw [h1.ld (i := 0) (by decide) (by omega), (h2 q hq).1]⟩
theorem GV.ld1 (h : GV f a G) (g2 : G.1 ≤ 8) {q : Nat} (hq : q < G.1) : ∃ r, gR (HF f) a 3 2 = some r ∧ cAldI false (HF f) r (nI q) = some (nI (G.2.2 q)) := by
  obtain ⟨ρ, C, h1, h2⟩ := h
  exact ⟨ρ 1, h1.r1, by rw [h1.ld (i := 1) (by decide) (by omega), (h2 q hq).2.1]⟩
theorem Cg_ringL (hG : Gd G) (h : GV f a G) {q : Nat} (hq : q < G.1) : ∀ (d k : Nat), k + d = bd G.2.1 G.1 q → q30_9 a (nI q) (nI (it G.2.1 (k + 1) q)) (nI (k + 1)) (HF f) = some (some (.int (nI (rl G q))), HF f) := by
  have g2 := hG.2.1
  obtain ⟨b1, b2, b3⟩ := bd_ok hG.2.2.1 hq
  intro d
  induction d with
  | zero =>
    intro k hk
    have ek : k = bd G.2.1 G.1 q := by omega
    rw [q30_9_eq, h.nn]
    simp only [Option.bind_some]
    have e : nI (k + 1) = nI (rl G q) := by rw [ek]; rfl
    rw [ek, b2, if_pos rfl, ← ek, e]
    split <;> rfl
  | succ d ih =>
    intro k hk
    have hlt := it_lt hG.2.2.1.1 hq (k + 1)
    obtain ⟨r, r1, r2⟩ := h.ld0 g2 hlt
    rw [q30_9_eq, h.nn]
    simp only [Option.bind_some]
    rw [if_neg (by rw [iLE (by omega) (by omega)]; omega), if_neg (by rw [iEQ (by omega) (by omega)]; exact b3 k (by omega)), r1]
    simp only [Option.bind_some]
    rw [r2]
    simp only [Option.bind_some]
    rw [show nI (k + 1) + 1 = nI (k + 1 + 1) from iAdd _ 1]
    exact ih (k + 1) (by omega)
theorem Cg_ring (hG : Gd G) (h : GV f a G) {q : Nat} (hq : q < G.1) : vI 30 a [.int (nI q)] (HF f) = some (nI (rl G q), HF f) := by
  have g2 := hG.2.1
  refine vI_of (ci := 3) rfl h.O ?_
  obtain ⟨r, r1, r2⟩ := h.ld0 g2 hq
  rw [F30_eq, r1]
  simp only [Option.bind_some]
  rw [r2]
  exact Cg_ringL hG h hq (bd G.2.1 G.1 q) 0 (by omega)
theorem Cg_around (hG : Gd G) (h : GV f a G) {q : Nat} (hq : q < G.1) : vI 31 a [.int (nI q)] (HF f) = some (nI (arA G q), HF f) := by
  have g2 := hG.2.1
  obtain ⟨ρ, C, h1, h2⟩ := h
  refine vI_of (ci := 3) rfl h1.O ?_
  have q1 := hG.2.2.1.1 q hq
  have q2 := hG.2.2.2.1 _ q1
  have q3 := (inv_ok hG.2.2.1 q2).1
  rw [F31_eq, h1.r3]
  simp only [Option.bind_some]
  rw [h1.r2]
  simp only [Option.bind_some]
  rw [h1.r1]
  simp only [Option.bind_some]
  rw [h1.r0]
  simp only [Option.bind_some]
  rw [h1.ld (i := 0) (by decide) (show q < 8 by omega), (h2 q hq).1]
  simp only [Option.bind_some]
  rw [h1.ld (i := 1) (by decide) (show G.2.1 q < 8 by omega), (h2 _ q1).2.1]
  simp only [Option.bind_some]
  rw [h1.ld (i := 2) (by decide) (show G.2.2 (G.2.1 q) < 8 by omega), (h2 _ q2).2.2.1]
  simp only [Option.bind_some]
  rw [h1.ld (i := 3) (by decide) (show inv G.1 G.2.1 (G.2.2 (G.2.1 q)) < 8 by omega), (h2 _ q3).2.2.2]
  rfl
theorem Cg_mix1 (g2 : G.1 ≤ 8) (h : GV f a G) (v : Int64) : ∀ (d k : Nat), k + d = G.1 → q32_44 a (dgRow (fun q => nI (G.2.2 q)) k v) (nI k) (HF f) = some (some (.long (dgRow (fun q => nI (G.2.2 q)) G.1 v)), HF f) := by
  intro d
  induction d with
  | zero =>
    intro k hk
    have ek : k = G.1 := by omega
    subst ek
    rw [q32_44_eq, h.nn]
    simp only [Option.bind_some]
    rw [if_pos (by rw [iLE (by omega) (by omega)]; omega)]
  | succ d ih =>
    intro k hk
    obtain ⟨r, r1, r2⟩ := h.ld1 g2 (show k < G.1 by omega)
    rw [q32_44_eq, h.nn]
    simp only [Option.bind_some]
    rw [if_neg (by rw [iLE (by omega) (by omega)]; omega), r1]
    simp only [Option.bind_some]
    rw [r2]
    simp only [Option.bind_some]
    rw [show nI k + 1 = nI (k + 1) from iAdd k 1]
    exact ih (k + 1) (by omega)
theorem Cg_mix0 (g2 : G.1 ≤ 8) (h : GV f a G) (v : Int64) : ∀ (d k : Nat), k + d = G.1 → q32_14 a (dgRow (fun q => nI (G.2.1 q)) k v) (nI k) (HF f) = some (some (.long (dgRow (fun q => nI (G.2.2 q)) G.1 (dgRow (fun q => nI (G.2.1 q)) G.1 v))), HF f) := by
  intro d
  induction d with
  | zero =>
    intro k hk
    have ek : k = G.1 := by omega
    subst ek
    rw [q32_14_eq, h.nn]
    simp only [Option.bind_some]
    rw [if_pos (by rw [iLE (by omega) (by omega)]; omega)]
    exact Cg_mix1 g2 h _ G.1 0 (by omega)
  | succ d ih =>
    intro k hk
    obtain ⟨r, r1, r2⟩ := h.ld0 g2 (show k < G.1 by omega)
    rw [q32_14_eq, h.nn]
    simp only [Option.bind_some]
    rw [if_neg (by rw [iLE (by omega) (by omega)]; omega), r1]
    simp only [Option.bind_some]
    rw [r2]
    simp only [Option.bind_some]
    rw [show nI k + 1 = nI (k + 1) from iAdd k 1]
    exact ih (k + 1) (by omega)
/-- a ground, there or missing -/
def GO (f : Nat → mCell) (a : Nat) (Z : Option Gr) : Prop := match Z with
  | none => ∃ ρ C, GS f a (-1) ρ C
  | some G => GV f a G ∧ Ok G
theorem GO.fx {Z : Option Gr} (h : GO f a Z) {lo hi : Nat} {f' : Nat → mCell} (hf : Fx lo hi f f') (hd : a + 5 < lo ∨ hi < a) : GO f' a Z := by
  cases Z with
  | none => obtain ⟨ρ, C, h1⟩ := h; exact ⟨ρ, C, h1.fx hf hd⟩
  | some G => exact ⟨h.1.fx hf hd, h.2⟩
theorem GO.ga {Z : Option Gr} (h : GO f a Z) : GA f a := by
  cases Z with
  | none => obtain ⟨ρ, C, h1⟩ := h; exact ⟨_, ρ, C, h1⟩
  | some G => exact h.1.ga
theorem Cg_mix {Z : Option Gr} (h : GO f a Z) (v : Int64) : vL 32 a [.long v] (HF f) = some (dgG1 Z v, HF f) := by
  refine vL_of (ci := 3) rfl h.ga.O ?_
  cases Z with
  | none =>
    obtain ⟨ρ, C, h1⟩ := h
    rw [F32_eq, h1.nn]
    simp only [Option.bind_some]
    rw [q32_14_eq, h1.nn]
    simp only [Option.bind_some]
    rw [if_pos (by decide), q32_44_eq, h1.nn]
    simp only [Option.bind_some]
    rw [if_pos (by decide)]
    rfl
  | some G =>
    rw [F32_eq, h.1.nn]
    simp only [Option.bind_some]
    exact Cg_mix0 h.2.1.2.1 h.1 _ G.1 0 (by omega)
theorem Cg_missN {ρ : Nat → Nat} {C : Nat → Nat → Int32} (h : GS f a (-1) ρ C) : vI 18 a [] (HF f) = some (1, HF f) := by
  refine vI_of (ci := 3) rfl h.O ?_
  rw [F18_eq, h.nn]
  simp only [Option.bind_some]
  rw [if_neg (by decide), if_pos (by decide)]
theorem Cg_missV (g2 : G.1 ≤ 8) (h : GV f a G) : vI 18 a [] (HF f) = some (0, HF f) := by
  refine vI_of (ci := 3) rfl h.O ?_
  rw [F18_eq, h.nn]
  simp only [Option.bind_some]
  rw [if_pos (nI_pos' (by omega)), if_pos (by decide)]
theorem Cg_has (g2 : G.1 ≤ 8) (h : GV f a G) (q : Int32) : vI 20 a [.int q] (HF f) = some (b2i (isIn G.1 q), HF f) := by
  refine vI_of (ci := 3) rfl h.O ?_
  rw [F20_eq, h.nn]
  simp only [Option.bind_some, nz0, nz1, if_true]
  by_cases c : q < 0
  · rw [if_pos c]
    have : isIn G.1 q = false := by
      unfold isIn
      rw [decide_eq_false (show ¬ (0 : Int32) ≤ q from nle_of_lt c)]
      rfl
    rw [this]
    rfl
  · rw [if_neg c]
    have c' := i32lt c
    by_cases c2 : nI G.1 ≤ q
    · rw [if_pos c2]
      have : isIn G.1 q = false := by
        unfold isIn
        rw [decide_eq_false (nlt_of_le c2), Bool.and_false]
      rw [this]
      rfl
    · rw [if_neg c2]
      have : isIn G.1 q = true := by
        unfold isIn
        rw [decide_eq_true c', decide_eq_true (i32le c2)]
        rfl
      rw [this]
      rfl
/-- a name is laid out -/
theorem Cg_unfoldL {n v : Nat} (hok : Ok (unN n v)) (hv : v < 2 ^ 62) {ρ : Nat → Nat} {v1 : Int32} : ∀ (d k : Nat), k + d = n → ∀ (f : Nat → mCell) (C : Nat → Nat → Int32), GS f a (nI n) ρ C → GP (unN n v).2.1 (unN n v).2.2 k C → ∃ f' C', q22_8 a v1 (lN v) (nI k) (HF f) = some (none, HF f') ∧ GS f' a (nI n) ρ C' ∧ GP (unN n v).2.1 (unN n v).2.2 n C' ∧ Fx a (a + 5) f f' := by
  have g2 : n ≤ 8 := hok.1.2.1
  intro d
  induction d with
  | zero =>
    intro k hk f C h hp
    have ek : k = n := by omega
    subst ek
    refine ⟨f, C, ?_, h, hp, Fx.rf⟩
    rw [q22_8_eq, h.nn]
    simp only [Option.bind_some]
    rw [if_pos (by rw [iLE (by omega) (by omega)]; omega)]
  | succ d ih =>
    intro k hk f C h hp
    obtain ⟨f1, C1, a1, a2, a3, a4⟩ := Cg_glue g2 hok.1.2.2.1 hok.1.2.2.2 (show k < n by omega) h hp
    obtain ⟨f2, C2, b1, b2, b3, b4⟩ := ih (k + 1) (by omega) f1 C1 a2 a3
    refine ⟨f2, C2, ?_, b2, b3, a4.tr b4⟩
    rw [q22_8_eq, h.nn]
    simp only [Option.bind_some]
    rw [if_neg (by rw [iLE (by omega) (by omega)]; omega), Cg_place g2 (by omega) hv]
    simp only [Option.bind_some]
    rw [h.nn]
    simp only [Option.bind_some]
    rw [iAdd, Cg_place g2 (by omega) hv]
    simp only [Option.bind_some]
    rw [show vV 24 a [.int (nI k), .int (nI (dg n v k)), .int (nI (dg n v (n + k)))] (HF f) = _ from a1]
    simp only [Option.bind_some]
    rw [show nI k + 1 = nI (k + 1) from iAdd k 1]
    exact b1
theorem Cg_unfold {n v : Nat} (hok : Ok (unN n v)) (hv : v < 2 ^ 62) (h : GA f a) : ∃ f', vV 22 a [.int (nI n), .long (lN v)] (HF f) = some (HF f') ∧ GV f' a (unN n v) ∧ Fx a (a + 5) f f' := by
  obtain ⟨m, ρ, C, h1⟩ := h
  obtain ⟨f1, a1, a2, a3⟩ := h1.setN (nI n)
  obtain ⟨f2, C2, b1, b2, b3, b4⟩ := Cg_unfoldL (v1 := nI n) hok hv n 0 (by omega) f1 C a2 (fun q hq => by omega)
  refine ⟨f2, vV_of (ci := 3) rfl h1.O ?_, ⟨ρ, C2, b2, b3.full hok.1.2.2.1 hok.1.2.2.2⟩, a3.tr b4⟩
  rw [F22_eq, a1]
  exact b1
theorem Cg_vanish (h : GA f a) : ∃ f', vV 19 a [] (HF f) = some (HF f') ∧ GO f' a none ∧ Fx a (a + 5) f f' := by
  obtain ⟨m, ρ, C, h1⟩ := h
  obtain ⟨f1, a1, a2, a3⟩ := h1.setN (-1)
  refine ⟨f1, vV_of (ci := 3) rfl h1.O ?_, ⟨ρ, C, a2⟩, a3⟩
  rw [F19_eq, a1]
  rfl
end C4
