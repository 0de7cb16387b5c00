/-! the class: fractions, slopes -/
theorem Cf_gcd (h : mHeap) : ∀ (t u v s : Nat) (d5 d6 : Option Value), v < 2 ^ t → s + 2 * t ≤ 100 → u < 2 ^ 62 → v < 2 ^ 62 → q88_3 (lN u) (lN v) (nI s) d5 d6 h = some (some (.long (lN (Nat.gcd v u))), h) := by
  have cz : ∀ v : Nat, v < 2 ^ 62 → (lg_cmp (lN v) 0 = 0) = (v = 0) := by
    intro v hv
    apply propext
    rw [lg_cmp_eq, show (0 : Int64) = lN 0 from rfl, pk_lEQ (by omega) (by omega)]
  have z0 : ∀ v : Nat, v < 2 ^ 62 → (lN v = 0) = (v = 0) := by
    intro v hv
    apply propext
    rw [show (0 : Int64) = lN 0 from rfl, pk_lEQ (by omega) (by omega)]
  have stop : ∀ (u s : Nat) (d5 d6 : Option Value), q88_3 (lN u) (lN 0) (nI s) d5 d6 h = some (some (.long (lN u)), h) := by
    intro u s d5 d6
    rw [q88_3_eq]
    simp only [cz 0 (by omega)]
    by_cases c0 : (100 : Int32) ≤ nI s
    · rw [if_pos c0]
    · rw [if_neg c0]
      exact if_pos trivial
  intro t
  induction t with
  | zero =>
    intro u v s d5 d6 hv hs hu hv2
    have : v = 0 := by omega
    subst this
    rw [stop, Nat.gcd_zero_left]
  | succ t ih =>
    intro u v s d5 d6 hv hs hu hv2
    by_cases c0 : v = 0
    · subst c0
      rw [stop, Nat.gcd_zero_left]
    · rw [q88_3_eq]
      simp only [cz v hv2, z0 v hv2]
      rw [if_neg (by rw [show (100 : Int32) = nI 100 from rfl, iLE (by omega) (by omega)]; omega), if_neg c0, if_neg c0, pk_lRem (by omega) (by omega) (by omega), show nI s + 1 = nI (s + 1) from iAdd s 1]
      have hlt : u % v < v := Nat.mod_lt _ (by omega)
      have eg : Nat.gcd v u = Nat.gcd (u % v) v := Nat.gcd_rec v u
      by_cases c1 : u % v = 0
      · rw [c1, stop, eg, c1, Nat.gcd_zero_left]
      · generalize hr : u % v = r at *
        rw [q88_3_eq]
        simp only [cz r (by omega), z0 r (by omega)]
        rw [if_neg (by rw [show (100 : Int32) = nI 100 from rfl, iLE (by omega) (by omega)]; omega), if_neg c1, if_neg c1, pk_lRem (by omega) (by omega) (by omega), show nI (s + 1) + 1 = nI (s + 2) from iAdd (s + 1) 1]
        have h2 : v % r < r := Nat.mod_lt _ (by omega)
        have h3 : v % r + r ≤ v := by
          have := Nat.mod_add_div v r
          have h4 : 1 ≤ v / r := Nat.div_pos (by omega) (by omega)
          have h5 : r * 1 ≤ r * (v / r) := Nat.mul_le_mul_left r h4
          omega
        have h6 : 2 ^ (t + 1) = 2 ^ t * 2 := Nat.pow_succ 2 t
        rw [ih r (v % r) (s + 2) _ _ (by omega) (by omega) (by omega) (by omega), eg, ← Nat.gcd_rec]
theorem Cf_cd {u v : Nat} (hu : u < 2 ^ 62) (hv : v < 2 ^ 40) (h : mHeap) : sL 88 [.long (lN u), .long (lN v)] h = some (lN (Nat.gcd u v), h) := by
  refine sL_of ?_
  rw [F88_eq, show (0 : Int32) = nI 0 from rfl, Cf_gcd h 40 u v 0 none none hv (by omega) hu (by omega), Nat.gcd_comm]
def FS (f : Nat → mCell) (a : Nat) (x y : Int64) : Prop := a < 132 ∧ f a = .inr (2, [.long x, .long y])
theorem FS.fx {f : Nat → mCell} {a : Nat} {x y : Int64} (h : FS f a x y) {lo hi : Nat} {f' : Nat → mCell} (hf : Fx lo hi f f') (hd : a < lo ∨ hi < a) : FS f' a x y := ⟨h.1, by rw [hf a (by omega)]; exact h.2⟩
theorem Cf_tell {f : Nat → mCell} {a : Nat} {x y : Int64} {u v : Nat} (hu : u < 2 ^ 62) (h0 : 0 < v) (hv : v < 2 ^ 40) (h : FS f a x y) : ∃ f', vV 16 a [.long (lN u), .long (lN v)] (HF f) = some (HF f') ∧ FS f' a (lN (u / Nat.gcd u v)) (lN (v / Nat.gcd u v)) ∧ Fx a a f f' := by
  have hg : 0 < Nat.gcd u v := Nat.gcd_pos_of_pos_right _ h0
  have hgb : Nat.gcd u v ≤ v := Nat.gcd_le_right _ h0
  obtain ⟨h1, h2⟩ := h
  have pre := F16_eq a (lN u) (lN v) (HF f)
  rw [Cf_cd hu hv] at pre
  simp only [Option.bind_some] at pre
  have e1 : ¬ (lg_cmp (lN (Nat.gcd u v)) 0 ≤ 0) := by
    rw [lg_cmp_le, show (0 : Int64) = lN 0 from rfl, pk_lLE (by omega) (by omega)]
    omega
  have e2 : ¬ (lN (Nat.gcd u v) = 0) := by
    rw [show (0 : Int64) = lN 0 from rfl, pk_lEQ (by omega) (by omega)]
    omega
  rw [if_neg e1, if_neg e2, pk_lDiv (by omega) (by omega) (by omega), pk_lDiv (by omega) (by omega) (by omega), cPut_of h1 h2 (by show 0 < 2; omega)] at pre
  simp only [Option.bind_some] at pre
  rw [if_neg e2, cPut_of h1 up_at (by show 1 < 2; omega)] at pre
  simp only [Option.bind_some] at pre
  exact ⟨_, vV_of (ci := 2) rfl (gO_of h1 h2) pre, ⟨h1, up_at⟩, (Fx.up (Nat.le_refl _) (Nat.le_refl _)).tr (Fx.up (Nat.le_refl _) (Nat.le_refl _))⟩
theorem Cg_abs {p : Int32} (hp : -50 ≤ p.toInt ∧ p.toInt ≤ 50) (h : mHeap) : sI 173 [.int p] h = some (nI p.toInt.natAbs, h) := by
  refine sI_of ?_
  rw [F173_eq]
  by_cases h3 : 0 ≤ p.toInt
  · rw [if_pos (by rw [Int32.le_iff_toInt_le]; exact h3)]
    have hp : p = nI p.toInt.natAbs := by
      apply Int32.toInt_inj.mp
      rw [nI_toInt (by omega)]
      omega
    rw [← hp]
  · rw [if_neg (by rw [Int32.le_iff_toInt_le]; exact h3)]
    have hp : -p = nI p.toInt.natAbs := by
      apply Int32.toInt_inj.mp
      rw [i_neg (by omega), nI_toInt (by omega)]
      omega
    rw [← hp]
theorem Cg_isSlope (p q : Int32) (h : mHeap) : sI 87 [.int p, .int q] h = some (b2i (isSl p q), h) := by
  refine sI_of ?_
  unfold isSl
  have n50 : (-50 : Int32).toInt = -50 := rfl
  have p50 : (50 : Int32).toInt = 50 := rfl
  have p0 : (0 : Int32).toInt = 0 := rfl
  rw [F87_eq]
  simp only [nz0, nz1, if_true, Int32.lt_iff_toInt_lt, Int32.le_iff_toInt_le, n50, p50, p0]
  by_cases h1 : p.toInt < -50
  · rw [if_pos h1, decide_eq_false (by omega)]; rfl
  · rw [if_neg h1]
    by_cases h2 : 50 < p.toInt
    · rw [if_pos h2, decide_eq_false (by omega)]; rfl
    · rw [if_neg h2]
      by_cases h3 : q.toInt < 0
      · rw [if_pos h3, decide_eq_false (by omega)]; rfl
      · rw [if_neg h3]
        by_cases h4 : q.toInt ≤ 50
        · rw [if_pos h4]
          have hq : q = nI q.toInt.natAbs := by
            apply Int32.toInt_inj.mp
            rw [nI_toInt (by omega)]
            omega
          by_cases h5 : q = 0
          · rw [if_neg (fun z => z h5)]
            have h6 : q.toInt = 0 := by rw [h5]; rfl
            by_cases h7 : p = 1
            · rw [if_neg (fun z => z h7)]
              have h8 : p.toInt = 1 := by rw [h7]; rfl
              rw [h6, h8]; rfl
            · rw [if_pos h7, decide_eq_false]
              · rfl
              · rintro ⟨-, -, -, z | z⟩
                · omega
                · exact h7 (Int32.toInt_inj.mp z)
          · rw [if_pos h5]
            have h6 : q.toInt ≠ 0 := fun z => h5 (Int32.toInt_inj.mp (by rw [z]; rfl))
            rw [Cg_abs (by omega)]
            simp only [Option.bind_some]
            have hq2 : q.toInt64 = lN q.toInt.natAbs := by
              conv => lhs; rw [hq]
              exact nI_l (by omega)
            rw [nI_l (by omega), hq2, Cf_cd (by omega) (by omega)]
            simp only [Option.bind_some]
            have hgb : Nat.gcd p.toInt.natAbs q.toInt.natAbs ≤ q.toInt.natAbs := Nat.gcd_le_right _ (by omega)
            have e1 : (lg_cmp (lN (Nat.gcd p.toInt.natAbs q.toInt.natAbs)) 1 = 0) = (Nat.gcd p.toInt.natAbs q.toInt.natAbs = 1) := by
              rw [lg_cmp_eq, show (1 : Int64) = lN 1 from rfl]
              exact propext (pk_lEQ (by omega) (by omega))
            simp only [e1]
            by_cases h7 : Nat.gcd p.toInt.natAbs q.toInt.natAbs = 1
            · rw [if_neg (fun z => z h7), decide_eq_true ⟨⟨by omega, by omega⟩, ⟨by omega, by omega⟩, h7, Or.inl (by omega)⟩]; rfl
            · rw [if_pos h7, decide_eq_false (fun z => h7 z.2.2.1)]; rfl
        · rw [if_neg h4, decide_eq_false (by omega)]; rfl
theorem Cs_sheetNo (v : Int32) (h : mHeap) : sI 85 [.int v] h = some (b2i (isIn 4 v), h) := by
  refine sI_of ?_
  rw [F85_eq]
  simp only [nz0, nz1, if_true]
  unfold isIn
  rw [show nI 4 = (4 : Int32) from rfl]
  by_cases h1 : v < 0
  · rw [if_pos h1, decide_eq_false (nle_of_lt h1)]; rfl
  · rw [if_neg h1, decide_eq_true (i32lt h1)]
    by_cases h2 : (4 : Int32) ≤ v
    · rw [if_pos h2, decide_eq_false (nlt_of_le h2)]; rfl
    · rw [if_neg h2, decide_eq_true (i32le h2)]; rfl
theorem Cs_groundNo (v : Int32) (h : mHeap) : sI 86 [.int v] h = some (b2i (isIn 10 v), h) := by
  refine sI_of ?_
  rw [F86_eq]
  simp only [nz0, nz1, if_true]
  unfold isIn
  rw [show nI 10 = (10 : Int32) from rfl]
  by_cases h1 : v < 0
  · rw [if_pos h1, decide_eq_false (nle_of_lt h1)]; rfl
  · rw [if_neg h1, decide_eq_true (i32lt h1)]
    by_cases h2 : (10 : Int32) ≤ v
    · rw [if_pos h2, decide_eq_false (nlt_of_le h2)]; rfl
    · rw [if_neg h2, decide_eq_true (i32le h2)]; rfl
/-! the class: sheets -/
def SS (f : Nat → mCell) (z : Nat) (n : Int32) (B : Nat → Int32) : Prop := z < 131 ∧ f z = .inr (6, [.int n, .ref (z + 1)]) ∧ f (z + 1) = .inl (1, 8, .inl B)
def szI (o : Option Nat) : Int32 := match o with
  | none => -1
  | some n => nI n
def SO (f : Nat → mCell) (z : Nat) (o : Option Nat) (b : Nat → Int32) : Prop := ∃ B, SS f z (szI o) B ∧ ∀ i, i < 8 → B i = b i
section C10
variable {f : Nat → mCell} {z : Nat} {n : Int32} {B b : Nat → Int32} {o : Option Nat}
theorem SS.fx (h : SS f z n B) {lo hi : Nat} {f' : Nat → mCell} (hf : Fx lo hi f f') (hd : z + 1 < lo ∨ hi < z) : SS f' z n B := by
  obtain ⟨h1, h2, h3⟩ := h
  exact ⟨h1, by rw [hf z (by omega)]; exact h2, by rw [hf (z + 1) (by omega)]; exact h3⟩
theorem SO.fx (h : SO f z o b) {lo hi : Nat} {f' : Nat → mCell} (hf : Fx lo hi f f') (hd : z + 1 < lo ∨ hi < z) : SO f' z o b := by
  obtain ⟨B, h1, h2⟩ := h
  exact ⟨B, h1.fx hf hd, h2⟩
theorem SS.O (h : SS f z n B) : gO (HF f) z 6 = some () := gO_of (by have := h.1; omega) h.2.1
theorem SS.nn (h : SS f z n B) : gI (HF f) z 6 0 = some n := gI_of (by have := h.1; omega) h.2.1 rfl
theorem SS.r (h : SS f z n B) : gR (HF f) z 6 1 = some (z + 1) := gR_of (by have := h.1; omega) h.2.1 rfl
theorem SS.ld (h : SS f z n B) {q : Nat} (hq : q < 8) : cAldB (HF f) (z + 1) (nI q) = some (B q) := cAldB_of (by have := h.1; omega) h.2.2 hq (by omega)
theorem SS.st (h : SS f z n B) {q : Nat} (hq : q < 8) (y : Int32) : ∃ f', cAstB (HF f) (z + 1) (nI q) y = some (HF f') ∧ SS f' z n (upd B q (vp_nar .byte y)) ∧ Fx z (z + 1) f f' := by
  obtain ⟨h1, h2, h3⟩ := h
  exact ⟨_, cAstB_of (by omega) h3 hq (by omega) y, ⟨h1, by rw [up_ne (by omega)]; exact h2, by rw [up_at]⟩, Fx.up (by omega) (by omega)⟩
theorem SS.put (h : SS f z n B) (y : Int32) : ∃ f', cPut (HF f) z 6 0 (.int y) = some (HF f') ∧ SS f' z y B ∧ Fx z (z + 1) f f' := by
  obtain ⟨h1, h2, h3⟩ := h
  exact ⟨_, cPut_of (by omega) h2 (by show 0 < 2; omega) _, ⟨h1, by rw [up_at]; rfl, by rw [up_ne (by omega)]; exact h3⟩, Fx.up (by omega) (by omega)⟩
theorem szI_neg {o : Option Nat} (ho : ∀ n, o = some n → n ≤ 8) : (0 ≤ szI o) = (o.isSome = true) := by
  cases o with
  | none => exact eq_false (by decide)
           |>.trans (eq_false (by decide)).symm
  | some k =>
    have := ho k rfl
    show (0 ≤ nI k) = _
    rw [l0, iLE (by omega) (by omega)]
    simp
theorem Cs_miss (ho : ∀ n, o = some n → n ≤ 8) (h : SO f z o b) : vI 45 z [] (HF f) = some (b2i (!o.isSome), HF f) := by
  obtain ⟨B, h, -⟩ := h
  refine vI_of (ci := 6) rfl h.O ?_
  rw [F45_eq, h.nn]
  simp only [Option.bind_some, szI_neg ho, nz0, nz1, if_true]
  cases o <;> rfl
theorem Cs_vanish (h : SO f z o b) : ∃ f', vV 46 z [] (HF f) = some (HF f') ∧ SO f' z none b ∧ Fx z (z + 1) f f' := by
  obtain ⟨B, h, hb⟩ := h
  obtain ⟨f1, a1, a2, a3⟩ := h.put (-1)
  refine ⟨f1, vV_of (ci := 6) rfl h.O ?_, ⟨B, a2, hb⟩, a3⟩
  rw [F46_eq, a1]; rfl
theorem Cs_clearL {v1 : Int32} : ∀ (d k : Nat), k + d = 8 → ∀ (f : Nat → mCell) (B : Nat → Int32), SS f z n B → (∀ i, i < k → B i = 0) → ∃ f' B', q47_7 z v1 (nI k) (HF f) = some (none, HF f') ∧ SS f' z n B' ∧ (∀ i, i < 8 → B' i = 0) ∧ Fx z (z + 1) f f' := by
  intro d
  induction d with
  | zero =>
    intro k hk f B h hp
    have : k = 8 := by omega
    subst this
    refine ⟨f, B, ?_, h, hp, Fx.rf⟩
    rw [q47_7_eq, if_pos (by decide)]
  | succ d ih =>
    intro k hk f B h hp
    obtain ⟨f1, a1, a2, a3⟩ := h.st (q := k) (by omega) 0
    obtain ⟨f2, B2, b1, b2, b3, b4⟩ := ih (k + 1) (by omega) f1 _ a2 (by
      intro i hi
      by_cases e : i = k
      · rw [e, pk_us]; rfl
      · rw [pk_un e]
        exact hp i (by omega))
    refine ⟨f2, B2, ?_, b2, b3, a3.tr b4⟩
    rw [q47_7_eq, if_neg (by rw [l8, iLE (by omega) (by omega)]; omega), h.r]
    simp only [Option.bind_some]
    rw [a1]
    simp only [Option.bind_some]
    rw [show nI k + 1 = nI (k + 1) from iAdd k 1]
    exact b1
theorem Cs_clear (h : SO f z o b) (n : Nat) : ∃ f', vV 47 z [.int (nI n)] (HF f) = some (HF f') ∧ SO f' z (some n) (fun _ => 0) ∧ Fx z (z + 1) f f' := by
  obtain ⟨B, h, hb⟩ := h
  obtain ⟨f1, a1, a2, a3⟩ := h.put (nI n)
  obtain ⟨f2, B2, b1, b2, b3, b4⟩ := Cs_clearL (v1 := nI n) 8 0 (by omega) f1 B a2 (fun i hi => by omega)
  refine ⟨f2, vV_of (ci := 6) rfl h.O ?_, ⟨B2, b2, b3⟩, a3.tr b4⟩
  rw [F47_eq, a1]
  exact b1
theorem Cs_has {k : Nat} (hk : k ≤ 8) (h : SO f z (some k) b) {i m : Int32} (hm : ¬ m < 0) : vI 48 z [.int i, .int m] (HF f) = some (b2i (hasAll (nI k) i m), HF f) := by
  obtain ⟨B, h, hb⟩ := h
  refine vI_of (ci := 6) rfl h.O ?_
  have hz : (nI k).toInt = k := toInt_nI (by omega)
  have h0 : (0 : Int32).toInt = 0 := rfl
  have hnn : gI (HF f) z 6 0 = some (nI k) := h.nn
  rw [F48_eq, hnn]
  simp only [Option.bind_some, nz0, nz1, if_true, Int32.lt_iff_toInt_lt, h0] at hm ⊢
  unfold hasAll
  rw [hz]
  by_cases c0 : i.toInt < 0
  · rw [if_pos c0, decide_eq_false (by omega)]; rfl
  · rw [if_neg c0]
    by_cases c1 : (k : Int) < i.toInt
    · rw [if_pos c1, decide_eq_false (by omega)]; rfl
    · rw [if_neg c1, i_sub (by omega), hz]
      by_cases c2 : (k : Int) - i.toInt < m.toInt
      · rw [if_pos c2, decide_eq_false (by omega)]; rfl
      · rw [if_neg c2, decide_eq_true (by omega)]; rfl
theorem Cs_mixL {k : Nat} (hk : k ≤ 8) (h : SS f z (nI k) B) (hb : ∀ i, i < 8 → B i = b i) (v : Int64) : ∀ (d i : Nat), i + d = k → q50_14 z (dgRow b i v) (nI i) (HF f) = some (some (.long (dgRow b k v)), HF f) := by
  intro d
  induction d with
  | zero =>
    intro i hi
    have : i = k := by omega
    subst this
    rw [q50_14_eq, h.nn]
    simp only [Option.bind_some]
    rw [if_pos (Int32.le_refl _)]
  | succ d ih =>
    intro i hi
    rw [q50_14_eq, h.nn]
    simp only [Option.bind_some]
    rw [if_neg (by rw [iLE (by omega) (by omega)]; omega), h.r]
    simp only [Option.bind_some]
    rw [h.ld (by omega), hb i (by omega)]
    simp only [Option.bind_some]
    rw [show nI i + 1 = nI (i + 1) from iAdd i 1]
    exact ih (i + 1) (by omega)
theorem Cs_mix (ho : ∀ n, o = some n → n ≤ 8) (h : SO f z o b) (v : Int64) : vL 50 z [.long v] (HF f) = some (dgS1 o b v, HF f) := by
  obtain ⟨B, h, hb⟩ := h
  refine vL_of (ci := 6) rfl h.O ?_
  rw [F50_eq, h.nn]
  simp only [Option.bind_some]
  cases o with
  | none =>
    rw [q50_14_eq, h.nn]
    simp only [Option.bind_some]
    rw [if_pos (by show (-1 : Int32) ≤ 0; decide)]
    rfl
  | some k => exact Cs_mixL (ho k rfl) h hb (31 * v + (nI k).toInt64) k 0 (by omega)
theorem Cs_onceL {k : Nat} (hk : k ≤ 8) (h : SS f z (nI k) B) (hb : ∀ i, i < 8 → B i = b i) : ∀ (d i : Nat), i + d = k → (∀ j, j < i → isIn k (b j) = true) → q49_4 z (nI (msk k b i)) (nI i) (HF f) = some (some (.int (b2i (whB k b))), HF f) := by
  intro d
  induction d with
  | zero =>
    intro i hi hp
    have : i = k := by omega
    subst this
    have hlt := msk_lt i b hk i
    have hpw : 2 ^ i ≤ 2 ^ 8 := Nat.pow_le_pow_right (by decide) hk
    have hpp := Nat.two_pow_pos i
    rw [q49_4_eq, h.nn]
    simp only [Option.bind_some, nz0, nz1, if_true]
    rw [if_pos (Int32.le_refl _), shl1 i (by omega), show nI (2 ^ i) - 1 = nI (2 ^ i - 1) from iSub hpp]
    simp only [iEQ (show msk i b i < 2000000000 by omega) (show 2 ^ i - 1 < 2000000000 by omega)]
    by_cases c0 : msk i b i = 2 ^ i - 1
    · rw [if_neg (fun z => z c0), (msk_full hk).1 c0]; rfl
    · rw [if_pos c0]
      have : whB i b = false := by
        cases e : whB i b with
        | false => rfl
        | true => exact absurd ((msk_full hk).2 e) c0
      rw [this]; rfl
  | succ d ih =>
    intro i hi hp
    rw [q49_4_eq, h.nn]
    simp only [Option.bind_some, nz0, nz1, if_true]
    rw [if_neg (by rw [iLE (by omega) (by omega)]; omega), h.r]
    simp only [Option.bind_some]
    rw [h.ld (by omega), hb i (by omega)]
    simp only [Option.bind_some]
    have bad : isIn k (b i) = false → whB k b = false := by
      intro hbad
      cases e : whB k b with
      | false => rfl
      | true =>
        obtain ⟨p1, p2⟩ := wh_prm hk e
        rw [p2 i (by omega), isIn_nI (by omega) (p1.1 i (by omega))] at hbad
        exact absurd hbad (by decide)
    by_cases c0 : b i < 0
    · rw [if_pos c0, bad (by unfold isIn; rw [decide_eq_false (nle_of_lt c0)]; rfl)]; rfl
    · rw [if_neg c0]
      by_cases c1 : b i < nI k
      · rw [if_pos c1]
        have hin : isIn k (b i) = true := by
          unfold isIn
          rw [decide_eq_true (i32lt c0), decide_eq_true c1]; rfl
        obtain ⟨q, q1, q2, q3⟩ := isIn_ok (by omega) hin
        have em : msk k b (i + 1) = msk k b i ||| 2 ^ q := by
          show (if isIn k (b i) = true then _ else _) = _
          rw [if_pos hin, q3]
        rw [q2, shl1 q (by omega), nI_or, ← em, show nI i + 1 = nI (i + 1) from iAdd i 1]
        exact ih (i + 1) (by omega) (fun j hj => by
          by_cases e : j = i
          · rw [e]; exact hin
          · exact hp j (by omega))
      · rw [if_neg c1, bad (by unfold isIn; rw [decide_eq_false c1, Bool.and_false])]; rfl
theorem Cs_once {k : Nat} (hk : k ≤ 8) (h : SO f z (some k) b) : vI 49 z [] (HF f) = some (b2i (whB k b), HF f) := by
  obtain ⟨B, h, hb⟩ := h
  refine vI_of (ci := 6) rfl h.O ?_
  rw [F49_eq]
  exact Cs_onceL hk h hb k 0 (by omega) (fun j hj => by omega)
end C10
