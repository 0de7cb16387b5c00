theorem idx4 {s : Int32} (h : ¬ isIn 4 s = false) : ∃ q, q < 4 ∧ s = nI q ∧ s.toNatClampNeg = q := isIn_ok (n := 4) (by decide) (by simpa using h)
theorem idx10 {s : Int32} (h : ¬ isIn 10 s = false) : ∃ q, q < 10 ∧ s = nI q ∧ s.toNatClampNeg = q := isIn_ok (n := 10) (by decide) (by simpa using h)
theorem nI_cl {n : Nat} (h : n < 2000000000) : (nI n).toNatClampNeg = n := nI_clamp (by omega)
section M3
variable {x : Nat → mCell} {mi : Nat → Int32} {ml : Nat → Int64} {ma : Nat → Nat → Int32} {S : St}
theorem MoAt.setSheet {ma' : Nat → Nat → Int32} (h : MoAt S mi ml ma) {q : Nat} (z : Option Nat) (b : Nat → Int32) (h1 : ∀ s, s < 4 → ma' 109 s = if s = q then (match z with
    | none => -9
    | some n => nI n) else ma 109 s) (h2 : ∀ s i, s < 4 → i < 8 → ma' 110 (8 * s + i) = if s = q then b i else ma 110 (8 * s + i)) (h3 : ma' 108 = ma 108 ∧ ma' 116 = ma 116 ∧ ma' 117 = ma 117 ∧ ma' 118 = ma 118) : MoAt (sSetSheet S q z b) mi ml ma' := by
  obtain ⟨a1, a2, a3, a4, a5, a6, a7, a8⟩ := h
  obtain ⟨c1, c2, c3, c4⟩ := h3
  refine ⟨a1, by rw [c1]; exact a2, fun j hj => ?_, fun j i hj hi => ?_, by rw [c2]; exact a5, by rw [c3, c4]; exact a6, a7, a8⟩
  · rw [h1 j hj]
    show _ = match fu (sSz S) q z j with
      | none => -9
      | some n => nI n
    by_cases e : j = q
    · subst e; rw [if_pos rfl, fu_at]
    · rw [if_neg e, fu_ne e]; exact a3 j hj
  · rw [h2 j i hj hi]
    show _ = fu (sBy S) q b j i
    by_cases e : j = q
    · subst e; rw [if_pos rfl, fu_at]
    · rw [if_neg e, fu_ne e]; exact a4 j i hj hi
theorem MoAt.setGr {ma' : Nat → Nat → Int32} (h : MoAt S mi ml ma) {q : Nat} (Z : Option Gr) (h1 : ∀ s, s < 10 → ma' 116 s = if s = q then (match Z with
    | none => 0
    | some G => nI G.1) else ma 116 s) (h2 : ∀ s i, s < 10 → s ≠ q → i < 8 → ma' 117 (8 * s + i) = ma 117 (8 * s + i) ∧ ma' 118 (8 * s + i) = ma 118 (8 * s + i)) (h4 : ∀ G, Z = some G → ∀ i, i < G.1 → ma' 117 (8 * q + i) = nI (G.2.1 i) ∧ ma' 118 (8 * q + i) = nI (G.2.2 i)) (h3 : ma' 108 = ma 108 ∧ ma' 109 = ma 109 ∧ ma' 110 = ma 110) (h5 : ∀ s G, s < 10 → sGr S s = some G → G.1 ≤ 8) {mi' : Nat → Int32} (h6 : mi' 0 = mi 0) : MoAt (sSetGr S q Z) mi' ml ma' := by
  obtain ⟨a1, a2, a3, a4, a5, a6, a7, a8⟩ := h
  obtain ⟨c1, c2, c3⟩ := h3
  refine ⟨h6.trans a1, by rw [c1]; exact a2, by rw [c2]; exact a3, by rw [c3]; exact a4, fun j hj => ?_, fun j G hj hG i hi => ?_, a7, a8⟩
  · rw [h1 j hj]
    show _ = match fu (sGr S) q Z j with
      | none => 0
      | some G => nI G.1
    by_cases e : j = q
    · subst e; rw [if_pos rfl, fu_at]
    · rw [if_neg e, fu_ne e]; exact a5 j hj
  · have hG : fu (sGr S) q Z j = some G := hG
    by_cases e : j = q
    · subst e; rw [fu_at] at hG; exact h4 G hG i hi
    · rw [fu_ne e] at hG
      obtain ⟨e1, e2⟩ := h2 j i hj e (Nat.lt_of_lt_of_le hi (h5 j G hj hG))
      rw [e1, e2]
      exact a6 j G hj hG i hi
theorem Mo_sheetL {s : Nat} (hs : s < 4) (v2 : Int32) : ∀ (d k : Nat), k + d = 8 → ∀ ma : Nat → Nat → Int32, ∃ ma', q104_34 107 (nI s) v2 (nI k) (MH x mi ml ma) = some (some (.int v2), MH x mi ml ma') ∧ (∀ a, a ≠ 110 → ma' a = ma a) ∧ ∀ p, ma' 110 p = if 8 * s + k ≤ p ∧ p < 8 * s + 8 then 0 else ma 110 p := by
  intro d
  induction d with
  | zero =>
    intro k hk ma
    refine ⟨ma, ?_, fun _ _ => rfl, fun p => by rw [if_neg (by omega)]⟩
    rw [q104_34_eq, if_pos (by rw [l8, iLE (by omega) (by omega)]; omega)]
  | succ d ih =>
    intro k hk ma
    have hlen : 8 * s + k < moLen 110 := by show 8 * s + k < 32; omega
    obtain ⟨ma', h1, h2, h3⟩ := ih (k + 1) (by omega) (mup ma 110 (8 * s + k) 0)
    refine ⟨ma', ?_, fun a ha => ?_, fun p => ?_⟩
    · rw [q104_34_eq, if_neg (by rw [l8, iLE (by omega) (by omega)]; omega), moR3]
      simp only [Option.bind_some]
      rw [l8, iMul, iAdd, moAst (by decide) hlen]
      simp only [Option.bind_some]
      rw [l1, iAdd]
      exact h1
    · rw [h2 a ha, mup_ne ha]
    · rw [h3 p, mup_at]
      by_cases e : p = 8 * s + k
      · subst e; rw [pk_us, if_neg (by omega), if_pos (by omega)]
      · rw [pk_un e]
        by_cases e2 : 8 * s + (k + 1) ≤ p ∧ p < 8 * s + 8
        · rw [if_pos e2, if_pos (by omega)]
        · rw [if_neg e2, if_neg (by omega)]
end M3
theorem i32lt {x y : Int32} (h : ¬ x < y) : y ≤ x := by
  rw [Int32.lt_iff_toInt_lt] at h
  rw [Int32.le_iff_toInt_le]
  omega
theorem i32le {x y : Int32} (h : ¬ x ≤ y) : y < x := by
  rw [Int32.le_iff_toInt_le] at h
  rw [Int32.lt_iff_toInt_lt]
  omega
theorem nlt_of_le {x y : Int32} (h : y ≤ x) : ¬ x < y := by
  rw [Int32.le_iff_toInt_le] at h
  rw [Int32.lt_iff_toInt_lt]
  omega
theorem nle_of_lt {x y : Int32} (h : y < x) : ¬ x ≤ y := by
  rw [Int32.lt_iff_toInt_lt] at h
  rw [Int32.le_iff_toInt_le]
  omega
/-- an int that is neither below 0 nor above n -/
theorem i32in {x : Int32} {n : Nat} (hn : n < 2000000000) (h1 : ¬ x < 0) (h2 : ¬ nI n < x) : ∃ q, q ≤ n ∧ x = nI q ∧ x.toNatClampNeg = q := by
  rcases pk_ix x (n := n + 1) (by omega) with z | z | ⟨q, a1, a2⟩
  · exact absurd z h1
  · have z2 : nI n < nI (n + 1) := nI_lt (by omega) (by omega)
    rw [Int32.lt_iff_toInt_lt] at z2 h2
    rw [Int32.le_iff_toInt_le] at z
    omega
  · exact ⟨q, by omega, a2, by rw [a2]; exact nI_cl (by omega)⟩
theorem Mo_sheet (S : St) (s n : Int32) : MoSp 104 [.int s, .int n] S (spSheet S s n) := by
  intro x mi ml ma h
  unfold spSheet
  by_cases hb : isIn 4 s = false
  · rw [if_pos (Or.inl hb)]
    refine ⟨mi, ml, ma, vI_of (ci := 8) rfl mo_O ?_, h⟩
    rw [F104_eq, Mo_isSheet]
    simp only [Option.bind_some, isIn_le3, hb, b2i_0, if_true]
  · by_cases h8 : 8 < n
    · rw [if_pos (Or.inr h8)]
      refine ⟨mi, ml, ma, vI_of (ci := 8) rfl mo_O ?_, h⟩
      rw [F104_eq, Mo_isSheet]
      simp only [Option.bind_some, isIn_le3, b2i_0]
      rw [if_neg hb, if_neg (nle_of_lt h8)]
    · rw [if_neg (fun z => z.elim hb h8)]
      obtain ⟨q, hq, rfl, hc⟩ := idx4 hb
      by_cases h0 : n < 0
      · rw [if_pos h0]
        refine ⟨_, ml, _, vI_of (ci := 8) rfl mo_O ?_, h.meet (k := 5) (by decide)⟩
        rw [F104_eq, Mo_isSheet]
        simp only [Option.bind_some, isIn_le3, b2i_0]
        rw [if_neg hb, if_pos (i32lt h8), if_neg (nle_of_lt h0), show (Value.int 5) = Value.int (nI 5) from rfl, Mo_meets (by decide)]
        rfl
      · rw [if_neg h0]
        obtain ⟨k, hk, rfl, hck⟩ := i32in (n := 8) (by decide) h0 h8
        obtain ⟨ma', h1, h2, h3⟩ := Mo_sheetL (x := x) (mi := mi) (ml := ml) hq (nI k) 8 0 rfl (mup ma 109 q (nI k))
        refine ⟨mi, ml, ma', vI_of (ci := 8) rfl mo_O ?_, ?_⟩
        · rw [F104_eq, Mo_isSheet]
          simp only [Option.bind_some, isIn_le3, b2i_0]
          rw [if_neg hb, if_pos (i32lt h8), if_pos (i32lt h0), moR2]
          simp only [Option.bind_some]
          rw [moAst (by decide) (show q < moLen 109 from hq)]
          exact h1
        · rw [hc, hck]
          refine h.setSheet _ _ (fun j hj => ?_) (fun j i hj hi => ?_) ⟨?_, ?_, ?_, ?_⟩
          · rw [h2 109 (by decide), mup_at]
            by_cases e : j = q
            · subst e; rw [pk_us, if_pos rfl]
            · rw [pk_un e, if_neg e]
          · rw [h3]
            by_cases e : j = q
            · subst e; rw [if_pos rfl, if_pos (by omega)]
            · rw [if_neg e, if_neg (by omega), mup_ne (by decide)]
          · rw [h2 108 (by decide), mup_ne (by decide)]
          · rw [h2 116 (by decide), mup_ne (by decide)]
          · rw [h2 117 (by decide), mup_ne (by decide)]
          · rw [h2 118 (by decide), mup_ne (by decide)]
theorem isIn_nIm {n : Nat} (h0 : n ≤ 8) (i : Int32) : (decide ((0 : Int32) ≤ i) && decide (i ≤ nI n - 1)) = isIn n i := by
  unfold isIn
  congr 1
  apply decide_eq_decide.mpr
  have h1 : (nI n).toInt = n := nI_toInt (by omega)
  have h2 : (nI n - 1).toInt = (n : Int) - 1 := by
    have := pk_sub_toInt (a := n) (b := 1) (by omega) (by omega)
    exact this
  rw [Int32.lt_iff_toInt_lt, Int32.le_iff_toInt_le, h1, h2]
  omega
theorem Mo_lay (S : St) (hW : Wf S) (s i v : Int32) : MoSp 105 [.int s, .int i, .int v] S (spLay S s i v) := by
  intro x mi ml ma h
  unfold spLay
  by_cases hb : isIn 4 s = false
  · rw [if_pos hb]
    refine ⟨mi, ml, ma, vI_of (ci := 8) rfl mo_O ?_, h⟩
    rw [F105_eq, Mo_lookedB hb]
    rfl
  · rw [if_neg hb]
    obtain ⟨q, hq, rfl, hc⟩ := idx4 hb
    rw [hc]
    cases hn : sSz S q with
    | none =>
      refine ⟨_, ml, _, vI_of (ci := 8) rfl mo_O ?_, h.meet (k := 1) (by decide)⟩
      rw [F105_eq, Mo_lookedN hq h hn]
      rfl
    | some n =>
      have hn8 := hW.1 q n hq hn
      have hsz := h.2.2.1 q hq
      rw [hn] at hsz
      have pre : F 105 [.ref 107, .int (nI q), .int i, .int v] (MH x mi ml ma) = if ¬ (isIn n i = false) then ((gR (MH x mi ml ma) 107 8 3).bind fun x5 => (cAldI false (MH x mi ml ma) x5 ((8 * nI q) + i)).bind fun x6 => (gR (MH x mi ml ma) 107 8 3).bind fun x7 => (cAstI (MH x mi ml ma) x7 ((8 * nI q) + i) (Int8.toInt32 (Int32.toInt8 v))).bind fun h8 => some (some (.int (x6 + 1000)), h8)) else ((vI 101 107 [.int 2] (MH x mi ml ma)).bind fun q9 => some (some (.int q9.1), q9.2)) := by
        rw [F105_eq, Mo_looked hq h ⟨n, hn, hn8⟩]
        simp only [Option.bind_some]
        rw [if_pos (by decide), moR2]
        simp only [Option.bind_some]
        rw [moAld (by decide) (show q < moLen 109 from hq)]
        simp only [Option.bind_some]
        rw [hsz, Mo_in]
        simp only [Option.bind_some, isIn_nIm hn8, b2i_0]
      by_cases hi : isIn n i = false
      · simp only [hi, if_true]
        refine ⟨_, ml, _, vI_of (ci := 8) rfl mo_O ?_, h.meet (k := 2) (by decide)⟩
        rw [pre, if_neg (fun z => z hi), show (Value.int 2) = Value.int (nI 2) from rfl, Mo_meets (by decide)]
        rfl
      · simp only [if_neg hi]
        obtain ⟨k, hk, rfl, hck⟩ := isIn_ok (n := n) (by omega) (by simpa using hi)
        have hlen : 8 * q + k < moLen 110 := by show 8 * q + k < 32; omega
        rw [hck]
        refine ⟨mi, ml, mup ma 110 (8 * q + k) (Int8.toInt32 (Int32.toInt8 v)), vI_of (ci := 8) rfl mo_O ?_, ?_⟩
        · rw [pre, if_pos hi, moR3]
          simp only [Option.bind_some]
          rw [l8, iMul, iAdd, moAld (by decide) hlen]
          simp only [Option.bind_some]
          rw [moAst (by decide) hlen, h.2.2.2.1 q k hq (by omega)]
          rfl
        · refine h.setSheet _ _ (fun j hj => ?_) (fun j i hj hi => ?_) ⟨?_, ?_, ?_, ?_⟩
          · rw [mup_ne (by decide)]
            by_cases e : j = q
            · subst e; rw [if_pos rfl]; exact hsz
            · rw [if_neg e]
          · rw [mup_at]
            by_cases e : j = q
            · subst e
              rw [if_pos rfl]
              by_cases e2 : i = k
              · subst e2; rw [pk_us, pk_us]
              · rw [pk_un (by omega), pk_un e2]; exact h.2.2.2.1 j i hj hi
            · rw [if_neg e, pk_un (by omega)]
          · rw [mup_ne (by decide)]
          · rw [mup_ne (by decide)]
          · rw [mup_ne (by decide)]
          · rw [mup_ne (by decide)]
