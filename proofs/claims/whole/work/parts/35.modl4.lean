/-- a sheet's places i .. i + n - 1 are all there -/
def hasAll (z i n : Int32) : Bool := decide (0 ≤ i.toInt ∧ i.toInt + n.toInt ≤ z.toInt)
def spCopy (S : St) (s i to j n : Int32) : Int32 × St :=
  if isIn 4 s = false ∨ isIn 4 to = false then (-1, S) else if n < 0 then (-3, sMeet S 5) else
  match sSz S s.toNatClampNeg, sSz S to.toNatClampNeg with
  | some a, some b => if hasAll (nI a) i n = true ∧ hasAll (nI b) j n = true then (1, sSetSheet S to.toNatClampNeg (some b) (va_cpy (sBy S s.toNatClampNeg) (sBy S to.toNatClampNeg) i.toNatClampNeg j.toNatClampNeg n.toNatClampNeg)) else (-3, sMeet S 2)
  | _, _ => (-3, sMeet S 1)
theorem l64add (a b : Int32) : (a.toInt64 + b.toInt64).toInt = a.toInt + b.toInt := by
  have h1 := a.toInt_lt
  have h2 := a.le_toInt
  have h3 := b.toInt_lt
  have h4 := b.le_toInt
  rw [Int64.toInt_add, Int32.toInt_toInt64, Int32.toInt_toInt64]
  apply Int.bmod_eq_of_le <;> omega
theorem cmp_sum (a b z : Int32) : (0 < lg_cmp (a.toInt64 + b.toInt64) z.toInt64) = (z.toInt < a.toInt + b.toInt) := by
  apply propext
  rw [lg_cmp_gt, Int64.lt_iff_toInt_lt, l64add, Int32.toInt_toInt64]
theorem cmp_sum' (a b z : Int32) : (lg_cmp (a.toInt64 + b.toInt64) z.toInt64 ≤ 0) = (a.toInt + b.toInt ≤ z.toInt) := by
  apply propext
  rw [lg_cmp_le, Int64.le_iff_toInt_le, l64add, Int32.toInt_toInt64]
section M4
variable {x : Nat → mCell} {mi : Nat → Int32} {ml : Nat → Int64} {ma : Nat → Nat → Int32} {S : St}
theorem Mo_copyL2 {s i to j n : Nat} (ht : to < 4) (hj : j + n ≤ 8) : ∀ (d k : Nat), k + d = n → ∀ ma : Nat → Nat → Int32, ∃ ma', q107_141 107 (nI s) (nI i) (nI to) (nI j) (nI n) (nI k) (MH x mi ml ma) = some (some (.int 1), MH x mi ml ma') ∧ (∀ a, a ≠ 110 → ma' a = ma a) ∧ ∀ p, ma' 110 p = if 8 * to + j + k ≤ p ∧ p < 8 * to + j + n then ma 111 (p - (8 * to + j)) else ma 110 p := by
  intro d
  induction d with
  | zero =>
    intro k hk ma
    refine ⟨ma, ?_, fun _ _ => rfl, fun p => by rw [if_neg (by omega)]⟩
    rw [q107_141_eq, if_pos (by rw [iLE (by omega) (by omega)]; omega)]
  | succ d ih =>
    intro k hk ma
    have hlen : 8 * to + j + k < moLen 110 := by show 8 * to + j + k < 32; omega
    have hlen2 : k < moLen 111 := by show k < 8; omega
    obtain ⟨ma', h1, h2, h3⟩ := ih (k + 1) (by omega) (mup ma 110 (8 * to + j + k) (ma 111 k))
    refine ⟨ma', ?_, fun a ha => ?_, fun p => ?_⟩
    · rw [q107_141_eq, if_neg (by rw [iLE (by omega) (by omega)]; omega), moR3]
      simp only [Option.bind_some, moR4]
      rw [moAld (by decide) hlen2]
      simp only [Option.bind_some]
      rw [l8, iMul, iAdd, iAdd, moAst (by decide) hlen]
      simp only [Option.bind_some]
      rw [l1, iAdd]
      exact h1
    · rw [h2 a ha, mup_ne ha]
    · rw [h3 p, mup_at, mup_ne (by decide)]
      by_cases e : p = 8 * to + j + k
      · subst e; rw [pk_us, if_neg (by omega), if_pos (by omega)]; congr 1; omega
      · rw [pk_un e]
        by_cases e2 : 8 * to + j + (k + 1) ≤ p ∧ p < 8 * to + j + n
        · rw [if_pos e2, if_pos (by omega)]
        · rw [if_neg e2, if_neg (by omega)]
theorem Mo_copyL1 {s i to j n : Nat} (hs : s < 4) (ht : to < 4) (hi : i + n ≤ 8) (hj : j + n ≤ 8) : ∀ (d k : Nat), k + d = n → ∀ ma : Nat → Nat → Int32, ∃ ma', q107_104 107 (nI s) (nI i) (nI to) (nI j) (nI n) (nI k) (MH x mi ml ma) = some (some (.int 1), MH x mi ml ma') ∧ (∀ a, a ≠ 110 → a ≠ 111 → ma' a = ma a) ∧ ∀ p, ma' 110 p = if 8 * to + j ≤ p ∧ p < 8 * to + j + n then (if p - (8 * to + j) < k then ma 111 (p - (8 * to + j)) else ma 110 (8 * s + i + (p - (8 * to + j)))) else ma 110 p := by
  intro d
  induction d with
  | zero =>
    intro k hk ma
    obtain ⟨ma', h1, h2, h3⟩ := Mo_copyL2 (x := x) (mi := mi) (ml := ml) (s := s) (i := i) ht hj n 0 (by omega) ma
    refine ⟨ma', ?_, fun a ha _ => h2 a ha, fun p => ?_⟩
    · rw [q107_104_eq, if_pos (by rw [iLE (by omega) (by omega)]; omega)]
      exact h1
    · rw [h3 p]
      by_cases e : 8 * to + j ≤ p ∧ p < 8 * to + j + n
      · rw [if_pos (by omega), if_pos e, if_pos (by omega)]
      · rw [if_neg (by omega), if_neg e]
  | succ d ih =>
    intro k hk ma
    have hlen : 8 * s + i + k < moLen 110 := by show 8 * s + i + k < 32; omega
    have hlen2 : k < moLen 111 := by show k < 8; omega
    obtain ⟨ma', h1, h2, h3⟩ := ih (k + 1) (by omega) (mup ma 111 k (ma 110 (8 * s + i + k)))
    refine ⟨ma', ?_, fun a ha hb => ?_, fun p => ?_⟩
    · rw [q107_104_eq, if_neg (by rw [iLE (by omega) (by omega)]; omega), moR4]
      simp only [Option.bind_some, moR3]
      rw [l8, iMul, iAdd, iAdd, moAld (by decide) hlen]
      simp only [Option.bind_some]
      rw [moAst (by decide) hlen2]
      simp only [Option.bind_some]
      rw [l1, iAdd]
      exact h1
    · rw [h2 a ha hb, mup_ne hb]
    · rw [h3 p, mup_at, mup_ne (by decide)]
      by_cases e : 8 * to + j ≤ p ∧ p < 8 * to + j + n
      · rw [if_pos e, if_pos e]
        by_cases e2 : p - (8 * to + j) = k
        · rw [e2, if_pos (by omega), if_neg (by omega), pk_us]
        · by_cases e3 : p - (8 * to + j) < k
          · rw [if_pos (by omega), if_pos e3, pk_un e2]
          · rw [if_neg (by omega), if_neg e3]
      · rw [if_neg e, if_neg e]
end M4
theorem toInt_nI {n : Nat} (h : n < 2000000000) : (nI n).toInt = n := nI_toInt (by omega)
theorem Mo_copy (S : St) (hW : Wf S) (s i to j n : Int32) : MoSp 107 [.int s, .int i, .int to, .int j, .int n] S (spCopy S s i to j n) := by
  intro x mi ml ma h
  unfold spCopy
  by_cases hb : isIn 4 s = false
  · rw [if_pos (Or.inl hb)]
    refine ⟨mi, ml, ma, vI_of (ci := 8) rfl mo_O ?_, h⟩
    rw [F107_eq, Mo_isSheet]
    simp only [Option.bind_some, isIn_le3, hb, b2i_0, if_true]
  · by_cases hb2 : isIn 4 to = false
    · rw [if_pos (Or.inr hb2)]
      refine ⟨mi, ml, ma, vI_of (ci := 8) rfl mo_O ?_, h⟩
      rw [F107_eq, Mo_isSheet]
      simp only [Option.bind_some, isIn_le3, b2i_0]
      rw [if_neg hb, Mo_isSheet]
      simp only [Option.bind_some, isIn_le3, hb2, b2i_0, not_true, if_false]
    · rw [if_neg (fun z => z.elim hb hb2)]
      obtain ⟨q, hq, rfl, hc⟩ := idx4 hb
      obtain ⟨u, hu, rfl, hcu⟩ := idx4 hb2
      rw [hc, hcu]
      by_cases h0 : n < 0
      · rw [if_pos h0]
        refine ⟨_, ml, _, vI_of (ci := 8) rfl mo_O ?_, h.meet (k := 5) (by decide)⟩
        rw [F107_eq, Mo_isSheet]
        simp only [Option.bind_some, isIn_le3, b2i_0]
        rw [if_neg hb, Mo_isSheet]
        simp only [Option.bind_some, isIn_le3, b2i_0]
        rw [if_pos hb2, if_neg (nle_of_lt h0), show (Value.int 5) = Value.int (nI 5) from rfl, Mo_meets (by decide)]
        rfl
      · rw [if_neg h0]
        have hsq := h.2.2.1 q hq
        have hsu := h.2.2.1 u hu
        have meet1 : ∀ {X : mR'}, F 107 [.ref 107, .int (nI q), .int i, .int (nI u), .int j, .int n] (MH x mi ml ma) = ((vI 101 107 [.int 1] (MH x mi ml ma)).bind fun q => some (some (.int q.1), q.2)) → ∃ mi' ml' ma', vI 107 107 [.int (nI q), .int i, .int (nI u), .int j, .int n] (MH x mi ml ma) = some ((-3, sMeet S 1).1, MH x mi' ml' ma') ∧ MoAt ((-3, sMeet S 1) : Int32 × St).2 mi' ml' ma' := by
          intro X e
          refine ⟨_, ml, _, vI_of (ci := 8) rfl mo_O ?_, h.meet (k := 1) (by decide)⟩
          rw [e, show (Value.int 1) = Value.int (nI 1) from rfl, Mo_meets (by decide)]
          rfl
        have meet2 : F 107 [.ref 107, .int (nI q), .int i, .int (nI u), .int j, .int n] (MH x mi ml ma) = ((vI 101 107 [.int 2] (MH x mi ml ma)).bind fun q => some (some (.int q.1), q.2)) → ∃ mi' ml' ma', vI 107 107 [.int (nI q), .int i, .int (nI u), .int j, .int n] (MH x mi ml ma) = some ((-3, sMeet S 2).1, MH x mi' ml' ma') ∧ MoAt ((-3, sMeet S 2) : Int32 × St).2 mi' ml' ma' := by
          intro e
          refine ⟨_, ml, _, vI_of (ci := 8) rfl mo_O ?_, h.meet (k := 2) (by decide)⟩
          rw [e, show (Value.int 2) = Value.int (nI 2) from rfl, Mo_meets (by decide)]
          rfl
        cases hz : sSz S q with
        | none =>
          rw [hz] at hsq
          refine meet1 (X := none) ?_
          rw [F107_eq, Mo_isSheet]
          simp only [Option.bind_some, isIn_le3, b2i_0]
          rw [if_neg hb, Mo_isSheet]
          simp only [Option.bind_some, isIn_le3, b2i_0]
          rw [if_pos hb2, if_pos (i32lt h0), moR2]
          simp only [Option.bind_some]
          rw [moAld (by decide) (show q < moLen 109 from hq)]
          simp only [Option.bind_some]
          rw [hsq, if_pos (by decide)]
        | some a =>
          rw [hz] at hsq
          have ha8 := hW.1 q a hq hz
          cases hz2 : sSz S u with
          | none =>
            rw [hz2] at hsu
            refine meet1 (X := none) ?_
            rw [F107_eq, Mo_isSheet]
            simp only [Option.bind_some, isIn_le3, b2i_0]
            rw [if_neg hb, Mo_isSheet]
            simp only [Option.bind_some, isIn_le3, b2i_0]
            rw [if_pos hb2, if_pos (i32lt h0), moR2]
            simp only [Option.bind_some]
            rw [moAld (by decide) (show q < moLen 109 from hq)]
            simp only [Option.bind_some]
            rw [hsq, if_neg (nlt_of_le (nI_pos' (by omega)))]
            simp only [moAld (show 108 ≤ 109 ∧ 109 < 132 by decide) (show u < moLen 109 from hu), Option.bind_some]
            rw [hsu, if_neg (by decide)]
          | some b =>
            rw [hz2] at hsu
            have hb8 := hW.1 u b hu hz2
            dsimp only
            have pre : F 107 [.ref 107, .int (nI q), .int i, .int (nI u), .int j, .int n] (MH x mi ml ma) = if i < 0 then ((vI 101 107 [.int 2] (MH x mi ml ma)).bind fun q => some (some (.int q.1), q.2)) else (if j < 0 then ((vI 101 107 [.int 2] (MH x mi ml ma)).bind fun q => some (some (.int q.1), q.2)) else (if (nI a).toInt < i.toInt + n.toInt then ((vI 101 107 [.int 2] (MH x mi ml ma)).bind fun q => some (some (.int q.1), q.2)) else (if j.toInt + n.toInt ≤ (nI b).toInt then (q107_104 107 (nI q) i (nI u) j n 0 (MH x mi ml ma)) else ((vI 101 107 [.int 2] (MH x mi ml ma)).bind fun q => some (some (.int q.1), q.2))))) := by
              rw [F107_eq, Mo_isSheet]
              simp only [Option.bind_some, isIn_le3, b2i_0]
              rw [if_neg hb, Mo_isSheet]
              simp only [Option.bind_some, isIn_le3, b2i_0]
              rw [if_pos hb2, if_pos (i32lt h0), moR2]
              simp only [Option.bind_some]
              rw [moAld (by decide) (show q < moLen 109 from hq)]
              simp only [Option.bind_some]
              rw [hsq, if_neg (nlt_of_le (nI_pos' (by omega)))]
              simp only [moAld (show 108 ≤ 109 ∧ 109 < 132 by decide) (show u < moLen 109 from hu), Option.bind_some]
              rw [hsu, if_pos (nI_pos' (by omega))]
              simp only [cmp_sum, cmp_sum']
            have i0 : (i < 0) = (i.toInt < 0) := propext (by rw [Int32.lt_iff_toInt_lt]; rfl)
            have j0 : (j < 0) = (j.toInt < 0) := propext (by rw [Int32.lt_iff_toInt_lt]; rfl)
            simp only [i0, j0] at pre
            unfold hasAll
            simp only [decide_eq_true_eq]
            by_cases hall : (0 ≤ i.toInt ∧ i.toInt + n.toInt ≤ (nI a).toInt) ∧ (0 ≤ j.toInt ∧ j.toInt + n.toInt ≤ (nI b).toInt)
            · rw [if_pos hall]
              have hta := toInt_nI (n := a) (by omega)
              have htb := toInt_nI (n := b) (by omega)
              have hn0 : 0 ≤ n.toInt := by rw [Int32.lt_iff_toInt_lt] at h0; exact Int.not_lt.mp h0
              have get : ∀ y : Int32, 0 ≤ y.toInt → y.toInt ≤ 8 → ∃ k : Nat, k ≤ 8 ∧ y = nI k ∧ y.toInt = k ∧ y.toNatClampNeg = k := by
                intro y y1 y2
                obtain ⟨k, k1, k2, k3⟩ := i32in (x := y) (n := 8) (by decide) (by rw [Int32.lt_iff_toInt_lt]; show ¬ y.toInt < 0; omega) (by rw [Int32.lt_iff_toInt_lt]; show ¬ 8 < y.toInt; omega)
                exact ⟨k, k1, k2, by rw [k2]; exact toInt_nI (by omega), k3⟩
              obtain ⟨ki, ki1, ki2, ki3, ki4⟩ := get i (by omega) (by omega)
              obtain ⟨kj, kj1, kj2, kj3, kj4⟩ := get j (by omega) (by omega)
              obtain ⟨kn, kn1, kn2, kn3, kn4⟩ := get n (by omega) (by omega)
              obtain ⟨ma', h1, h2, h3⟩ := Mo_copyL1 (x := x) (mi := mi) (ml := ml) (s := q) (i := ki) (to := u) (j := kj) (n := kn) hq hu (by omega) (by omega) kn 0 (by omega) ma
              refine ⟨mi, ml, ma', vI_of (ci := 8) rfl mo_O ?_, ?_⟩
              · rw [pre, if_neg (by omega), if_neg (by omega), if_neg (by omega), if_pos (by omega), ki2, kj2, kn2]
                exact h1
              · rw [ki4, kj4, kn4]
                refine h.setSheet _ _ (fun p hp => ?_) (fun p o hp ho => ?_) ⟨h2 108 (by decide) (by decide), h2 116 (by decide) (by decide), h2 117 (by decide) (by decide), h2 118 (by decide) (by decide)⟩
                · rw [h2 109 (by decide) (by decide)]
                  by_cases e : p = u
                  · subst e; rw [if_pos rfl]; exact hsu
                  · rw [if_neg e]
                · rw [h3]
                  by_cases e : p = u
                  · subst e
                    rw [if_pos rfl]
                    by_cases e2 : kj ≤ o ∧ o < kj + kn
                    · rw [pk_cpy_in e2.1 e2.2, if_pos (by omega), if_neg (by omega)]
                      have := h.2.2.2.1 q (ki + (o - kj)) hq (by omega)
                      rw [← this]
                      congr 1
                      omega
                    · rw [pk_cpy_out (by omega), if_neg (by omega)]
                      exact h.2.2.2.1 p o hp ho
                  · rw [if_neg e, if_neg (by omega)]
            · rw [if_neg hall]
              refine meet2 ?_
              rw [pre]
              by_cases c1 : i.toInt < 0
              · rw [if_pos c1]
              · rw [if_neg c1]
                by_cases c2 : j.toInt < 0
                · rw [if_pos c2]
                · rw [if_neg c2]
                  by_cases c3 : (nI a).toInt < i.toInt + n.toInt
                  · rw [if_pos c3]
                  · rw [if_neg c3, if_neg (by omega)]
