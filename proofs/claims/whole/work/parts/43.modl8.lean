/-! a row has each number once -/
theorem nI_or (a b : Nat) : nI a ||| nI b = nI (a ||| b) := by
  apply Int32.toBitVec_inj.mp
  show BitVec.ofNat 32 a ||| BitVec.ofNat 32 b = BitVec.ofNat 32 (a ||| b)
  exact (BitVec.ofNat_or).symm
theorem shl1 : ∀ k, k < 9 → (1 : Int32) <<< (nI k &&& 31) = nI (2 ^ k) := by decide +kernel
def whB (n : Nat) (b : Nat → Int32) : Bool := (List.range n).all (fun v => (List.range n).any (fun i => b i == nI v))
theorem whB_iff {n : Nat} {b : Nat → Int32} : whB n b = true ↔ ∀ v, v < n → ∃ i, i < n ∧ b i = nI v := by
  unfold whB
  rw [List.all_eq_true]
  constructor
  · intro h v hv
    obtain ⟨i, hi, e⟩ := List.any_eq_true.mp (h v (List.mem_range.mpr hv))
    exact ⟨i, List.mem_range.mp hi, by simpa using e⟩
  · intro h v hv
    obtain ⟨i, hi, e⟩ := h v (List.mem_range.mp hv)
    exact List.any_eq_true.mpr ⟨i, List.mem_range.mpr hi, by simpa using e⟩
def rowN (b : Nat → Int32) : Nat → Nat := fun i => (b i).toNatClampNeg
theorem wh_prm {n : Nat} {b : Nat → Int32} (hn : n ≤ 8) (h : whB n b = true) : Prm n (rowN b) ∧ ∀ i, i < n → b i = nI (rowN b i) := by
  rw [whB_iff] at h
  have hp : Prm n (rowN b) := inj_of_surj (fun y hy => by
    obtain ⟨i, hi, e⟩ := h y hy
    exact ⟨i, hi, by unfold rowN; rw [e]; exact nI_cl (by omega)⟩)
  refine ⟨hp, fun i hi => ?_⟩
  obtain ⟨j, hj, e⟩ := h (rowN b i) (hp.1 i hi)
  have e2 : rowN b j = rowN b i := by
    show (b j).toNatClampNeg = _
    rw [e]
    exact nI_cl (by have := hp.1 i hi; omega)
  have := hp.2 j i hj hi e2
  subst this
  exact e
/-- the bits that have been met -/
def msk (n : Nat) (b : Nat → Int32) : Nat → Nat
  | 0 => 0
  | k + 1 => if isIn n (b k) = true then msk n b k ||| 2 ^ (b k).toNatClampNeg else msk n b k
theorem msk_bit (n : Nat) (b : Nat → Int32) (hn : n ≤ 8) : ∀ k v, (msk n b k).testBit v = true ↔ v < n ∧ ∃ i, i < k ∧ b i = nI v := by
  intro k
  induction k with
  | zero =>
    intro v
    show (0 : Nat).testBit v = true ↔ _
    rw [Nat.zero_testBit]
    constructor
    · intro h; cases h
    · rintro ⟨-, i, hi, -⟩; omega
  | succ k ih =>
    intro v
    show (if isIn n (b k) = true then msk n b k ||| 2 ^ (b k).toNatClampNeg else msk n b k).testBit v = true ↔ _
    by_cases h : isIn n (b k) = true
    · obtain ⟨q, hq, e, hc⟩ := isIn_ok (by omega) h
      rw [if_pos h, hc, Nat.testBit_or, Bool.or_eq_true, ih, Nat.testBit_two_pow]
      simp only [decide_eq_true_eq]
      constructor
      · rintro (⟨h1, i, hi, e1⟩ | h1)
        · exact ⟨h1, i, by omega, e1⟩
        · exact ⟨by omega, k, by omega, by rw [e, h1]⟩
      · rintro ⟨h1, i, hi, e1⟩
        by_cases c : i = k
        · subst c
          rw [e] at e1
          have := (nI_eq (by omega) (by omega)).mp e1
          exact Or.inr this
        · exact Or.inl ⟨h1, i, by omega, e1⟩
    · rw [if_neg h, ih]
      constructor
      · rintro ⟨h1, i, hi, e1⟩
        exact ⟨h1, i, by omega, e1⟩
      · rintro ⟨h1, i, hi, e1⟩
        by_cases c : i = k
        · subst c
          rw [e1, isIn_nI (by omega) h1] at h
          exact absurd rfl h
        · exact ⟨h1, i, by omega, e1⟩
theorem msk_lt (n : Nat) (b : Nat → Int32) (hn : n ≤ 8) (k : Nat) : msk n b k < 256 := by
  apply Nat.lt_pow_two_of_testBit (n := 8)
  intro i hi
  cases h : (msk n b k).testBit i with
  | false => rfl
  | true =>
    have := (msk_bit n b hn k i).mp h
    omega
theorem msk_full {n : Nat} {b : Nat → Int32} (hn : n ≤ 8) : msk n b n = 2 ^ n - 1 ↔ whB n b = true := by
  rw [whB_iff]
  constructor
  · intro h v hv
    have : (msk n b n).testBit v = true := by
      rw [h, Nat.testBit_two_pow_sub_one]
      simpa using hv
    exact ((msk_bit n b hn n v).mp this).2
  · intro h
    apply Nat.eq_of_testBit_eq
    intro v
    rw [Nat.testBit_two_pow_sub_one]
    by_cases hv : v < n
    · rw [decide_eq_true hv]
      exact (msk_bit n b hn n v).mpr ⟨hv, h v hv⟩
    · rw [decide_eq_false hv]
      cases e : (msk n b n).testBit v with
      | false => rfl
      | true => exact absurd ((msk_bit n b hn n v).mp e).1 hv
section M11
variable {x : Nat → mCell} {mi : Nat → Int32} {ml : Nat → Int64} {ma : Nat → Nat → Int32} {S : St} {n : Nat}
theorem Mo_wholeL {s : Nat} (hs : s < 4) (hn : n ≤ 8) (b : Nat → Int32) (hb : ∀ i, i < 8 → ma 110 (8 * s + i) = b i) : ∀ (d k : Nat), k + d = n → ∀ d5 : Option Value, q113_5 107 (nI s) (nI n) (nI (msk n b k)) (nI k) d5 (MH x mi ml ma) = some (some (.int (b2i (whB n b))), MH x mi ml ma) := by
  intro d
  induction d with
  | zero =>
    intro k hk d5
    have ek : k = n := by omega
    subst ek
    have hm := msk_lt k b hn k
    have hp : (1 : Int32) <<< (nI k &&& 31) - 1 = nI (2 ^ k - 1) := by
      rw [shl1 k (by omega)]
      have h1 : 1 ≤ 2 ^ k := Nat.one_le_two_pow
      exact pk_sub h1
    have hpl : 2 ^ k ≤ 256 := by
      have := Nat.pow_le_pow_right (show 0 < 2 by decide) hn
      simpa using this
    rw [q113_5_eq, if_pos (by rw [iLE (by omega) (by omega)]; omega), hp]
    simp only [iEQ (show msk k b k < 2000000000 by omega) (show 2 ^ k - 1 < 2000000000 by omega), msk_full hn, nz0, nz1, if_true]
    cases whB k b <;> rfl
  | succ d ih =>
    intro k hk d5
    have hn1 := ih (k + 1) (by omega)
    have em : msk n b (k + 1) = if isIn n (b k) = true then msk n b k ||| 2 ^ (b k).toNatClampNeg else msk n b k := rfl
    rw [em] at hn1
    rw [q113_5_eq, if_neg (by rw [iLE (by omega) (by omega)]; omega), moR3]
    simp only [Option.bind_some]
    rw [l8, iMul, iAdd, moAld (by decide) (show 8 * s + k < moLen 110 by show _ < 32; omega), hb k (by omega)]
    simp only [Option.bind_some]
    rw [Mo_in]
    simp only [Option.bind_some, isIn_nIm hn, b2i_0]
    by_cases c : isIn n (b k) = false
    · rw [if_neg (by rw [c]; decide)] at hn1
      have z1 : nI (msk n b k) ||| 0 = nI (msk n b k) := by
        have := nI_or (msk n b k) 0
        rw [Nat.or_zero] at this
        exact this
      rw [if_pos c, z1, l1, iAdd]
      exact hn1 _
    · have c2 : isIn n (b k) = true := by simpa using c
      obtain ⟨q, hq, e, hc⟩ := isIn_ok (by omega) c2
      rw [if_pos c2, hc] at hn1
      rw [if_neg c, e, shl1 q (by omega), nI_or]
      have z1 : nI k + 1 = nI (k + 1) := iAdd k 1
      rw [z1]
      exact hn1 _
theorem Mo_isWhole {s : Nat} (hs : s < 4) (hn : n ≤ 8) (b : Nat → Int32) (hb : ∀ i, i < 8 → ma 110 (8 * s + i) = b i) : vI 113 107 [.int (nI s), .int (nI n)] (MH x mi ml ma) = some (b2i (whB n b), MH x mi ml ma) := by
  refine vI_of (ci := 8) rfl mo_O ?_
  rw [F113_eq]
  exact Mo_wholeL hs hn b hb n 0 (by omega) none
end M11
def grOk (n : Nat) (a b : Nat → Int32) : Bool := decide (n ≠ 0) && whB n a && whB n b && decide ((bfs (rowN a) (rowN b) 0 n).1 = n)
def spGround (S : St) (g a b : Int32) : Int32 × St :=
  if isIn 10 g = false ∨ isIn 4 a = false ∨ isIn 4 b = false then (-1, S) else
  match sSz S a.toNatClampNeg, sSz S b.toNatClampNeg with
  | some n, some m => if n = m ∧ grOk n (sBy S a.toNatClampNeg) (sBy S b.toNatClampNeg) = true then (nI n, sSetGr S g.toNatClampNeg (some (n, rowN (sBy S a.toNatClampNeg), rowN (sBy S b.toNatClampNeg)))) else (-4, S)
  | _, _ => (-3, sMeet S 1)
section M12
variable {x : Nat → mCell} {mi : Nat → Int32} {ml : Nat → Int64} {ma : Nat → Nat → Int32} {S : St} {n : Nat}
theorem Mo_groundL (hW : Wf S) {g a b : Nat} (hg : g < 10) (ha : a < 4) (hb : b < 4) (h1 : 1 ≤ n) (hn : n ≤ 8) (hm : mi 5 = nI n) (hwa : whB n (sBy S a) = true) (hwb : whB n (sBy S b) = true) : ∀ (d k : Nat), k + d = n → ∀ ma : Nat → Nat → Int32, MoAt S mi ml ma → (∀ q, q < k → ma 112 q = sBy S a q ∧ ma 113 q = sBy S b q) → ∃ ma', q115_103 107 (nI g) (nI a) (nI b) (nI n) (nI k) (MH x mi ml ma) = some (some (.int (if (bfs (rowN (sBy S a)) (rowN (sBy S b)) 0 n).1 = n then nI n else -4)), MH x mi ml ma') ∧ MoAt (if (bfs (rowN (sBy S a)) (rowN (sBy S b)) 0 n).1 = n then sSetGr S g (some (n, rowN (sBy S a), rowN (sBy S b))) else S) mi ml ma' := by
  obtain ⟨pa, ea⟩ := wh_prm hn hwa
  obtain ⟨pb, eb⟩ := wh_prm hn hwb
  intro d
  induction d with
  | zero =>
    intro k hk ma hM h2
    have hR : ∀ q, q < n → ma 112 q = nI (rowN (sBy S a) q) := fun q hq => by rw [(h2 q (by omega)).1, ea q hq]
    have hU : ∀ q, q < n → ma 113 q = nI (rowN (sBy S b) q) := fun q hq => by rw [(h2 q (by omega)).2, eb q hq]
    obtain ⟨ma1, c1, c2, c3⟩ := Mo_numbered (x := x) (ml := ml) hn hm pa.1 pb.1 (s := 0) (by omega) hR hU
    have hle := (bfs_BI (n := n) (R := rowN (sBy S a)) (U := rowN (sBy S b)) (s := 0) pa.1 pb.1 (by omega) n).le
    have hM1 : MoAt S mi ml ma1 := hM.keep (c2.sub (by decide)) rfl rfl rfl
    rw [q115_103_eq, if_pos (by rw [iLE (by omega) (by omega)]; omega)]
    rw [← l0] at c1
    rw [c1]
    simp only [Option.bind_some]
    by_cases c : (bfs (rowN (sBy S a)) (rowN (sBy S b)) 0 n).1 = n
    · rw [if_pos (by rw [iLE (by omega) (by omega)]; omega), if_pos c, if_pos c]
      have e112 : ma1 112 = ma 112 := c2 112 (by decide)
      have e113 : ma1 113 = ma 113 := c2 113 (by decide)
      obtain ⟨ma2, d1, d2⟩ := Mo_keep3 (x := x) (G := (n, rowN (sBy S a), rowN (sBy S b))) hW ⟨h1, hn, pa, pb⟩ hg hM1 hm (by rw [e112]; exact hR) (by rw [e113]; exact hU)
      exact ⟨ma2, by rw [d1]; rfl, d2⟩
    · rw [if_neg (by rw [iLE (by omega) (by omega)]; omega), if_neg c, if_neg c]
      exact ⟨ma1, rfl, hM1⟩
  | succ d ih =>
    intro k hk ma hM h2
    have hk8 : k < moLen 112 := by show k < 8; omega
    have hk8' : k < moLen 113 := hk8
    have la : 8 * a + k < moLen 110 := by show _ < 32; omega
    have lb : 8 * b + k < moLen 110 := by show _ < 32; omega
    have hMs : Sm mScr ma (mup (mup ma 112 k (sBy S a k)) 113 k (sBy S b k)) := (Sm.up (by decide)).tr (Sm.up (by decide))
    obtain ⟨ma', c1, c2⟩ := ih (k + 1) (by omega) (mup (mup ma 112 k (sBy S a k)) 113 k (sBy S b k)) (hM.keep hMs rfl rfl rfl) (fun q hq => by
      rw [mup_ne (show 112 ≠ 113 by decide), mup_at, mup_at, mup_ne (show 113 ≠ 112 by decide)]
      by_cases e : q = k
      · subst e; exact ⟨pk_us, pk_us⟩
      · rw [pk_un e, pk_un e]; exact h2 q (by omega))
    refine ⟨ma', ?_, c2⟩
    rw [q115_103_eq, if_neg (by rw [iLE (by omega) (by omega)]; omega), moR6]
    simp only [Option.bind_some, moR3]
    rw [l8, iMul, iAdd, moAld (by decide) la, hM.2.2.2.1 a k ha (by omega)]
    simp only [Option.bind_some]
    rw [moAst (by decide) hk8]
    simp only [Option.bind_some, moR7, moR3]
    rw [iMul, iAdd, moAld (by decide) lb, mup_ne (by decide), hM.2.2.2.1 b k hb (by omega)]
    simp only [Option.bind_some]
    rw [moAst (by decide) hk8']
    simp only [Option.bind_some]
    rw [l1, iAdd]
    exact c1
end M12
theorem Mo_ground (S : St) (hW : Wf S) (g a b : Int32) : MoSp 115 [.int g, .int a, .int b] S (spGround S g a b) := by
  intro x mi ml ma h
  unfold spGround
  by_cases hb1 : isIn 10 g = false
  · rw [if_pos (Or.inl hb1)]
    refine ⟨mi, ml, ma, vI_of (ci := 8) rfl mo_O ?_, h⟩
    rw [F115_eq, Mo_isNumber]
    simp only [Option.bind_some, isIn_le9, b2i_0, hb1, if_true]
  · by_cases hb2 : isIn 4 a = false
    · rw [if_pos (Or.inr (Or.inl hb2))]
      refine ⟨mi, ml, ma, vI_of (ci := 8) rfl mo_O ?_, h⟩
      rw [F115_eq, Mo_isNumber]
      simp only [Option.bind_some, isIn_le9, b2i_0]
      rw [if_neg hb1, Mo_isSheet]
      simp only [Option.bind_some, isIn_le3, b2i_0, hb2, if_true]
    · by_cases hb3 : isIn 4 b = false
      · rw [if_pos (Or.inr (Or.inr hb3))]
        refine ⟨mi, ml, ma, vI_of (ci := 8) rfl mo_O ?_, h⟩
        rw [F115_eq, Mo_isNumber]
        simp only [Option.bind_some, isIn_le9, b2i_0]
        rw [if_neg hb1, Mo_isSheet]
        simp only [Option.bind_some, isIn_le3, b2i_0]
        rw [if_neg hb2, Mo_isSheet]
        simp only [Option.bind_some, isIn_le3, b2i_0, hb3, not_true, if_false]
      · rw [if_neg (fun z => z.elim hb1 (fun z => z.elim hb2 hb3))]
        obtain ⟨kg, hg, rfl, hcg⟩ := idx10 hb1
        obtain ⟨ka, ha, rfl, hca⟩ := idx4 hb2
        obtain ⟨kb, hb, rfl, hcb⟩ := idx4 hb3
        rw [hcg, hca, hcb]
        have sa := h.2.2.1 ka ha
        have sb := h.2.2.1 kb hb
        have meet1 : F 115 [.ref 107, .int (nI kg), .int (nI ka), .int (nI kb)] (MH x mi ml ma) = ((vI 101 107 [.int 1] (MH x mi ml ma)).bind fun q => some (some (.int q.1), q.2)) → ∃ mi' ml' ma', vI 115 107 [.int (nI kg), .int (nI ka), .int (nI kb)] (MH x mi ml ma) = some ((-3, sMeet S 1).1, MH x mi' ml' ma') ∧ MoAt ((-3, sMeet S 1) : Int32 × St).2 mi' ml' ma' := by
          intro e
          refine ⟨_, ml, _, vI_of (ci := 8) rfl mo_O ?_, h.meet (k := 1) (by decide)⟩
          rw [e, show (Value.int 1) = Value.int (nI 1) from rfl, Mo_meets (by decide)]
          rfl
        have pre := F115_eq 107 (nI kg) (nI ka) (nI kb) (MH x mi ml ma)
        rw [Mo_isNumber] at pre
        simp only [Option.bind_some, isIn_le9, b2i_0] at pre
        rw [if_neg hb1, Mo_isSheet] at pre
        simp only [Option.bind_some, isIn_le3, b2i_0] at pre
        rw [if_neg hb2, Mo_isSheet] at pre
        simp only [Option.bind_some, isIn_le3, b2i_0] at pre
        rw [if_pos hb3, moR2] at pre
        simp only [Option.bind_some] at pre
        rw [moAld (by decide) (show ka < moLen 109 from ha)] at pre
        simp only [Option.bind_some, moAld (show 108 ≤ 109 ∧ 109 < 132 by decide) (show kb < moLen 109 from hb)] at pre
        cases hz : sSz S ka with
        | none =>
          rw [hz] at sa
          rw [sa, if_pos (by decide)] at pre
          exact meet1 pre
        | some n =>
          rw [hz] at sa
          have hn8 := hW.1 ka n ha hz
          rw [sa, if_neg (nlt_of_le (nI_pos' (by omega)))] at pre
          cases hz2 : sSz S kb with
          | none =>
            rw [hz2] at sb
            rw [sb, if_neg (by decide)] at pre
            exact meet1 pre
          | some m =>
            rw [hz2] at sb
            have hm8 := hW.1 kb m hb hz2
            rw [sb, if_pos (nI_pos' (by omega))] at pre
            have q1 : (nI n = nI m) = (n = m) := iEQ (by omega) (by omega)
            have q2 : (nI n = 0) = (n = 0) := iEQ (b := 0) (by omega) (by omega)
            simp only [q1, q2] at pre
            dsimp only
            by_cases c1 : n = m
            · subst c1
              rw [if_neg (fun z => z rfl)] at pre
              by_cases c2 : n = 0
              · rw [if_pos c2] at pre
                rw [if_neg (fun z => by have := z.2; simp [grOk, c2] at this)]
                exact ⟨mi, ml, ma, vI_of (ci := 8) rfl mo_O pre, h⟩
              · rw [if_neg c2, Mo_isWhole ha hn8 (sBy S ka) (fun i hi => h.2.2.2.1 ka i ha hi)] at pre
                simp only [Option.bind_some, b2i_0] at pre
                by_cases c3 : whB n (sBy S ka) = false
                · rw [if_pos c3] at pre
                  rw [if_neg (fun z => by have := z.2; simp [grOk, c3] at this)]
                  exact ⟨mi, ml, ma, vI_of (ci := 8) rfl mo_O pre, h⟩
                · have c3' : whB n (sBy S ka) = true := by simpa using c3
                  rw [if_neg c3, Mo_isWhole hb hn8 (sBy S kb) (fun i hi => h.2.2.2.1 kb i hb hi)] at pre
                  simp only [Option.bind_some, b2i_0] at pre
                  by_cases c4 : whB n (sBy S kb) = false
                  · rw [if_neg (fun z => z c4)] at pre
                    rw [if_neg (fun z => by have := z.2; simp [grOk, c4] at this)]
                    exact ⟨mi, ml, ma, vI_of (ci := 8) rfl mo_O pre, h⟩
                  · have c4' : whB n (sBy S kb) = true := by simpa using c4
                    rw [if_pos c4, moPutI (Or.inr (Or.inl rfl))] at pre
                    simp only [Option.bind_some] at pre
                    obtain ⟨ma', d1, d2⟩ := Mo_groundL (x := x) (mi := iup mi 5 (nI n)) (ml := ml) hW hg ha hb (by omega) hn8 iup_at c3' c4' n 0 (by omega) ma (h.keep Sm.rf (iup_ne (by decide)) rfl rfl) (fun q hq => by omega)
                    have egr : (grOk n (sBy S ka) (sBy S kb) = true) = ((bfs (rowN (sBy S ka)) (rowN (sBy S kb)) 0 n).1 = n) := by
                      apply propext
                      simp [grOk, c2, c3', c4']
                    simp only [egr, true_and]
                    refine ⟨iup mi 5 (nI n), ml, ma', vI_of (ci := 8) rfl mo_O ?_, ?_⟩
                    · rw [pre]
                      have d1' : q115_103 107 (nI kg) (nI ka) (nI kb) (nI n) 0 (MH x (iup mi 5 (nI n)) ml ma) = _ := d1
                      rw [d1']
                      by_cases c5 : (bfs (rowN (sBy S ka)) (rowN (sBy S kb)) 0 n).1 = n
                      · rw [if_pos c5, if_pos c5]
                      · rw [if_neg c5, if_neg c5]
                    · by_cases c5 : (bfs (rowN (sBy S ka)) (rowN (sBy S kb)) 0 n).1 = n
                      · rw [if_pos c5] at d2 ⊢; exact d2
                      · rw [if_neg c5] at d2 ⊢; exact d2
            · rw [if_pos c1] at pre
              rw [if_neg (fun z => c1 z.1)]
              exact ⟨mi, ml, ma, vI_of (ci := 8) rfl mo_O pre, h⟩
