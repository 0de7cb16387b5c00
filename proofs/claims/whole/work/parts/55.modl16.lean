/-! twist, comes -/
def bw1 (b : Nat) : Nat := b * (b + 2) * (840 / (b + 1))
def bw (G : Gr) : Nat → Nat
  | 0 => 0
  | k + 1 => bw G k + (if fs G k = true then bw1 (bn G k) else 0)
theorem bw1_le : ∀ b, b < 8 → bw1 b ≤ 7000 := by decide
theorem bw_le {G : Gr} (h : Gd G) : ∀ k, k ≤ G.1 → bw G k ≤ 7000 * k
  | 0, _ => Nat.le_refl _
  | k + 1, hk => by
    have h1 := bw_le h k (by omega)
    have h2 := bn_lt h (show k < G.1 by omega)
    have h3 := bw1_le (bn G k) (by have := h.2.1; omega)
    show bw G k + _ ≤ _
    split <;> omega
noncomputable def spTwist (S : St) (g : Int32) : Int32 × St := spReach S g (fun G r => (1, frS S (bw G G.1 * r.1 + 12 * sumT (rSh G.1 r) r.1) (10080 * r.1)))
section M23
variable {x : Nat → mCell} {mi : Nat → Int32} {ml : Nat → Int64} {ma : Nat → Nat → Int32} {S : St} {G : Gr}
theorem Mo_twL (hG : Gd G) (hC : Cur G mi ma) {v1 v2 : Int32} : ∀ (d k : Nat), k + d = G.1 → ∀ d6, ∃ d6', q164_17 107 v1 v2 (lN (bw G k)) (nI k) d6 (MH x mi ml ma) = q164_17 107 v1 v2 (lN (bw G G.1)) (nI G.1) d6' (MH x mi ml ma) := by
  have g2 := hG.2.1
  intro d
  induction d with
  | zero =>
    intro k hk d6
    have ek : k = G.1 := by omega
    subst ek
    exact ⟨d6, rfl⟩
  | succ d ih =>
    intro k hk d6
    have hkn : k < G.1 := by omega
    have hb := bn_lt hG hkn
    have hs : bw G (k + 1) = bw G k + (if fs G k = true then bw1 (bn G k) else 0) := rfl
    have z1 : nI k + 1 = nI (k + 1) := iAdd k 1
    rw [q164_17_eq, moI5]
    simp only [Option.bind_some]
    rw [hC.1, if_neg (by rw [iLE (by omega) (by omega)]; omega), Mo_isFirst hG hC hkn]
    simp only [Option.bind_some, b2i_0, z1]
    by_cases c : fs G k = true
    · rw [if_pos c] at hs
      rw [if_neg (by rw [c]; decide), Mo_bendAt hG hC hkn]
      simp only [Option.bind_some]
      have e1 : nI (bn G k) + 1 = nI (bn G k + 1) := iAdd _ 1
      have e2 : nI (bn G k) + 2 = nI (bn G k + 2) := iAdd _ 2
      have e3 : (840 : Int32) = nI 840 := rfl
      rw [e1, e2, if_neg (by rw [l0, iEQ (by omega) (by omega)]; omega), e3, pk_div (by omega) (by omega) (by omega), nI_l (by omega), nI_l (by omega), nI_l (by have := Nat.div_le_self 840 (bn G k + 1); omega), lN_mul, lN_mul, lN_add]
      obtain ⟨d6', e⟩ := ih (k + 1) (by omega) (some (.int (nI (bn G k))))
      rw [hs] at e
      exact ⟨d6', e⟩
    · have c' : fs G k = false := by simpa using c
      rw [if_neg c] at hs
      rw [if_pos c']
      obtain ⟨d6', e⟩ := ih (k + 1) (by omega) d6
      rw [hs] at e
      exact ⟨d6', e⟩
end M23
theorem Mo_twist (S : St) (hW : Wf S) (g : Int32) : MoSp 164 [.int g] S (spTwist S g) := by
  intro x mi ml ma h
  refine Mo_ask hW h rfl (F164_eq 107 g _) (fun k G ma1 hk e hs hok hC hM => ?_)
  have h8 := hok.1.2.1
  obtain ⟨d6, e1⟩ := Mo_twL (x := x) (ml := ml) (v1 := g) (v2 := 0) hok.1 hC G.1 0 (by omega) none
  obtain ⟨mi2, ma2, d1, d2, d3, d4⟩ := Mo_setReach (x := x) (ml := ml) hok hC
  have hM2 : MoAt S mi2 ml ma2 := hM.keep (d2.sub (by decide)) (d3 0 (by decide) (by decide)) rfl rfl
  have e0 : q164_17 107 g 0 0 0 none (MH x (iup mi 5 (nI G.1)) ml ma1) = q164_17 107 g 0 (lN (bw G G.1)) (nI G.1) d6 (MH x (iup mi 5 (nI G.1)) ml ma1) := e1
  dsimp only
  rw [e0, q164_17_eq, moI5]
  simp only [Option.bind_some]
  rw [hC.1, if_pos (by rw [iLE (by omega) (by omega)]; omega), d1]
  simp only [Option.bind_some]
  cases hr : rch G.1 (nmV G) with
  | none => exact ⟨mi2, ml, ma2, rfl, hM2⟩
  | some r =>
    have hR := d4 r hr
    obtain ⟨hI, h1, _⟩ := rch_RI (IsNm.of hok) hr
    have h500 := hI.1.1
    have hb := sumT_b (rSh_le h8 r) r.1
    have hbw := bw_le hok.1 G.1 (Nat.le_refl _)
    have hmul : bw G G.1 * r.1 ≤ 56000 * 500 := Nat.mul_le_mul (by omega) h500
    refine ⟨mi2, _, ma2, ?_, MoAt.fr hM2⟩
    rw [show op6 (some r) = 0 from rfl, if_pos (by decide), moI23, hR.1.1]
    simp only [Option.bind_some]
    rw [Mo_allShares h8 hI.1.1 hR]
    simp only [Option.bind_some, moI23]
    rw [hR.1.1, nI_l (by omega), show (10080 : Int64) = lN 10080 from rfl, show (12 : Int64) = lN 12 from rfl, lN_mul, lN_mul, lN_mul, lN_add, Mo_tell (by omega) (by omega) (by omega)]
    rfl
def spComes (S : St) (g h : Int32) : Int32 × St := spAsk2 S g h (fun G H => match rch G.1 (nmV G) with
  | none => (-6, S)
  | some r => ((if G.1 = H.1 then op9 (rfind r.2.1 r.1 (nmV H)) else -9), S))
section M24
variable {x : Nat → mCell} {mi : Nat → Int32} {ml : Nat → Int64} {ma : Nat → Nat → Int32} {S : St} {G : Gr}
theorem Mo_comC {n : Nat} (h8 : n ≤ 8) (hm : mi 5 = nI n) {z : Nat} {nm : Nat → Nat} {k : Nat} (hk : k < 500) (h126 : ∀ j, j < 2 * n → ma 126 (16 * k + j) = nI (dg n (nm k) j)) {v1 v2 v3 v4 : Int32} : ∀ (d i : Nat), i + d = 2 * n → ∀ ma0 : Nat → Nat → Int32, ma0 126 = ma 126 → (∀ j, j < i → ma0 121 j = nI (dg n (nm k) j)) → ∃ ma', q165_88 107 v1 v2 v3 v4 (nI k) (nI i) (MH x mi ml ma0) = q165_88 107 v1 v2 v3 v4 (nI k) (nI (2 * n)) (MH x mi ml ma') ∧ Sm [121] ma0 ma' ∧ ∀ j, j < 2 * n → ma' 121 j = nI (dg n (nm k) j) := by
  intro d
  induction d with
  | zero =>
    intro i hi ma0 h0 h1
    have ei : i = 2 * n := by omega
    subst ei
    exact ⟨ma0, rfl, Sm.rf, h1⟩
  | succ d ih =>
    intro i hi ma0 h0 h1
    have z1 : nI i + 1 = nI (i + 1) := iAdd i 1
    obtain ⟨ma', c1, c2, c3⟩ := ih (i + 1) (by omega) (mup ma0 121 i (nI (dg n (nm k) i))) (by rw [mup_ne (by decide)]; exact h0) (fun j hj => by
      rw [mup_at]
      by_cases e : j = i
      · subst e; exact pk_us
      · rw [pk_un e]; exact h1 j (by omega))
    refine ⟨ma', ?_, (Sm.up (by decide)).tr c2, c3⟩
    rw [q165_88_eq, moI5]
    simp only [Option.bind_some]
    rw [hm, l2, iMul, if_neg (by rw [iLE (by omega) (by omega)]; omega), moR15]
    simp only [Option.bind_some, moR24]
    rw [l16, iMul, iAdd, moAld (by decide) (show 16 * k + i < moLen 126 by show _ < 8000; omega), h0, h126 i (by omega)]
    simp only [Option.bind_some]
    rw [moAst (by decide) (show i < moLen 121 by show _ < 16; omega)]
    simp only [Option.bind_some, z1]
    exact c1
theorem Mo_comL {n : Nat} (h8 : n ≤ 8) (hm : mi 5 = nI n) {r : Rs} (h23 : mi 23 = nI r.1) (hI : NmI n r.1 r.2.1) {v : Nat} (hv : IsNm n v) {v1 v2 v4 : Int32} : ∀ (d k : Nat), k + d = r.1 → (∀ j, j < k → r.2.1 j ≠ v) → ∀ (ma : Nat → Nat → Int32) (d6 : Option Value), (∀ q, q < r.1 → ∀ j, j < 2 * n → ma 126 (16 * q + j) = nI (dg n (r.2.1 q) j)) → (∀ j, j < 2 * n → ma 123 j = nI (dg n v j)) → ∃ ma', q165_68 107 v1 v2 (nI n) v4 (nI k) d6 (MH x mi ml ma) = some (some (.int (op9 (rfind r.2.1 r.1 v))), MH x mi ml ma') ∧ Sm [121] ma ma' := by
  obtain ⟨i1, i2, i3⟩ := hI
  intro d
  induction d with
  | zero =>
    intro k hk hno ma d6 h126 h123
    have ek : k = r.1 := by omega
    subst ek
    refine ⟨ma, ?_, Sm.rf⟩
    rw [rfind_no hno, q165_68_eq, moI23]
    simp only [Option.bind_some]
    rw [h23, if_pos (by rw [iLE (by omega) (by omega)]; omega)]
    rfl
  | succ d ih =>
    intro k hk hno ma d6 h126 h123
    have hkz : k < r.1 := by omega
    have z1 : nI k + 1 = nI (k + 1) := iAdd k 1
    obtain ⟨ma1, c1, c2, c3⟩ := Mo_comC (x := x) (mi := mi) (ml := ml) (z := r.1) (nm := r.2.1) (v1 := v1) (v2 := v2) (v3 := nI n) (v4 := v4) h8 hm (show k < 500 by omega) (h126 k hkz) (2 * n) 0 (by omega) ma rfl (fun j hj => by omega)
    have h123' : ∀ j, j < 2 * n → ma1 123 j = nI (dg n v j) := by rw [c2 123 (by decide)]; exact h123
    have mo := Mo_isOther (x := x) (ml := ml) (G := (n, id, id)) hm h8 (f := dg n (r.2.1 k)) (g := dg n v) (fun i hi => ⟨dg_lt _ _ _, c3 i hi⟩) (fun i hi => ⟨dg_lt _ _ _, h123' i hi⟩)
    have ev : pkv (dg n (r.2.1 k)) (2 * n) = r.2.1 k := (i2 k hkz).pk
    have ew : pkv (dg n v) (2 * n) = v := hv.pk
    dsimp only at mo
    rw [ev, ew] at mo
    have pre : q165_68 107 v1 v2 (nI n) v4 (nI k) d6 (MH x mi ml ma) = q165_88 107 v1 v2 (nI n) v4 (nI k) (nI (2 * n)) (MH x mi ml ma1) := by
      rw [q165_68_eq, moI23]
      simp only [Option.bind_some]
      rw [h23, if_neg (by rw [iLE (by omega) (by omega)]; omega), moI5]
      simp only [Option.bind_some]
      rw [hm, if_neg (fun z => z rfl)]
      exact c1
    rw [q165_88_eq, moI5] at pre
    simp only [Option.bind_some] at pre
    rw [hm, l2, iMul, if_pos (by rw [iLE (by omega) (by omega)]; omega), mo] at pre
    simp only [Option.bind_some, b2i_0, decide_eq_false_iff_not, z1] at pre
    by_cases c : r.2.1 k = v
    · rw [if_neg (fun z => z c)] at pre
      refine ⟨ma1, ?_, c2⟩
      rw [pre, rfind_at hkz c hno]
      rfl
    · rw [if_pos c] at pre
      obtain ⟨ma2, f1, f2⟩ := ih (k + 1) (by omega) (fun j hj => by
        by_cases e : j = k
        · subst e; exact c
        · exact hno j (by omega)) ma1 (some (.int (nI (2 * n)))) (by rw [c2 126 (by decide)]; exact h126) h123'
      exact ⟨ma2, pre.trans f1, c2.tr f2⟩
end M24
theorem Mo_comes (S : St) (hW : Wf S) (g k : Int32) : MoSp 165 [.int g, .int k] S (spComes S g k) := by
  intro x mi ml ma h
  unfold spComes spAsk2
  by_cases hb : isIn 10 g = false
  · rw [if_pos (Or.inl hb)]
    refine ⟨mi, ml, ma, vI_of (ci := 8) rfl mo_O ?_, h⟩
    rw [F165_eq, Mo_isNumber]
    simp only [Option.bind_some, isIn_le9, b2i_0, hb, if_true]
  · by_cases hb2 : isIn 10 k = false
    · rw [if_pos (Or.inr hb2)]
      refine ⟨mi, ml, ma, vI_of (ci := 8) rfl mo_O ?_, h⟩
      rw [F165_eq, Mo_isNumber]
      simp only [Option.bind_some, isIn_le9, b2i_0]
      rw [if_neg hb, Mo_isNumber]
      simp only [Option.bind_some, isIn_le9, b2i_0, hb2, not_true, if_false]
    · rw [if_neg (fun z => z.elim hb hb2)]
      obtain ⟨p, hp, rfl, hc⟩ := idx10 hb
      obtain ⟨q, hq, rfl, hcq⟩ := idx10 hb2
      rw [hc, hcq]
      have sa := h.2.2.2.2.1 p hp
      have sb := h.2.2.2.2.1 q hq
      have meet1 : F 165 [.ref 107, .int (nI p), .int (nI q)] (MH x mi ml ma) = ((vI 101 107 [.int 1] (MH x mi ml ma)).bind fun q => some (some (.int q.1), q.2)) → ∃ mi' ml' ma', vI 165 107 [.int (nI p), .int (nI q)] (MH x mi ml ma) = some ((-3, sMeet S 1).1, MH x mi' ml' ma') ∧ MoAt ((-3, sMeet S 1) : Int32 × St).2 mi' ml' ma' := by
        intro e
        refine ⟨iup mi 0 (nI 1), ml, mup ma 108 1 (ma 108 1 + 1), vI_of (ci := 8) rfl mo_O ?_, h.meet (k := 1) (by decide)⟩
        rw [e, show (Value.int 1) = Value.int (nI 1) from rfl, Mo_meets (by decide)]
        rfl
      have pre := F165_eq 107 (nI p) (nI q) (MH x mi ml ma)
      rw [Mo_isNumber] at pre
      simp only [Option.bind_some, isIn_le9, b2i_0] at pre
      rw [if_neg hb, Mo_isNumber] at pre
      simp only [Option.bind_some, isIn_le9, b2i_0] at pre
      rw [if_pos hb2, moR10] at pre
      simp only [Option.bind_some] at pre
      rw [moAld (by decide) (show p < moLen 116 from hp)] at pre
      simp only [Option.bind_some, moAld (show 108 ≤ 116 ∧ 116 < 132 by decide) (show q < moLen 116 from hq)] at pre
      cases hz : sGr S p with
      | none =>
        rw [hz] at sa
        rw [sa, if_pos rfl] at pre
        exact meet1 pre
      | some G =>
        rw [hz] at sa
        have hok := hW.2.2 p G hp hz
        have h8 := hok.1.2.1
        have h1 := hok.1.1
        rw [sa, if_neg (by rw [l0, iEQ (by omega) (by omega)]; omega)] at pre
        cases hz2 : sGr S q with
        | none =>
          rw [hz2] at sb
          rw [sb, if_neg (fun z => z rfl)] at pre
          exact meet1 pre
        | some K =>
          rw [hz2] at sb
          have hok2 := hW.2.2 q K hq hz2
          have h82 := hok2.1.2.1
          have h12 := hok2.1.1
          rw [sb, if_pos (by rw [l0, iEQ (by omega) (by omega)]; omega)] at pre
          obtain ⟨mi1, ma1, a1, a2, f, f1, f2⟩ := Mo_otherName (x := x) hW hq h hz2
          obtain ⟨ma2, b1, b2, b3⟩ := Mo_load (x := x) hok.1 hp a2 hz
          obtain ⟨mi3, ma3, d1, d2, d3, d4⟩ := Mo_setReach (x := x) (ml := ml) hok b3
          have hm : mi3 5 = nI G.1 := (d3 5 (by decide) (by decide)).trans b3.1
          have hM3 : MoAt S mi3 ml ma3 := a2.keep ((b2.sub (by decide)).tr (d2.sub (by decide))) ((d3 0 (by decide) (by decide)).trans (iup_ne (by decide))) rfl rfl
          have h123 : ma3 123 = ma1 123 := (d2 123 (by decide)).trans (b2 123 (by decide))
          rw [a1] at pre
          simp only [Option.bind_some] at pre
          rw [b1] at pre
          simp only [Option.bind_some] at pre
          rw [d1] at pre
          simp only [Option.bind_some] at pre
          dsimp only
          cases hr : rch G.1 (nmV G) with
          | none =>
            rw [hr] at pre
            exact ⟨mi3, ml, ma3, vI_of (ci := 8) rfl mo_O pre, hM3⟩
          | some r =>
            rw [hr, show op6 (some r) = 0 from rfl, if_pos (by decide)] at pre
            have hR := d4 r hr
            obtain ⟨hI, r1, _⟩ := rch_RI (IsNm.of hok) hr
            have h500 := hI.1.1
            by_cases en : G.1 = K.1
            · dsimp only
              rw [if_pos en]
              have d123 : ∀ j, j < 2 * G.1 → ma3 123 j = nI (dg G.1 (nmV K) j) := by
                intro j hj
                rw [h123, (f1 j (by omega)).2, ← f2, en]
                unfold dg
                rw [pkv_digit _ (fun i hi => (f1 i hi).1) j (by omega)]
              obtain ⟨ma4, g1, g2⟩ := Mo_comL (x := x) (ml := ml) (v1 := nI p) (v2 := nI q) (v4 := 0) h8 hm hR.1.1 hI.1 (v := nmV K) (by rw [en]; exact IsNm.of hok2) r.1 0 (by omega) (fun j hj => by omega) ma3 none (fun q hq => (hR.1.2 q hq).1) d123
              refine ⟨mi3, ml, ma4, vI_of (ci := 8) rfl mo_O ?_, hM3.keep (g2.sub (by decide)) rfl rfl rfl⟩
              rw [pre, ← en]
              exact g1
            · dsimp only
              rw [if_neg en]
              refine ⟨mi3, ml, ma3, vI_of (ci := 8) rfl mo_O ?_, hM3⟩
              rw [pre, q165_68_eq, moI23]
              simp only [Option.bind_some]
              rw [hR.1.1, if_neg (by rw [l0, iLE (by omega) (by omega)]; omega), moI5]
              simp only [Option.bind_some]
              rw [hm, if_pos (by rw [iEQ (by omega) (by omega)]; omega)]
