section M7
variable {x : Nat → mCell} {mi : Nat → Int32} {ml : Nat → Int64} {ma : Nat → Nat → Int32} {S : St} {G : Gr}
theorem b2i_t : b2i true = 1 := rfl
theorem b2i_f : b2i false = 0 := rfl
theorem Mo_shear2 (hG : Gd G) (u : Bool) (hm : mi 5 = nI G.1) : ∀ (d k : Nat), k + d = G.1 → ∀ ma : Nat → Nat → Int32, (∀ q, q < G.1 → ma 112 q = nI (G.2.1 q)) → (∀ q, q < G.1 → ma 114 q = nI (inv G.1 G.2.1 q)) → (∀ q, q < G.1 → ma 124 q = nI (G.2.2 q)) → (∀ q, q < k → ma 113 q = nI ((shG u G).2.2 q)) → ∃ ma', q136_30 107 (b2i u) (nI k) (MH x mi ml ma) = some (none, MH x mi ml ma') ∧ Sm [113, 114, 115, 124] ma ma' ∧ Cur (shG u G) mi ma' := by
  have hg2 := hG.2.1
  have hg3 := hG.2.2.1
  intro d
  induction d with
  | zero =>
    intro k hk ma h1 h2 h3 h4
    obtain ⟨ma', c1, c2, c3⟩ := Mo_setBack (x := x) (ml := ml) (G := shG u G) (hG.sh u) hm h1 (fun q hq => h4 q (by have : q < G.1 := hq; omega))
    refine ⟨ma', ?_, c2.sub (by decide), c3⟩
    rw [q136_30_eq, moI5]
    simp only [Option.bind_some]
    rw [hm, if_pos (by rw [iLE (by omega) (by omega)]; omega), c1]
    rfl
  | succ d ih =>
    intro k hk ma h1 h2 h3 h4
    have hk8 : k < moLen 113 := by show k < 8; omega
    have hk8a : k < moLen 114 := hk8
    have hk8b : k < moLen 112 := hk8
    have hp1 := hg3.1 k (by omega)
    have hp2 := (inv_prm hg3).1 k (by omega)
    obtain ⟨ma', c1, c2, c3⟩ := ih (k + 1) (by omega) (mup ma 113 k (nI ((shG u G).2.2 k))) (by rw [mup_ne (by decide)]; exact h1) (by rw [mup_ne (by decide)]; exact h2) (by rw [mup_ne (by decide)]; exact h3) (fun q hq => by
      rw [mup_at]
      by_cases e : q = k
      · subst e; exact pk_us
      · rw [pk_un e]; exact h4 q (by omega))
    refine ⟨ma', ?_, (Sm.up (by decide)).tr c2, c3⟩
    rw [q136_30_eq, moI5]
    simp only [Option.bind_some]
    rw [hm, if_neg (by rw [iLE (by omega) (by omega)]; omega), moR7]
    simp only [Option.bind_some, moR19]
    cases u
    · rw [b2i_f, if_pos rfl, moR8]
      simp only [Option.bind_some]
      rw [moAld (by decide) hk8a, h2 k (by omega)]
      simp only [Option.bind_some]
      rw [moAld (by decide) (show inv G.1 G.2.1 k < moLen 124 by show _ < 8; omega), h3 _ hp2]
      simp only [Option.bind_some]
      rw [moAst (by decide) hk8]
      simp only [Option.bind_some]
      rw [l1, iAdd]
      exact c1
    · rw [b2i_t, if_neg (by decide), moR6]
      simp only [Option.bind_some]
      rw [moAld (by decide) hk8b, h1 k (by omega)]
      simp only [Option.bind_some]
      rw [moAld (by decide) (show G.2.1 k < moLen 124 by show _ < 8; omega), h3 _ hp1]
      simp only [Option.bind_some]
      rw [moAst (by decide) hk8]
      simp only [Option.bind_some]
      rw [l1, iAdd]
      exact c1
theorem Mo_shear1 (hG : Gd G) (u : Bool) : ∀ (d k : Nat), k + d = G.1 → ∀ ma : Nat → Nat → Int32, Cur G mi ma → (∀ q, q < k → ma 124 q = nI (G.2.2 q)) → ∃ ma', q136_2 107 (b2i u) (nI k) (MH x mi ml ma) = some (none, MH x mi ml ma') ∧ Sm [113, 114, 115, 124] ma ma' ∧ Cur (shG u G) mi ma' := by
  have hg2 := hG.2.1
  intro d
  induction d with
  | zero =>
    intro k hk ma hC h3
    obtain ⟨ma', c1, c2, c3⟩ := Mo_shear2 (x := x) (ml := ml) hG u hC.1 G.1 0 (by omega) ma hC.2.1 hC.2.2.2.1 (fun q hq => h3 q (by omega)) (fun q hq => by omega)
    refine ⟨ma', ?_, c2, c3⟩
    rw [q136_2_eq, moI5]
    simp only [Option.bind_some]
    rw [hC.1, if_pos (by rw [iLE (by omega) (by omega)]; omega)]
    exact c1
  | succ d ih =>
    intro k hk ma hC h3
    have hk8 : k < moLen 113 := by show k < 8; omega
    have hk8a : k < moLen 124 := hk8
    obtain ⟨ma', c1, c2, c3⟩ := ih (k + 1) (by omega) (mup ma 124 k (nI (G.2.2 k))) (hC.keep rfl (mup_ne (by decide)) (mup_ne (by decide)) (mup_ne (by decide)) (mup_ne (by decide))) (fun q hq => by
      rw [mup_at]
      by_cases e : q = k
      · subst e; exact pk_us
      · rw [pk_un e]; exact h3 q (by omega))
    refine ⟨ma', ?_, (Sm.up (by decide)).tr c2, c3⟩
    rw [q136_2_eq, moI5]
    simp only [Option.bind_some]
    rw [hC.1, if_neg (by rw [iLE (by omega) (by omega)]; omega), moR19]
    simp only [Option.bind_some, moR7]
    rw [moAld (by decide) hk8, hC.2.2.1 k (by omega)]
    simp only [Option.bind_some]
    rw [moAst (by decide) hk8a]
    simp only [Option.bind_some]
    rw [l1, iAdd]
    exact c1
theorem Mo_shearOnce (hG : Gd G) (u : Bool) (hC : Cur G mi ma) : ∃ ma', vV 136 107 [.int (b2i u)] (MH x mi ml ma) = some (MH x mi ml ma') ∧ Sm [113, 114, 115, 124] ma ma' ∧ Cur (shG u G) mi ma' := by
  obtain ⟨ma', c1, c2, c3⟩ := Mo_shear1 (x := x) (ml := ml) hG u G.1 0 (by omega) ma hC (fun q hq => by omega)
  exact ⟨ma', vV_of (ci := 8) rfl mo_O (by rw [F136_eq]; exact c1), c2, c3⟩
/-- an int for so many shears, forth or undone -/
def sgn (u : Bool) (m : Nat) : Int32 := if u = true then -(nI m) else nI m
theorem neg_nI_lt {m : Nat} (h0 : 0 < m) (h : m < 2000000000) : ¬ 0 ≤ -(nI m) := by
  rw [Int32.le_iff_toInt_le, sb_negT (by omega)]
  show ¬ (0 : Int) ≤ _
  omega
theorem shIt_comm (u : Bool) (G : Gr) : ∀ m, shIt u m (shG u G) = shIt u (m + 1) G
  | 0 => rfl
  | m + 1 => congrArg (shG u) (shIt_comm u G m)
theorem Mo_shearByL (u : Bool) {m : Nat} (hm : m < 1000000) (hu : u = true → 0 < m) : ∀ (d k : Nat), k + d = m → ∀ (G : Gr) (ma : Nat → Nat → Int32), Gd G → Cur G mi ma → ∃ ma', q137_2 107 (sgn u m) (nI k) (MH x mi ml ma) = some (none, MH x mi ml ma') ∧ Sm [113, 114, 115, 124] ma ma' ∧ Cur (shIt u d G) mi ma' := by
  intro d
  induction d with
  | zero =>
    intro k hk G ma hG hC
    refine ⟨ma, ?_, Sm.rf, hC⟩
    rw [q137_2_eq]
    cases u
    · show (if 0 ≤ nI m then _ else _) = _
      rw [if_pos (nI_pos' (by omega))]
      show (if nI m ≤ nI k then _ else _) = _
      rw [if_pos (by rw [iLE (by omega) (by omega)]; omega)]
    · show (if 0 ≤ -(nI m) then _ else _) = _
      rw [if_neg (neg_nI_lt (hu rfl) (by omega))]
      show (if - -(nI m) ≤ nI k then _ else _) = _
      rw [Int32.neg_neg, if_pos (by rw [iLE (by omega) (by omega)]; omega)]
  | succ d ih =>
    intro k hk G ma hG hC
    obtain ⟨ma1, a1, a2, a3⟩ := Mo_shearOnce (x := x) (ml := ml) hG u hC
    obtain ⟨ma', c1, c2, c3⟩ := ih (k + 1) (by omega) (shG u G) ma1 (hG.sh u) a3
    refine ⟨ma', ?_, a2.tr c2, ?_⟩
    · rw [q137_2_eq]
      cases u
      · show (if 0 ≤ nI m then _ else _) = _
        rw [if_pos (nI_pos' (by omega))]
        show (if nI m ≤ nI k then _ else _) = _
        rw [if_neg (by rw [iLE (by omega) (by omega)]; omega)]
        show (if 0 ≤ nI m then _ else _) = _
        rw [if_pos (nI_pos' (by omega))]
        rw [show (Value.int 0) = Value.int (b2i false) from rfl, a1]
        simp only [Option.bind_some]
        rw [l1, iAdd]
        exact c1
      · show (if 0 ≤ -(nI m) then _ else _) = _
        rw [if_neg (neg_nI_lt (hu rfl) (by omega))]
        show (if - -(nI m) ≤ nI k then _ else _) = _
        rw [Int32.neg_neg, if_neg (by rw [iLE (by omega) (by omega)]; omega)]
        show (if 0 ≤ -(nI m) then _ else _) = _
        rw [if_neg (neg_nI_lt (hu rfl) (by omega))]
        rw [show (Value.int 1) = Value.int (b2i true) from rfl, a1]
        simp only [Option.bind_some]
        rw [l1, iAdd]
        exact c1
    · rw [shIt_comm] at c3
      exact c3
theorem Mo_shearBy (u : Bool) {m : Nat} (hm : m < 1000000) (hu : u = true → 0 < m) (hG : Gd G) (hC : Cur G mi ma) : ∃ ma', vV 137 107 [.int (sgn u m)] (MH x mi ml ma) = some (MH x mi ml ma') ∧ Sm [113, 114, 115, 124] ma ma' ∧ Cur (shIt u m G) mi ma' := by
  obtain ⟨ma', c1, c2, c3⟩ := Mo_shearByL (x := x) (mi := mi) (ml := ml) u hm hu m 0 (by omega) G ma hG hC
  exact ⟨ma', vV_of (ci := 8) rfl mo_O (by rw [F137_eq]; exact c1), c2, c3⟩
theorem Mo_turnL (hG : Gd G) (u : Bool) (hm : mi 5 = nI G.1) : ∀ (d k : Nat), k + d = G.1 → ∀ ma : Nat → Nat → Int32, (∀ q, k ≤ q → q < G.1 → ma 112 q = nI (G.2.1 q) ∧ ma 113 q = nI (G.2.2 q)) → (∀ q, q < G.1 → ma 114 q = nI (inv G.1 G.2.1 q)) → (∀ q, q < G.1 → ma 115 q = nI (inv G.1 G.2.2 q)) → (∀ q, q < k → ma 112 q = nI ((tuG u G).2.1 q) ∧ ma 113 q = nI ((tuG u G).2.2 q)) → ∃ ma', q138_2 107 (b2i u) (nI k) (MH x mi ml ma) = some (none, MH x mi ml ma') ∧ Sm [112, 113, 114, 115, 124] ma ma' ∧ Cur (tuG u G) mi ma' := by
  have hg2 := hG.2.1
  intro d
  induction d with
  | zero =>
    intro k hk ma h1 h2 h3 h4
    obtain ⟨ma', c1, c2, c3⟩ := Mo_setBack (x := x) (ml := ml) (G := tuG u G) (hG.tu u) hm (fun q hq => (h4 q (by have : q < G.1 := hq; omega)).1) (fun q hq => (h4 q (by have : q < G.1 := hq; omega)).2)
    refine ⟨ma', ?_, c2.sub (by decide), c3⟩
    rw [q138_2_eq, moI5]
    simp only [Option.bind_some]
    rw [hm, if_pos (by rw [iLE (by omega) (by omega)]; omega), c1]
    rfl
  | succ d ih =>
    intro k hk ma h1 h2 h3 h4
    have hk8 : k < moLen 113 := by show k < 8; omega
    have hk8a : k < moLen 114 := hk8
    have hk8b : k < moLen 112 := hk8
    have hk8c : k < moLen 115 := hk8
    have hk8d : k < moLen 124 := hk8
    obtain ⟨ma', c1, c2, c3⟩ := ih (k + 1) (by omega) (mup (mup (mup ma 124 k (nI (G.2.1 k))) 112 k (nI ((tuG u G).2.1 k))) 113 k (nI ((tuG u G).2.2 k)))
      (fun q hq hq2 => by
        rw [mup_ne (show 112 ≠ 113 by decide), mup_at, mup_at, mup_ne (show 113 ≠ 112 by decide), mup_ne (show 113 ≠ 124 by decide), mup_ne (show 112 ≠ 124 by decide), pk_un (by omega), pk_un (by omega)]
        exact h1 q (by omega) hq2)
      (by rw [mup_ne (by decide), mup_ne (by decide), mup_ne (by decide)]; exact h2)
      (by rw [mup_ne (by decide), mup_ne (by decide), mup_ne (by decide)]; exact h3)
      (fun q hq => by
        rw [mup_ne (show 112 ≠ 113 by decide), mup_at, mup_at, mup_ne (show 113 ≠ 112 by decide), mup_ne (show 113 ≠ 124 by decide), mup_ne (show 112 ≠ 124 by decide)]
        by_cases e : q = k
        · subst e; exact ⟨pk_us, pk_us⟩
        · rw [pk_un e, pk_un e]; exact h4 q (by omega))
    refine ⟨ma', ?_, (((Sm.up (by decide)).tr (Sm.up (by decide))).tr (Sm.up (by decide))).tr c2, c3⟩
    rw [q138_2_eq, moI5]
    simp only [Option.bind_some]
    rw [hm, if_neg (by rw [iLE (by omega) (by omega)]; omega), moR19]
    simp only [Option.bind_some, moR6]
    rw [moAld (by decide) hk8b, (h1 k (Nat.le_refl k) (by omega)).1]
    simp only [Option.bind_some]
    rw [moAst (by decide) hk8d]
    simp only [Option.bind_some, moR6]
    cases u
    · rw [b2i_f, if_pos rfl, moR9]
      simp only [Option.bind_some]
      rw [moAld (by decide) hk8c, mup_ne (by decide), h3 k (by omega)]
      simp only [Option.bind_some]
      rw [moAst (by decide) hk8b]
      simp only [Option.bind_some, moR7]
      rw [if_pos trivial, moR19]
      simp only [Option.bind_some]
      rw [moAld (by decide) hk8d, mup_ne (show 124 ≠ 112 by decide), mup_at, pk_us]
      simp only [Option.bind_some]
      rw [moAst (by decide) hk8]
      simp only [Option.bind_some]
      rw [l1, iAdd]
      exact c1
    · rw [b2i_t, if_neg (by decide), moR7]
      simp only [Option.bind_some]
      rw [moAld (by decide) hk8, mup_ne (by decide), (h1 k (Nat.le_refl k) (by omega)).2]
      simp only [Option.bind_some]
      rw [moAst (by decide) hk8b]
      simp only [Option.bind_some, moR7]
      rw [if_neg (by decide), moR8]
      simp only [Option.bind_some]
      rw [moAld (by decide) hk8a, mup_ne (by decide), mup_ne (by decide), h2 k (by omega)]
      simp only [Option.bind_some]
      rw [moAst (by decide) hk8]
      simp only [Option.bind_some]
      rw [l1, iAdd]
      exact c1
theorem Mo_turnOnce (hG : Gd G) (u : Bool) (hC : Cur G mi ma) : ∃ ma', vV 138 107 [.int (b2i u)] (MH x mi ml ma) = some (MH x mi ml ma') ∧ Sm [112, 113, 114, 115, 124] ma ma' ∧ Cur (tuG u G) mi ma' := by
  obtain ⟨ma', c1, c2, c3⟩ := Mo_turnL (x := x) (ml := ml) hG u hC.1 G.1 0 (by omega) ma (fun q _ hq => ⟨hC.2.1 q hq, hC.2.2.1 q hq⟩) hC.2.2.2.1 hC.2.2.2.2 (fun q hq => by omega)
  exact ⟨ma', vV_of (ci := 8) rfl mo_O (by rw [F138_eq]; exact c1), c2, c3⟩
end M7
def spTurn (S : St) (g : Int32) : Int32 × St := spAsk S g (fun G => (nI G.1, sSetGr S g.toNatClampNeg (some (tuG false G))))
theorem Mo_turn (S : St) (hW : Wf S) (g : Int32) : MoSp 140 [.int g] S (spTurn S g) := by
  intro x mi ml ma h
  refine Mo_ask hW h rfl (F140_eq 107 g _) (fun k G ma' hk e hs hok hC hM => ?_)
  subst e
  obtain ⟨ma1, a1, a2, a3⟩ := Mo_turnOnce (x := x) (ml := ml) hok.1 false hC
  obtain ⟨ma2, d1, d2⟩ := Mo_keep (x := x) hW (hok.1.tu false) hk (hM.keep (a2.sub (by decide)) rfl rfl rfl) a3
  refine ⟨_, ml, ma2, ?_, by rw [nI_cl (by omega)]; exact d2⟩
  dsimp only
  rw [show (Value.int 0) = Value.int (b2i false) from rfl, a1]
  simp only [Option.bind_some]
  rw [d1]
  rfl
/-- a ground, sheared z times -/
def shZ (z : Int) (G : Gr) : Gr := if z < 0 then shIt true (-z).toNat G else shIt false z.toNat G
theorem Ok.z {G : Gr} (h : Ok G) (z : Int) : Ok (shZ z G) := by unfold shZ; split <;> exact h.it _ _
theorem shZ_n (z : Int) (G : Gr) : (shZ z G).1 = G.1 := by unfold shZ; split <;> exact shIt_n _ _ _
theorem sgn_of {k : Int32} {z : Int} (h : k.toInt = z) (hb : -1000 ≤ z ∧ z ≤ 1000) : ∃ (u : Bool) (m : Nat), k = sgn u m ∧ m < 1000000 ∧ (u = true → 0 < m) ∧ ∀ G, shZ z G = shIt u m G := by
  by_cases hz : z < 0
  · refine ⟨true, (-z).toNat, ?_, by omega, fun _ => by omega, fun G => by unfold shZ; rw [if_pos hz]⟩
    apply Int32.toInt_inj.mp
    show k.toInt = (-(nI (-z).toNat)).toInt
    rw [h, sb_negT (by omega)]
    omega
  · refine ⟨false, z.toNat, ?_, by omega, (fun e => by cases e), fun G => by unfold shZ; rw [if_neg hz]⟩
    apply Int32.toInt_inj.mp
    show k.toInt = (nI z.toNat).toInt
    rw [h, nI_toInt (by omega)]
    omega
def spShear (S : St) (g k : Int32) : Int32 × St := if -100 ≤ k.toInt ∧ k.toInt ≤ 100 then spAsk S g (fun G => (nI G.1, sSetGr S g.toNatClampNeg (some (shZ k.toInt G)))) else (-1, S)
theorem in_toInt (v lo hi : Int32) : (decide (lo ≤ v) && decide (v ≤ hi)) = decide (lo.toInt ≤ v.toInt ∧ v.toInt ≤ hi.toInt) := by
  rw [Bool.eq_iff_iff]
  simp only [Bool.and_eq_true, decide_eq_true_eq, Int32.le_iff_toInt_le]
theorem Mo_shear (S : St) (hW : Wf S) (g k : Int32) : MoSp 139 [.int g, .int k] S (spShear S g k) := by
  intro x mi ml ma h
  unfold spShear
  by_cases hb : -100 ≤ k.toInt ∧ k.toInt ≤ 100
  · rw [if_pos hb]
    refine Mo_ask (K := fun q2 => (vV 137 107 [.int k] q2.2).bind fun h3 => (vI 112 107 [.int g] h3).bind fun q4 => some (some (.int q4.1), q4.2)) hW h rfl ?_ (fun j G ma' hj e hs hok hC hM => ?_)
    · rw [F139_eq, Mo_in]
      simp only [Option.bind_some, in_toInt, b2i_0, decide_eq_false_iff_not]
      rw [if_pos (fun z => z hb)]
    · subst e
      obtain ⟨u, m, rfl, hm, hu, hz⟩ := sgn_of (k := k) rfl (by omega)
      obtain ⟨ma1, a1, a2, a3⟩ := Mo_shearBy (x := x) (ml := ml) u hm hu hok.1 hC
      rw [hz G]
      obtain ⟨ma2, d1, d2⟩ := Mo_keep (x := x) hW (hok.it u m).1 hj (hM.keep (a2.sub (by decide)) rfl rfl rfl) a3
      refine ⟨_, ml, ma2, ?_, by rw [nI_cl (by omega)]; exact d2⟩
      dsimp only
      rw [a1]
      simp only [Option.bind_some]
      rw [d1, shIt_n]
      rfl
  · rw [if_neg hb]
    refine ⟨mi, ml, ma, vI_of (ci := 8) rfl mo_O ?_, h⟩
    rw [F139_eq, Mo_in]
    simp only [Option.bind_some, in_toInt, b2i_0, decide_eq_false_iff_not]
    rw [if_neg (fun z => z hb)]
