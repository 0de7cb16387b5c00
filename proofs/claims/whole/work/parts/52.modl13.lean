/-! the reference: what can be come to -/
def NmsAt (n z : Nat) (nm : Nat → Nat) (mi : Nat → Int32) (ma : Nat → Nat → Int32) : Prop := mi 23 = nI z ∧ ∀ k, k < z → (∀ j, j < 2 * n → ma 126 (16 * k + j) = nI (dg n (nm k) j)) ∧ ma 129 k = nI (nmS (unN n (nm k)))
theorem NmsAt.keep {n z : Nat} {nm : Nat → Nat} {mi mi' : Nat → Int32} {ma ma' : Nat → Nat → Int32} (h : NmsAt n z nm mi ma) (h1 : mi' 23 = mi 23) (h2 : ma' 126 = ma 126) (h3 : ma' 129 = ma 129) : NmsAt n z nm mi' ma' := by
  unfold NmsAt
  rw [h1, h2, h3]
  exact h
section M20
variable {x : Nat → mCell} {mi : Nat → Int32} {ml : Nat → Int64} {ma : Nat → Nat → Int32} {S : St} {K : Gr} {n z : Nat} {nm : Nat → Nat}
theorem NmAt.dg (hok : Ok K) (h : NmAt K mi ma) : ∀ j, j < 2 * K.1 → ma 121 j = nI (dg K.1 (nmV K) j) := by
  obtain ⟨_, g, g1, g2⟩ := h
  intro j hj
  rw [(g1 j hj).2, ← g2]
  unfold CSquareGroundsLaw_law_r5734_d6814d.dg
  rw [pkv_digit _ (fun i hi => (g1 i hi).1) j hj]
theorem Mo_lnL (hn8 : n ≤ 8) (hm : mi 5 = nI n) {k v : Nat} (hk : k < 500) (hok : Ok (unN n v)) : ∀ (d i : Nat), i + d = n → ∀ ma : Nat → Nat → Int32, (∀ j, j < 2 * n → ma 126 (16 * k + j) = nI (dg n v j)) → (∀ q, q < i → ma 112 q = nI ((unN n v).2.1 q) ∧ ma 113 q = nI ((unN n v).2.2 q)) → ∃ ma', q153_2 107 (nI k) (nI i) (MH x mi ml ma) = some (none, MH x mi ml ma') ∧ Sm [112, 113, 114, 115] ma ma' ∧ Cur (unN n v) mi ma' := by
  intro d
  induction d with
  | zero =>
    intro i hi ma h1 h2
    have ei : i = n := by omega
    subst ei
    obtain ⟨ma', c1, c2, c3⟩ := Mo_setBack (x := x) (ml := ml) hok.1 hm (fun q hq => (h2 q hq).1) (fun q hq => (h2 q hq).2)
    refine ⟨ma', ?_, c2.sub (by decide), c3⟩
    rw [q153_2_eq, moI5]
    simp only [Option.bind_some]
    rw [hm, if_pos (by rw [iLE (by omega) (by omega)]; omega), c1]
    rfl
  | succ d ih =>
    intro i hi ma h1 h2
    have e1 := h1 i (by omega)
    have e2 := h1 (n + i) (by omega)
    have d1 : (unN n v).2.1 i = dg n v i := rfl
    have d2 : (unN n v).2.2 i = dg n v (n + i) := rfl
    obtain ⟨ma', c1, c2, c3⟩ := ih (i + 1) (by omega) (mup (mup ma 112 i (nI (dg n v i))) 113 i (nI (dg n v (n + i)))) (by rw [mup_ne (by decide), mup_ne (by decide)]; exact h1) (fun q hq => by
      rw [mup_ne (show 112 ≠ 113 by decide), mup_at, mup_at, mup_ne (show 113 ≠ 112 by decide)]
      by_cases e : q = i
      · subst e; rw [pk_us, pk_us, d1, d2]; exact ⟨rfl, rfl⟩
      · rw [pk_un e, pk_un e]; exact h2 q (by omega))
    refine ⟨ma', ?_, ((Sm.up (by decide)).tr (Sm.up (by decide))).tr c2, c3⟩
    have z1 : nI i + 1 = nI (i + 1) := iAdd i 1
    rw [q153_2_eq, moI5]
    simp only [Option.bind_some]
    rw [hm, if_neg (by rw [iLE (by omega) (by omega)]; omega), moR6]
    simp only [Option.bind_some, moR24]
    rw [l16, iMul, iAdd, moAld (by decide) (show 16 * k + i < moLen 126 by show _ < 8000; omega), e1]
    simp only [Option.bind_some]
    rw [moAst (by decide) (show i < moLen 112 by show _ < 8; omega)]
    simp only [Option.bind_some, moR7, moR24, moI5]
    rw [hm, iAdd, iAdd, show 16 * k + n + i = 16 * k + (n + i) by omega, moAld (by decide) (show 16 * k + (n + i) < moLen 126 by show _ < 8000; omega), mup_ne (by decide), e2]
    simp only [Option.bind_some]
    rw [moAst (by decide) (show i < moLen 113 by show _ < 8; omega)]
    simp only [Option.bind_some, z1]
    exact c1
theorem Mo_loadName (hn8 : n ≤ 8) (hm : mi 5 = nI n) {k v : Nat} (hk : k < 500) (hok : Ok (unN n v)) (h1 : ∀ j, j < 2 * n → ma 126 (16 * k + j) = nI (dg n v j)) : ∃ ma', vV 153 107 [.int (nI k)] (MH x mi ml ma) = some (MH x mi ml ma') ∧ Sm [112, 113, 114, 115] ma ma' ∧ Cur (unN n v) mi ma' := by
  obtain ⟨ma', c1, c2, c3⟩ := Mo_lnL (x := x) (ml := ml) hn8 hm hk hok n 0 (by omega) ma h1 (fun q hq => by omega)
  refine ⟨ma', vV_of (ci := 8) rfl mo_O ?_, c2, c3⟩
  rw [F153_eq]
  exact c1
theorem Mo_fndC (hn8 : n ≤ 8) (hm : mi 5 = nI n) {k a v : Nat} (hk : k < 500) (ha : IsNm n a) (hv : IsNm n v) (h1 : ∀ j, j < 2 * n → ma 126 (16 * k + j) = nI (dg n a j)) (h2 : ∀ j, j < 2 * n → ma 121 j = nI (dg n v j)) : ∀ (d i : Nat), i + d = 2 * n → ∀ b : Bool, (b = true ↔ ∀ j, j < i → dg n a j = dg n v j) → (a = v → q154_18 107 (nI k) (b2i b) (nI i) (MH x mi ml ma) = some (some (.int (nI k)), MH x mi ml ma)) ∧ (a ≠ v → ∃ d2 d3, q154_18 107 (nI k) (b2i b) (nI i) (MH x mi ml ma) = q154_6 107 (nI (k + 1)) d2 d3 (MH x mi ml ma)) := by
  have z1 : nI k + 1 = nI (k + 1) := iAdd k 1
  intro d
  induction d with
  | zero =>
    intro i hi b hb
    have ei : i = 2 * n := by omega
    subst ei
    rw [q154_18_eq, moI5]
    simp only [Option.bind_some]
    rw [hm, l2, iMul, if_pos (by rw [iLE (by omega) (by omega)]; omega), z1]
    constructor
    · intro e
      have : b = true := hb.mpr (fun j _ => by rw [e])
      rw [this, if_neg (by decide)]
    · intro e
      have : b = false := by
        cases b with
        | false => rfl
        | true => exact absurd (ha.inj hv (hb.mp rfl)) e
      rw [this, if_pos (show b2i false = 0 from rfl)]
      exact ⟨_, _, rfl⟩
  | succ d ih =>
    intro i hi b hb
    have z2 : nI i + 1 = nI (i + 1) := iAdd i 1
    rw [q154_18_eq, moI5]
    simp only [Option.bind_some]
    rw [hm, l2, iMul, if_neg (by rw [iLE (by omega) (by omega)]; omega), z1]
    cases b with
    | false =>
      rw [if_pos (show b2i false = 0 from rfl), if_pos (show b2i false = 0 from rfl)]
      constructor
      · intro e
        have := hb.mpr (fun j _ => by rw [e])
        cases this
      · intro e
        exact ⟨_, _, rfl⟩
    | true =>
      have he := hb.mp rfl
      rw [if_neg (show ¬ b2i true = 0 by decide), moR24]
      simp only [Option.bind_some]
      rw [l16, iMul, iAdd, moAld (by decide) (show 16 * k + i < moLen 126 by show _ < 8000; omega), h1 i (by omega)]
      simp only [Option.bind_some, moR15]
      rw [moAld (by decide) (show i < moLen 121 by show _ < 16; omega), h2 i (by omega)]
      have da := dg_lt n a i
      have dv := dg_lt n v i
      simp only [Option.bind_some, iEQ (show dg n a i < 2000000000 by omega) (show dg n v i < 2000000000 by omega), z2]
      by_cases c : dg n a i = dg n v i
      · rw [if_neg (fun z => z c)]
        exact ih (i + 1) (by omega) true ⟨fun _ j hj => by
          by_cases e : j = i
          · subst e; exact c
          · exact he j (by omega), fun _ => rfl⟩
      · rw [if_pos c]
        exact ih (i + 1) (by omega) false ⟨(fun z => by cases z), fun z => absurd (z i (by omega)) c⟩
theorem Mo_fndA (hn8 : n ≤ 8) (hm : mi 5 = nI n) {v : Nat} (hz : z < 500) (h0 : mi 23 = nI z) {s : Int32} (h17 : mi 17 = s) (d2 d3 : Option Value) : ∀ (d i : Nat), i + d = 2 * n → ∀ ma : Nat → Nat → Int32, (∀ j, j < 2 * n → ma 121 j = nI (dg n v j)) → (∀ j, j < i → ma 126 (16 * z + j) = nI (dg n v j)) → ∃ ma', q154_91 107 (nI i) d2 d3 (MH x mi ml ma) = some (some (.int (nI z)), MH x (iup mi 23 (nI (z + 1))) ml ma') ∧ Sm [126, 129] ma ma' ∧ (∀ j, j < 2 * n → ma' 126 (16 * z + j) = nI (dg n v j)) ∧ ma' 129 z = s ∧ (∀ p, p < 16 * z → ma' 126 p = ma 126 p) ∧ (∀ p, p ≠ z → ma' 129 p = ma 129 p) := by
  intro d
  induction d with
  | zero =>
    intro i hi ma h1 h2
    have ei : i = 2 * n := by omega
    subst ei
    refine ⟨mup ma 129 z s, ?_, Sm.up (by decide), fun j hj => by rw [mup_ne (by decide)]; exact h2 j hj, by rw [mup_at, pk_us], fun p _ => by rw [mup_ne (by decide)], fun p hp => by rw [mup_at, pk_un hp]⟩
    rw [q154_91_eq, moI5]
    simp only [Option.bind_some]
    rw [hm, l2, iMul, if_pos (by rw [iLE (by omega) (by omega)]; omega), moR27]
    simp only [Option.bind_some, moI23, moI17]
    rw [h0, h17, moAst (by decide) (show z < moLen 129 by show _ < 500; omega)]
    simp only [Option.bind_some, moI23]
    rw [h0, show nI z + 1 = nI (z + 1) from iAdd z 1, moPutI (by decide)]
    simp only [Option.bind_some, moI23]
    rw [iup_at, l1, iSub (by omega)]
    rfl
  | succ d ih =>
    intro i hi ma h1 h2
    have z2 : nI i + 1 = nI (i + 1) := iAdd i 1
    obtain ⟨ma', c1, c2, c3, c4, c5, c6⟩ := ih (i + 1) (by omega) (mup ma 126 (16 * z + i) (nI (dg n v i))) (by rw [mup_ne (by decide)]; exact h1) (fun j hj => by
      rw [mup_at]
      by_cases e : j = i
      · subst e; exact pk_us
      · rw [pk_un (by omega)]; exact h2 j (by omega))
    refine ⟨ma', ?_, (Sm.up (by decide)).tr c2, c3, c4, fun p hp => by rw [c5 p hp, mup_at, pk_un (by omega)], fun p hp => by rw [c6 p hp, mup_ne (by decide)]⟩
    rw [q154_91_eq, moI5]
    simp only [Option.bind_some]
    rw [hm, l2, iMul, if_neg (by rw [iLE (by omega) (by omega)]; omega), moR24]
    simp only [Option.bind_some, moI23, moR15]
    rw [moAld (by decide) (show i < moLen 121 by show _ < 16; omega), h1 i (by omega), h0, l16, iMul, iAdd]
    simp only [Option.bind_some]
    rw [moAst (by decide) (show 16 * z + i < moLen 126 by show _ < 8000; omega)]
    simp only [Option.bind_some, z2]
    exact c1
def op9 (o : Option Nat) : Int32 := match o with
  | none => -9
  | some p => nI p
theorem Mo_found (hok : Ok K) (hC : Cur K mi ma) (hI : NmI K.1 z nm) (hN : NmsAt K.1 z nm mi ma) : ∃ mi' ma', vI 154 107 [] (MH x mi ml ma) = some (op9 (radd z nm (nmV K)).2.2, MH x mi' ml ma') ∧ Sm [119, 120, 121, 122, 126, 129] ma ma' ∧ (∀ j, j ≠ 17 → j ≠ 23 → mi' j = mi j) ∧ NmsAt K.1 (radd z nm (nmV K)).1 (radd z nm (nmV K)).2.1 mi' ma' := by
  have h8 := hok.1.2.1
  obtain ⟨i1, i2, i3⟩ := hI
  obtain ⟨mi2, ma2, d1, d2, d3, d4⟩ := Mo_setName (x := x) (ml := ml) hok hC
  have dgs := NmAt.dg hok d4
  have hm : mi2 5 = nI K.1 := (d3 5 (by decide)).trans hC.1
  have hN2 : NmsAt K.1 z nm mi2 ma2 := hN.keep (d3 23 (by decide)) (d2 126 (by decide)) (d2 129 (by decide))
  have hv := IsNm.of hok
  have loop : ∀ (d k : Nat), k + d = z → (∀ j, j < k → nm j ≠ nmV K) → ∀ e2 e3, ∃ mi' ma', q154_6 107 (nI k) e2 e3 (MH x mi2 ml ma2) = some (some (.int (op9 (radd z nm (nmV K)).2.2)), MH x mi' ml ma') ∧ Sm [126, 129] ma2 ma' ∧ (∀ j, j ≠ 23 → mi' j = mi2 j) ∧ NmsAt K.1 (radd z nm (nmV K)).1 (radd z nm (nmV K)).2.1 mi' ma' := by
    intro d
    induction d with
    | zero =>
      intro k hk hno e2 e3
      have ek : k = z := by omega
      subst ek
      unfold radd
      rw [rfind_no hno]
      dsimp only
      by_cases c : k = 500
      · rw [if_pos c]
        refine ⟨mi2, ma2, ?_, Sm.rf, fun _ _ => rfl, hN2⟩
        rw [q154_6_eq, moI23]
        simp only [Option.bind_some]
        rw [hN2.1, if_pos (by rw [iLE (by omega) (by omega)]; omega)]
        subst c
        rw [if_neg (by decide)]
        rfl
      · rw [if_neg c]
        obtain ⟨ma3, f1, f2, f3, f4, f5, f6⟩ := Mo_fndA (x := x) (ml := ml) h8 hm (show k < 500 by omega) hN2.1 d4.1 e2 e3 (2 * K.1) 0 (by omega) ma2 dgs (fun j hj => by omega)
        refine ⟨_, ma3, ?_, f2, fun j hj => iup_ne hj, iup_at, fun q hq => ?_⟩
        · rw [q154_6_eq, moI23]
          simp only [Option.bind_some]
          rw [hN2.1, if_pos (by rw [iLE (by omega) (by omega)]; omega), if_pos (by rw [l500, iEQ (by omega) (by omega)]; exact c)]
          exact f1
        · dsimp only at hq ⊢
          by_cases e : q = k
          · subst e
            rw [fu_at]
            exact ⟨f3, by rw [f4, (un_nm hok).2.2.1]⟩
          · rw [fu_ne e]
            obtain ⟨g1, g2⟩ := hN2.2 q (by omega)
            exact ⟨fun j hj => by rw [f5 _ (by omega)]; exact g1 j hj, by rw [f6 q e]; exact g2⟩
    | succ d ih =>
      intro k hk hno e2 e3
      have hkz : k < z := by omega
      obtain ⟨g1, g2⟩ := hN2.2 k hkz
      obtain ⟨p1, p2⟩ := Mo_fndC (x := x) (ml := ml) h8 hm (show k < 500 by omega) (i2 k hkz) hv g1 dgs (2 * K.1) 0 (by omega) true ⟨fun _ j hj => by omega, fun _ => rfl⟩
      have pre : q154_6 107 (nI k) e2 e3 (MH x mi2 ml ma2) = q154_18 107 (nI k) 1 0 (MH x mi2 ml ma2) := by
        rw [q154_6_eq, moI23]
        simp only [Option.bind_some]
        rw [hN2.1, if_neg (by rw [iLE (by omega) (by omega)]; omega)]
      by_cases c : nm k = nmV K
      · have hr : radd z nm (nmV K) = (z, nm, some k) := by
          unfold radd
          rw [rfind_at hkz c hno]
        rw [hr]
        refine ⟨mi2, ma2, ?_, Sm.rf, fun _ _ => rfl, hN2⟩
        rw [pre]
        exact p1 c
      · obtain ⟨e2', e3', e⟩ := p2 c
        obtain ⟨mi3, ma3, f1, f2, f3, f4⟩ := ih (k + 1) (by omega) (fun j hj => by
          by_cases e : j = k
          · subst e; exact c
          · exact hno j (by omega)) e2' e3'
        refine ⟨mi3, ma3, ?_, f2, f3, f4⟩
        rw [pre]
        exact e.trans f1
  obtain ⟨mi3, ma3, f1, f2, f3, f4⟩ := loop z 0 (by omega) (fun j hj => by omega) none none
  refine ⟨mi3, ma3, vI_of (ci := 8) rfl mo_O ?_, (d2.sub (by decide)).tr (f2.sub (by decide)), fun j h1 h2 => (f3 j h2).trans (d3 j h1), f4⟩
  rw [F154_eq, d1]
  exact f1
end M20
