/-! grounds: shears and turns -/
theorem closed_it {n : Nat} {A : Nat → Nat} (hA : Map n A) {X : Nat → Prop} (h : ∀ q, q < n → X q → X (A q)) {q : Nat} (hq : q < n) (hx : X q) : ∀ k, X (it A k q)
  | 0 => hx
  | k + 1 => h _ (it_lt hA hq k) (closed_it hA h hq hx k)
/-- what is closed under a permutation is closed under its inverse -/
theorem closed_inv {n : Nat} {A : Nat → Nat} (hA : Prm n A) {X : Nat → Prop} (h : ∀ q, q < n → X q → X (A q)) {q : Nat} (hq : q < n) (hx : X q) : X (inv n A q) := by
  obtain ⟨h1, h2⟩ := inv_ok hA hq
  obtain ⟨k, hk, e⟩ := it_back hA h1
  rw [it_succ, h2] at e
  rw [← e]
  exact closed_it hA.1 h hq hx k
def shG (u : Bool) (G : Gr) : Gr := (G.1, G.2.1, fun q => G.2.2 (if u = true then G.2.1 q else inv G.1 G.2.1 q))
def tuG (u : Bool) (G : Gr) : Gr := (G.1, (if u = true then G.2.2 else inv G.1 G.2.2), (if u = true then inv G.1 G.2.1 else G.2.1))
def shIt (u : Bool) : Nat → Gr → Gr
  | 0, G => G
  | m + 1, G => shG u (shIt u m G)
theorem Gd.sh {G : Gr} (h : Gd G) (u : Bool) : Gd (shG u G) := by
  obtain ⟨h1, h2, h3, h4⟩ := h
  refine ⟨h1, h2, h3, ?_⟩
  cases u
  · exact h4.comp (inv_prm h3)
  · exact h4.comp h3
theorem Gd.tu {G : Gr} (h : Gd G) (u : Bool) : Gd (tuG u G) := by
  obtain ⟨h1, h2, h3, h4⟩ := h
  cases u
  · exact ⟨h1, h2, inv_prm h4, h3⟩
  · exact ⟨h1, h2, h4, inv_prm h3⟩
theorem Conn.sh {G : Gr} (h : Gd G) (hc : Conn G.1 G.2.1 G.2.2) (u : Bool) : Conn (shG u G).1 (shG u G).2.1 (shG u G).2.2 := by
  obtain ⟨h1, h2, h3, h4⟩ := h
  intro X hX hne
  refine hc X (fun q hq hx => ⟨(hX q hq hx).1, ?_⟩) hne
  cases u
  · have e : X (G.2.2 (inv G.1 G.2.1 (G.2.1 q))) := (hX (G.2.1 q) (h3.1 q hq) (hX q hq hx).1).2
    rw [inv_l h3 hq] at e
    exact e
  · have hi := closed_inv h3 (X := X) (fun q hq hx => (hX q hq hx).1) hq hx
    have e : X (G.2.2 (G.2.1 (inv G.1 G.2.1 q))) := (hX (inv G.1 G.2.1 q) (inv_ok h3 hq).1 hi).2
    rw [(inv_ok h3 hq).2] at e
    exact e
theorem Conn.tu {G : Gr} (h : Gd G) (hc : Conn G.1 G.2.1 G.2.2) (u : Bool) : Conn (tuG u G).1 (tuG u G).2.1 (tuG u G).2.2 := by
  obtain ⟨h1, h2, h3, h4⟩ := h
  intro X hX hne
  refine hc X (fun q hq hx => ?_) hne
  cases u
  · refine ⟨(hX q hq hx).2, ?_⟩
    have hp : Prm G.1 (inv G.1 G.2.2) := inv_prm h4
    have := closed_inv hp (X := X) (fun q hq hx => (hX q hq hx).1) hq hx
    rw [inv_uniq hp (h4.1 q hq) (inv_l h4 hq)] at this
    exact this
  · refine ⟨?_, (hX q hq hx).1⟩
    have hp : Prm G.1 (inv G.1 G.2.1) := inv_prm h3
    have := closed_inv hp (X := X) (fun q hq hx => (hX q hq hx).2) hq hx
    rw [inv_uniq hp (h3.1 q hq) (inv_l h3 hq)] at this
    exact this
def Ok (G : Gr) : Prop := Gd G ∧ Conn G.1 G.2.1 G.2.2
theorem Ok.sh {G : Gr} (h : Ok G) (u : Bool) : Ok (shG u G) := ⟨h.1.sh u, h.2.sh h.1 u⟩
theorem Ok.tu {G : Gr} (h : Ok G) (u : Bool) : Ok (tuG u G) := ⟨h.1.tu u, h.2.tu h.1 u⟩
theorem Ok.it {G : Gr} (h : Ok G) (u : Bool) : ∀ m, Ok (shIt u m G)
  | 0 => h
  | m + 1 => (h.it u m).sh u
theorem shIt_n (u : Bool) (G : Gr) : ∀ m, (shIt u m G).1 = G.1
  | 0 => rfl
  | m + 1 => shIt_n u G m
/-- the reference's ground at hand -/
def Cur (G : Gr) (mi : Nat → Int32) (ma : Nat → Nat → Int32) : Prop := mi 5 = nI G.1 ∧ (∀ q, q < G.1 → ma 112 q = nI (G.2.1 q)) ∧ (∀ q, q < G.1 → ma 113 q = nI (G.2.2 q)) ∧ (∀ q, q < G.1 → ma 114 q = nI (inv G.1 G.2.1 q)) ∧ (∀ q, q < G.1 → ma 115 q = nI (inv G.1 G.2.2 q))
theorem Cur.keep {G : Gr} {mi mi' : Nat → Int32} {ma ma' : Nat → Nat → Int32} (h : Cur G mi ma) (hi : mi' 5 = mi 5) (h1 : ma' 112 = ma 112) (h2 : ma' 113 = ma 113) (h3 : ma' 114 = ma 114) (h4 : ma' 115 = ma 115) : Cur G mi' ma' := by
  obtain ⟨c1, c2, c3, c4, c5⟩ := h
  exact ⟨hi.trans c1, by rw [h1]; exact c2, by rw [h2]; exact c3, by rw [h3]; exact c4, by rw [h4]; exact c5⟩
section M5
variable {x : Nat → mCell} {mi : Nat → Int32} {ml : Nat → Int64} {ma : Nat → Nat → Int32} {S : St} {G : Gr}
theorem Mo_setBackL (hG : Gd G) (hm : mi 5 = nI G.1) : ∀ (d k : Nat), k + d = G.1 → ∀ ma : Nat → Nat → Int32, (∀ q, q < G.1 → ma 112 q = nI (G.2.1 q)) → (∀ q, q < G.1 → ma 113 q = nI (G.2.2 q)) → (∀ q, q < k → ma 114 (G.2.1 q) = nI q ∧ ma 115 (G.2.2 q) = nI q) → ∃ ma', q108_2 107 (nI k) (MH x mi ml ma) = some (none, MH x mi ml ma') ∧ (∀ a, a ≠ 114 → a ≠ 115 → ma' a = ma a) ∧ ∀ q, q < G.1 → ma' 114 (G.2.1 q) = nI q ∧ ma' 115 (G.2.2 q) = nI q := by
  obtain ⟨hg1, hg2, hg3, hg4⟩ := hG
  intro d
  induction d with
  | zero =>
    intro k hk ma h1 h2 h3
    refine ⟨ma, ?_, fun _ _ _ => rfl, fun q hq => h3 q (by omega)⟩
    rw [q108_2_eq, moI5]
    simp only [Option.bind_some]
    rw [hm, if_pos (by rw [iLE (by omega) (by omega)]; omega)]
  | succ d ih =>
    intro k hk ma h1 h2 h3
    have hR := hg3.1 k (by omega)
    have hU := hg4.1 k (by omega)
    have hR8 : G.2.1 k < moLen 114 := by show G.2.1 k < 8; omega
    have hU8 : G.2.2 k < moLen 115 := by show G.2.2 k < 8; omega
    have hk8 : k < moLen 112 := by show k < 8; omega
    have hk8' : k < moLen 113 := hk8
    obtain ⟨ma', c1, c2, c3⟩ := ih (k + 1) (by omega) (mup (mup ma 114 (G.2.1 k) (nI k)) 115 (G.2.2 k) (nI k)) (by rw [mup_ne (by decide), mup_ne (by decide)]; exact h1) (by rw [mup_ne (by decide), mup_ne (by decide)]; exact h2) (fun q hq => by
      rw [mup_ne (show 114 ≠ 115 by decide), mup_at, mup_at, mup_ne (show 115 ≠ 114 by decide)]
      by_cases e : q = k
      · subst e; exact ⟨pk_us, pk_us⟩
      · rw [pk_un (fun z => e (hg3.2 q k (by omega) (by omega) z)), pk_un (fun z => e (hg4.2 q k (by omega) (by omega) z))]
        exact h3 q (by omega))
    refine ⟨ma', ?_, fun a ha hb => by rw [c2 a ha hb, mup_ne hb, mup_ne ha], c3⟩
    rw [q108_2_eq, moI5]
    simp only [Option.bind_some]
    rw [hm, if_neg (by rw [iLE (by omega) (by omega)]; omega), moR8]
    simp only [Option.bind_some, moR6]
    rw [moAld (by decide) hk8, h1 k (by omega)]
    simp only [Option.bind_some]
    rw [moAst (by decide) hR8]
    simp only [Option.bind_some, moR9, moR7]
    rw [moAld (by decide) hk8', mup_ne (by decide), h2 k (by omega)]
    simp only [Option.bind_some]
    rw [moAst (by decide) hU8]
    simp only [Option.bind_some]
    rw [l1, iAdd]
    exact c1
theorem Mo_setBack (hG : Gd G) (hm : mi 5 = nI G.1) (h1 : ∀ q, q < G.1 → ma 112 q = nI (G.2.1 q)) (h2 : ∀ q, q < G.1 → ma 113 q = nI (G.2.2 q)) : ∃ ma', vV 108 107 [] (MH x mi ml ma) = some (MH x mi ml ma') ∧ Sm [114, 115] ma ma' ∧ Cur G mi ma' := by
  obtain ⟨ma', c1, c2, c3⟩ := Mo_setBackL (x := x) (ml := ml) hG hm G.1 0 (by omega) ma h1 h2 (fun q hq => by omega)
  refine ⟨ma', vV_of (ci := 8) rfl mo_O (by rw [F108_eq]; exact c1), fun a ha => ?_, hm, ?_, ?_, ?_, ?_⟩
  · simp only [List.mem_cons, List.not_mem_nil, or_false, not_or] at ha
    exact c2 a ha.1 ha.2
  · rw [c2 112 (by decide) (by decide)]; exact h1
  · rw [c2 113 (by decide) (by decide)]; exact h2
  · intro q hq
    obtain ⟨i1, i2⟩ := inv_ok hG.2.2.1 hq
    have := (c3 _ i1).1
    rw [i2] at this
    exact this
  · intro q hq
    obtain ⟨i1, i2⟩ := inv_ok hG.2.2.2 hq
    have := (c3 _ i1).2
    rw [i2] at this
    exact this
theorem Mo_loadL (hG : Gd G) {g : Nat} (hg : g < 10) (hm : mi 5 = nI G.1) : ∀ (d k : Nat), k + d = G.1 → ∀ ma : Nat → Nat → Int32, (∀ q, q < G.1 → ma 117 (8 * g + q) = nI (G.2.1 q) ∧ ma 118 (8 * g + q) = nI (G.2.2 q)) → (∀ q, q < k → ma 112 q = nI (G.2.1 q) ∧ ma 113 q = nI (G.2.2 q)) → ∃ ma', q111_12 107 (nI g) (nI k) (MH x mi ml ma) = some (none, MH x mi ml ma') ∧ Sm [112, 113, 114, 115] ma ma' ∧ Cur G mi ma' := by
  have hg2 := hG.2.1
  intro d
  induction d with
  | zero =>
    intro k hk ma h1 h2
    obtain ⟨ma', c1, c2, c3⟩ := Mo_setBack (x := x) (ml := ml) hG hm (fun q hq => (h2 q (by omega)).1) (fun q hq => (h2 q (by omega)).2)
    refine ⟨ma', ?_, c2.sub (by decide), c3⟩
    rw [q111_12_eq, moI5]
    simp only [Option.bind_some]
    rw [hm, if_pos (by rw [iLE (by omega) (by omega)]; omega), c1]
    rfl
  | succ d ih =>
    intro k hk ma h1 h2
    have hk8 : k < moLen 112 := by show k < 8; omega
    have hk8' : k < moLen 113 := hk8
    have hl : 8 * g + k < moLen 117 := by show 8 * g + k < 80; omega
    have hl' : 8 * g + k < moLen 118 := hl
    obtain ⟨ma', c1, c2, c3⟩ := ih (k + 1) (by omega) (mup (mup ma 112 k (nI (G.2.1 k))) 113 k (nI (G.2.2 k))) (by rw [mup_ne (by decide), mup_ne (by decide), mup_ne (by decide), mup_ne (by decide)]; exact h1) (fun q hq => by
      rw [mup_ne (show 112 ≠ 113 by decide), mup_at, mup_at, mup_ne (show 113 ≠ 112 by decide)]
      by_cases e : q = k
      · subst e; exact ⟨pk_us, pk_us⟩
      · rw [pk_un e, pk_un e]; exact h2 q (by omega))
    refine ⟨ma', ?_, ((Sm.up (by decide)).tr (Sm.up (by decide))).tr c2, c3⟩
    rw [q111_12_eq, moI5]
    simp only [Option.bind_some]
    rw [hm, if_neg (by rw [iLE (by omega) (by omega)]; omega), moR6]
    simp only [Option.bind_some, moR11]
    rw [l8, iMul, iAdd, moAld (by decide) hl, (h1 k (by omega)).1]
    simp only [Option.bind_some]
    rw [moAst (by decide) hk8]
    simp only [Option.bind_some, moR7, moR12]
    rw [moAld (by decide) hl', mup_ne (by decide), (h1 k (by omega)).2]
    simp only [Option.bind_some]
    rw [moAst (by decide) hk8']
    simp only [Option.bind_some]
    rw [l1, iAdd]
    exact c1
theorem Mo_load (hG : Gd G) {g : Nat} (hg : g < 10) (h : MoAt S mi ml ma) (hs : sGr S g = some G) : ∃ ma', vV 111 107 [.int (nI g)] (MH x mi ml ma) = some (MH x (iup mi 5 (nI G.1)) ml ma') ∧ Sm [112, 113, 114, 115] ma ma' ∧ Cur G (iup mi 5 (nI G.1)) ma' := by
  obtain ⟨ma', c1, c2, c3⟩ := Mo_loadL (x := x) (ml := ml) (mi := iup mi 5 (nI G.1)) hG hg iup_at G.1 0 (by omega) ma (fun q hq => h.2.2.2.2.2.1 g G hg hs q hq) (fun q hq => by omega)
  refine ⟨ma', vV_of (ci := 8) rfl mo_O ?_, c2, c3⟩
  have hsq := h.2.2.2.2.1 g hg
  rw [hs] at hsq
  rw [F111_eq, moR10]
  simp only [Option.bind_some]
  rw [moAld (by decide) (show g < moLen 116 from hg), hsq]
  simp only [Option.bind_some]
  rw [moPutI (Or.inr (Or.inl rfl))]
  exact c1
theorem Mo_askB {g : Int32} (hg : isIn 10 g = false) : vI 110 107 [.int g] (MH x mi ml ma) = some (-1, MH x mi ml ma) := by
  refine vI_of (ci := 8) rfl mo_O ?_
  rw [F110_eq, Mo_isNumber]
  simp only [Option.bind_some, isIn_le9, hg, b2i_0, not_true, if_false]
theorem Mo_askN {g : Nat} (hg : g < 10) (h : MoAt S mi ml ma) (hs : sGr S g = none) : vI 110 107 [.int (nI g)] (MH x mi ml ma) = some (-3, MH x (iup mi 0 (nI 1)) ml (mup ma 108 1 (ma 108 1 + 1))) := by
  refine vI_of (ci := 8) rfl mo_O ?_
  have hsq := h.2.2.2.2.1 g hg
  rw [hs] at hsq
  rw [F110_eq, Mo_isNumber]
  simp only [Option.bind_some, isIn_le9, isIn_nI (show 10 < 2000000000 by decide) hg, b2i_0]
  rw [if_pos (by simp), moR10]
  simp only [Option.bind_some]
  rw [moAld (by decide) (show g < moLen 116 from hg), hsq]
  simp only [Option.bind_some]
  rw [if_neg (fun z => z trivial), show (Value.int 1) = Value.int (nI 1) from rfl, Mo_meets (by decide)]
  rfl
theorem Mo_askG (hG : Gd G) {g : Nat} (hg : g < 10) (h : MoAt S mi ml ma) (hs : sGr S g = some G) : ∃ ma', vI 110 107 [.int (nI g)] (MH x mi ml ma) = some (0, MH x (iup mi 5 (nI G.1)) ml ma') ∧ Sm [112, 113, 114, 115] ma ma' ∧ Cur G (iup mi 5 (nI G.1)) ma' := by
  obtain ⟨ma', c1, c2, c3⟩ := Mo_load (x := x) hG hg h hs
  refine ⟨ma', vI_of (ci := 8) rfl mo_O ?_, c2, c3⟩
  have hsq := h.2.2.2.2.1 g hg
  rw [hs] at hsq
  have h1 := hG.1
  have h2 := hG.2.1
  rw [F110_eq, Mo_isNumber]
  simp only [Option.bind_some, isIn_le9, isIn_nI (show 10 < 2000000000 by decide) hg, b2i_0]
  rw [if_pos (by simp), moR10]
  simp only [Option.bind_some]
  rw [moAld (by decide) (show g < moLen 116 from hg), hsq]
  simp only [Option.bind_some]
  rw [if_pos (by rw [l0, iEQ (by omega) (by omega)]; omega), c1]
  rfl
theorem Mo_keepL (hG : Gd G) {g : Nat} (hg : g < 10) (hm : mi 5 = nI G.1) : ∀ (d k : Nat), k + d = G.1 → ∀ ma : Nat → Nat → Int32, (∀ q, q < G.1 → ma 112 q = nI (G.2.1 q) ∧ ma 113 q = nI (G.2.2 q)) → (∀ q, q < k → ma 117 (8 * g + q) = nI (G.2.1 q) ∧ ma 118 (8 * g + q) = nI (G.2.2 q)) → ∃ ma', q112_12 107 (nI g) (nI k) (MH x mi ml ma) = some (some (.int (nI G.1)), MH x mi ml ma') ∧ (∀ a, a ≠ 117 → a ≠ 118 → ma' a = ma a) ∧ (∀ q, q < G.1 → ma' 117 (8 * g + q) = nI (G.2.1 q) ∧ ma' 118 (8 * g + q) = nI (G.2.2 q)) ∧ ∀ p, (p < 8 * g ∨ 8 * g + 8 ≤ p) → ma' 117 p = ma 117 p ∧ ma' 118 p = ma 118 p := by
  have hg2 := hG.2.1
  intro d
  induction d with
  | zero =>
    intro k hk ma h1 h2
    refine ⟨ma, ?_, fun _ _ _ => rfl, fun q hq => h2 q (by omega), fun _ _ => ⟨rfl, rfl⟩⟩
    rw [q112_12_eq, moI5]
    simp only [Option.bind_some]
    rw [hm, if_pos (by rw [iLE (by omega) (by omega)]; omega)]
  | succ d ih =>
    intro k hk ma h1 h2
    have hk8 : k < moLen 112 := by show k < 8; omega
    have hk8' : k < moLen 113 := hk8
    have hl : 8 * g + k < moLen 117 := by show 8 * g + k < 80; omega
    have hl' : 8 * g + k < moLen 118 := hl
    obtain ⟨ma', c1, c2, c3, c4⟩ := ih (k + 1) (by omega) (mup (mup ma 117 (8 * g + k) (nI (G.2.1 k))) 118 (8 * g + k) (nI (G.2.2 k))) (by rw [mup_ne (by decide), mup_ne (by decide), mup_ne (by decide), mup_ne (by decide)]; exact h1) (fun q hq => by
      rw [mup_ne (show 117 ≠ 118 by decide), mup_at, mup_at, mup_ne (show 118 ≠ 117 by decide)]
      by_cases e : q = k
      · subst e; exact ⟨pk_us, pk_us⟩
      · rw [pk_un (by omega), pk_un (by omega)]; exact h2 q (by omega))
    refine ⟨ma', ?_, fun a ha hb => by rw [c2 a ha hb, mup_ne hb, mup_ne ha], c3, fun p hp => ?_⟩
    · rw [q112_12_eq, moI5]
      simp only [Option.bind_some]
      rw [hm, if_neg (by rw [iLE (by omega) (by omega)]; omega), moR11]
      simp only [Option.bind_some, moR6]
      rw [moAld (by decide) hk8, (h1 k (by omega)).1]
      simp only [Option.bind_some]
      rw [l8, iMul, iAdd, moAst (by decide) hl]
      simp only [Option.bind_some, moR12, moR7]
      rw [moAld (by decide) hk8', mup_ne (by decide), (h1 k (by omega)).2]
      simp only [Option.bind_some]
      rw [moAst (by decide) hl']
      simp only [Option.bind_some]
      rw [l1, iAdd]
      exact c1
    · rw [(c4 p hp).1, (c4 p hp).2, mup_ne (show 117 ≠ 118 by decide), mup_at, mup_at, mup_ne (show 118 ≠ 117 by decide), pk_un (by omega), pk_un (by omega)]
      exact ⟨rfl, rfl⟩
theorem Mo_keep3 (hW : Wf S) (hG : Gd G) {g : Nat} (hg : g < 10) (h : MoAt S mi ml ma) (b1 : mi 5 = nI G.1) (b2 : ∀ q, q < G.1 → ma 112 q = nI (G.2.1 q)) (b3 : ∀ q, q < G.1 → ma 113 q = nI (G.2.2 q)) : ∃ ma', vI 112 107 [.int (nI g)] (MH x mi ml ma) = some (nI G.1, MH x mi ml ma') ∧ MoAt (sSetGr S g (some G)) mi ml ma' := by
  obtain ⟨ma', c1, c2, c3, c4⟩ := Mo_keepL (x := x) (ml := ml) hG hg b1 G.1 0 (by omega) (mup ma 116 g (nI G.1)) (fun q hq => by rw [mup_ne (by decide), mup_ne (by decide)]; exact ⟨b2 q hq, b3 q hq⟩) (fun q hq => by omega)
  refine ⟨ma', vI_of (ci := 8) rfl mo_O ?_, ?_⟩
  · rw [F112_eq, moR10]
    simp only [Option.bind_some]
    rw [moI5, b1]
    simp only [Option.bind_some]
    rw [moAst (by decide) (show g < moLen 116 from hg)]
    exact c1
  · refine h.setGr _ (fun s hs => ?_) (fun s i hs hne hi => ?_) (fun G' e i hi => ?_) ⟨?_, ?_, ?_⟩ (fun s G' hs e => (hW.2.2 s G' hs e).1.2.1) rfl
    · rw [c2 116 (by decide) (by decide), mup_at]
      by_cases e : s = g
      · subst e; rw [pk_us, if_pos rfl]
      · rw [pk_un e, if_neg e]
    · have := c4 (8 * s + i) (by omega)
      rw [mup_ne (by decide), mup_ne (by decide)] at this
      exact this
    · cases e; exact c3 i hi
    · rw [c2 108 (by decide) (by decide), mup_ne (by decide)]
    · rw [c2 109 (by decide) (by decide), mup_ne (by decide)]
    · rw [c2 110 (by decide) (by decide), mup_ne (by decide)]
theorem Mo_keep (hW : Wf S) (hG : Gd G) {g : Nat} (hg : g < 10) (h : MoAt S mi ml ma) (hC : Cur G mi ma) : ∃ ma', vI 112 107 [.int (nI g)] (MH x mi ml ma) = some (nI G.1, MH x mi ml ma') ∧ MoAt (sSetGr S g (some G)) mi ml ma' := Mo_keep3 hW hG hg h hC.1 hC.2.1 hC.2.2.1
end M5
