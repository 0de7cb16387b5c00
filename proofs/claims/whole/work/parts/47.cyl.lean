/-! cylinders: labels -/
def smK (G : Gr) (q : Nat) : Nat → Bool
  | 0 => decide (bn G q = 0)
  | k + 1 => smK G q k && decide (bn G (it G.2.1 (k + 1) q) = 0)
def smo (G : Gr) (q : Nat) : Bool := smK G q (bd G.2.1 G.1 q)
def Const (G : Gr) (c : Nat → Nat) : Prop := ∀ q, q < G.1 → c (G.2.1 q) = c q ∧ (smo G q = true → c (G.2.2 q) = c q)
def Jn (G : Gr) (lb : Nat → Nat) : Prop := (∀ q, q < G.1 → lb q ≤ q) ∧ ∀ c, Const G c → ∀ q, q < G.1 → c (lb q) = c q
def Lab (G : Gr) (lb : Nat → Nat) : Prop := Jn G lb ∧ Const G lb
theorem lab_uniq {G : Gr} {l m : Nat → Nat} (h1 : Lab G l) (h2 : Lab G m) : ∀ q, q < G.1 → l q = m q := by
  intro q hq
  have a1 := h2.1.2 l h1.2 q hq
  have a2 := h1.1.2 m h2.2 q hq
  have b1 := h1.1.1 (m q) (Nat.lt_of_le_of_lt (h2.1.1 q hq) hq)
  have b2 := h2.1.1 (l q) (Nat.lt_of_le_of_lt (h1.1.1 q hq) hq)
  omega
def jn (lb : Nat → Nat) (a b : Nat) : Nat → Nat := fu (fu lb a (min (lb a) (lb b))) b (min (lb a) (lb b))
theorem jn_le (lb : Nat → Nat) (a b q : Nat) : jn lb a b q ≤ lb q := by
  unfold jn
  by_cases h1 : q = b
  · subst h1; rw [fu_at]; omega
  · rw [fu_ne h1]
    by_cases h2 : q = a
    · subst h2; rw [fu_at]; omega
    · rw [fu_ne h2]; exact Nat.le_refl _
theorem jn_same {lb : Nat → Nat} {a b : Nat} (h : lb a = lb b) : jn lb a b = lb := by
  funext q
  unfold jn
  by_cases h1 : q = b
  · subst h1; rw [fu_at]; omega
  · rw [fu_ne h1]
    by_cases h2 : q = a
    · subst h2; rw [fu_at]; omega
    · rw [fu_ne h2]
def sumT (f : Nat → Nat) : Nat → Nat
  | 0 => 0
  | k + 1 => sumT f k + f k
theorem sumT_le {f g : Nat → Nat} (h : ∀ q, f q ≤ g q) : ∀ n, sumT f n ≤ sumT g n
  | 0 => Nat.le_refl _
  | n + 1 => by
    have := sumT_le h n
    have := h n
    show sumT f n + f n ≤ sumT g n + g n
    omega
theorem sumT_lt {f g : Nat → Nat} (h : ∀ q, f q ≤ g q) {a : Nat} (ha : f a < g a) : ∀ n, a < n → sumT f n < sumT g n
  | 0, hn => by omega
  | n + 1, hn => by
    show sumT f n + f n < sumT g n + g n
    by_cases e : a = n
    · subst e
      have := sumT_le h a
      omega
    · have := sumT_lt h ha n (by omega)
      have := h n
      omega
theorem jn_sum {lb : Nat → Nat} {a b n : Nat} (ha : a < n) (hb : b < n) (hne : lb a ≠ lb b) : sumT (jn lb a b) n < sumT lb n := by
  have hab : a ≠ b := fun z => hne (by rw [z])
  by_cases c : lb a < lb b
  · refine sumT_lt (jn_le lb a b) (a := b) ?_ n hb
    unfold jn
    rw [fu_at]
    omega
  · refine sumT_lt (jn_le lb a b) (a := a) ?_ n ha
    unfold jn
    rw [fu_ne hab, fu_at]
    omega
theorem jn_J {G : Gr} {lb : Nat → Nat} {a b : Nat} (h : Jn G lb) (ha : a < G.1) (hb : b < G.1) (he : ∀ c, Const G c → c b = c a) : Jn G (jn lb a b) := by
  refine ⟨fun q hq => Nat.le_trans (jn_le lb a b q) (h.1 q hq), fun c hc q hq => ?_⟩
  have e1 := h.2 c hc a ha
  have e2 := h.2 c hc b hb
  have e3 := he c hc
  have em : c (min (lb a) (lb b)) = c a := by
    rcases Nat.le_total (lb a) (lb b) with z | z
    · rw [Nat.min_eq_left z]; exact e1
    · rw [Nat.min_eq_right z, e2, e3]
  unfold jn
  by_cases h1 : q = b
  · subst h1; rw [fu_at, em, e3]
  · rw [fu_ne h1]
    by_cases h2 : q = a
    · subst h2; rw [fu_at, em]
    · rw [fu_ne h2]; exact h.2 c hc q hq
/-- one square in a pass -/
def pst (G : Gr) (s : (Nat → Nat) × Bool) (q : Nat) : (Nat → Nat) × Bool :=
  if smo G q = true then (jn (jn s.1 q (G.2.1 q)) q (G.2.2 q), (s.2 || decide (s.1 q ≠ s.1 (G.2.1 q))) || decide (jn s.1 q (G.2.1 q) q ≠ jn s.1 q (G.2.1 q) (G.2.2 q))) else (jn s.1 q (G.2.1 q), s.2 || decide (s.1 q ≠ s.1 (G.2.1 q)))
def pass (G : Gr) (lb : Nat → Nat) : Nat → (Nat → Nat) × Bool
  | 0 => (lb, false)
  | k + 1 => pst G (pass G lb k) k
theorem pst_J {G : Gr} (hG : Gd G) {s : (Nat → Nat) × Bool} {q : Nat} (hq : q < G.1) (h : Jn G s.1) : Jn G (pst G s q).1 := by
  have h1 := jn_J h hq (hG.2.2.1.1 q hq) (fun c hc => (hc q hq).1)
  unfold pst
  split
  · rename_i hs
    exact jn_J h1 hq (hG.2.2.2.1 q hq) (fun c hc => (hc q hq).2 hs)
  · exact h1
theorem pst_go {G : Gr} (hG : Gd G) {s : (Nat → Nat) × Bool} {q : Nat} (hq : q < G.1) : ((pst G s q).2 = false → s.2 = false ∧ (pst G s q).1 = s.1 ∧ s.1 (G.2.1 q) = s.1 q ∧ (smo G q = true → s.1 (G.2.2 q) = s.1 q)) ∧ ((pst G s q).2 = true → s.2 = true ∨ sumT (pst G s q).1 G.1 < sumT s.1 G.1) ∧ sumT (pst G s q).1 G.1 ≤ sumT s.1 G.1 := by
  have hR := hG.2.2.1.1 q hq
  have hU := hG.2.2.2.1 q hq
  have l1' := sumT_le (jn_le s.1 q (G.2.1 q)) G.1
  have l2' := sumT_le (jn_le (jn s.1 q (G.2.1 q)) q (G.2.2 q)) G.1
  unfold pst
  by_cases hs : smo G q = true
  · rw [if_pos hs]
    refine ⟨fun h => ?_, fun h => ?_, by dsimp only; omega⟩
    · simp only [Bool.or_eq_false_iff, decide_eq_false_iff_not, ne_eq, Decidable.not_not] at h
      obtain ⟨⟨h1, h2⟩, h3⟩ := h
      have e1 := jn_same h2
      rw [e1] at h3
      have e2 := jn_same h3
      exact ⟨h1, by dsimp only; rw [e1, e2], h2.symm, fun _ => h3.symm⟩
    · simp only [Bool.or_eq_true, decide_eq_true_eq] at h
      dsimp only
      rcases h with (h | h) | h
      · exact Or.inl h
      · have := jn_sum hq hR h
        exact Or.inr (by omega)
      · have := jn_sum hq hU h
        exact Or.inr (by omega)
  · rw [if_neg hs]
    refine ⟨fun h => ?_, fun h => ?_, by dsimp only; omega⟩
    · simp only [Bool.or_eq_false_iff, decide_eq_false_iff_not, ne_eq, Decidable.not_not] at h
      exact ⟨h.1, jn_same h.2, h.2.symm, fun z => absurd z hs⟩
    · simp only [Bool.or_eq_true, decide_eq_true_eq] at h
      dsimp only
      rcases h with h | h
      · exact Or.inl h
      · exact Or.inr (jn_sum hq hR h)
theorem pass_J {G : Gr} (hG : Gd G) {lb : Nat → Nat} (h : Jn G lb) : ∀ k, k ≤ G.1 → Jn G (pass G lb k).1
  | 0, _ => h
  | k + 1, hk => pst_J hG (by omega) (pass_J hG h k (by omega))
theorem pass_go {G : Gr} (hG : Gd G) {lb : Nat → Nat} : ∀ k, k ≤ G.1 → ((pass G lb k).2 = false → (pass G lb k).1 = lb ∧ ∀ q, q < k → lb (G.2.1 q) = lb q ∧ (smo G q = true → lb (G.2.2 q) = lb q)) ∧ ((pass G lb k).2 = true → sumT (pass G lb k).1 G.1 < sumT lb G.1) ∧ sumT (pass G lb k).1 G.1 ≤ sumT lb G.1
  | 0, _ => ⟨fun _ => ⟨rfl, fun q hq => by omega⟩, (fun h => by cases h), Nat.le_refl _⟩
  | k + 1, hk => by
    obtain ⟨i1, i2, i3⟩ := pass_go hG (lb := lb) k (by omega)
    obtain ⟨p1, p2, p3⟩ := pst_go hG (s := pass G lb k) (show k < G.1 by omega)
    refine ⟨fun h => ?_, fun h => ?_, Nat.le_trans p3 i3⟩
    · obtain ⟨a1, a2, a3, a4⟩ := p1 h
      obtain ⟨b1, b2⟩ := i1 a1
      rw [b1] at a3 a4
      refine ⟨a2.trans b1, fun q hq => ?_⟩
      by_cases e : q = k
      · subst e; exact ⟨a3, a4⟩
      · exact b2 q (by omega)
    · rcases p2 h with z | z
      · exact Nat.lt_of_le_of_lt p3 (i2 z)
      · exact Nat.lt_of_lt_of_le z i3
def cnt (P : Nat → Bool) : Nat → Nat
  | 0 => 0
  | k + 1 => cnt P k + (if P k = true then 1 else 0)
theorem cnt_le (P : Nat → Bool) : ∀ k, cnt P k ≤ k
  | 0 => Nat.le_refl _
  | k + 1 => by
    have := cnt_le P k
    show cnt P k + _ ≤ k + 1
    split <;> omega
theorem cnt_congr {P Q : Nat → Bool} : ∀ n, (∀ q, q < n → P q = Q q) → cnt P n = cnt Q n
  | 0, _ => rfl
  | n + 1, h => by
    show cnt P n + _ = cnt Q n + _
    rw [cnt_congr n (fun q hq => h q (by omega)), h n (by omega)]
section M16
variable {x : Nat → mCell} {mi : Nat → Int32} {ml : Nat → Int64} {ma : Nat → Nat → Int32} {S : St} {G : Gr}
/-- labels in the array -/
def LbAt (n : Nat) (lb : Nat → Nat) (ma : Nat → Nat → Int32) : Prop := ∀ q, q < n → lb q < 8 ∧ ma 125 q = nI (lb q)
theorem LbAt.jn {n : Nat} {lb : Nat → Nat} {a b : Nat} (h : LbAt n lb ma) (ha : a < n) (hb : b < n) : LbAt n (jn lb a b) (mup (mup ma 125 a (nI (min (lb a) (lb b)))) 125 b (nI (min (lb a) (lb b)))) := by
  intro q hq
  have hle := jn_le lb a b q
  have h1 := h q hq
  refine ⟨by omega, ?_⟩
  rw [mup_at, mup_at]
  unfold CSquareGroundsLaw_law_r5734_d6814d.jn
  by_cases c : q = b
  · subst c; rw [pk_us, fu_at]
  · rw [pk_un c, fu_ne c]
    by_cases c2 : q = a
    · subst c2; rw [pk_us, fu_at]
    · rw [pk_un c2, fu_ne c2]; exact h1.2
theorem Mo_joins {n : Nat} {lb : Nat → Nat} {a b : Nat} (h8 : n ≤ 8) (h : LbAt n lb ma) (ha : a < n) (hb : b < n) : ∃ ma', vI 145 107 [.int (nI a), .int (nI b)] (MH x mi ml ma) = some (b2i (decide (lb a ≠ lb b)), MH x mi ml ma') ∧ Sm [125] ma ma' ∧ LbAt n (jn lb a b) ma' := by
  obtain ⟨a1, a2⟩ := h a ha
  obtain ⟨b1, b2⟩ := h b hb
  have la : a < moLen 125 := by show _ < 8; omega
  have lb' : b < moLen 125 := by show _ < 8; omega
  refine ⟨_, vI_of (ci := 8) rfl mo_O ?_, (Sm.up (by decide)).tr (Sm.up (by decide)), h.jn ha hb⟩
  have e1 : (nI (lb b) ≤ nI (lb a)) = (lb b ≤ lb a) := iLE (by omega) (by omega)
  have e2 : (nI (lb a) = nI (lb b)) = (lb a = lb b) := iEQ (by omega) (by omega)
  rw [F145_eq]
  simp only [moR20, Option.bind_some, moAld (show 108 ≤ 125 ∧ 125 < 132 by decide) la, moAld (show 108 ≤ 125 ∧ 125 < 132 by decide) lb', moAst (show 108 ≤ 125 ∧ 125 < 132 by decide) la, moAst (show 108 ≤ 125 ∧ 125 < 132 by decide) lb', a2, b2, e1, e2, nz0, nz1, if_true]
  by_cases c : lb b ≤ lb a
  · rw [if_pos c, Nat.min_eq_right c]
    by_cases c2 : lb a = lb b
    · rw [if_pos c2, decide_eq_false (fun z => z c2)]; rfl
    · rw [if_neg c2, decide_eq_true c2]; rfl
  · rw [if_neg c, Nat.min_eq_left (by omega)]
    by_cases c2 : lb a = lb b
    · omega
    · rw [if_neg c2, decide_eq_true c2]; rfl
theorem Mo_smoothL (hG : Gd G) (hC : Cur G mi ma) {q : Nat} (hq : q < G.1) : ∀ (d k : Nat), k + d = bd G.2.1 G.1 q → q146_21 107 (nI q) (b2i (smK G q k)) (nI (it G.2.1 (k + 1) q)) (MH x mi ml ma) = some (some (.int (b2i (smo G q))), MH x mi ml ma) := by
  have hA := hG.2.2.1
  have g2 := hG.2.1
  obtain ⟨b1, b2, b3⟩ := bd_ok hA hq
  intro d
  induction d with
  | zero =>
    intro k hk
    have ek : k = bd G.2.1 G.1 q := by omega
    have e : it G.2.1 (k + 1) q = q := by rw [ek]; exact b2
    rw [q146_21_eq, e, if_pos rfl, if_pos (nzb _), ek]
    rfl
  | succ d ih =>
    intro k hk
    have hlt := it_lt hA.1 hq (k + 1)
    have hne := b3 k (by omega)
    have hn := ih (k + 1) (by omega)
    have hs : smK G q (k + 1) = (smK G q k && decide (bn G (it G.2.1 (k + 1) q) = 0)) := rfl
    rw [hs] at hn
    have hb := bn_lt hG hlt
    have l112 : it G.2.1 (k + 1) q < moLen 112 := by show _ < 8; omega
    rw [q146_21_eq, if_neg (by rw [iEQ (by omega) (by omega)]; exact hne)]
    cases hf : smK G q k with
    | false =>
      rw [hf] at hn
      rw [if_pos (show b2i false = 0 from rfl), moR6]
      simp only [Option.bind_some]
      rw [moAld (by decide) l112, hC.2.1 _ hlt]
      exact hn
    | true =>
      rw [hf] at hn
      have q0 : (nI (bn G (it G.2.1 (k + 1) q)) = 0) = (bn G (it G.2.1 (k + 1) q) = 0) := iEQ (b := 0) (by omega) (by omega)
      rw [if_neg (show ¬ b2i true = 0 by decide), Mo_bendAt hG hC hlt]
      simp only [Option.bind_some, q0, moR6, moAld (show 108 ≤ 112 ∧ 112 < 132 by decide) l112, hC.2.1 _ hlt]
      by_cases c : bn G (it G.2.1 (k + 1) q) = 0
      · rw [if_neg (fun z => z c)]
        rw [decide_eq_true c] at hn
        exact hn
      · rw [if_pos c]
        rw [decide_eq_false c] at hn
        exact hn
theorem Mo_isSmooth (hG : Gd G) (hC : Cur G mi ma) {q : Nat} (hq : q < G.1) : vI 146 107 [.int (nI q)] (MH x mi ml ma) = some (b2i (smo G q), MH x mi ml ma) := by
  have g2 := hG.2.1
  have hb := bn_lt hG hq
  have q0 : (nI (bn G q) = 0) = (bn G q = 0) := iEQ (b := 0) (by omega) (by omega)
  have l112 : q < moLen 112 := by show _ < 8; omega
  have hn := Mo_smoothL (x := x) (ml := ml) hG hC hq (bd G.2.1 G.1 q) 0 (by omega)
  have hs : smK G q 0 = decide (bn G q = 0) := rfl
  rw [hs] at hn
  refine vI_of (ci := 8) rfl mo_O ?_
  rw [F146_eq, Mo_bendAt hG hC hq]
  simp only [Option.bind_some, q0, moR6, moAld (show 108 ≤ 112 ∧ 112 < 132 by decide) l112, hC.2.1 _ hq]
  by_cases c : bn G q = 0
  · rw [if_neg (fun z => z c)]
    rw [decide_eq_true c] at hn
    exact hn
  · rw [if_pos c]
    rw [decide_eq_false c] at hn
    exact hn
theorem Mo_passL (hG : Gd G) {lb : Nat → Nat} (hJ : Jn G lb) : ∀ (d k : Nat), k + d = G.1 → ∀ (ma : Nat → Nat → Int32), Cur G mi ma → LbAt G.1 (pass G lb k).1 ma → ∃ ma', q144_33 107 (b2i (pass G lb k).2) (nI k) (MH x mi ml ma) = q144_25 107 (b2i (pass G lb G.1).2) (some (.int (nI G.1))) (MH x mi ml ma') ∧ Sm [125] ma ma' ∧ LbAt G.1 (pass G lb G.1).1 ma' := by
  have g2 := hG.2.1
  intro d
  induction d with
  | zero =>
    intro k hk ma hC hL
    have ek : k = G.1 := by omega
    subst ek
    refine ⟨ma, ?_, Sm.rf, hL⟩
    rw [q144_33_eq, moI5]
    simp only [Option.bind_some]
    rw [hC.1, if_pos (by rw [iLE (by omega) (by omega)]; omega)]
  | succ d ih =>
    intro k hk ma hC hL
    have hkn : k < G.1 := by omega
    have hR := hG.2.2.1.1 k hkn
    have hU := hG.2.2.2.1 k hkn
    have l112 : k < moLen 112 := by show _ < 8; omega
    have l113 : k < moLen 113 := l112
    obtain ⟨ma1, a1, a2, a3⟩ := Mo_joins (x := x) (mi := mi) (ml := ml) g2 hL hkn hR
    have hC1 : Cur G mi ma1 := hC.keep rfl (a2 _ (by decide)) (a2 _ (by decide)) (a2 _ (by decide)) (a2 _ (by decide))
    have hp : pass G lb (k + 1) = pst G (pass G lb k) k := rfl
    have z1 : nI k + 1 = nI (k + 1) := iAdd k 1
    have pre := q144_33_eq 107 (b2i (pass G lb k).2) (nI k) (MH x mi ml ma)
    rw [moI5] at pre
    simp only [Option.bind_some] at pre
    rw [hC.1, if_neg (by rw [iLE (by omega) (by omega)]; omega), moR6] at pre
    simp only [Option.bind_some] at pre
    rw [moAld (by decide) l112, hC.2.1 k hkn] at pre
    simp only [Option.bind_some] at pre
    rw [a1] at pre
    simp only [Option.bind_some, Mo_isSmooth hG hC1 hkn, b2i_0, moR7, moAld (show 108 ≤ 113 ∧ 113 < 132 by decide) l113, hC1.2.2.1 k hkn, z1] at pre
    have i10 : ¬ (1 : Int32) = 0 := by decide
    simp only [if_neg i10, if_true] at pre
    generalize hps : pass G lb k = st at *
    by_cases hs : smo G k = true
    · obtain ⟨ma2, c1, c2, c3⟩ := Mo_joins (x := x) (mi := mi) (ml := ml) g2 a3 hkn hU
      have ep : pst G st k = (jn (jn st.1 k (G.2.1 k)) k (G.2.2 k), (st.2 || decide (st.1 k ≠ st.1 (G.2.1 k))) || decide (jn st.1 k (G.2.1 k) k ≠ jn st.1 k (G.2.1 k) (G.2.2 k))) := by
        unfold pst
        rw [if_pos hs]
      have hC2 : Cur G mi ma2 := hC1.keep rfl (c2 _ (by decide)) (c2 _ (by decide)) (c2 _ (by decide)) (c2 _ (by decide))
      obtain ⟨ma3, t1, t2, t3⟩ := ih (k + 1) (by omega) ma2 hC2 (by rw [hp, ep]; exact c3)
      refine ⟨ma3, ?_, (a2.tr c2).tr t2, t3⟩
      rw [pre]
      rw [hp, ep] at t1
      simp only [hs, c1, Option.bind_some, b2i_0, Bool.true_eq_false, if_false]
      cases h1 : decide (st.1 k ≠ st.1 (G.2.1 k)) <;> cases h2 : decide (jn st.1 k (G.2.1 k) k ≠ jn st.1 k (G.2.1 k) (G.2.2 k)) <;> cases h3 : st.2 <;> simp only [h1, h2, h3] at t1 <;> simp <;> exact t1
    · have hs' : smo G k = false := by simpa using hs
      have ep : pst G st k = (jn st.1 k (G.2.1 k), st.2 || decide (st.1 k ≠ st.1 (G.2.1 k))) := by
        unfold pst
        rw [if_neg hs]
      obtain ⟨ma3, t1, t2, t3⟩ := ih (k + 1) (by omega) ma1 hC1 (by rw [hp, ep]; exact a3)
      refine ⟨ma3, ?_, a2.tr t2, t3⟩
      rw [pre]
      rw [hp, ep] at t1
      simp only [hs', if_true]
      cases h1 : decide (st.1 k ≠ st.1 (G.2.1 k)) <;> cases h3 : st.2 <;> simp only [h1, h3] at t1 <;> simp <;> exact t1
theorem Mo_cntL (g2 : G.1 ≤ 8) (hm : mi 5 = nI G.1) {lb : Nat → Nat} (hL : LbAt G.1 lb ma) (v1 : Int32) : ∀ (d k : Nat), k + d = G.1 → q144_110 107 v1 (nI (cnt (fun q => decide (lb q = q)) k)) (nI k) (MH x mi ml ma) = some (some (.int (nI (cnt (fun q => decide (lb q = q)) G.1))), MH x mi ml ma) := by
  intro d
  induction d with
  | zero =>
    intro k hk
    have ek : k = G.1 := by omega
    subst ek
    rw [q144_110_eq, moI5]
    simp only [Option.bind_some]
    rw [hm, if_pos (by rw [iLE (by omega) (by omega)]; omega)]
  | succ d ih =>
    intro k hk
    obtain ⟨b1, b2⟩ := hL k (by omega)
    have hn := ih (k + 1) (by omega)
    have hc : cnt (fun q => decide (lb q = q)) (k + 1) = cnt (fun q => decide (lb q = q)) k + (if decide (lb k = k) = true then 1 else 0) := rfl
    rw [hc] at hn
    have q0 : (nI (lb k) = nI k) = (lb k = k) := iEQ (by omega) (by omega)
    have z1 : nI k + 1 = nI (k + 1) := iAdd k 1
    rw [q144_110_eq, moI5]
    simp only [Option.bind_some]
    rw [hm, if_neg (by rw [iLE (by omega) (by omega)]; omega), moR20]
    simp only [Option.bind_some]
    rw [moAld (by decide) (show k < moLen 125 by show _ < 8; omega), b2]
    simp only [Option.bind_some, q0, z1]
    by_cases c : lb k = k
    · rw [if_neg (fun z => z c)]
      rw [if_pos (decide_eq_true c)] at hn
      have z2 : nI (cnt (fun q => decide (lb q = q)) k) + 1 = nI (cnt (fun q => decide (lb q = q)) k + 1) := iAdd _ 1
      rw [z2]
      exact hn
    · rw [if_pos c]
      rw [if_neg (by simpa using c)] at hn
      have z2 : nI (cnt (fun q => decide (lb q = q)) k) + 0 = nI (cnt (fun q => decide (lb q = q)) k + 0) := iAdd _ 0
      rw [z2]
      exact hn
theorem Mo_cylW (hG : Gd G) : ∀ (m : Nat) (lb : Nat → Nat) (ma : Nat → Nat → Int32) (d2 : Option Value), sumT lb G.1 ≤ m → Jn G lb → Cur G mi ma → LbAt G.1 lb ma → ∃ ma' lb', q144_25 107 1 d2 (MH x mi ml ma) = some (some (.int (nI (cnt (fun q => decide (lb' q = q)) G.1))), MH x mi ml ma') ∧ Sm [125] ma ma' ∧ LbAt G.1 lb' ma' ∧ Lab G lb' := by
  have g2 := hG.2.1
  intro m
  induction m using Nat.strongRecOn with
  | ind m ih =>
    intro lb ma d2 hm hJ hC hL
    obtain ⟨ma1, a1, a2, a3⟩ := Mo_passL (x := x) (mi := mi) (ml := ml) hG hJ G.1 0 (by omega) ma hC hL
    have hC1 : Cur G mi ma1 := hC.keep rfl (a2 _ (by decide)) (a2 _ (by decide)) (a2 _ (by decide)) (a2 _ (by decide))
    obtain ⟨p1, p2, p3⟩ := pass_go hG (lb := lb) G.1 (Nat.le_refl _)
    have start : q144_25 107 1 d2 (MH x mi ml ma) = q144_25 107 (b2i (pass G lb G.1).2) (some (.int (nI G.1))) (MH x mi ml ma1) := by
      rw [q144_25_eq, if_neg (by decide)]
      exact a1
    cases hb : (pass G lb G.1).2 with
    | false =>
      obtain ⟨e1, e2⟩ := p1 hb
      rw [hb] at start
      rw [e1] at a3
      refine ⟨ma1, lb, ?_, a2, a3, hJ, fun q hq => e2 q hq⟩
      rw [start, q144_25_eq, if_pos (show b2i false = 0 from rfl)]
      exact Mo_cntL g2 hC1.1 a3 _ G.1 0 (by omega)
    | true =>
      have hlt := p2 hb
      rw [hb] at start
      obtain ⟨ma2, lb2, c1, c2, c3, c4⟩ := ih (sumT (pass G lb G.1).1 G.1) (by omega) (pass G lb G.1).1 ma1 (some (.int (nI G.1))) (Nat.le_refl _) (pass_J hG hJ G.1 (Nat.le_refl _)) hC1 a3
      exact ⟨ma2, lb2, start.trans c1, a2.tr c2, c3, c4⟩
theorem Mo_cylI (hG : Gd G) : ∀ (d k : Nat), k + d = G.1 → ∀ ma : Nat → Nat → Int32, Cur G mi ma → (∀ q, q < k → ma 125 q = nI q) → ∃ ma' lb', q144_2 107 (nI k) (MH x mi ml ma) = some (some (.int (nI (cnt (fun q => decide (lb' q = q)) G.1))), MH x mi ml ma') ∧ Sm [125] ma ma' ∧ LbAt G.1 lb' ma' ∧ Lab G lb' := by
  have g2 := hG.2.1
  intro d
  induction d with
  | zero =>
    intro k hk ma hC h1
    obtain ⟨ma', lb', c1, c2, c3, c4⟩ := Mo_cylW (x := x) (mi := mi) (ml := ml) hG (sumT (fun q => q) G.1) (fun q => q) ma none (Nat.le_refl _) ⟨fun q _ => Nat.le_refl _, fun c _ q _ => rfl⟩ hC (fun q hq => ⟨by show q < 8; omega, h1 q (by omega)⟩)
    refine ⟨ma', lb', ?_, c2, c3, c4⟩
    rw [q144_2_eq, moI5]
    simp only [Option.bind_some]
    rw [hC.1, if_pos (by rw [iLE (by omega) (by omega)]; omega)]
    exact c1
  | succ d ih =>
    intro k hk ma hC h1
    obtain ⟨ma', lb', c1, c2, c3, c4⟩ := ih (k + 1) (by omega) (mup ma 125 k (nI k)) (hC.keep rfl (mup_ne (by decide)) (mup_ne (by decide)) (mup_ne (by decide)) (mup_ne (by decide))) (fun q hq => by
      rw [mup_at]
      by_cases e : q = k
      · subst e; exact pk_us
      · rw [pk_un e]; exact h1 q (by omega))
    refine ⟨ma', lb', ?_, (Sm.up (by decide)).tr c2, c3, c4⟩
    rw [q144_2_eq, moI5]
    simp only [Option.bind_some]
    rw [hC.1, if_neg (by rw [iLE (by omega) (by omega)]; omega), moR20]
    simp only [Option.bind_some]
    rw [moAst (by decide) (show k < moLen 125 by show _ < 8; omega)]
    simp only [Option.bind_some]
    rw [l1, iAdd]
    exact c1
end M16
