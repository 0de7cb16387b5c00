/-- the reference's numbering, as it stands in its arrays -/
def NumAt (n : Nat) (b : Bs) (ma : Nat → Nat → Int32) : Prop := (∀ s, s < n → ma 119 s = match b.2.1 s with
    | none => -9
    | some i => nI i) ∧ ∀ i, i < b.1 → ma 120 i = nI (b.2.2 i)
theorem nI_ne9 {i : Nat} (h : i < 2000000000) : ¬ nI i = -9 := by
  intro e
  have := nI_pos' (n := i) (by omega)
  rw [e] at this
  exact absurd this (by decide)
section M10
variable {x : Nat → mCell} {mi : Nat → Int32} {ml : Nat → Int64} {ma : Nat → Nat → Int32} {S : St} {n : Nat} {R U : Nat → Nat}
/-- one square is looked at -/
theorem NumAt.vis {b : Bs} {s : Nat} (hn8 : n ≤ 8) (hb : BI n b) (hs : s < n) (h : NumAt n b ma) (hv : b.2.1 s = none) : NumAt n (vis b s) (mup (mup ma 119 s (nI b.1)) 120 b.1 (nI s)) := by
  have e : CSquareGroundsLaw_law_r5734_d6814d.vis b s = (b.1 + 1, fu b.2.1 s (some b.1), fu b.2.2 b.1 s) := by
    unfold CSquareGroundsLaw_law_r5734_d6814d.vis
    rw [hv]
  rw [e]
  refine ⟨fun t ht => ?_, fun i hi => ?_⟩
  · rw [mup_ne (by decide), mup_at]
    show _ = match fu b.2.1 s (some b.1) t with
      | none => -9
      | some i => nI i
    by_cases c : t = s
    · subst c; rw [pk_us, fu_at]
    · rw [pk_un c, fu_ne c]; exact h.1 t ht
  · have hi : i < b.1 + 1 := hi
    rw [mup_at, mup_ne (by decide)]
    show _ = nI (fu b.2.2 b.1 s i)
    by_cases c : i = b.1
    · subst c; rw [pk_us, fu_at]
    · rw [pk_un c, fu_ne c]; exact h.2 i (by omega)
theorem Mo_num2 (hn8 : n ≤ 8) (hm : mi 5 = nI n) (hR : Map n R) (hU : Map n U) {v1 : Int32} {s : Nat} (hs : s < n) : ∀ (d k : Nat), k + d = n + 1 → ∀ (ma : Nat → Nat → Int32) (d4 d5 : Option Value), (∀ q, q < n → ma 112 q = nI (R q)) → (∀ q, q < n → ma 113 q = nI (U q)) → NumAt n (bfs R U s k) ma → k ≤ (bfs R U s k).1 → ∃ ma', q114_42 107 v1 (nI (bfs R U s k).1) (nI k) d4 d5 (MH x mi ml ma) = some (some (.int (nI (bfs R U s n).1)), MH x mi ml ma') ∧ Sm [119, 120] ma ma' ∧ NumAt n (bfs R U s n) ma' := by
  intro d
  induction d with
  | zero =>
    intro k hk ma d4 d5 h1 h2 h3 h4
    have := (bfs_BI hR hU hs k).le
    omega
  | succ d ih =>
    intro k hk ma d4 d5 h1 h2 h3 h4
    have hb := bfs_BI hR hU hs k
    have hle := hb.le
    rw [q114_42_eq]
    by_cases hstop : (bfs R U s k).1 ≤ k
    · have e := bfs_stop hstop (n - k)
      rw [show k + (n - k) = n by omega] at e
      rw [if_pos (by rw [iLE (by omega) (by omega)]; exact hstop), e]
      exact ⟨ma, rfl, Sm.rf, h3⟩
    · rw [if_neg (by rw [iLE (by omega) (by omega)]; exact hstop)]
      have hk' : k < (bfs R U s k).1 := by omega
      have es : bfs R U s (k + 1) = bst R U (bfs R U s k) k := by
        show (if k < (bfs R U s k).1 then _ else _) = _
        rw [if_pos hk']
      have hl := (hb.2 k hk').1
      have hodk := h3.2 k hk'
      generalize hb0 : bfs R U s k = b at *
      have hk8 : k < moLen 120 := by show k < 8; omega
      have hRl := hR _ hl
      have hUl := hU _ hl
      -- right
      have st1 : ∃ ma1 d5', (∀ Z, (q114_50 107 v1 (nI (vis b (R (b.2.2 k))).1) (nI k) (nI 1) d5' (MH x mi ml ma1) = Z → q114_50 107 v1 (nI b.1) (nI k) (nI 0) d5 (MH x mi ml ma) = Z)) ∧ Sm [119, 120] ma ma1 ∧ NumAt n (vis b (R (b.2.2 k))) ma1 := by
        have eq0 := q114_50_eq 107 v1 (nI b.1) (nI k) (nI 0) d5 (MH x mi ml ma)
        rw [if_neg (by decide), if_neg (fun z => z rfl), moR6] at eq0
        simp only [Option.bind_some, moR14] at eq0
        rw [moAld (by decide) hk8, hodk] at eq0
        simp only [Option.bind_some] at eq0
        rw [moAld (by decide) (show _ < moLen 112 by show _ < 8; omega), h1 _ hl] at eq0
        simp only [Option.bind_some, moR13] at eq0
        rw [moAld (by decide) (show _ < moLen 119 by show _ < 8; omega), h3.1 _ hRl] at eq0
        simp only [Option.bind_some] at eq0
        cases hv : b.2.1 (R (b.2.2 k)) with
        | some i =>
          have hi := (hb.1 _ i hv).1
          have ev : vis b (R (b.2.2 k)) = b := by unfold vis; rw [hv]
          rw [hv] at eq0
          simp only at eq0
          rw [if_pos (nI_ne9 (by omega))] at eq0
          refine ⟨ma, some (.int (nI (R (b.2.2 k)))), fun Z hZ => ?_, Sm.rf, by rw [ev]; exact h3⟩
          rw [ev] at hZ
          rw [eq0]
          exact hZ
        | none =>
          have hnew := hb.new hRl hv
          have ev : (vis b (R (b.2.2 k))).1 = b.1 + 1 := by unfold vis; rw [hv]
          rw [hv] at eq0
          simp only at eq0
          rw [if_neg (by simp)] at eq0
          rw [moAst (by decide) (show _ < moLen 119 by show _ < 8; omega)] at eq0
          simp only [Option.bind_some, moR14] at eq0
          rw [moAst (by decide) (show b.1 < moLen 120 by show _ < 8; omega)] at eq0
          simp only [Option.bind_some] at eq0
          refine ⟨_, some (.int (nI (R (b.2.2 k)))), fun Z hZ => ?_, (Sm.up (by decide)).tr (Sm.up (by decide)), h3.vis hn8 hb hRl hv⟩
          rw [ev] at hZ
          rw [eq0, l1, iAdd, iAdd]
          exact hZ
      obtain ⟨ma1, d5', s1, s2, s3⟩ := st1
      have hb1 := hb.vis hRl
      have hk1 : k < (vis b (R (b.2.2 k))).1 := Nat.lt_of_lt_of_le hk' (vis_le _ _)
      have hod1 : (vis b (R (b.2.2 k))).2.2 k = b.2.2 k := vis_od hk'
      have e112 : ma1 112 = ma 112 := s2 112 (by decide)
      have e113 : ma1 113 = ma 113 := s2 113 (by decide)
      have hle1 := hb1.le
      have st2 : ∃ ma2 d5'', (∀ Z, (q114_50 107 v1 (nI (bst R U b k).1) (nI k) (nI 2) d5'' (MH x mi ml ma2) = Z → q114_50 107 v1 (nI (vis b (R (b.2.2 k))).1) (nI k) (nI 1) d5' (MH x mi ml ma1) = Z)) ∧ Sm [119, 120] ma1 ma2 ∧ NumAt n (bst R U b k) ma2 := by
        have eq0 := q114_50_eq 107 v1 (nI (vis b (R (b.2.2 k))).1) (nI k) (nI 1) d5' (MH x mi ml ma1)
        rw [if_neg (by decide), if_pos (by decide), moR7] at eq0
        simp only [Option.bind_some, moR14] at eq0
        rw [moAld (by decide) hk8, s3.2 k hk1, hod1] at eq0
        simp only [Option.bind_some] at eq0
        rw [moAld (by decide) (show _ < moLen 113 by show _ < 8; omega), e113, h2 _ hl] at eq0
        simp only [Option.bind_some, moR13] at eq0
        rw [moAld (by decide) (show _ < moLen 119 by show _ < 8; omega), s3.1 _ hUl] at eq0
        simp only [Option.bind_some] at eq0
        unfold bst
        generalize vis b (R (b.2.2 k)) = b1 at *
        cases hv : b1.2.1 (U (b.2.2 k)) with
        | some i =>
          have hi := (hb1.1 _ i hv).1
          have ev : vis b1 (U (b.2.2 k)) = b1 := by unfold vis; rw [hv]
          rw [hv] at eq0
          simp only at eq0
          rw [if_pos (nI_ne9 (by omega))] at eq0
          refine ⟨ma1, some (.int (nI (U (b.2.2 k)))), fun Z hZ => ?_, Sm.rf, by rw [ev]; exact s3⟩
          rw [ev] at hZ
          rw [eq0]
          exact hZ
        | none =>
          have hnew := hb1.new hUl hv
          have ev : (vis b1 (U (b.2.2 k))).1 = b1.1 + 1 := by unfold vis; rw [hv]
          rw [hv] at eq0
          simp only at eq0
          rw [if_neg (by simp)] at eq0
          rw [moAst (by decide) (show _ < moLen 119 by show _ < 8; omega)] at eq0
          simp only [Option.bind_some, moR14] at eq0
          rw [moAst (by decide) (show b1.1 < moLen 120 by show _ < 8; omega)] at eq0
          simp only [Option.bind_some] at eq0
          refine ⟨_, some (.int (nI (U (b.2.2 k)))), fun Z hZ => ?_, (Sm.up (by decide)).tr (Sm.up (by decide)), s3.vis hn8 hb1 hUl hv⟩
          rw [ev] at hZ
          rw [eq0]
          have z1 : nI b1.1 + 1 = nI (b1.1 + 1) := iAdd _ 1
          have z2 : nI 1 + 1 = nI 2 := rfl
          rw [z1, z2]
          exact hZ
      obtain ⟨ma2, d5'', t1, t2, t3⟩ := st2
      have e112' : ma2 112 = ma 112 := (t2 112 (by decide)).trans e112
      have e113' : ma2 113 = ma 113 := (t2 113 (by decide)).trans e113
      obtain ⟨ma3, c1, c2, c3⟩ := ih (k + 1) (by omega) ma2 (some (.int (nI 2))) d5'' (by rw [e112']; exact h1) (by rw [e113']; exact h2) (by rw [es]; exact t3) (by rw [es]; exact Nat.lt_of_lt_of_le hk' (Nat.le_trans (vis_le _ _) (vis_le _ _)))
      refine ⟨ma3, ?_, (s2.tr t2).tr c2, c3⟩
      refine s1 _ (t1 _ ?_)
      rw [q114_50_eq, if_pos (by decide)]
      rw [es] at c1
      have z1 : nI k + 1 = nI (k + 1) := iAdd _ 1
      rw [z1]
      exact c1
theorem Mo_num1 (hn8 : n ≤ 8) (hm : mi 5 = nI n) (hR : Map n R) (hU : Map n U) {s : Nat} (hs : s < n) : ∀ (d k : Nat), k + d = n → ∀ (ma : Nat → Nat → Int32), (∀ q, q < n → ma 112 q = nI (R q)) → (∀ q, q < n → ma 113 q = nI (U q)) → (∀ q, q < k → ma 119 q = -9) → ∃ ma', q114_2 107 (nI s) (nI k) (MH x mi ml ma) = some (some (.int (nI (bfs R U s n).1)), MH x mi ml ma') ∧ Sm [119, 120] ma ma' ∧ NumAt n (bfs R U s n) ma' := by
  intro d
  induction d with
  | zero =>
    intro k hk ma h1 h2 h3
    have hn : NumAt n (bfs R U s 0) (mup (mup ma 119 s 0) 120 0 (nI s)) := by
      refine ⟨fun t ht => ?_, fun i hi => ?_⟩
      · rw [mup_ne (by decide), mup_at]
        show _ = match fu (fun _ => none) s (some 0) t with
          | none => -9
          | some i => nI i
        by_cases c : t = s
        · subst c; rw [pk_us, fu_at]; rfl
        · rw [pk_un c, fu_ne c]; exact h3 t (by omega)
      · have hi : i < 1 := hi
        have : i = 0 := by omega
        subst this
        rw [mup_at, mup_ne (by decide), pk_us]
        show nI s = nI (fu (fun _ => 0) 0 s 0)
        rw [fu_at]
    obtain ⟨ma', c1, c2, c3⟩ := Mo_num2 (x := x) (ml := ml) (v1 := nI s) hn8 hm hR hU hs (n + 1) 0 (by omega) (mup (mup ma 119 s 0) 120 0 (nI s)) none none (by rw [mup_ne (by decide), mup_ne (by decide)]; exact h1) (by rw [mup_ne (by decide), mup_ne (by decide)]; exact h2) hn (Nat.zero_le _)
    refine ⟨ma', ?_, ((Sm.up (by decide)).tr (Sm.up (by decide))).tr c2, c3⟩
    rw [q114_2_eq, moI5]
    simp only [Option.bind_some]
    rw [hm, if_pos (by rw [iLE (by omega) (by omega)]; omega), moR13]
    simp only [Option.bind_some]
    rw [moAst (by decide) (show s < moLen 119 by show _ < 8; omega)]
    simp only [Option.bind_some, moR14]
    rw [show (cAstI (MH x mi ml (mup ma 119 s 0)) 120 0 (nI s)) = cAstI (MH x mi ml (mup ma 119 s 0)) 120 (nI 0) (nI s) from rfl, moAst (by decide) (show 0 < moLen 120 by decide)]
    exact c1
  | succ d ih =>
    intro k hk ma h1 h2 h3
    obtain ⟨ma', c1, c2, c3⟩ := ih (k + 1) (by omega) (mup ma 119 k (-9)) (by rw [mup_ne (by decide)]; exact h1) (by rw [mup_ne (by decide)]; exact h2) (fun q hq => by
      rw [mup_at]
      by_cases c : q = k
      · subst c; exact pk_us
      · rw [pk_un c]; exact h3 q (by omega))
    refine ⟨ma', ?_, (Sm.up (by decide)).tr c2, c3⟩
    rw [q114_2_eq, moI5]
    simp only [Option.bind_some]
    rw [hm, if_neg (by rw [iLE (by omega) (by omega)]; omega), moR13]
    simp only [Option.bind_some]
    rw [moAst (by decide) (show k < moLen 119 by show _ < 8; omega)]
    simp only [Option.bind_some]
    rw [l1, iAdd]
    exact c1
theorem Mo_numbered (hn8 : n ≤ 8) (hm : mi 5 = nI n) (hR : Map n R) (hU : Map n U) {s : Nat} (hs : s < n) (h1 : ∀ q, q < n → ma 112 q = nI (R q)) (h2 : ∀ q, q < n → ma 113 q = nI (U q)) : ∃ ma', vI 114 107 [.int (nI s)] (MH x mi ml ma) = some (nI (bfs R U s n).1, MH x mi ml ma') ∧ Sm [119, 120] ma ma' ∧ NumAt n (bfs R U s n) ma' := by
  obtain ⟨ma', c1, c2, c3⟩ := Mo_num1 (x := x) (ml := ml) hn8 hm hR hU hs n 0 (by omega) ma h1 h2 (fun q hq => by omega)
  exact ⟨ma', vI_of (ci := 8) rfl mo_O (by rw [F114_eq]; exact c1), c2, c3⟩
end M10
