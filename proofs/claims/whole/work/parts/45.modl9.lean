section M14
variable {x : Nat → mCell} {mi : Nat → Int32} {ml : Nat → Int64} {ma : Nat → Nat → Int32} {S : St} {G : Gr}
theorem dgt_lo {s k : Nat} (hk : k < G.1) : dgt G s k = ((bfs G.2.1 G.2.2 s G.1).2.1 (G.2.1 ((bfs G.2.1 G.2.2 s G.1).2.2 k))).getD 0 := by
  unfold dgt
  rw [if_pos hk]
theorem dgt_hi {s k : Nat} : dgt G s (G.1 + k) = ((bfs G.2.1 G.2.2 s G.1).2.1 (G.2.2 ((bfs G.2.1 G.2.2 s G.1).2.2 k))).getD 0 := by
  unfold dgt
  rw [if_neg (by omega), show G.1 + k - G.1 = k by omega]
/-- the row is copied to the name -/
theorem Mo_nmCopy (hm : mi 5 = nI G.1) (h8 : G.1 ≤ 8) {f : Nat → Nat} {from_ : Nat} {v2 v3 : Int32} (hv3 : ¬ 0 < v3) : ∀ (d k : Nat), k + d = 2 * G.1 → ∀ ma : Nat → Nat → Int32, DgAt (2 * G.1) f (ma 122) → (∀ i, i < k → ma 121 i = nI (f i)) → ∃ ma' d2 d3 d4, q123_111 107 (nI from_) v2 v3 (nI k) (MH x mi ml ma) = q123_7 107 (nI (from_ + 1)) d2 d3 d4 (MH x (iup mi 17 (mi 17 + 1)) ml ma') ∧ Sm [121] ma ma' ∧ DgAt (2 * G.1) f (ma' 121) := by
  intro d
  induction d with
  | zero =>
    intro k hk ma hf h1
    refine ⟨ma, some (.int v2), some (.int v3), some (.int (nI k)), ?_, Sm.rf, fun i hi => ⟨(hf i hi).1, h1 i (by omega)⟩⟩
    rw [q123_111_eq, moI5]
    simp only [Option.bind_some]
    rw [hm, l2, iMul, if_pos (by rw [iLE (by omega) (by omega)]; omega), moI17]
    simp only [Option.bind_some]
    rw [if_neg hv3, moPutI (Or.inr (Or.inr (Or.inl rfl)))]
    simp only [Option.bind_some]
    have z1 : nI from_ + 1 = nI (from_ + 1) := iAdd from_ 1
    rw [z1]
  | succ d ih =>
    intro k hk ma hf h1
    obtain ⟨f1, f2⟩ := hf k (by omega)
    obtain ⟨ma', d2, d3, d4, c1, c2, c3⟩ := ih (k + 1) (by omega) (mup ma 121 k (nI (f k))) (by rw [mup_ne (by decide)]; exact hf) (fun i hi => by
      rw [mup_at]
      by_cases e : i = k
      · subst e; exact pk_us
      · rw [pk_un e]; exact h1 i (by omega))
    refine ⟨ma', d2, d3, d4, ?_, (Sm.up (by decide)).tr c2, c3⟩
    rw [q123_111_eq, moI5]
    simp only [Option.bind_some]
    rw [hm, l2, iMul, if_neg (by rw [iLE (by omega) (by omega)]; omega), moR15]
    simp only [Option.bind_some, moR16]
    rw [moAld (by decide) (show k < moLen 122 by show _ < 16; omega), f2]
    simp only [Option.bind_some]
    rw [moAst (by decide) (show k < moLen 121 by show _ < 16; omega)]
    simp only [Option.bind_some]
    rw [l1, iAdd]
    exact c1
/-- a row is written, then compared -/
theorem Mo_nmRow (hok : Ok G) {s : Nat} (hs : s < G.1) {v2 : Int32} {d4 : Option Value} : ∀ (d k : Nat), k + d = G.1 → ∀ (mi : Nat → Int32) (ma : Nat → Nat → Int32), Cur G mi ma → NumAt G.1 (bfs G.2.1 G.2.2 s G.1) ma → mi 17 = nI (nmA G s).2 → (1 ≤ s → ∃ g, DgAt (2 * G.1) g (ma 121) ∧ pkv g (2 * G.1) = (nmA G s).1) → (∀ i, i < k → ma 122 i = nI (dgt G s i) ∧ ma 122 (G.1 + i) = nI (dgt G s (G.1 + i))) → ∃ mi' ma' d2 d3 d4', q123_23 107 (nI s) v2 (nI k) d4 (MH x mi ml ma) = q123_7 107 (nI (s + 1)) d2 d3 d4' (MH x mi' ml ma') ∧ Sm [121, 122] ma ma' ∧ (∀ j, j ≠ 17 → mi' j = mi j) ∧ mi' 17 = nI (nmA G (s + 1)).2 ∧ ∃ g, DgAt (2 * G.1) g (ma' 121) ∧ pkv g (2 * G.1) = (nmA G (s + 1)).1 := by
  have h8 := hok.1.2.1
  intro d
  induction d with
  | zero =>
    intro k hk mi ma hC hN h17 hnm hrow
    have hm := hC.1
    have hdg : DgAt (2 * G.1) (dgt G s) (ma 122) := fun i hi => by
      have hl := dgt_lt hok hs hi
      refine ⟨by omega, ?_⟩
      by_cases c : i < G.1
      · exact (hrow i (by omega)).1
      · have := (hrow (i - G.1) (by omega)).2
        rw [show G.1 + (i - G.1) = i by omega] at this
        exact this
    have hA : nmA G (s + 1) = if rowv G s < (nmA G s).1 then (rowv G s, 1) else if rowv G s = (nmA G s).1 then ((nmA G s).1, (nmA G s).2 + 1) else nmA G s := rfl
    have pre := q123_23_eq 107 (nI s) v2 (nI k) d4 (MH x mi ml ma)
    rw [moI5] at pre
    simp only [Option.bind_some] at pre
    rw [hm, if_pos (by rw [iLE (by omega) (by omega)]; omega)] at pre
    have sless : ∀ (r : Int32), r < 0 → rowv G s < (nmA G s).1 → ∃ mi' ma' d2 d3 d4', ((cPut (MH x mi ml ma) 107 8 17 (.int 0)).bind fun h6 => q123_111 107 (nI s) v2 r 0 h6) = q123_7 107 (nI (s + 1)) d2 d3 d4' (MH x mi' ml ma') ∧ Sm [121, 122] ma ma' ∧ (∀ j, j ≠ 17 → mi' j = mi j) ∧ mi' 17 = nI (nmA G (s + 1)).2 ∧ ∃ g, DgAt (2 * G.1) g (ma' 121) ∧ pkv g (2 * G.1) = (nmA G (s + 1)).1 := by
      intro r hr hlt
      obtain ⟨ma', d2, d3, d4', c1, c2, c3⟩ := Mo_nmCopy (x := x) (mi := iup mi 17 0) (ml := ml) (G := G) (f := dgt G s) (from_ := s) (v2 := v2) (v3 := r) ((iup_ne (by decide)).trans hm) h8 (by rw [Int32.lt_iff_toInt_lt] at hr ⊢; have : (0 : Int32).toInt = 0 := rfl; omega) (2 * G.1) 0 (by omega) ma hdg (fun i hi => by omega)
      refine ⟨iup (iup mi 17 0) 17 (iup mi 17 0 17 + 1), ma', d2, d3, d4', ?_, c2.sub (by decide), fun j hj => ?_, ?_, dgt G s, c3, ?_⟩
      · rw [moPutI (Or.inr (Or.inr (Or.inl rfl)))]
        simp only [Option.bind_some]
        exact c1
      · rw [iup_ne hj, iup_ne hj]
      · rw [iup_at, iup_at, hA, if_pos hlt]; rfl
      · rw [hA, if_pos hlt]; rfl
    by_cases hs0 : s = 0
    · subst hs0
      rw [if_neg (fun z => z rfl), if_neg (by decide)] at pre
      rw [pre]
      refine sless (-1) (by decide) ?_
      exact rowv_lt hok hok.1.1
    · have q0 : (nI s = 0) = (s = 0) := iEQ (b := 0) (by omega) (by omega)
      rw [if_pos (by rw [q0]; exact hs0)] at pre
      obtain ⟨g, g1, g2⟩ := hnm (by omega)
      obtain ⟨r, r1, r2⟩ := Mo_against (x := x) (ml := ml) hm h8 hdg g1
      rw [r1] at pre
      simp only [Option.bind_some] at pre
      rw [g2] at r2
      rcases r2 with ⟨c1, c2⟩ | ⟨c1, c2⟩ | ⟨c1, c2⟩
      · rw [if_neg (nle_of_lt c1)] at pre
        rw [pre]
        exact sless r c1 c2
      · subst c1
        rw [if_pos (by decide), moI17] at pre
        simp only [Option.bind_some] at pre
        rw [if_neg (by decide), moPutI (Or.inr (Or.inr (Or.inl rfl)))] at pre
        simp only [Option.bind_some] at pre
        have z1 : nI s + 1 = nI (s + 1) := iAdd s 1
        rw [z1] at pre
        refine ⟨_, ma, _, _, _, pre, Sm.rf, fun j hj => iup_ne hj, ?_, g, g1, ?_⟩
        · have e2 : rowv G s = (nmA G s).1 := c2
          rw [iup_at, h17, hA, if_neg (by omega), if_pos e2]
          exact iAdd _ 1
        · have e2 : rowv G s = (nmA G s).1 := c2
          rw [g2, hA, if_neg (by omega), if_pos e2]
      · have c0 : (0 : Int32) ≤ r := by
          rw [Int32.lt_iff_toInt_lt] at c1
          rw [Int32.le_iff_toInt_le]
          omega
        rw [if_pos c0, moI17] at pre
        simp only [Option.bind_some] at pre
        rw [if_pos c1, moPutI (Or.inr (Or.inr (Or.inl rfl)))] at pre
        simp only [Option.bind_some] at pre
        have z1 : nI s + 1 = nI (s + 1) := iAdd s 1
        rw [z1] at pre
        have e2 : (nmA G s).1 < rowv G s := c2
        refine ⟨_, ma, _, _, _, pre, Sm.rf, fun j hj => iup_ne hj, ?_, g, g1, ?_⟩
        · rw [iup_at, h17, hA, if_neg (by omega), if_neg (by omega)]
          exact iAdd _ 0
        · rw [g2, hA, if_neg (by omega), if_neg (by omega)]
  | succ d ih =>
    intro k hk mi ma hC hN h17 hnm hrow
    have hm := hC.1
    have hf := bfs_full hok.1.2.2.1.1 hok.1.2.2.2.1 hs hok.2
    have hkn : k < G.1 := by omega
    have ho := od_lt hok hs hkn
    have hr := hok.1.2.2.1.1 _ ho
    have hu := hok.1.2.2.2.1 _ ho
    obtain ⟨i1, hi1, e1⟩ := dgt_num hok hs hr
    obtain ⟨i2, hi2, e2⟩ := dgt_num hok hs hu
    have n1 := hN.1 _ hr
    have n2 := hN.1 _ hu
    rw [e1] at n1
    rw [e2] at n2
    have no := hN.2 k (by omega)
    have dl : dgt G s k = i1 := by rw [dgt_lo hkn, e1]; rfl
    have dh : dgt G s (G.1 + k) = i2 := by rw [dgt_hi, e2]; rfl
    obtain ⟨c1, c2, c3, c4, c5⟩ := hC
    have kk : ∀ a, a ≠ 122 → mup (mup ma 122 k (nI i1)) 122 (G.1 + k) (nI i2) a = ma a := fun a ha => by rw [mup_ne ha, mup_ne ha]
    obtain ⟨mi', ma', d2, d3, d4', t1, t2, t3⟩ := ih (k + 1) (by omega) mi (mup (mup ma 122 k (nI i1)) 122 (G.1 + k) (nI i2)) (Cur.keep ⟨c1, c2, c3, c4, c5⟩ rfl (kk _ (by decide)) (kk _ (by decide)) (kk _ (by decide)) (kk _ (by decide))) (by
      unfold NumAt
      rw [kk 119 (by decide), kk 120 (by decide)]
      exact hN) h17 (by rw [kk 121 (by decide)]; exact hnm) (fun i hi => by
        rw [mup_at, mup_at]
        by_cases e : i = k
        · subst e
          rw [pk_un (by omega), pk_us, pk_us, dl, dh]
          exact ⟨rfl, rfl⟩
        · rw [pk_un (by omega), pk_un e, pk_un (by omega), pk_un (by omega)]
          exact hrow i (by omega))
    refine ⟨mi', ma', d2, d3, d4', ?_, ((Sm.up (by decide)).tr (Sm.up (by decide))).tr t2, t3⟩
    rw [q123_23_eq, moI5]
    simp only [Option.bind_some]
    rw [hm, if_neg (by rw [iLE (by omega) (by omega)]; omega), moR16]
    simp only [Option.bind_some, moR13, moR6, moR14]
    rw [moAld (by decide) (show k < moLen 120 by show _ < 8; omega), no]
    simp only [Option.bind_some]
    rw [moAld (by decide) (show _ < moLen 112 by show _ < 8; omega), c2 _ ho]
    simp only [Option.bind_some]
    rw [moAld (by decide) (show _ < moLen 119 by show _ < 8; omega), n1]
    simp only [Option.bind_some]
    rw [moAst (by decide) (show k < moLen 122 by show _ < 16; omega)]
    simp only [Option.bind_some, moR16, moI5, moR13, moR7, moR14]
    rw [moAld (by decide) (show k < moLen 120 by show _ < 8; omega), mup_ne (by decide), no]
    simp only [Option.bind_some]
    rw [moAld (by decide) (show _ < moLen 113 by show _ < 8; omega), mup_ne (by decide), c3 _ ho]
    simp only [Option.bind_some]
    rw [moAld (by decide) (show _ < moLen 119 by show _ < 8; omega), mup_ne (by decide), n2]
    simp only [Option.bind_some]
    rw [hm, iAdd, moAst (by decide) (show G.1 + k < moLen 122 by show _ < 16; omega)]
    simp only [Option.bind_some]
    rw [l1, iAdd]
    exact t1
/-- the name stands in the array, the selves in the field -/
def NmAt (G : Gr) (mi : Nat → Int32) (ma : Nat → Nat → Int32) : Prop := mi 17 = nI (nmS G) ∧ ∃ g, DgAt (2 * G.1) g (ma 121) ∧ pkv g (2 * G.1) = nmV G
theorem Mo_nmL (hok : Ok G) : ∀ (d s : Nat), s + d = G.1 → ∀ (mi : Nat → Int32) (ma : Nat → Nat → Int32) (d2 d3 d4 : Option Value), Cur G mi ma → mi 17 = nI (nmA G s).2 → (1 ≤ s → ∃ g, DgAt (2 * G.1) g (ma 121) ∧ pkv g (2 * G.1) = (nmA G s).1) → ∃ mi' ma', q123_7 107 (nI s) d2 d3 d4 (MH x mi ml ma) = some (none, MH x mi' ml ma') ∧ Sm [119, 120, 121, 122] ma ma' ∧ (∀ j, j ≠ 17 → mi' j = mi j) ∧ NmAt G mi' ma' := by
  have h8 := hok.1.2.1
  have h1 := hok.1.1
  intro d
  induction d with
  | zero =>
    intro s hs mi ma d2 d3 d4 hC h17 hnm
    have es : s = G.1 := by omega
    refine ⟨mi, ma, ?_, Sm.rf, fun _ _ => rfl, by rw [h17, es]; rfl, ?_⟩
    · rw [q123_7_eq, moI5]
      simp only [Option.bind_some]
      rw [hC.1, if_pos (by rw [iLE (by omega) (by omega)]; omega)]
    · obtain ⟨g, g1, g2⟩ := hnm (by omega)
      exact ⟨g, g1, by rw [g2, es]; rfl⟩
  | succ d ih =>
    intro s hs mi ma d2 d3 d4 hC h17 hnm
    have hsn : s < G.1 := by omega
    obtain ⟨ma1, a1, a2, a3⟩ := Mo_numbered (x := x) (ml := ml) h8 hC.1 hok.1.2.2.1.1 hok.1.2.2.2.1 hsn hC.2.1 hC.2.2.1
    have hC1 : Cur G mi ma1 := hC.keep rfl (a2 _ (by decide)) (a2 _ (by decide)) (a2 _ (by decide)) (a2 _ (by decide))
    obtain ⟨mi2, ma2, e2, e3, e4, b1, b2, b3, b4, b5⟩ := Mo_nmRow (x := x) (ml := ml) hok hsn (v2 := nI (bfs G.2.1 G.2.2 s G.1).1) (d4 := d4) G.1 0 (by omega) mi ma1 hC1 a3 h17 (fun hs1 => by rw [a2 121 (by decide)]; exact hnm hs1) (fun i hi => by omega)
    obtain ⟨mi3, ma3, c1, c2, c3, c4⟩ := ih (s + 1) (by omega) mi2 ma2 e2 e3 e4 (hC1.keep (b3 5 (by decide)) (b2 _ (by decide)) (b2 _ (by decide)) (b2 _ (by decide)) (b2 _ (by decide))) b4 (fun _ => b5)
    refine ⟨mi3, ma3, ?_, ((a2.sub (by decide)).tr (b2.sub (by decide))).tr c2, fun j hj => (c3 j hj).trans (b3 j hj), c4⟩
    rw [q123_7_eq, moI5]
    simp only [Option.bind_some]
    rw [hC.1, if_neg (by rw [iLE (by omega) (by omega)]; omega), a1]
    simp only [Option.bind_some]
    have b1' : q123_23 107 (nI s) (nI (bfs G.2.1 G.2.2 s G.1).1) 0 d4 (MH x mi ml ma1) = _ := b1
    rw [b1']
    exact c1
theorem Mo_setName (hok : Ok G) (hC : Cur G mi ma) : ∃ mi' ma', vV 123 107 [] (MH x mi ml ma) = some (MH x mi' ml ma') ∧ Sm [119, 120, 121, 122] ma ma' ∧ (∀ j, j ≠ 17 → mi' j = mi j) ∧ NmAt G mi' ma' := by
  obtain ⟨mi', ma', c1, c2, c3, c4⟩ := Mo_nmL (x := x) (ml := ml) hok G.1 0 (by omega) (iup mi 17 0) ma none none none (hC.keep (iup_ne (by decide)) rfl rfl rfl rfl) iup_at (fun h => by omega)
  refine ⟨mi', ma', vV_of (ci := 8) rfl mo_O ?_, c2, fun j hj => (c3 j hj).trans (iup_ne hj), c4⟩
  rw [F123_eq, moPutI (Or.inr (Or.inr (Or.inl rfl)))]
  exact c1
end M14
