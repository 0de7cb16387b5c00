def OrV (f : Nat → mCell) (n v : Nat) : Prop := ∃ z sp NL SH TU, RS f (nI n) z sp NL SH TU ∧ NL 0 = lN v ∧ OrS (rch n v) z sp NL SH TU
def OrI (f : Nat → mCell) : Prop := GA f 28 ∧ NA f 34 ∧ ((∃ nn sp NL SH TU, RS f nn 0 sp NL SH TU) ∨ ∃ n v, IsNm n v ∧ OrV f n v)
theorem OrV.fx {f f' : Nat → mCell} {n v : Nat} (h : OrV f n v) (hf : ∀ b, 24 ≤ b → b ≤ 27 → f' b = f b) : OrV f' n v := by
  obtain ⟨z, sp, NL, SH, TU, h1, h2⟩ := h
  exact ⟨z, sp, NL, SH, TU, h1.fx hf, h2⟩
theorem OrI.fx {f f' : Nat → mCell} (h : OrI f) {lo hi : Nat} (hf : Fx lo hi f f') (hd : 36 < lo ∨ hi < 24) : OrI f' := by
  obtain ⟨h1, h2, h3⟩ := h
  have hb : ∀ b, 24 ≤ b → b ≤ 27 → f' b = f b := fun b b1 b2 => hf b (by omega)
  refine ⟨h1.fx hf (by omega), h2.fx hf (by omega), ?_⟩
  rcases h3 with ⟨nn, sp, NL, SH, TU, h3⟩ | ⟨n, v, h3, h4⟩
  · exact Or.inl ⟨nn, sp, NL, SH, TU, h3.fx hb⟩
  · exact Or.inr ⟨n, v, h3, h4.fx hb⟩
section C15
variable {f : Nat → mCell} {a : Nat} {nn z sp : Int32} {NL : Nat → Int64} {SH TU : Nat → Int32} {G : Gr}
theorem Cr_refill (hok : Ok G) (hv : gI (HF f) a 3 0 = some (nI G.1)) (hnv : NV f 34 G) (h : RS f nn z sp NL SH TU) (hga : GA f 28) : ∃ f', ((gI (HF f) a 3 0).bind fun x5 => (cPut (HF f) 24 5 5 (.int x5)).bind fun h6 => (gR h6 24 5 0).bind fun x7 => (gR h6 24 5 4).bind fun x8 => (gL h6 x8 4 3).bind fun x9 => (cAstL h6 x7 0 x9).bind fun h10 => (cPut h10 24 5 6 (.int 1)).bind fun h11 => (cPut h11 24 5 7 (.int 0)).bind fun h12 => q38_77 24 a 0 h12) = some (none, HF f') ∧ OrV f' G.1 (nmV G) ∧ GA f' 28 ∧ NA f' 34 ∧ Fx 24 36 f f' := by
  obtain ⟨f1, a1, a2, a3⟩ := h.put5 (nI G.1)
  obtain ⟨f2, b1, b2, b3⟩ := a2.stN (q := 0) (by omega) (lN (nmV G))
  obtain ⟨f3, c1, c2, c3⟩ := b2.put6 1
  obtain ⟨f4, d1, d2, d3⟩ := c2.put7 0
  have hx := ((a3.tr b3).tr c3).tr d3
  have hRI : RI G.1 0 (1, (fun _ => nmV G), (fun _ => 0), (fun _ => 0)) := by
    refine ⟨⟨show 1 ≤ 500 by decide, fun k _ => IsNm.of hok, fun p q hp hq _ => ?_⟩, show 0 ≤ 1 by decide, fun k hk => by omega⟩
    have hp : p < 1 := hp
    have hq : q < 1 := hq
    omega
  obtain ⟨f5, z5, s5, NL5, SH5, TU5, e1, e2, e3, e4, e5, e6, e7⟩ := Cr_go (n := G.1) hok.1.2.1 (v1 := a) 501 0 (1, (fun _ => nmV G), (fun _ => 0), (fun _ => 0)) f4 (vp_updL NL 0 (lN (nmV G))) SH TU (by omega) hRI (show 1 ≤ 1 by decide) d2 (by
    intro i hi
    have hi : i < 1 := hi
    have : i = 0 := by omega
    subst this
    exact if_pos rfl) (fun k hk => by omega) (hga.fx hx (by omega)) (hnv.na.fx hx (by omega))
  refine ⟨f5, ?_, ⟨z5, s5, NL5, SH5, TU5, e2, e3.trans (if_pos rfl), e4⟩, e5, e6, (hx.wi (by omega) (by omega)).tr e7⟩
  rw [hv]
  simp only [Option.bind_some]
  rw [a1]
  simp only [Option.bind_some]
  rw [a2.r0, a2.r4]
  simp only [Option.bind_some]
  rw [(hnv.fx a3 (by omega)).l3]
  simp only [Option.bind_some]
  rw [show cAstL (HF f1) 25 0 (lN (nmV G)) = some (HF f2) from b1]
  simp only [Option.bind_some]
  rw [c1]
  simp only [Option.bind_some]
  rw [d1]
  simp only [Option.bind_some]
  exact e1
theorem Cr_fill (hok : Ok G) (hd : 36 < a ∨ a + 5 < 24) (hv : GV f a G) (h : OrI f) : ∃ f', vV 38 24 [.ref a] (HF f) = some (HF f') ∧ OrV f' G.1 (nmV G) ∧ OrI f' ∧ Fx 24 36 f f' := by
  obtain ⟨hga, hna, h⟩ := h
  have g2 := hok.1.2.1
  have hlt := (IsNm.of hok).lt.2
  obtain ⟨f1, a1, a2, a3⟩ := Cn_look hok (by omega) hv hna
  have hv1 := hv.fx a3 (by omega)
  have hga1 := hga.fx a3 (by omega)
  have hb : ∀ b, 24 ≤ b → b ≤ 27 → f1 b = f b := fun b b1 b2 => a3 b (by omega)
  have hx1 : Fx 24 36 f f1 := a3.wi (by omega) (by omega)
  have fin : ∀ f', GA f' 28 → NA f' 34 → OrV f' G.1 (nmV G) → OrI f' := fun f' x y w => ⟨x, y, Or.inr ⟨G.1, nmV G, IsNm.of hok, w⟩⟩
  rcases h with ⟨nn, sp, NL, SH, TU, h⟩ | ⟨n, v, hnm, z, sp, NL, SH, TU, h, hN, hS⟩
  · have h1 := h.fx hb
    obtain ⟨f2, b1, b2, b3, b4, b5⟩ := Cr_refill hok hv1.nn a2 h1 hga1
    refine ⟨f2, vV_of (ci := 5) rfl h.O ?_, b2, fin f2 b3 b4 b2, hx1.tr b5⟩
    rw [F38_eq, h.r4]
    simp only [Option.bind_some]
    rw [a1]
    simp only [Option.bind_some]
    rw [h1.i5, hv1.nn]
    simp only [Option.bind_some]
    rw [hv1.nn] at b1
    simp only [Option.bind_some] at b1
    by_cases c0 : nn = nI G.1
    · rw [if_neg (fun z => z c0), h1.i6]
      simp only [Option.bind_some]
      rw [if_pos (by decide)]
      exact b1
    · rw [if_pos c0]
      exact b1
  · have h1 := h.fx hb
    have hl := hnm.lt
    obtain ⟨f2, b1, b2, b3, b4, b5⟩ := Cr_refill hok hv1.nn a2 h1 hga1
    rw [hv1.nn] at b1
    simp only [Option.bind_some] at b1
    have pre := F38_eq 24 a (HF f)
    rw [h.r4] at pre
    simp only [Option.bind_some] at pre
    rw [a1] at pre
    simp only [Option.bind_some] at pre
    rw [h1.i5, hv1.nn] at pre
    simp only [Option.bind_some, iEQ (show n < 2000000000 by omega) (show G.1 < 2000000000 by omega)] at pre
    by_cases c0 : n = G.1
    · rw [if_neg (fun z => z c0), h1.i6] at pre
      simp only [Option.bind_some] at pre
      have hz : ∃ k, 1 ≤ k ∧ k ≤ 500 ∧ z = nI k := by
        cases e : rch n v with
        | none => rw [e] at hS; exact hS.2
        | some r =>
          rw [e] at hS
          obtain ⟨r1, r2, r3⟩ := rch_RI hnm e
          exact ⟨r.1, r2, r1.1.1, hS.2.1⟩
      obtain ⟨k, k1, k2, k3⟩ := hz
      rw [if_neg (by rw [k3]; show ¬ nI k ≤ nI 0; rw [iLE (by omega) (by omega)]; omega), h1.r0, h1.r4] at pre
      simp only [Option.bind_some] at pre
      rw [show cAldL (HF f1) 25 0 = some (NL 0) from h1.ldN (q := 0) (by omega), hN] at pre
      simp only [Option.bind_some] at pre
      rw [a2.l3] at pre
      simp only [Option.bind_some] at pre
      have q2 : (lg_cmp (lN v) (lN (nmV G)) = 0) = (v = nmV G) := by
        rw [lg_cmp_eq]
        exact propext (pk_lEQ (by omega) (by omega))
      simp only [q2] at pre
      by_cases c1 : v = nmV G
      · rw [if_neg (fun z => z c1)] at pre
        subst c0
        subst c1
        have hO : OrV f1 G.1 (nmV G) := ⟨z, sp, NL, SH, TU, h1, hN, hS⟩
        exact ⟨f1, vV_of (ci := 5) rfl h.O pre, hO, fin f1 hga1 a2.na hO, hx1⟩
      · rw [if_pos c1] at pre
        exact ⟨f2, vV_of (ci := 5) rfl h.O (pre.trans b1), b2, fin f2 b3 b4 b2, hx1.tr b5⟩
    · rw [if_pos c0] at pre
      exact ⟨f2, vV_of (ci := 5) rfl h.O (pre.trans b1), b2, fin f2 b3 b4 b2, hx1.tr b5⟩
theorem Cr_rfL {sh : Nat → Nat} {k q : Nat} (hz : k ≤ 500) (hp : Prm k sh) (hq : q < k) (h : RS f nn (nI k) sp NL SH TU) (hs : ∀ i, i < k → SH i = nI (sh i)) : ∀ (d i : Nat), i + d = bd sh k q → (∀ j, j < i → q < it sh (j + 1) q) → q43_9 24 (nI q) (nI (it sh (i + 1) q)) (nI (i + 1)) (HF f) = some (some (.int (nI (rnd sh k q))), HF f) := by
  obtain ⟨b1, b2, b3⟩ := bd_ok hp hq
  intro d
  induction d with
  | zero =>
    intro i hi hu
    have : i = bd sh k q := by omega
    subst this
    have hr : rnd sh k q = bd sh k q + 1 := by
      unfold rnd
      rw [if_pos ((fsK_iff sh q _).2 hu)]
    rw [b2, hr, q43_9_eq, h.i6]
    simp only [Option.bind_some]
    by_cases c0 : nI k ≤ nI (bd sh k q + 1)
    · rw [if_pos c0, if_neg (fun z => z trivial)]
    · rw [if_neg c0, if_pos (Int32.le_refl _), if_neg (fun z => z trivial)]
  | succ d ih =>
    intro i hi hu
    have hlt := it_lt hp.1 hq (i + 1)
    have hne := b3 i (by omega)
    rw [q43_9_eq, h.i6]
    simp only [Option.bind_some]
    rw [if_neg (by rw [iLE (by omega) (by omega)]; omega)]
    simp only [iLE (show it sh (i + 1) q < 2000000000 by omega) (show q < 2000000000 by omega), iEQ (show it sh (i + 1) q < 2000000000 by omega) (show q < 2000000000 by omega)]
    by_cases c0 : it sh (i + 1) q ≤ q
    · rw [if_pos c0, if_pos hne]
      have hr : rnd sh k q = 0 := by
        unfold rnd
        refine if_neg fun z => ?_
        have := (fsK_iff sh q _).1 z i (by omega)
        omega
      rw [hr]; rfl
    · rw [if_neg c0, h.r1]
      simp only [Option.bind_some]
      rw [h.ldS (by omega), hs _ hlt]
      simp only [Option.bind_some]
      rw [show nI (i + 1) + 1 = nI (i + 1 + 1) from iAdd (i + 1) 1]
      exact ih (i + 1) (by omega) (fun j hj => by
        by_cases e : j = i
        · rw [e]; omega
        · exact hu j (by omega))
theorem Cr_rf {sh : Nat → Nat} {k q : Nat} (hz : k ≤ 500) (hp : Prm k sh) (hq : q < k) (h : RS f nn (nI k) sp NL SH TU) (hs : ∀ i, i < k → SH i = nI (sh i)) : vI 43 24 [.int (nI q)] (HF f) = some (nI (rnd sh k q), HF f) := by
  refine vI_of (ci := 5) rfl h.O ?_
  rw [F43_eq, h.r1]
  simp only [Option.bind_some]
  rw [h.ldS (by omega), hs q hq]
  simp only [Option.bind_some]
  exact Cr_rfL hz hp hq h hs (bd sh k q) 0 (by omega) (fun j hj => by omega)
theorem Cr_roL {r : Rs} (hz : r.1 ≤ 500) (hp : Prm r.1 r.2.2.1) (h : RS f nn (nI r.1) sp NL SH TU) (hs : ∀ i, i < r.1 → SH i = nI (r.2.2.1 i)) : ∀ (d k : Nat), k + d = r.1 → q41_4 24 (nI (cnt (rP r) k)) (nI k) (HF f) = some (some (.int (nI (cnt (rP r) r.1))), HF f) := by
  intro d
  induction d with
  | zero =>
    intro k hk
    have : k = r.1 := by omega
    subst this
    rw [q41_4_eq, h.i6]
    simp only [Option.bind_some]
    rw [if_pos (Int32.le_refl _)]
  | succ d ih =>
    intro k hk
    have hlt : k < r.1 := by omega
    have hle := rnd_le hp hlt
    have ih1 := ih (k + 1) (by omega)
    have ec : cnt (rP r) (k + 1) = cnt (rP r) k + (if rP r k = true then 1 else 0) := rfl
    rw [q41_4_eq, h.i6]
    simp only [Option.bind_some]
    rw [if_neg (by rw [iLE (by omega) (by omega)]; omega), Cr_rf hz hp hlt h hs]
    simp only [Option.bind_some]
    have t0 : (nI (rnd r.2.2.1 r.1 k) ≤ 0) = (rnd r.2.2.1 r.1 k ≤ 0) := iLE (b := 0) (by omega) (by omega)
    simp only [t0]
    rw [show nI k + 1 = nI (k + 1) from iAdd k 1]
    by_cases c0 : rnd r.2.2.1 r.1 k ≤ 0
    · rw [if_neg (show ¬ rP r k = true by unfold rP; rw [decide_eq_false (by omega)]; decide), Nat.add_zero (cnt (rP r) k)] at ec
      rw [if_pos c0, ← ec]
      exact ih1
    · rw [if_pos (show rP r k = true by unfold rP; rw [decide_eq_true (by omega)])] at ec
      rw [if_neg c0, show nI (cnt (rP r) k) + 1 = nI (cnt (rP r) (k + 1)) by rw [ec]; exact iAdd _ 1]
      exact ih1
theorem Cr_ro {r : Rs} (hz : r.1 ≤ 500) (hp : Prm r.1 r.2.2.1) (h : RS f nn (nI r.1) sp NL SH TU) (hs : ∀ i, i < r.1 → SH i = nI (r.2.2.1 i)) : vI 41 24 [] (HF f) = some (nI (cnt (rP r) r.1), HF f) := by
  refine vI_of (ci := 5) rfl h.O ?_
  rw [F41_eq]
  exact Cr_roL hz hp h hs r.1 0 (by omega)
def wid0 (r : Rs) (i : Int) : Int32 := match nth (rP r) r.1 i with
  | none => 0
  | some k => nI (rnd r.2.2.1 r.1 k)
theorem Cr_wdL {r : Rs} (hz : r.1 ≤ 500) (hp : Prm r.1 r.2.2.1) (h : RS f nn (nI r.1) sp NL SH TU) (hs : ∀ i, i < r.1 → SH i = nI (r.2.2.1 i)) {x : Int32} : ∀ (d k : Nat), k + d = r.1 → (∀ q, q < k → rP r q = true → (cnt (rP r) q : Int) ≠ x.toInt) → ∀ d4 : Option Value, q42_4 24 x (nI (cnt (rP r) k)) (nI k) d4 (HF f) = some (some (.int (wid0 r x.toInt)), HF f) := by
  intro d
  induction d with
  | zero =>
    intro k hk hu d4
    have : k = r.1 := by omega
    subst this
    rw [q42_4_eq, h.i6]
    simp only [Option.bind_some]
    unfold wid0
    rw [if_pos (Int32.le_refl _), nth_none hu]
  | succ d ih =>
    intro k hk hu d4
    have hlt : k < r.1 := by omega
    have hle := rnd_le hp hlt
    have hck := cnt_le (rP r) k
    have ih1 := ih (k + 1) (by omega)
    have ec : cnt (rP r) (k + 1) = cnt (rP r) k + (if rP r k = true then 1 else 0) := rfl
    rw [q42_4_eq, h.i6]
    simp only [Option.bind_some]
    rw [if_neg (by rw [iLE (by omega) (by omega)]; omega), Cr_rf hz hp hlt h hs]
    simp only [Option.bind_some]
    have t0 : (nI (rnd r.2.2.1 r.1 k) ≤ 0) = (rnd r.2.2.1 r.1 k ≤ 0) := iLE (b := 0) (by omega) (by omega)
    simp only [t0]
    rw [show nI k + 1 = nI (k + 1) from iAdd k 1]
    by_cases c0 : rnd r.2.2.1 r.1 k ≤ 0
    · have hP : ¬ rP r k = true := by unfold rP; rw [decide_eq_false (by omega)]; decide
      rw [if_neg hP, Nat.add_zero (cnt (rP r) k)] at ec
      rw [if_pos c0, ← ec]
      exact ih1 (fun q hq q1 => by
        by_cases e : q = k
        · rw [e] at q1; exact absurd q1 hP
        · exact hu q (by omega) q1) _
    · have hP : rP r k = true := by unfold rP; rw [decide_eq_true (by omega)]
      rw [if_pos hP] at ec
      rw [if_neg c0]
      have t1 : (nI (cnt (rP r) k) = x) = ((cnt (rP r) k : Int) = x.toInt) := by
        rw [i32eq, toInt_nI (by omega)]
      simp only [t1]
      by_cases c1 : (cnt (rP r) k : Int) = x.toInt
      · unfold wid0
        rw [if_neg (fun z => z c1), nth_some hlt hP c1]
      · rw [if_pos c1, show nI (cnt (rP r) k) + 1 = nI (cnt (rP r) (k + 1)) by rw [ec]; exact iAdd _ 1]
        exact ih1 (fun q hq q1 => by
          by_cases e : q = k
          · rw [e]; exact c1
          · exact hu q (by omega) q1) _
theorem Cr_wd {r : Rs} (hz : r.1 ≤ 500) (hp : Prm r.1 r.2.2.1) (h : RS f nn (nI r.1) sp NL SH TU) (hs : ∀ i, i < r.1 → SH i = nI (r.2.2.1 i)) (x : Int32) : vI 42 24 [.int x] (HF f) = some (wid0 r x.toInt, HF f) := by
  refine vI_of (ci := 5) rfl h.O ?_
  rw [F42_eq]
  exact Cr_wdL hz hp h hs r.1 0 (by omega) (fun q hq => by omega) none
end C15
