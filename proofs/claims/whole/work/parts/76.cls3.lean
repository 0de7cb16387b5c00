def RcV (f : Nat → mCell) (n : Nat) (r : Rs) : Prop := ∃ NL SH TU, RS f (nI n) (nI r.1) 0 NL SH TU ∧ (∀ i, i < r.1 → NL i = lN (r.2.1 i)) ∧ ∀ i, i < r.1 → SH i = nI (r.2.2.1 i) ∧ TU i = nI (r.2.2.2 i)
theorem RcV.fx {f f' : Nat → mCell} {n : Nat} {r : Rs} (h : RcV f n r) (hf : ∀ b, 24 ≤ b → b ≤ 27 → f' b = f b) : RcV f' n r := by
  obtain ⟨NL, SH, TU, h1, h2⟩ := h
  exact ⟨NL, SH, TU, h1.fx hf, h2⟩
section C20
variable {S : St} {f : Nat → mCell}
theorem Cl_ref (h : ClsAt S f) (g : Int32) : (isIn 10 g = false ∧ vI 93 2 [.int g] (HF f) = some (-1, HF f)) ∨ ∃ k, k < 10 ∧ g = nI k ∧ ((sGr S k = none ∧ ∃ f', vI 93 2 [.int g] (HF f) = some (-3, HF f') ∧ ClsAt (sMeet S 1) f' ∧ Fx 2 106 f f') ∨ ∃ G f', sGr S k = some G ∧ Ok G ∧ GV f' (47 + 6 * k) G ∧ ClsAt S f' ∧ Fx 24 36 f f' ∧ ((rch G.1 (nmV G) = none ∧ vI 93 2 [.int g] (HF f) = some (-6, HF f')) ∨ ∃ r, rch G.1 (nmV G) = some r ∧ vI 93 2 [.int g] (HF f) = some (0, HF f') ∧ RcV f' G.1 r)) := by
  have pre := F93_eq 2 g (HF f)
  rw [Cs_groundNo] at pre
  simp only [Option.bind_some, b2i_0] at pre
  by_cases hb : isIn 10 g = false
  · rw [if_neg (fun z => z hb)] at pre
    exact Or.inl ⟨hb, vI_of (ci := 7) rfl h.O pre⟩
  · rw [if_pos hb] at pre
    obtain ⟨k, hk, rfl, hck⟩ := idx10 hb
    refine Or.inr ⟨k, hk, rfl, ?_⟩
    rw [h.r1] at pre
    simp only [Option.bind_some] at pre
    rw [h.gr hk] at pre
    simp only [Option.bind_some] at pre
    have hg := h.go hk
    cases e : sGr S k with
    | none =>
      rw [e] at hg
      obtain ⟨ρ, C, hg⟩ := hg
      rw [Cg_missN hg] at pre
      simp only [Option.bind_some] at pre
      rw [if_neg (by decide)] at pre
      obtain ⟨f1, a1, a2, a3⟩ := Cl_found h (k := 1) (by decide)
      rw [show vI 92 2 [.int 1] (HF f) = _ from a1] at pre
      exact Or.inl ⟨rfl, f1, vI_of (ci := 7) rfl h.O pre, a2, a3⟩
    | some G =>
      rw [e] at hg
      obtain ⟨hv, hok⟩ := hg
      rw [Cg_missV hok.1.2.1 hv] at pre
      simp only [Option.bind_some] at pre
      rw [if_pos trivial, h.r6, h.r1] at pre
      simp only [Option.bind_some] at pre
      rw [h.gr hk] at pre
      simp only [Option.bind_some] at pre
      obtain ⟨f1, a1, a2, a3, a4⟩ := Cr_fill hok (by omega) hv h.oi
      have h1 := h.orb a4 a3
      rw [a1] at pre
      simp only [Option.bind_some] at pre
      rw [h1.r6] at pre
      simp only [Option.bind_some] at pre
      refine Or.inr ⟨G, f1, rfl, hok, hv.fx a4 (by omega), h1, a4, ?_⟩
      obtain ⟨z, sp, NL, SH, TU, b1, b2, b3⟩ := a2
      rw [b1.i7] at pre
      simp only [Option.bind_some] at pre
      cases er : rch G.1 (nmV G) with
      | none =>
        rw [er] at b3
        rw [if_neg (by rw [b3.1]; decide)] at pre
        exact Or.inl ⟨rfl, vI_of (ci := 7) rfl h.O pre⟩
      | some r =>
        rw [er] at b3
        obtain ⟨c1, c2, c3, c4⟩ := b3
        rw [if_pos c1] at pre
        subst c1
        subst c2
        exact Or.inr ⟨r, rfl, vI_of (ci := 7) rfl h.O pre, NL, SH, TU, b1, c3, c4⟩
theorem Cl_rask (h : ClsAt S f) {g : Int32} {K : Int32 × mHeap → mR'} {fK : Gr → Rs → Int32 × St} (hK : ∀ k G r f1, k < 10 → g = nI k → sGr S k = some G → Ok G → rch G.1 (nmV G) = some r → ClsAt S f1 → GV f1 (47 + 6 * k) G → RcV f1 G.1 r → CR (K (0, HF f1)) f1 (fK G r)) : CR ((vI 93 2 [.int g] (HF f)).bind fun q1 => if (q1.1 : Int32) = 0 then K q1 else (some (some (.int q1.1), q1.2))) f (spReach S g fK) := by
  unfold spReach spAsk
  rcases Cl_ref h g with ⟨h1, h2⟩ | ⟨k, hk, rfl, ⟨h1, f1, h2, h3, h4⟩ | ⟨G, f1, h1, hok, hv, h2, h3, ⟨h4, h5⟩ | ⟨r, h4, h5, h6⟩⟩⟩
  · rw [h2, if_pos h1]
    simp only [Option.bind_some]
    rw [if_neg (by decide)]
    exact CR.stay h
  · rw [h2, if_neg (by rw [isIn_nI (by omega) hk]; decide), nI_cl (by omega), h1]
    simp only [Option.bind_some]
    rw [if_neg (by decide)]
    exact ⟨f1, rfl, h3, h4⟩
  · rw [h5, if_neg (by rw [isIn_nI (by omega) hk]; decide), nI_cl (by omega), h1]
    simp only [Option.bind_some]
    rw [if_neg (by decide), h4]
    exact ⟨f1, rfl, h2, h3.wi (by omega) (by omega)⟩
  · rw [h5, if_neg (by rw [isIn_nI (by omega) hk]; decide), nI_cl (by omega), h1]
    simp only [Option.bind_some]
    rw [if_pos trivial, h4]
    exact CR.tr (h3.wi (by omega) (by omega)) (hK k G r f1 hk rfl h1 hok h4 h2 hv h6)
theorem Cl_reach (S : St) (g : Int32) : CSp 72 [.int g] S (spReach0 S g) := by
  refine CSp.of rfl fun f h => ?_
  rw [F72_eq]
  refine Cl_rask h fun k G r f1 hk e hs hok hr h1 hv hR => ?_
  obtain ⟨NL, SH, TU, b1, b2, b3⟩ := hR
  simp only
  rw [h1.r6]
  simp only [Option.bind_some]
  rw [b1.i6]
  exact CR.stay h1
theorem Cl_cusps (S : St) (g : Int32) : CSp 74 [.int g] S (spCusps S g) := by
  refine CSp.of rfl fun f h => ?_
  rw [F74_eq]
  refine Cl_rask h fun k G r f1 hk e hs hok hr h1 hv hR => ?_
  obtain ⟨NL, SH, TU, b1, b2, b3⟩ := hR
  obtain ⟨r1, r2, r3⟩ := rch_RI (IsNm.of hok) hr
  simp only
  rw [h1.r6]
  simp only [Option.bind_some]
  rw [Cr_ro r1.1.1 r1.prm b1 (fun i hi => (b3 i hi).1)]
  exact CR.stay h1
theorem Cl_width (S : St) (g i : Int32) : CSp 75 [.int g, .int i] S (spWidth S g i) := by
  refine CSp.of rfl fun f h => ?_
  rw [F75_eq]
  refine Cl_rask h fun k G r f1 hk e hs hok hr h1 hv hR => ?_
  obtain ⟨NL, SH, TU, b1, b2, b3⟩ := hR
  obtain ⟨r1, r2, r3⟩ := rch_RI (IsNm.of hok) hr
  simp only
  rw [h1.r6]
  simp only [Option.bind_some]
  rw [Cr_wd r1.1.1 r1.prm b1 (fun i hi => (b3 i hi).1)]
  simp only [Option.bind_some]
  unfold wid0 widV
  cases e : nth (rP r) r.1 i.toInt with
  | none =>
    simp only
    rw [if_neg (fun z => z trivial)]
    exact CR.stay h1
  | some q =>
    simp only
    have h500 := r1.1.1
    obtain ⟨q1, q2, q3⟩ := find_range e
    have hP : rP r q = true := (Bool.and_eq_true _ _ ▸ q2).1
    have := of_decide_eq_true hP
    have hle := rnd_le r1.prm q1
    rw [if_pos (show ¬ nI (rnd r.2.2.1 r.1 q) = 0 by show ¬ nI (rnd r.2.2.1 r.1 q) = nI 0; rw [iEQ (by omega) (by omega)]; omega)]
    exact CR.stay h1
theorem Cl_shL {n : Nat} {r : Rs} (hn8 : n ≤ 8) (hI : NmI n r.1 r.2.1) : ∀ (d i : Nat), i + d = r.1 → ∀ f : Nat → mCell, ClsAt S f → RcV f n r → ∃ f', q96_4 2 (lN (sumT (rSh n r) i)) (nI i) (HF f) = some (some (.long (lN (sumT (rSh n r) r.1))), HF f') ∧ ClsAt S f' ∧ RcV f' n r ∧ Fx 5 23 f f' := by
  have h500 := hI.1
  intro d
  induction d with
  | zero =>
    intro i hi f h hR
    have : i = r.1 := by omega
    subst this
    refine ⟨f, ?_, h, hR, Fx.rf⟩
    obtain ⟨NL, SH, TU, b1, b2, b3⟩ := hR
    rw [q96_4_eq, h.r6]
    simp only [Option.bind_some]
    rw [b1.i6]
    simp only [Option.bind_some]
    rw [if_pos (Int32.le_refl _)]
  | succ d ih =>
    intro i hi f h hR
    have hil : i < r.1 := by omega
    obtain ⟨hok, hnm⟩ := (hI.2.1 i hil).un
    have hlt := (hI.2.1 i hil).lt.2
    obtain ⟨f1, a1, a2, a3⟩ := Cg_unfold hok (by omega) h.ga
    have h1 := h.seen a3 a2.ga
    have hR1 := hR.fx (f' := f1) (fun b b1 b2 => a3 b (by omega))
    obtain ⟨f2, c1, c2, c3, c4⟩ := Cy_look hok.1 (by omega) (by omega) h1.t0 a2 h1.ya
    have h2 := h1.lyi c4 c3
    have hR2 := hR1.fx (f' := f2) (fun b b1 b2 => c4 b (by omega))
    obtain ⟨f3, d1, d2, d3, d4⟩ := ih (i + 1) (by omega) f2 h2 hR2
    refine ⟨f3, ?_, d2, d3, ((a3.wi (by omega) (by omega)).tr (c4.wi (by omega) (by omega))).tr d4⟩
    obtain ⟨NL, SH, TU, b1, b2, b3⟩ := hR
    rw [q96_4_eq, h.r6]
    simp only [Option.bind_some]
    rw [b1.i6]
    simp only [Option.bind_some]
    rw [if_neg (by rw [iLE (by omega) (by omega)]; omega), h.r2]
    simp only [Option.bind_some]
    rw [b1.i5, b1.r0]
    simp only [Option.bind_some]
    rw [b1.ldN (by omega), b2 i hil]
    simp only [Option.bind_some]
    rw [a1]
    simp only [Option.bind_some]
    rw [h1.r5, h1.r2]
    simp only [Option.bind_some]
    rw [c1]
    simp only [Option.bind_some]
    rw [h2.r5]
    simp only [Option.bind_some]
    rw [Cy_wp hok.1 h2.t0 c2]
    simp only [Option.bind_some]
    rw [lN_add, show nI i + 1 = nI (i + 1) from iAdd i 1]
    exact d1
theorem Cl_shs {n : Nat} {r : Rs} (hn8 : n ≤ 8) (hI : NmI n r.1 r.2.1) (h : ClsAt S f) (hR : RcV f n r) : ∃ f', vL 96 2 [] (HF f) = some (lN (sumT (rSh n r) r.1), HF f') ∧ ClsAt S f' ∧ RcV f' n r ∧ Fx 5 23 f f' := by
  obtain ⟨f3, d1, d2, d3, d4⟩ := Cl_shL (S := S) hn8 hI r.1 0 (by omega) f h hR
  refine ⟨f3, vL_of (ci := 7) rfl h.O ?_, d2, d3, d4⟩
  rw [F96_eq]
  exact d1
theorem Cl_meanShare (S : St) (g : Int32) : CSp 76 [.int g] S (spMeanShare S g) := by
  refine CSp.of rfl fun f h => ?_
  rw [F76_eq]
  refine Cl_rask h fun k G r f1 hk e hs hok hr h1 hv hR => ?_
  obtain ⟨r1, r2, r3⟩ := rch_RI (IsNm.of hok) hr
  have h500 := r1.1.1
  have hb := sumT_b (rSh_le hok.1.2.1 r) r.1
  obtain ⟨f2, a1, a2, a3, a4⟩ := Cl_shs hok.1.2.1 r1.1 h1 hR
  simp only
  rw [h1.r7]
  simp only [Option.bind_some]
  rw [a1]
  simp only [Option.bind_some]
  rw [a2.r6]
  simp only [Option.bind_some]
  obtain ⟨NL, SH, TU, b1, b2, b3⟩ := a3
  rw [b1.i6]
  simp only [Option.bind_some]
  rw [nI_l (show r.1 < 2 ^ 31 by omega), show (840 : Int64) * lN r.1 = lN (840 * r.1) from lN_mul 840 r.1]
  obtain ⟨f3, c1, c2, c3⟩ := Cf_tell (u := sumT (rSh G.1 r) r.1) (v := 840 * r.1) (by omega) (by omega) (by omega) a2.fs
  rw [c1]
  exact ⟨f3, rfl, a2.fra c3 c2, (a4.wi (by omega) (by omega)).tr (c3.wi (by omega) (by omega))⟩
theorem Cl_twist (S : St) (g : Int32) : CSp 77 [.int g] S (spTwist S g) := by
  refine CSp.of rfl fun f h => ?_
  rw [F77_eq]
  refine Cl_rask h fun k G r f1 hk e hs hok hr h1 hv hR => ?_
  subst e
  obtain ⟨r1, r2, r3⟩ := rch_RI (IsNm.of hok) hr
  have h500 := r1.1.1
  have g2 := hok.1.2.1
  have hb := sumT_b (rSh_le hok.1.2.1 r) r.1
  have hw := bw_le hok.1 G.1 (Nat.le_refl _)
  have hwm : bw G G.1 * r.1 ≤ 56000 * 500 := Nat.mul_le_mul (by omega) h500
  obtain ⟨f2, a1, a2, a3⟩ := Cc_look hok.1 (by omega) (by omega) (by omega) h1.t0 hv h1.ca
  have h2 := h1.corn a3 a2.ca
  have hR2 := hR.fx (f' := f2) (fun b b1 b2 => a3 b (by omega))
  obtain ⟨f3, c1, c2, c3, c4⟩ := Cl_shs hok.1.2.1 r1.1 h2 hR2
  simp only
  rw [h1.r3, h1.r1]
  simp only [Option.bind_some]
  rw [h1.gr hk]
  simp only [Option.bind_some]
  rw [a1]
  simp only [Option.bind_some]
  rw [h2.r3, h2.r6, h2.r7]
  simp only [Option.bind_some]
  rw [a2.l6]
  simp only [Option.bind_some]
  obtain ⟨NL, SH, TU, b1, b2, b3⟩ := hR2
  rw [b1.i6]
  simp only [Option.bind_some]
  rw [c1]
  simp only [Option.bind_some]
  rw [c2.r6]
  simp only [Option.bind_some]
  obtain ⟨NL3, SH3, TU3, e1, e2, e3⟩ := c3
  rw [e1.i6]
  simp only [Option.bind_some]
  rw [nI_l (show r.1 < 2 ^ 31 by omega), show (10080 : Int64) * lN r.1 = lN (10080 * r.1) from lN_mul 10080 r.1, show (12 : Int64) * lN (sumT (rSh G.1 r) r.1) = lN (12 * sumT (rSh G.1 r) r.1) from lN_mul 12 _, lN_mul, lN_add]
  obtain ⟨f4, x1, x2, x3⟩ := Cf_tell (u := bw G G.1 * r.1 + 12 * sumT (rSh G.1 r) r.1) (v := 10080 * r.1) (by omega) (by omega) (by omega) c2.fs
  rw [x1]
  exact ⟨f4, rfl, c2.fra x3 x2, ((a3.wi (by omega) (by omega)).tr (c4.wi (by omega) (by omega))).tr (x3.wi (by omega) (by omega))⟩
theorem Cl_reached (S : St) (g i w : Int32) : CSp 73 [.int g, .int i, .int w] S (spReached S g i w) := by
  refine CSp.of rfl fun f h => ?_
  have t0 : (0 : Int32).toInt = 0 := rfl
  have t3 : (3 : Int32).toInt = 3 := rfl
  rw [F73_eq]
  unfold spReached
  by_cases c0 : w < 0
  · rw [if_pos c0, if_neg (by rw [Int32.lt_iff_toInt_lt, t0] at c0; omega)]
    exact CR.stay h
  · rw [if_neg c0]
    by_cases c5 : w ≤ 3
    · have hw : 0 ≤ w.toInt ∧ w.toInt ≤ 3 := by
        rw [Int32.lt_iff_toInt_lt, t0] at c0
        rw [Int32.le_iff_toInt_le, t3] at c5
        omega
      rw [if_pos c5, if_pos hw]
      refine Cl_rask h fun k G r f1 hk e hs hok hr h1 hv hR => ?_
      obtain ⟨r1, r2, r3⟩ := rch_RI (IsNm.of hok) hr
      have h500 := r1.1.1
      have g2 := hok.1.2.1
      obtain ⟨NL, SH, TU, b1, b2, b3⟩ := hR
      simp only
      by_cases i0 : i < 0
      · rw [if_pos i0, if_pos (show isIn r.1 i = false by unfold isIn; rw [decide_eq_false (nle_of_lt i0)]; rfl)]
        exact CR.stay h1
      · rw [if_neg i0, h1.r6, h1.r2]
        simp only [Option.bind_some]
        rw [b1.i6]
        simp only [Option.bind_some]
        by_cases i1 : i < nI r.1
        · have hin : isIn r.1 i = true := by
            unfold isIn
            rw [decide_eq_true (i32lt i0), decide_eq_true i1]; rfl
          obtain ⟨j, j1, rfl, j3⟩ := isIn_ok (by omega) hin
          rw [if_pos i1, if_neg (show ¬ isIn r.1 (nI j) = false by rw [hin]; decide), j3]
          obtain ⟨b4, b5⟩ := b3 j j1
          by_cases w0 : w = 0
          · subst w0
            rw [if_neg (fun z => z rfl), b1.r1]
            simp only [Option.bind_some]
            rw [b1.ldS (by omega), b4]
            exact CR.stay h1
          · rw [if_pos w0]
            have e0 : w.toInt ≠ 0 := fun z => w0 (Int32.toInt_inj.mp z)
            by_cases w1 : w = 1
            · subst w1
              rw [if_neg (fun z => z rfl), b1.r2]
              simp only [Option.bind_some]
              rw [b1.ldT (by omega), b5]
              exact CR.stay h1
            · rw [if_pos w1, b1.i5, b1.r0]
              have e1 : w.toInt ≠ 1 := fun z => w1 (Int32.toInt_inj.mp z)
              simp only [Option.bind_some]
              rw [b1.ldN (by omega), b2 j j1]
              simp only [Option.bind_some]
              obtain ⟨hok2, hnm⟩ := (r1.1.2.1 j j1).un
              have hlt := (r1.1.2.1 j j1).lt.2
              obtain ⟨f2, x1, x2, x3⟩ := Cg_unfold hok2 (by omega) h1.ga
              have h2 := h1.seen x3 x2.ga
              rw [x1]
              simp only [Option.bind_some]
              rw [h2.r2]
              simp only [Option.bind_some]
              by_cases w2 : w = 2
              · subst w2
                rw [if_neg (fun z => z rfl)]
                obtain ⟨f3, y1, y2, y3⟩ := Cn_look hok2 (by omega) x2 h2.na
                have h3 := h2.nam y3 y2.na
                have p : vI 94 2 [.ref 5] (HF f2) = some (nI (nmS (unN G.1 (r.2.1 j))), HF f3) := by
                  refine vI_of (ci := 7) rfl h2.O ?_
                  rw [F94_eq, h2.r4]
                  simp only [Option.bind_some]
                  rw [y1]
                  simp only [Option.bind_some]
                  rw [h3.r4]
                  simp only [Option.bind_some]
                  rw [y2.i4]
                  rfl
                rw [p]
                exact CR.tr ((x3.wi (by omega) (by omega)).tr (y3.wi (by omega) (by omega))) (CR.stay h3)
              · rw [if_pos w2]
                have e2 : w.toInt ≠ 2 := fun z => w2 (Int32.toInt_inj.mp z)
                obtain ⟨f3, y1, y2, y3, y4⟩ := Cy_look hok2.1 (by omega) (by omega) h2.t0 x2 h2.ya
                have h3 := h2.lyi y4 y3
                have p : vI 95 2 [.ref 5] (HF f2) = some (nI (cyN (unN G.1 (r.2.1 j))), HF f3) := by
                  refine vI_of (ci := 7) rfl h2.O ?_
                  rw [F95_eq, h2.r5]
                  simp only [Option.bind_some]
                  rw [y1]
                  simp only [Option.bind_some]
                  rw [h3.r5]
                  simp only [Option.bind_some]
                  rw [y2.nn]
                  rfl
                rw [p]
                have ev : rcdV G.1 r w.toInt j = cyN (unN G.1 (r.2.1 j)) := by
                  unfold rcdV
                  rw [if_neg e0, if_neg e1, if_neg e2]
                rw [ev]
                exact CR.tr ((x3.wi (by omega) (by omega)).tr (y4.wi (by omega) (by omega))) (CR.stay h3)
        · rw [if_neg i1, if_pos (show isIn r.1 i = false by unfold isIn; rw [decide_eq_false i1, Bool.and_false])]
          exact CR.stay h1
    · rw [if_neg c5, if_neg (by rw [Int32.le_iff_toInt_le, t3] at c5; omega)]
      exact CR.stay h
theorem Cl_comes (S : St) (g k : Int32) : CSp 78 [.int g, .int k] S (spComes S g k) := by
  refine CSp.of rfl fun f h => ?_
  rw [F78_eq, Cs_groundNo]
  simp only [Option.bind_some, b2i_0]
  unfold spComes spAsk2
  by_cases hb : isIn 10 g = false
  · rw [if_pos hb, if_pos (Or.inl hb)]
    exact CR.stay h
  · rw [if_neg hb, Cs_groundNo]
    simp only [Option.bind_some, b2i_0]
    by_cases hb2 : isIn 10 k = false
    · rw [if_neg (fun z => z hb2), if_pos (Or.inr hb2)]
      exact CR.stay h
    · rw [if_pos hb2, if_neg (show ¬ (isIn 10 g = false ∨ isIn 10 k = false) from fun z => z.elim hb hb2)]
      obtain ⟨b, hbb, rfl, hcb⟩ := idx10 hb2
      rw [hcb, h.r1]
      simp only [Option.bind_some]
      rw [h.gr hbb]
      simp only [Option.bind_some]
      have hk := h.go hbb
      cases e2 : sGr S b with
      | none =>
        rw [e2] at hk
        obtain ⟨ρ, C, hk⟩ := hk
        rw [Cg_missN hk]
        simp only [Option.bind_some]
        rw [if_neg (by decide)]
        cases sGr S g.toNatClampNeg with
        | none => exact CR.meet (k := 1) h (by decide)
        | some G => exact CR.meet (k := 1) h (by decide)
      | some K =>
        rw [e2] at hk
        have k2 := hk.2.1.2.1
        rw [Cg_missV k2 hk.1]
        simp only [Option.bind_some]
        rw [if_pos trivial]
        rcases Cl_ref h g with ⟨h1, h2⟩ | ⟨a, ha, rfl, ⟨h1, f1, h2, h3, h4⟩ | ⟨G, f1, h1, hok, hv, h2, h3, ⟨h4, h5⟩ | ⟨r, h4, h5, h6⟩⟩⟩
        · exact absurd h1 hb
        · rw [h2, nI_cl (by omega), h1]
          simp only [Option.bind_some]
          rw [if_neg (by decide)]
          exact ⟨f1, rfl, h3, h4⟩
        · rw [h5, nI_cl (by omega), h1]
          simp only [Option.bind_some]
          rw [if_neg (by decide), h4]
          exact ⟨f1, rfl, h2, h3.wi (by omega) (by omega)⟩
        · rw [h5, nI_cl (by omega), h1]
          simp only [Option.bind_some]
          rw [if_pos trivial, h4, h2.r4, h2.r1]
          simp only [Option.bind_some]
          rw [h2.gr hbb]
          simp only [Option.bind_some]
          obtain ⟨r1, r2, r3⟩ := rch_RI (IsNm.of hok) h4
          have h500 := r1.1.1
          have g2 := hok.1.2.1
          have hk1 := h2.go hbb
          rw [e2] at hk1
          obtain ⟨hkv, hko⟩ := hk1
          obtain ⟨f2, a1, a2, a3⟩ := Cn_look hko (by omega) hkv h2.na
          have h7 := h2.nam a3 a2.na
          have hR := h6.fx (f' := f2) (fun b b1 b2 => a3 b (by omega))
          obtain ⟨NL, SH, TU, b1, b2, b3⟩ := hR
          have hx : Fx 2 106 f f2 := (h3.wi (by omega) (by omega)).tr (a3.wi (by omega) (by omega))
          rw [a1]
          simp only [Option.bind_some]
          rw [h7.r6, h7.r1, h7.r4]
          simp only [Option.bind_some]
          rw [b1.i5, h7.gr hbb]
          simp only [Option.bind_some]
          rw [(hkv.fx a3 (by omega)).nn]
          simp only [Option.bind_some, iEQ (show G.1 < 2000000000 by omega) (show K.1 < 2000000000 by omega)]
          by_cases c0 : G.1 = K.1
          · rw [if_neg (fun z => z c0), if_pos c0, a2.l3]
            simp only [Option.bind_some]
            have l2 := (IsNm.of hko).lt.2
            rw [Cr_of h500 (fun i hi => by have := (r1.1.2.1 i hi).lt.2; omega) b1 b2 (by omega)]
            simp only [Option.bind_some]
            cases ef : rfind r.2.1 r.1 (nmV K) with
            | none =>
              rw [if_neg (by decide)]
              exact CR.tr hx (CR.stay h7)
            | some p =>
              have hp := (rfind_some ef).1
              rw [if_pos (show 0 ≤ op1 (some p) by show nI 0 ≤ nI p; rw [iLE (by omega) (by omega)]; omega)]
              exact CR.tr hx (CR.stay h7)
          · rw [if_pos c0, if_neg c0, if_neg (by decide)]
            exact CR.tr hx (CR.stay h7)
theorem Cl_upper (h : ClsAt S f) : vL 79 2 [] (HF f) = some (sUp S, HF f) := by
  refine vL_of (ci := 7) rfl h.O ?_
  rw [F79_eq, h.r7]
  simp only [Option.bind_some]
  rw [gL_of (by omega) h.fs.2 rfl]
  rfl
theorem Cl_lower (h : ClsAt S f) : vL 80 2 [] (HF f) = some (sLo S, HF f) := by
  refine vL_of (ci := 7) rfl h.O ?_
  rw [F80_eq, h.r7]
  simp only [Option.bind_some]
  rw [gL_of (by omega) h.fs.2 rfl]
  rfl
theorem Cl_finding (S : St) : CSp 82 [] S (sFi S, S) := by
  refine CSp.of rfl fun f h => ?_
  rw [F82_eq, h.i9]
  exact CR.stay h
theorem Cl_findings (S : St) (x : Int32) : CSp 83 [.int x] S (spFindings S x, S) := by
  refine CSp.of rfl fun f h => ?_
  rw [F83_eq]
  unfold spFindings
  have h15 := isIn_15 x
  have t1 : (x < 1) = ¬ ((1 : Int32) ≤ x) := propext ⟨nle_of_lt, i32le⟩
  simp only [t1]
  by_cases c0 : (1 : Int32) ≤ x
  · rw [if_neg (fun z => z c0)]
    by_cases c5 : x ≤ 5
    · rw [decide_eq_true c0, decide_eq_true c5] at h15
      have h15 := of_decide_eq_true h15.symm
      rw [if_pos c5, if_pos h15, h.r8]
      obtain ⟨q, q1, rfl, q3⟩ := isIn_ok (by omega) h15.1
      obtain ⟨-, -, -, -, TF, h5, h6⟩ := h.hd
      simp only [Option.bind_some]
      rw [cAldI_of (by omega) h5 q1 (by omega), h6 q q1, q3]
      exact CR.stay h
    · rw [decide_eq_true c0, decide_eq_false c5] at h15
      have h15 := of_decide_eq_false h15.symm
      rw [if_neg c5, if_neg h15]
      exact CR.stay h
  · rw [decide_eq_false c0] at h15
    have h15 := of_decide_eq_false h15.symm
    rw [if_pos c0, if_neg h15]
    exact CR.stay h
theorem Cl_cs (hW : Wf S) (h : ClsAt S f) : ∀ (d k : Nat), k + d = 4 → q97_4 2 (nI (sumT (sh01 S) k)) (nI k) (HF f) = some (some (.int (nI (sumT (sh01 S) 4))), HF f) := by
  intro d
  induction d with
  | zero =>
    intro k hk
    have : k = 4 := by omega
    subst this
    rw [q97_4_eq, if_pos (by decide)]
  | succ d ih =>
    intro k hk
    have hk4 : k < 4 := by omega
    have ih1 := ih (k + 1) (by omega)
    have es : sumT (sh01 S) (k + 1) = sumT (sh01 S) k + sh01 S k := rfl
    rw [q97_4_eq, if_neg (by rw [l4, iLE (by omega) (by omega)]; omega), h.r0]
    simp only [Option.bind_some]
    rw [h.sh hk4]
    simp only [Option.bind_some]
    rw [Cs_miss (fun n hn => hW.1 k n hk4 hn) (h.so hk4)]
    simp only [Option.bind_some, b2i_0]
    rw [show nI k + 1 = nI (k + 1) from iAdd k 1]
    unfold sh01 at es
    cases e : sSz S k with
    | none =>
      rw [e] at es
      rw [if_neg (by decide), show nI (sumT (sh01 S) k) + 0 = nI (sumT (sh01 S) k + 0) from iAdd _ 0, ← show sumT (sh01 S) (k + 1) = sumT (sh01 S) k + 0 from es]
      exact ih1
    | some n =>
      rw [e] at es
      rw [if_pos (show (!(some n).isSome) = false from rfl), show nI (sumT (sh01 S) k) + 1 = nI (sumT (sh01 S) k + 1) from iAdd _ 1, ← show sumT (sh01 S) (k + 1) = sumT (sh01 S) k + 1 from es]
      exact ih1
theorem Cl_cg (h : ClsAt S f) (two : Bool) : ∀ (d k : Nat), k + d = 10 → q98_4 2 (b2i two) (nI (sumT (gr01 S two) k)) (nI k) (HF f) = some (some (.int (nI (sumT (gr01 S two) 10))), HF f) := by
  intro d
  induction d with
  | zero =>
    intro k hk
    have : k = 10 := by omega
    subst this
    rw [q98_4_eq, if_pos (by decide)]
  | succ d ih =>
    intro k hk
    have hk4 : k < 10 := by omega
    have ih1 := ih (k + 1) (by omega)
    have es : sumT (gr01 S two) (k + 1) = sumT (gr01 S two) k + gr01 S two k := rfl
    rw [q98_4_eq, if_neg (by rw [l10, iLE (by omega) (by omega)]; omega), h.r1]
    simp only [Option.bind_some]
    rw [h.gr hk4]
    simp only [Option.bind_some]
    rw [show nI k + 1 = nI (k + 1) from iAdd k 1]
    have hg := h.go hk4
    unfold gr01 at es
    cases e : sGr S k with
    | none =>
      rw [e] at hg es
      obtain ⟨ρ, C, hg⟩ := hg
      rw [Cg_missN hg]
      simp only [Option.bind_some]
      rw [if_pos (by decide), ← show sumT (gr01 S two) (k + 1) = sumT (gr01 S two) k from es]
      exact ih1
    | some G =>
      rw [e] at hg es
      rw [Cg_missV hg.2.1.2.1 hg.1]
      simp only [Option.bind_some]
      rw [if_neg (fun z => z trivial), h.r1]
      simp only [Option.bind_some]
      rw [h.gr hk4]
      simp only [Option.bind_some]
      rw [hg.1.nn]
      simp only [Option.bind_some, b2i_0]
      cases two with
      | false =>
        rw [if_pos rfl, show nI (sumT (gr01 S false) k) + 1 = nI (sumT (gr01 S false) k + 1) from iAdd _ 1, ← show sumT (gr01 S false) (k + 1) = sumT (gr01 S false) k + 1 from es]
        exact ih1
      | true =>
        rw [if_neg (by decide), iAdd, ← show sumT (gr01 S true) (k + 1) = sumT (gr01 S true) k + G.1 from es]
        exact ih1
theorem Cl_count (S : St) (hW : Wf S) (w : Int32) : CSp 81 [.int w] S (spCount S w) := by
  refine CSp.of rfl fun f h => ?_
  have t0 : (0 : Int32).toInt = 0 := rfl
  have t2 : (2 : Int32).toInt = 2 := rfl
  rw [F81_eq]
  unfold spCount
  by_cases c0 : w < 0
  · rw [if_pos c0, if_neg (by rw [Int32.lt_iff_toInt_lt, t0] at c0; omega)]
    exact CR.stay h
  · rw [if_neg c0]
    by_cases c5 : w ≤ 2
    · have hw : 0 ≤ w.toInt ∧ w.toInt ≤ 2 := by
        rw [Int32.lt_iff_toInt_lt, t0] at c0
        rw [Int32.le_iff_toInt_le, t2] at c5
        omega
      rw [if_pos c5, if_pos hw]
      unfold cntV
      by_cases w0 : w = 0
      · subst w0
        have p : vI 97 2 [] (HF f) = some (nI (sumT (sh01 S) 4), HF f) := by
          refine vI_of (ci := 7) rfl h.O ?_
          rw [F97_eq]
          exact Cl_cs hW h 4 0 (by omega)
        rw [if_neg (fun z => z rfl), if_pos t0, p]
        exact CR.stay h
      · have e0 : w.toInt ≠ 0 := fun z => w0 (Int32.toInt_inj.mp z)
        have p : ∀ b : Bool, vI 98 2 [.int (b2i b)] (HF f) = some (nI (sumT (gr01 S b) 10), HF f) := by
          intro b
          refine vI_of (ci := 7) rfl h.O ?_
          rw [F98_eq]
          exact Cl_cg h b 10 0 (by omega)
        rw [if_pos w0, if_neg e0]
        by_cases w2 : w = 2
        · subst w2
          rw [if_neg (fun z => z rfl), show vI 98 2 [.int 1] (HF f) = _ from p true]
          exact CR.stay h
        · have e2 : w.toInt ≠ 2 := fun z => w2 (Int32.toInt_inj.mp z)
          rw [if_pos w2, decide_eq_false e2, show vI 98 2 [.int 0] (HF f) = _ from p false]
          exact CR.stay h
    · rw [if_neg c5, if_neg (by rw [Int32.le_iff_toInt_le, t2] at c5; omega)]
      exact CR.stay h
theorem Cl_dg2 (hW : Wf S) (h : ClsAt S f) : ∀ (d k : Nat), k + d = 4 → q84_31 2 (dgS S k) (nI k) (HF f) = some (some (.long (dgS S 4)), HF f) := by
  intro d
  induction d with
  | zero =>
    intro k hk
    have : k = 4 := by omega
    subst this
    rw [q84_31_eq, if_pos (by decide)]
  | succ d ih =>
    intro k hk
    have hk4 : k < 4 := by omega
    rw [q84_31_eq, if_neg (by rw [l4, iLE (by omega) (by omega)]; omega), h.r0]
    simp only [Option.bind_some]
    rw [h.sh hk4]
    simp only [Option.bind_some]
    rw [Cs_mix (fun n hn => hW.1 k n hk4 hn) (h.so hk4)]
    simp only [Option.bind_some]
    rw [show nI k + 1 = nI (k + 1) from iAdd k 1]
    exact ih (k + 1) (by omega)
theorem Cl_dg1 (hW : Wf S) (h : ClsAt S f) : ∀ (d k : Nat), k + d = 10 → q84_6 2 (dgG S k) (nI k) (HF f) = some (some (.long (dgS S 4)), HF f) := by
  intro d
  induction d with
  | zero =>
    intro k hk
    have : k = 10 := by omega
    subst this
    rw [q84_6_eq, if_pos (by decide)]
    exact Cl_dg2 hW h 4 0 (by omega)
  | succ d ih =>
    intro k hk
    have hk4 : k < 10 := by omega
    rw [q84_6_eq, if_neg (by rw [l10, iLE (by omega) (by omega)]; omega), h.r1]
    simp only [Option.bind_some]
    rw [h.gr hk4]
    simp only [Option.bind_some]
    rw [Cg_mix (h.go hk4)]
    simp only [Option.bind_some]
    rw [show nI k + 1 = nI (k + 1) from iAdd k 1]
    exact ih (k + 1) (by omega)
theorem Cl_digest (hW : Wf S) (h : ClsAt S f) : vL 84 2 [] (HF f) = some (dgS S 4, HF f) := by
  refine vL_of (ci := 7) rfl h.O ?_
  rw [F84_eq]
  exact Cl_dg1 hW h 10 0 (by omega)
end C20
