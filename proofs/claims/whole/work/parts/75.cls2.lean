section C19
variable {S : St} {f : Nat → mCell}
theorem ask_bad {g : Int32} (hb : isIn 10 g = false) {P : Prop} [Decidable P] {fK : Gr → Int32 × St} : (if P then spAsk S g fK else (-1, S)) = (-1, S) := by
  unfold spAsk
  rw [if_pos hb]
  split <;> rfl
theorem Cl_corn (h : ClsAt S f) {k : Nat} (hk : k < 10) {G : Gr} (hok : Ok G) (hv : GV f (47 + 6 * k) G) : ∃ f', vV 1 11 [.ref (47 + 6 * k)] (HF f) = some (HF f') ∧ CV f' 11 G ∧ ClsAt S f' ∧ Fx 2 106 f f' ∧ GV f' (47 + 6 * k) G := by
  obtain ⟨f1, a1, a2, a3⟩ := Cc_look hok.1 (by omega) (by omega) (by omega) h.t0 hv h.ca
  exact ⟨f1, a1, a2, h.corn a3 a2.ca, a3.wi (by omega) (by omega), hv.fx a3 (by omega)⟩
theorem Cl_nam (h : ClsAt S f) {k : Nat} (hk : k < 10) {G : Gr} (hok : Ok G) (hv : GV f (47 + 6 * k) G) : ∃ f', vV 34 13 [.ref (47 + 6 * k)] (HF f) = some (HF f') ∧ NV f' 13 G ∧ ClsAt S f' ∧ Fx 2 106 f f' := by
  obtain ⟨f1, a1, a2, a3⟩ := Cn_look hok (by omega) hv h.na
  exact ⟨f1, a1, a2, h.nam a3 a2.na, a3.wi (by omega) (by omega)⟩
theorem Cl_lyi (h : ClsAt S f) {k : Nat} (hk : k < 10) {G : Gr} (hok : Ok G) (hv : GV f (47 + 6 * k) G) : ∃ f', vV 8 16 [.ref (47 + 6 * k)] (HF f) = some (HF f') ∧ YV f' 16 G ∧ ClsAt S f' ∧ Fx 2 106 f f' := by
  obtain ⟨f1, a1, a2, a3, a4⟩ := Cy_look hok.1 (by omega) (by omega) h.t0 hv h.ya
  exact ⟨f1, a1, a2, h.lyi a4 a3, a4.wi (by omega) (by omega)⟩
theorem YV.nn {c : Nat} {G : Gr} (h : YV f c G) : gI (HF f) c 1 3 = some (nI (cyN G)) := by
  obtain ⟨A, h, -⟩ := h
  exact h.nn
theorem CV.i2 {c : Nat} {G : Gr} (h : CV f c G) : gI (HF f) c 0 2 = some (nI (crn G 1 G.1)) := by
  obtain ⟨v, B, h, n, -⟩ := h
  rw [h.i2, n.2.1]
theorem CV.i3 {c : Nat} {G : Gr} (h : CV f c G) : gI (HF f) c 0 3 = some (nI (crn G 2 G.1)) := by
  obtain ⟨v, B, h, n, -⟩ := h
  rw [h.i3, n.2.2.1]
theorem CV.l6 {c : Nat} {G : Gr} (h : CV f c G) : gL (HF f) c 0 6 = some (lN (bw G G.1)) := by
  obtain ⟨v, B, h, n, -⟩ := h
  exact h.l6
theorem CV.at {c : Nat} {G : Gr} (g2 : G.1 ≤ 8) (h : CV f c G) {q : Nat} (hq : q < G.1) : gR (HF f) c 0 0 = some (c + 1) ∧ cAldI false (HF f) (c + 1) (nI q) = some (nI (bn G q)) := by
  obtain ⟨v, B, h, n, hB⟩ := h
  exact ⟨h.r, by rw [h.ld (by omega), hB q hq]⟩
theorem Cl_told (S : St) (g w : Int32) : CSp 59 [.int g, .int w] S (spTold S g w) := by
  refine CSp.of rfl fun f h => ?_
  have t0 : (0 : Int32).toInt = 0 := rfl
  have t5 : (5 : Int32).toInt = 5 := rfl
  rw [F59_eq, Cs_groundNo]
  simp only [Option.bind_some, b2i_0]
  unfold spTold
  by_cases hb : isIn 10 g = false
  · rw [if_pos hb, ask_bad hb]
    exact CR.stay h
  · rw [if_neg hb]
    obtain ⟨k, hk, rfl, hck⟩ := idx10 hb
    by_cases c0 : w < 0
    · rw [if_pos c0, if_neg (by rw [Int32.lt_iff_toInt_lt, t0] at c0; omega)]
      exact CR.stay h
    · rw [if_neg c0]
      by_cases c5 : w ≤ 5
      · have hw : 0 ≤ w.toInt ∧ w.toInt ≤ 5 := by
          rw [Int32.lt_iff_toInt_lt, t0] at c0
          rw [Int32.le_iff_toInt_le, t5] at c5
          omega
        rw [if_pos c5, if_pos hw]
        refine Cl_in h hk fun G hs hok hv => ?_
        simp only
        by_cases w0 : w = 0
        · subst w0
          rw [if_neg (fun z => z rfl), hv.nn]
          exact CR.stay h
        · rw [if_pos w0]
          by_cases w5 : w = 5
          · subst w5
            rw [if_neg (fun z => z rfl), h.r4]
            simp only [Option.bind_some]
            obtain ⟨f1, a1, a2, a3, a4⟩ := Cl_nam h hk hok hv
            rw [a1]
            simp only [Option.bind_some]
            rw [a3.r4]
            simp only [Option.bind_some]
            rw [a2.i4]
            exact CR.tr a4 (CR.stay a3)
          · rw [if_pos w5, h.r3]
            simp only [Option.bind_some]
            obtain ⟨f1, a1, a2, a3, a4, a5⟩ := Cl_corn h hk hok hv
            rw [a1]
            simp only [Option.bind_some]
            rw [a3.r3]
            simp only [Option.bind_some]
            have hcs : w = 1 ∨ w = 2 ∨ w = 3 ∨ w = 4 := by
              have e0 : w.toInt ≠ 0 := fun z => w0 (Int32.toInt_inj.mp z)
              have e5 : w.toInt ≠ 5 := fun z => w5 (Int32.toInt_inj.mp z)
              have : w.toInt = 1 ∨ w.toInt = 2 ∨ w.toInt = 3 ∨ w.toInt = 4 := by omega
              rcases this with e | e | e | e
              · exact Or.inl (Int32.toInt_inj.mp e)
              · exact Or.inr (Or.inl (Int32.toInt_inj.mp e))
              · exact Or.inr (Or.inr (Or.inl (Int32.toInt_inj.mp e)))
              · exact Or.inr (Or.inr (Or.inr (Int32.toInt_inj.mp e)))
            rcases hcs with rfl | rfl | rfl | rfl
            · rw [Cc_fact1 hok.1 a2]
              exact CR.tr a4 (CR.stay a3)
            · rw [Cc_fact2 hok.1 a2]
              have e : (crn G 2 G.1 + 2) / 2 = toldG G (2 : Int32).toInt := Nat.add_div_right _ (by decide)
              rw [e]
              exact CR.tr a4 (CR.stay a3)
            · rw [Cc_fact3 a2]
              exact CR.tr a4 (CR.stay a3)
            · rw [Cc_fact4 a2]
              exact CR.tr a4 (CR.stay a3)
      · rw [if_neg c5, if_neg (by rw [Int32.le_iff_toInt_le, t5] at c5; omega)]
        exact CR.stay h
theorem Cl_mark (S : St) (g w : Int32) : CSp 60 [.int g, .int w] S (spMark S g w) := by
  refine CSp.of rfl fun f h => ?_
  have t1 : (1 : Int32).toInt = 1 := rfl
  have t2 : (2 : Int32).toInt = 2 := rfl
  have t3 : (3 : Int32).toInt = 3 := rfl
  rw [F60_eq, Cs_groundNo]
  simp only [Option.bind_some, b2i_0]
  unfold spMark
  by_cases hb : isIn 10 g = false
  · rw [if_pos hb, ask_bad hb]
    exact CR.stay h
  · rw [if_neg hb]
    obtain ⟨k, hk, rfl, hck⟩ := idx10 hb
    by_cases c0 : w < 1
    · rw [if_pos c0, if_neg (by rw [Int32.lt_iff_toInt_lt, t1] at c0; omega)]
      exact CR.stay h
    · rw [if_neg c0]
      by_cases c5 : w ≤ 3
      · have hw : 1 ≤ w.toInt ∧ w.toInt ≤ 3 := by
          rw [Int32.lt_iff_toInt_lt, t1] at c0
          rw [Int32.le_iff_toInt_le, t3] at c5
          omega
        rw [if_pos c5, if_pos hw]
        refine Cl_in h hk fun G hs hok hv => ?_
        simp only
        rw [h.r3]
        simp only [Option.bind_some]
        obtain ⟨f1, a1, a2, a3, a4, a5⟩ := Cl_corn h hk hok hv
        rw [a1]
        simp only [Option.bind_some]
        rw [a3.r3]
        simp only [Option.bind_some]
        rw [Cc_kind hok.1 a2]
        simp only [Option.bind_some]
        have hkl : kindG G ≤ 3 := by
          unfold kindG
          split
          · omega
          · split
            · omega
            · split <;> omega
        have e : (nI (kindG G) = w) = ((kindG G : Int) = w.toInt) := by
          rw [i32eq, toInt_nI (by omega)]
        simp only [e]
        by_cases c1 : (kindG G : Int) = w.toInt
        · rw [if_pos c1, if_pos c1]
          by_cases w1 : w = 1
          · subst w1
            rw [if_neg (fun z => z rfl)]
            have := Cg_ring hok.1 a5 (q := 0) hok.1.1
            rw [show vI 30 (47 + 6 * k) [.int 0] (HF f1) = _ from this]
            exact CR.tr a4 (CR.stay a3)
          · rw [if_pos w1, if_neg (show ¬ w.toInt = 1 from fun z => w1 (Int32.toInt_inj.mp z))]
            by_cases w2 : w = 2
            · subst w2
              rw [if_neg (fun z => z rfl), a3.r3, if_pos (show (2 : Int32).toInt = 2 from rfl)]
              simp only [Option.bind_some]
              rw [a2.i3]
              have hk2 : crn G 1 G.1 = 1 := by
                have c1 : kindG G = 2 := by rw [t2] at c1; omega
                unfold kindG at c1
                by_cases z0 : crn G 1 G.1 = 0
                · rw [if_pos z0] at c1; cases c1
                · rw [if_neg z0] at c1
                  by_cases z1 : crn G 1 G.1 = 1
                  · exact z1
                  · rw [if_neg z1] at c1
                    split at c1 <;> cases c1
              rw [((crn_rel hok.1 G.1 (Nat.le_refl _)).2.1 hk2).1]
              exact CR.tr a4 (CR.stay a3)
            · rw [if_pos w2, if_neg (show ¬ w.toInt = 2 from fun z => w2 (Int32.toInt_inj.mp z)), a3.r3]
              simp only [Option.bind_some]
              rw [Cc_bentSq hok.1 a2]
              exact CR.tr a4 (CR.stay a3)
        · rw [if_neg c1, if_neg c1]
          exact CR.tr a4 (CR.meet (k := 3) a3 (by decide))
      · rw [if_neg c5, if_neg (by rw [Int32.le_iff_toInt_le, t3] at c5; omega)]
        exact CR.stay h
theorem Cl_next (S : St) (g q u : Int32) : CSp 61 [.int g, .int q, .int u] S (spNext S g q u) := by
  refine CSp.of rfl fun f h => ?_
  rw [F61_eq]
  refine Cl_ask h fun k G hk e hs hok hv => ?_
  simp only
  rw [Cg_has hok.1.2.1 hv]
  simp only [Option.bind_some, b2i_0]
  by_cases c0 : isIn G.1 q = false
  · rw [if_neg (fun z => z c0), if_pos c0]
    exact CR.meet (k := 2) h (by decide)
  · have g2 := hok.1.2.1
    rw [if_pos c0, if_neg c0]
    rw [bN] at c0
    obtain ⟨i, i1, rfl, i3⟩ := isIn_ok (by omega) c0
    rw [i3]
    by_cases u0 : u = 0
    · rw [if_pos u0, if_pos u0]
      obtain ⟨r, y1, y2⟩ := hv.ld0 g2 i1
      rw [y1]
      simp only [Option.bind_some]
      rw [y2]
      exact CR.stay h
    · rw [if_neg u0, if_neg u0]
      obtain ⟨r, y1, y2⟩ := hv.ld1 g2 i1
      rw [y1]
      simp only [Option.bind_some]
      rw [y2]
      exact CR.stay h
theorem Cl_bend (S : St) (g q : Int32) : CSp 62 [.int g, .int q] S (spBend S g q) := by
  refine CSp.of rfl fun f h => ?_
  rw [F62_eq]
  refine Cl_ask h fun k G hk e hs hok hv => ?_
  simp only
  rw [Cg_has hok.1.2.1 hv]
  simp only [Option.bind_some, b2i_0]
  by_cases c0 : isIn G.1 q = false
  · rw [if_neg (fun z => z c0), if_pos c0]
    exact CR.meet (k := 2) h (by decide)
  · have g2 := hok.1.2.1
    rw [if_pos c0, if_neg c0]
    rw [bN] at c0
    obtain ⟨i, i1, rfl, i3⟩ := isIn_ok (by omega) c0
    rw [i3, h.r3]
    simp only [Option.bind_some]
    obtain ⟨f1, a1, a2, a3, a4, a5⟩ := Cl_corn h hk hok hv
    rw [a1]
    simp only [Option.bind_some]
    rw [a3.r3]
    simp only [Option.bind_some]
    rw [(a2.at g2 i1).1]
    simp only [Option.bind_some]
    rw [(a2.at g2 i1).2]
    exact CR.tr a4 (CR.stay a3)
theorem Cl_name (S : St) (g i : Int32) : CSp 63 [.int g, .int i] S (spName S g i) := by
  refine CSp.of rfl fun f h => ?_
  rw [F63_eq]
  refine Cl_ask h fun k G hk e hs hok hv => ?_
  have g2 := hok.1.2.1
  simp only
  rw [hv.nn]
  simp only [Option.bind_some]
  rw [show (2 : Int32) * nI G.1 = nI (2 * G.1) from iMul 2 G.1]
  by_cases h0 : i < 0
  · rw [if_pos h0, if_pos (show isIn (2 * G.1) i = false by unfold isIn; rw [decide_eq_false (nle_of_lt h0)]; rfl)]
    exact CR.meet (k := 2) h (by decide)
  · rw [if_neg h0]
    by_cases h1 : i < nI (2 * G.1)
    · have hin : isIn (2 * G.1) i = true := by
        unfold isIn
        rw [decide_eq_true (i32lt h0), decide_eq_true h1]; rfl
      obtain ⟨j, j1, rfl, j3⟩ := isIn_ok (by omega) hin
      rw [if_pos h1, if_neg (by rw [hin]; decide), j3, h.r4]
      simp only [Option.bind_some]
      obtain ⟨f1, a1, a2, a3⟩ := Cn_look hok (by omega) hv h.na
      have h1 := h.nam a3 a2.na
      rw [a1]
      simp only [Option.bind_some]
      rw [h1.r4]
      simp only [Option.bind_some]
      rw [a2.l3, (hv.fx a3 (by omega)).nn]
      simp only [Option.bind_some]
      have hlt := (IsNm.of hok).lt.2
      rw [Cg_place g2 j1 (by omega)]
      exact CR.tr (a3.wi (by omega) (by omega)) (CR.stay h1)
    · rw [if_neg h1, if_pos (show isIn (2 * G.1) i = false by unfold isIn; rw [decide_eq_false h1, Bool.and_false])]
      exact CR.meet (k := 2) h (by decide)
theorem Cl_alike (S : St) (g k : Int32) : CSp 64 [.int g, .int k] S (spAlike S g k) := by
  refine CSp.of rfl fun f h => ?_
  rw [F64_eq, Cs_groundNo]
  simp only [Option.bind_some, b2i_0]
  unfold spAlike spAsk2
  by_cases hb : isIn 10 g = false
  · rw [if_pos hb, if_pos (Or.inl hb)]
    exact CR.stay h
  · rw [if_neg hb, Cs_groundNo]
    simp only [Option.bind_some, b2i_0]
    by_cases hb2 : isIn 10 k = false
    · rw [if_neg (fun z => z hb2), if_pos (Or.inr hb2)]
      exact CR.stay h
    · rw [if_pos hb2, if_neg (show ¬ (isIn 10 g = false ∨ isIn 10 k = false) from fun z => z.elim hb hb2)]
      obtain ⟨a, ha, rfl, hca⟩ := idx10 hb
      obtain ⟨b, hbb, rfl, hcb⟩ := idx10 hb2
      rw [hca, hcb, h.r1]
      simp only [Option.bind_some]
      rw [h.gr ha, h.gr hbb]
      simp only [Option.bind_some]
      have hg := h.go ha
      have hk := h.go hbb
      cases e : sGr S a with
      | none =>
        rw [e] at hg
        obtain ⟨ρ, C, hg⟩ := hg
        rw [Cg_missN hg]
        simp only [Option.bind_some]
        rw [if_pos (by decide)]
        exact CR.meet (k := 1) h (by decide)
      | some G =>
        rw [e] at hg
        rw [Cg_missV hg.2.1.2.1 hg.1]
        simp only [Option.bind_some]
        rw [if_neg (fun z => z trivial)]
        cases e2 : sGr S b with
        | none =>
          rw [e2] at hk
          obtain ⟨ρ, C, hk⟩ := hk
          rw [Cg_missN hk]
          simp only [Option.bind_some]
          rw [if_neg (by decide)]
          exact CR.meet (k := 1) h (by decide)
        | some K =>
          rw [e2] at hk
          obtain ⟨hg1, hg2⟩ := hg
          obtain ⟨hk1, hk2⟩ := hk
          have g2 := hg2.1.2.1
          have k2 := hk2.1.2.1
          rw [Cg_missV k2 hk1]
          simp only [Option.bind_some]
          rw [if_pos trivial, h.r4]
          simp only [Option.bind_some]
          obtain ⟨f1, a1, a2, a3⟩ := Cn_look hg2 (by omega) hg1 h.na
          have h1 := h.nam a3 a2.na
          rw [a1]
          simp only [Option.bind_some]
          rw [h1.r4]
          simp only [Option.bind_some]
          rw [a2.l3]
          simp only [Option.bind_some]
          obtain ⟨f2, b1, b2, b3⟩ := Cn_look hk2 (by omega) (hk1.fx a3 (by omega)) h1.na
          have h2 := h1.nam b3 b2.na
          rw [b1]
          simp only [Option.bind_some]
          rw [((hg1.fx a3 (by omega)).fx b3 (by omega)).nn, ((hk1.fx a3 (by omega)).fx b3 (by omega)).nn]
          simp only [Option.bind_some, iEQ (show G.1 < 2000000000 by omega) (show K.1 < 2000000000 by omega)]
          rw [h2.r4]
          simp only [Option.bind_some]
          rw [b2.l3]
          simp only [Option.bind_some]
          have l1 := (IsNm.of hg2).lt.2
          have l2 := (IsNm.of hk2).lt.2
          have q2 : (lg_cmp (lN (nmV G)) (lN (nmV K)) = 0) = (nmV G = nmV K) := by
            rw [lg_cmp_eq]
            exact propext (pk_lEQ (by omega) (by omega))
          simp only [q2]
          have hx : Fx 2 106 f f2 := (a3.wi (by omega) (by omega)).tr (b3.wi (by omega) (by omega))
          by_cases c0 : G.1 = K.1
          · rw [if_neg (fun z => z c0)]
            by_cases c1 : nmV G = nmV K
            · rw [if_neg (fun z => z c1), decide_eq_true ⟨c0, c1⟩]
              exact CR.tr hx (CR.stay h2)
            · rw [if_pos c1, decide_eq_false (fun z => c1 z.2)]
              exact CR.tr hx (CR.stay h2)
          · rw [if_pos c0, decide_eq_false (fun z => c0 z.1)]
            exact CR.tr hx (CR.stay h2)
theorem Cl_mean (S : St) (g : Int32) : CSp 65 [.int g] S (spMean S g) := by
  refine CSp.of rfl fun f h => ?_
  rw [F65_eq]
  refine Cl_ask h fun k G hk e hs hok hv => ?_
  subst e
  have g2 := hok.1.2.1
  have l1 := crn_le hok.1 1 G.1 (Nat.le_refl _)
  have l4 := crn_le hok.1 4 G.1 (Nat.le_refl _)
  simp only
  rw [h.r3, h.r1]
  simp only [Option.bind_some]
  rw [h.gr hk]
  simp only [Option.bind_some]
  obtain ⟨f1, a1, a2, a3, a4, a5⟩ := Cl_corn h hk hok hv
  rw [a1]
  simp only [Option.bind_some]
  rw [a3.r3]
  simp only [Option.bind_some]
  rw [a2.i2]
  simp only [Option.bind_some]
  have t0 : (nI (crn G 1 G.1) = 0) = (crn G 1 G.1 = 0) := iEQ (b := 0) (by omega) (by omega)
  simp only [t0]
  by_cases c0 : crn G 1 G.1 = 0
  · rw [if_neg (fun z => z c0), if_pos c0]
    exact CR.tr a4 (CR.meet (k := 4) a3 (by decide))
  · rw [if_pos c0, if_neg c0, Cc_bentSq hok.1 a2]
    simp only [Option.bind_some]
    rw [a3.r3]
    simp only [Option.bind_some]
    rw [a2.i2]
    simp only [Option.bind_some, t0]
    have hd : ∀ a, a < 100 → ∀ b, b < 100 → b ≠ 0 → nI a / nI b = nI (a / b) := by decide +kernel
    rw [if_neg c0, hd _ (by omega) _ (by omega) c0]
    exact CR.tr a4 (CR.stay a3)
theorem Cl_set (h : ClsAt S f) {k : Nat} (hk : k < 10) {G K : Gr} (hK : Ok K) (hn : K.1 = G.1) {f1 : Nat → mCell} (a2 : GV f1 (47 + 6 * k) K) (a3 : Fx (47 + 6 * k) (47 + 6 * k + 5) f f1) : CR ((gR (HF f1) 2 7 1).bind fun x8 => (cAldR (HF f1) x8 (nI k)).bind fun x9 => (gI (HF f1) x9 3 0).bind fun x10 => some (some (.int x10), HF f1)) f (nI G.1, sSetGr S k (some K)) := by
  have h1 := h.grd hk (Z := some K) a3 ⟨a2, hK⟩
  rw [h1.r1]
  simp only [Option.bind_some]
  rw [h1.gr hk]
  simp only [Option.bind_some]
  rw [a2.nn, hn]
  exact ⟨f1, rfl, h1, a3.wi (by omega) (by omega)⟩
theorem Cl_shear (S : St) (g w : Int32) : CSp 66 [.int g, .int w] S (spShear S g w) := by
  refine CSp.of rfl fun f h => ?_
  have t1 : (-100 : Int32).toInt = -100 := rfl
  have t3 : (100 : Int32).toInt = 100 := rfl
  rw [F66_eq, Cs_groundNo]
  simp only [Option.bind_some, b2i_0]
  unfold spShear
  by_cases hb : isIn 10 g = false
  · rw [if_pos hb, ask_bad hb]
    exact CR.stay h
  · rw [if_neg hb]
    obtain ⟨k, hk, rfl, hck⟩ := idx10 hb
    by_cases c0 : w < -100
    · rw [if_pos c0, if_neg (by rw [Int32.lt_iff_toInt_lt, t1] at c0; omega)]
      exact CR.stay h
    · rw [if_neg c0]
      by_cases c5 : w ≤ 100
      · have hw : -100 ≤ w.toInt ∧ w.toInt ≤ 100 := by
          rw [Int32.lt_iff_toInt_lt, t1] at c0
          rw [Int32.le_iff_toInt_le, t3] at c5
          omega
        rw [if_pos c5, if_pos hw, hck]
        refine Cl_in h hk fun G hs hok hv => ?_
        simp only
        rw [h.r1]
        simp only [Option.bind_some]
        rw [h.gr hk]
        simp only [Option.bind_some]
        obtain ⟨u, m, s1, s2, s3, s4⟩ := sgn_of (k := w) rfl (by omega)
        obtain ⟨f1, a1, a2, a3⟩ := Cg_slide hok.1 hv u s2 s3
        rw [← s1] at a1
        rw [← s4] at a2
        rw [a1]
        exact Cl_set h hk (hok.z w.toInt) (shZ_n _ _) a2 a3
      · rw [if_neg c5, if_neg (by rw [Int32.le_iff_toInt_le, t3] at c5; omega)]
        exact CR.stay h
theorem Cl_turn (S : St) (g : Int32) : CSp 67 [.int g] S (spTurn S g) := by
  refine CSp.of rfl fun f h => ?_
  rw [F67_eq]
  refine Cl_ask h fun k G hk e hs hok hv => ?_
  subst e
  rw [nI_cl (by omega)]
  simp only
  rw [h.r1]
  simp only [Option.bind_some]
  rw [h.gr hk]
  simp only [Option.bind_some]
  obtain ⟨f1, a1, a2, a3⟩ := Cg_quarter hok.1 hv
  rw [a1]
  exact Cl_set h hk (hok.tu false) rfl a2 a3
theorem sl_bd {p q : Int32} (h : ¬ isSl p q = false) : (0 ≤ q.toInt ∧ q.toInt ≤ 50) ∧ -50 ≤ p.toInt ∧ p.toInt ≤ 50 := by
  rw [bN] at h
  have h := of_decide_eq_true h
  exact ⟨h.2.1, h.1⟩
theorem Cl_see (S : St) (g p q : Int32) : CSp 68 [.int g, .int p, .int q] S (spSee S g p q) := by
  refine CSp.of rfl fun f h => ?_
  rw [F68_eq, Cs_groundNo]
  simp only [Option.bind_some, b2i_0]
  unfold spSee
  by_cases hb : isIn 10 g = false
  · have e : (if isSl p q = false then ((-1, S) : Int32 × St) else spAsk S g (fun G => (nI G.1, sSetGr S g.toNatClampNeg (some (seeG p.toInt q.toInt G))))) = (-1, S) := by
      unfold spAsk
      rw [if_pos hb]
      split <;> rfl
    rw [if_pos hb, e]
    exact CR.stay h
  · rw [if_neg hb, Cg_isSlope]
    simp only [Option.bind_some, b2i_0]
    obtain ⟨k, hk, rfl, hck⟩ := idx10 hb
    by_cases hb2 : isSl p q = false
    · rw [if_neg (fun z => z hb2), if_pos hb2]
      exact CR.stay h
    · rw [if_pos hb2, if_neg hb2, hck]
      obtain ⟨b1, b2⟩ := sl_bd hb2
      refine Cl_in h hk fun G hs hok hv => ?_
      simp only
      rw [h.r1]
      simp only [Option.bind_some]
      rw [h.gr hk]
      simp only [Option.bind_some]
      obtain ⟨f1, a1, a2, a3⟩ := Cg_see b1 b2 hok.1 hv
      rw [a1]
      exact Cl_set h hk (hok.sg 51 _ _) (sg_n 51 _ _ _) a2 a3
theorem Cl_cylinders (S : St) (g p q : Int32) : CSp 69 [.int g, .int p, .int q] S (spCyls S g p q) := by
  refine CSp.of rfl fun f h => ?_
  rw [F69_eq, Cs_groundNo]
  simp only [Option.bind_some, b2i_0]
  unfold spCyls
  by_cases hb : isIn 10 g = false
  · have e : (if isSl p q = false then ((-1, S) : Int32 × St) else spAsk S g (fun G => (nI (cyN (seeG p.toInt q.toInt G)), S))) = (-1, S) := by
      unfold spAsk
      rw [if_pos hb]
      split <;> rfl
    rw [if_pos hb, e]
    exact CR.stay h
  · rw [if_neg hb, Cg_isSlope]
    simp only [Option.bind_some, b2i_0]
    obtain ⟨k, hk, rfl, hck⟩ := idx10 hb
    by_cases hb2 : isSl p q = false
    · rw [if_neg (fun z => z hb2), if_pos hb2]
      exact CR.stay h
    · rw [if_pos hb2, if_neg hb2]
      obtain ⟨b1, b2⟩ := sl_bd hb2
      refine Cl_in h hk fun G hs hok hv => ?_
      simp only
      rw [h.r2, h.r1]
      simp only [Option.bind_some]
      rw [h.gr hk]
      simp only [Option.bind_some]
      obtain ⟨f1, a1, a2, a3⟩ := Cg_become hok.1 (by omega) hv h.ga
      have h1 := h.seen a3 a2.ga
      rw [a1]
      simp only [Option.bind_some]
      rw [h1.r2]
      simp only [Option.bind_some]
      obtain ⟨f2, c1, c2, c3⟩ := Cg_see b1 b2 hok.1 a2
      have h2 := h1.seen c3 c2.ga
      rw [c1]
      simp only [Option.bind_some]
      rw [h2.r5, h2.r2]
      simp only [Option.bind_some]
      obtain ⟨f3, d1, d2, d3, d4⟩ := Cy_look (hok.sg 51 p.toInt q.toInt).1 (by omega) (by omega) h2.t0 c2 h2.ya
      have h3 := h2.lyi d4 d3
      rw [d1]
      simp only [Option.bind_some]
      rw [h3.r5]
      simp only [Option.bind_some]
      rw [d2.nn]
      exact CR.tr (((a3.wi (by omega) (by omega)).tr (c3.wi (by omega) (by omega))).tr (d4.wi (by omega) (by omega))) (CR.stay h3)
theorem cyl_at {G : Gr} {i : Int32} {j : Nat} (hi : i = nI j) (hj : j < cyN G) (h8 : G.1 ≤ 8) : ∃ q, q < G.1 ∧ cyP G q = true ∧ cnt (cyP G) q = j ∧ nth (cyP G) G.1 i.toInt = some q := by
  have : ∀ n, j < cnt (cyP G) n → ∃ q, q < n ∧ cyP G q = true ∧ cnt (cyP G) q = j := by
    intro n
    induction n with
    | zero => intro z; exact absurd z (Nat.not_lt_zero _)
    | succ n ih =>
      intro z
      by_cases c : j < cnt (cyP G) n
      · obtain ⟨q, q1, q2, q3⟩ := ih c
        exact ⟨q, by omega, q2, q3⟩
      · have ec : cnt (cyP G) (n + 1) = cnt (cyP G) n + (if cyP G n = true then 1 else 0) := rfl
        by_cases c1 : cyP G n = true
        · rw [if_pos c1] at ec
          exact ⟨n, by omega, c1, by omega⟩
        · rw [if_neg c1] at ec
          omega
  obtain ⟨q, q1, q2, q3⟩ := this G.1 hj
  refine ⟨q, q1, q2, q3, nth_some q1 q2 ?_⟩
  have : cyN G ≤ G.1 := cnt_le _ _
  rw [hi, toInt_nI (by omega), q3]
theorem Cl_cylinder (S : St) (g i w : Int32) : CSp 70 [.int g, .int i, .int w] S (spCyl S g i w) := by
  refine CSp.of rfl fun f h => ?_
  have t0 : (0 : Int32).toInt = 0 := rfl
  have t2 : (2 : Int32).toInt = 2 := rfl
  rw [F70_eq, Cs_groundNo]
  simp only [Option.bind_some, b2i_0]
  unfold spCyl
  by_cases hb : isIn 10 g = false
  · rw [if_pos hb, ask_bad hb]
    exact CR.stay h
  · rw [if_neg hb]
    obtain ⟨k, hk, rfl, hck⟩ := idx10 hb
    by_cases c0 : w < 0
    · rw [if_pos c0, if_neg (by rw [Int32.lt_iff_toInt_lt, t0] at c0; omega)]
      exact CR.stay h
    · rw [if_neg c0]
      by_cases c5 : w ≤ 2
      · have hw : 0 ≤ w.toInt ∧ w.toInt ≤ 2 := by
          rw [Int32.lt_iff_toInt_lt, t0] at c0
          rw [Int32.le_iff_toInt_le, t2] at c5
          omega
        rw [if_pos c5, if_pos hw]
        refine Cl_in h hk fun G hs hok hv => ?_
        have g2 := hok.1.2.1
        have hcn : cyN G ≤ G.1 := cnt_le _ _
        simp only
        rw [h.r5, h.r1]
        simp only [Option.bind_some]
        rw [h.gr hk]
        simp only [Option.bind_some]
        obtain ⟨f1, a1, a2, a3, a4⟩ := Cl_lyi h hk hok hv
        rw [a1]
        simp only [Option.bind_some]
        rw [a3.r5]
        simp only [Option.bind_some]
        rw [a2.nn]
        simp only [Option.bind_some]
        have none_of : (∀ j : Nat, j < cyN G → (j : Int) ≠ i.toInt) → nth (cyP G) G.1 i.toInt = none := by
          intro hj
          refine nth_none fun q hq hp => hj _ ?_
          exact cnt_lt hq hp
        by_cases i0 : i < 0
        · rw [if_pos i0, none_of (fun j _ z => by rw [Int32.lt_iff_toInt_lt, t0] at i0; omega)]
          exact CR.tr a4 (CR.stay a3)
        · rw [if_neg i0]
          by_cases i1 : i < nI (cyN G)
          · have hin : isIn (cyN G) i = true := by
              unfold isIn
              rw [decide_eq_true (i32lt i0), decide_eq_true i1]; rfl
            obtain ⟨j, j1, j2, j3⟩ := isIn_ok (by omega) hin
            obtain ⟨q, q1, q2, q3, q4⟩ := cyl_at j2 j1 g2
            rw [if_pos i1, q4]
            obtain ⟨A, y1, y2⟩ := a2
            obtain ⟨z1, z2, z3⟩ := y2 q q1 q2
            rw [q3] at z1 z2 z3
            subst j2
            by_cases w0 : w = 0
            · subst w0
              rw [if_neg (fun z => z rfl), y1.r4]
              simp only [Option.bind_some]
              rw [y1.ld 5 (by omega) (by omega) (by omega), z1]
              exact CR.tr a4 (CR.stay a3)
            · rw [if_pos w0]
              have e0 : w.toInt ≠ 0 := fun z => w0 (Int32.toInt_inj.mp z)
              by_cases w1 : w = 1
              · subst w1
                rw [if_neg (fun z => z rfl), y1.r5]
                simp only [Option.bind_some]
                rw [y1.ld 6 (by omega) (by omega) (by omega), z2]
                exact CR.tr a4 (CR.stay a3)
              · rw [if_pos w1, y1.r6]
                have e1 : w.toInt ≠ 1 := fun z => w1 (Int32.toInt_inj.mp z)
                simp only [Option.bind_some]
                rw [y1.ld 7 (by omega) (by omega) (by omega), z3]
                have e : cylT G w.toInt q = q := by
                  unfold cylT
                  rw [if_neg e0, if_neg e1]
                simp only [e]
                exact CR.tr a4 (CR.stay a3)
          · rw [if_neg i1, none_of (fun j hj z => by
              have : ¬ i.toInt < (nI (cyN G)).toInt := fun y => i1 (Int32.lt_iff_toInt_lt.2 y)
              rw [toInt_nI (by omega)] at this
              omega)]
            exact CR.tr a4 (CR.stay a3)
      · rw [if_neg c5, if_neg (by rw [Int32.le_iff_toInt_le, t2] at c5; omega)]
        exact CR.stay h
theorem Cl_share (S : St) (g : Int32) : CSp 71 [.int g] S (spShare S g) := by
  refine CSp.of rfl fun f h => ?_
  rw [F71_eq]
  refine Cl_ask h fun k G hk e hs hok hv => ?_
  subst e
  have g2 := hok.1.2.1
  have hb := shr_le g2 G.1
  simp only
  rw [h.r5, h.r1]
  simp only [Option.bind_some]
  rw [h.gr hk]
  simp only [Option.bind_some]
  obtain ⟨f1, a1, a2, a3, a4⟩ := Cl_lyi h hk hok hv
  rw [a1]
  simp only [Option.bind_some]
  rw [a3.r7, a3.r5]
  simp only [Option.bind_some]
  rw [Cy_wp hok.1 a3.t0 a2]
  simp only [Option.bind_some]
  obtain ⟨f2, b1, b2, b3⟩ := Cf_tell (u := shr G G.1) (v := 840) (by omega) (by omega) (by omega) a3.fs
  rw [show vV 16 37 [.long (lN (shr G G.1)), .long 840] (HF f1) = _ from b1]
  exact ⟨f2, rfl, a3.fra b3 b2, a4.tr (b3.wi (by omega) (by omega))⟩
end C19
