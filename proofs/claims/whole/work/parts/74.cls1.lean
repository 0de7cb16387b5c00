theorem bN (b : Bool) : (¬ b = false) = (b = true) := by cases b <;> simp
section C18
variable {S : St} {f : Nat → mCell}
theorem Cl_sheet (S : St) (s n : Int32) : CSp 52 [.int s, .int n] S (spSheet S s n) := by
  refine CSp.of rfl fun f h => ?_
  rw [F52_eq, Cs_sheetNo]
  simp only [Option.bind_some, b2i_0]
  unfold spSheet
  by_cases hb : isIn 4 s = false
  · rw [if_pos hb, if_pos (Or.inl hb)]
    exact CR.stay h
  · obtain ⟨q, hq, rfl, hc⟩ := idx4 hb
    rw [if_neg hb]
    by_cases h8 : n ≤ 8
    · rw [if_pos h8, if_neg (show ¬ (isIn 4 (nI q) = false ∨ 8 < n) from fun z => z.elim hb (nlt_of_le h8))]
      by_cases h0 : 0 ≤ n
      · obtain ⟨m, m1, rfl, m3⟩ := i32in (n := 8) (by omega) (nlt_of_le h0) (nlt_of_le h8)
        rw [if_pos h0, if_neg (nlt_of_le h0), h.r0, hc, m3]
        simp only [Option.bind_some]
        rw [h.sh hq]
        simp only [Option.bind_some]
        obtain ⟨f1, a1, a2, a3⟩ := Cs_clear (h.so hq) m
        rw [a1]
        exact ⟨f1, rfl, h.she hq a3 a2, a3.wi (by omega) (by omega)⟩
      · rw [if_neg h0, if_pos (i32le h0)]
        exact CR.meet (k := 5) h (by decide)
    · rw [if_neg h8, if_pos (Or.inr (i32le h8))]
      exact CR.stay h
theorem Cl_lay (S : St) (hW : Wf S) (s i v : Int32) : CSp 53 [.int s, .int i, .int v] S (spLay S s i v) := by
  refine CSp.of rfl fun f h => ?_
  rw [F53_eq, Cs_sheetNo]
  simp only [Option.bind_some, b2i_0]
  unfold spLay
  by_cases hb : isIn 4 s = false
  · rw [if_neg (fun z => z hb), if_pos hb]
    exact CR.stay h
  · obtain ⟨q, hq, rfl, hc⟩ := idx4 hb
    rw [if_pos hb, if_neg hb, h.r0, hc]
    simp only [Option.bind_some]
    rw [h.sh hq]
    simp only [Option.bind_some]
    have hs := h.so hq
    rw [Cs_miss (fun n hn => hW.1 q n hq hn) hs]
    simp only [Option.bind_some, b2i_0]
    cases hz : sSz S q with
    | none =>
      rw [if_neg (by decide)]
      exact CR.meet (k := 1) h (by decide)
    | some n =>
      have hn8 := hW.1 q n hq hz
      rw [hz] at hs
      obtain ⟨B, hs, hB⟩ := hs
      have hnn : gI (HF f) (39 + 2 * q) 6 0 = some (nI n) := hs.nn
      rw [if_pos (show (!(some n).isSome) = false from rfl), hnn, hs.r]
      simp only [Option.bind_some]
      by_cases h0 : i < 0
      · rw [if_pos h0, if_pos (by unfold isIn; rw [decide_eq_false (nle_of_lt h0)]; rfl)]
        exact CR.meet (k := 2) h (by decide)
      · rw [if_neg h0]
        by_cases h1 : i < nI n
        · have hin : isIn n i = true := by
            unfold isIn
            rw [decide_eq_true (i32lt h0), decide_eq_true h1]; rfl
          obtain ⟨k, k1, rfl, k3⟩ := isIn_ok (by omega) hin
          rw [if_pos h1, if_neg (by rw [hin]; decide), hs.ld (by omega), hB k (by omega), k3]
          simp only [Option.bind_some]
          obtain ⟨f1, a1, a2, a3⟩ := hs.st (q := k) (by omega) (Int8.toInt32 (Int32.toInt8 v))
          rw [a1]
          have e : vp_nar .byte (Int8.toInt32 (Int32.toInt8 v)) = Int8.toInt32 (Int32.toInt8 v) := by
            unfold vp_nar
            rw [pk_nb]
          rw [e] at a2
          refine ⟨f1, rfl, h.she hq a3 ⟨_, a2, fun j hj => ?_⟩, a3.wi (by omega) (by omega)⟩
          by_cases ej : j = k
          · rw [ej, pk_us, pk_us]
          · rw [pk_un ej, pk_un ej]
            exact hB j hj
        · rw [if_neg h1, if_pos (by unfold isIn; rw [decide_eq_false h1, Bool.and_false])]
          exact CR.meet (k := 2) h (by decide)
theorem Cl_tear (S : St) (hW : Wf S) (s : Int32) : CSp 54 [.int s] S (spTear S s) := by
  refine CSp.of rfl fun f h => ?_
  rw [F54_eq, Cs_sheetNo]
  simp only [Option.bind_some, b2i_0]
  unfold spTear
  by_cases hb : isIn 4 s = false
  · rw [if_neg (fun z => z hb), if_pos hb]
    exact CR.stay h
  · obtain ⟨q, hq, rfl, hc⟩ := idx4 hb
    rw [if_pos hb, if_neg hb, h.r0, hc]
    simp only [Option.bind_some]
    rw [h.sh hq]
    simp only [Option.bind_some]
    have hs := h.so hq
    rw [Cs_miss (fun n hn => hW.1 q n hq hn) hs]
    simp only [Option.bind_some, b2i_0]
    cases hz : sSz S q with
    | none =>
      rw [if_neg (by decide)]
      exact CR.meet (k := 1) h (by decide)
    | some n =>
      rw [if_pos (show (!(some n).isSome) = false from rfl), h.r0]
      simp only [Option.bind_some]
      rw [h.sh hq]
      simp only [Option.bind_some]
      obtain ⟨f1, a1, a2, a3⟩ := Cs_vanish hs
      rw [a1]
      exact ⟨f1, rfl, h.she hq a3 a2, a3.wi (by omega) (by omega)⟩
theorem cCpy_of {a b : Nat} {F1 G1 : Nat → Int32} {sp dp n : Nat} (ha : a < 132) (hb : b < 132) (h1 : f a = .inl (1, 8, .inl F1)) (h2 : f b = .inl (1, 8, .inl G1)) (e1 : sp + n ≤ 8) (e2 : dp + n ≤ 8) (hf : ∀ i, i < 8 → fits .byte (.int (F1 i)) = true) : cCpy (HF f) a b (nI sp) (nI dp) (nI n) = some (HF (up f b (.inl (1, 8, .inl (va_cpy F1 G1 sp dp n))))) := by
  have z : ∀ k : Nat, k ≤ 8 → ¬ nI k < 0 := fun k hk => by
    show ¬ nI k < nI 0
    rw [iLT (by omega) (by omega)]
    omega
  unfold cCpy
  rw [HF_at ha, HF_at hb, h1, h2]
  simp only [nI_cl (show sp < 2000000000 by omega), nI_cl (show dp < 2000000000 by omega), nI_cl (show n < 2000000000 by omega)]
  rw [if_pos ⟨trivial, trivial, z sp (by omega), z dp (by omega), z n (by omega), e1, e2, fun i hi => hf _ (by omega)⟩, HF_set]
theorem has_ok {z : Nat} (hz : z ≤ 8) {i n : Int32} (hn : ¬ n < 0) (h : hasAll (nI z) i n = true) : ∃ a b, i = nI a ∧ n = nI b ∧ a + b ≤ z ∧ i.toNatClampNeg = a ∧ n.toNatClampNeg = b := by
  unfold hasAll at h
  have h := of_decide_eq_true h
  rw [toInt_nI (by omega)] at h
  have h0 : 0 ≤ n.toInt := by
    rw [Int32.lt_iff_toInt_lt] at hn
    have : (0 : Int32).toInt = 0 := rfl
    omega
  have e1 : i = nI i.toInt.natAbs := by
    apply Int32.toInt_inj.mp
    rw [nI_toInt (by omega)]
    omega
  have e2 : n = nI n.toInt.natAbs := by
    apply Int32.toInt_inj.mp
    rw [nI_toInt (by omega)]
    omega
  refine ⟨i.toInt.natAbs, n.toInt.natAbs, e1, e2, by omega, ?_, ?_⟩
  · conv => lhs; rw [e1]
    exact nI_cl (by omega)
  · conv => lhs; rw [e2]
    exact nI_cl (by omega)
theorem Cl_copy (S : St) (hW : Wf S) (s i to j n : Int32) : CSp 55 [.int s, .int i, .int to, .int j, .int n] S (spCopy S s i to j n) := by
  refine CSp.of rfl fun f h => ?_
  rw [F55_eq, Cs_sheetNo]
  simp only [Option.bind_some, b2i_0]
  unfold spCopy
  by_cases hb : isIn 4 s = false
  · rw [if_pos hb, if_pos (Or.inl hb)]
    exact CR.stay h
  · rw [if_neg hb, Cs_sheetNo]
    simp only [Option.bind_some, b2i_0]
    by_cases hb2 : isIn 4 to = false
    · rw [if_neg (fun z => z hb2), if_pos (Or.inr hb2)]
      exact CR.stay h
    · rw [if_pos hb2, if_neg (show ¬ (isIn 4 s = false ∨ isIn 4 to = false) from fun z => z.elim hb hb2)]
      obtain ⟨q, hq, rfl, hc⟩ := idx4 hb
      obtain ⟨u, hu, rfl, hcu⟩ := idx4 hb2
      rw [hc, hcu]
      by_cases h0 : n < 0
      · rw [if_neg (nle_of_lt h0), if_pos h0]
        exact CR.meet (k := 5) h (by decide)
      · rw [if_pos (i32lt h0), if_neg h0, h.r0]
        simp only [Option.bind_some]
        rw [h.sh hq, h.sh hu]
        simp only [Option.bind_some]
        have hs := h.so hq
        have ht := h.so hu
        rw [Cs_miss (fun n hn => hW.1 q n hq hn) hs]
        simp only [Option.bind_some, b2i_0]
        cases hz : sSz S q with
        | none =>
          rw [if_pos (by decide)]
          exact CR.meet (k := 1) h (by decide)
        | some a =>
          have ha8 := hW.1 q a hq hz
          rw [if_neg (fun z => z rfl), Cs_miss (fun n hn => hW.1 u n hu hn) ht]
          simp only [Option.bind_some, b2i_0]
          cases hz2 : sSz S u with
          | none =>
            rw [if_neg (by decide)]
            exact CR.meet (k := 1) h (by decide)
          | some b =>
            have hb8 := hW.1 u b hu hz2
            rw [hz] at hs
            rw [hz2] at ht
            rw [if_pos (show (!(some b).isSome) = false from rfl), Cs_has ha8 hs h0]
            simp only [Option.bind_some, b2i_0]
            by_cases c1 : hasAll (nI a) i n = false
            · rw [if_pos c1, if_neg (fun z => by rw [c1] at z; exact absurd z.1 (by decide))]
              exact CR.meet (k := 2) h (by decide)
            · rw [if_neg c1, Cs_has hb8 ht h0]
              simp only [Option.bind_some, b2i_0]
              by_cases c2 : hasAll (nI b) j n = false
              · rw [if_neg (fun z => z c2), if_neg (fun z => by rw [c2] at z; exact absurd z.2 (by decide))]
                exact CR.meet (k := 2) h (by decide)
              · rw [bN] at c1 c2
                obtain ⟨i0, n0, rfl, rfl, x3, x4, x5⟩ := has_ok ha8 h0 c1
                obtain ⟨j0, n1, rfl, y2, y3, y4, y5⟩ := has_ok hb8 h0 c2
                rw [if_pos (by rw [c2]; decide), if_pos ⟨c1, c2⟩, x4, x5, y4]
                obtain ⟨B, hs, hB⟩ := hs
                obtain ⟨C, ht, hC⟩ := ht
                have hn0 : n1 = n0 := y5.symm.trans x5
                rw [hs.r, ht.r]
                simp only [Option.bind_some]
                rw [cCpy_of (by omega) (by omega) hs.2.2 ht.2.2 (by omega) (by omega) (fun i hi => by rw [hB i hi]; exact hW.2.1 q i hq hi)]
                have hx : Fx (39 + 2 * u) (39 + 2 * u + 1) f (up f (39 + 2 * u + 1) (.inl (1, 8, .inl (va_cpy B C i0 j0 n0)))) := Fx.up (by omega) (by omega)
                refine ⟨_, rfl, h.she hu hx ⟨_, ⟨ht.1, ?_, up_at⟩, fun k hk => ?_⟩, hx.wi (by omega) (by omega)⟩
                · rw [up_ne (by omega)]
                  exact ht.2.1
                · unfold va_cpy
                  by_cases ck : j0 ≤ k ∧ k < j0 + n0
                  · rw [if_pos ck, if_pos ck]
                    exact hB _ (by omega)
                  · rw [if_neg ck, if_neg ck]
                    exact hC k hk
theorem Cl_ground (S : St) (hW : Wf S) (g a b : Int32) : CSp 56 [.int g, .int a, .int b] S (spGround S g a b) := by
  refine CSp.of rfl fun f h => ?_
  rw [F56_eq, Cs_groundNo]
  simp only [Option.bind_some, b2i_0]
  unfold spGround
  by_cases hb : isIn 10 g = false
  · rw [if_pos hb, if_pos (Or.inl hb)]
    exact CR.stay h
  · rw [if_neg hb, Cs_sheetNo]
    simp only [Option.bind_some, b2i_0]
    by_cases hb1 : isIn 4 a = false
    · rw [if_pos hb1, if_pos (Or.inr (Or.inl hb1))]
      exact CR.stay h
    · rw [if_neg hb1, Cs_sheetNo]
      simp only [Option.bind_some, b2i_0]
      by_cases hb2 : isIn 4 b = false
      · rw [if_neg (fun z => z hb2), if_pos (Or.inr (Or.inr hb2))]
        exact CR.stay h
      · rw [if_pos hb2, if_neg (show ¬ (isIn 10 g = false ∨ isIn 4 a = false ∨ isIn 4 b = false) from fun z => z.elim hb (fun z => z.elim hb1 hb2))]
        obtain ⟨k, hk, rfl, hck⟩ := idx10 hb
        obtain ⟨q, hq, rfl, hc⟩ := idx4 hb1
        obtain ⟨u, hu, rfl, hcu⟩ := idx4 hb2
        rw [hc, hcu, hck, h.r0]
        simp only [Option.bind_some]
        rw [h.sh hq, h.sh hu]
        simp only [Option.bind_some]
        have hs := h.so hq
        have ht := h.so hu
        rw [Cs_miss (fun n hn => hW.1 q n hq hn) hs]
        simp only [Option.bind_some, b2i_0]
        cases hz : sSz S q with
        | none =>
          rw [if_pos (by decide)]
          exact CR.meet (k := 1) h (by decide)
        | some n =>
          have hn8 := hW.1 q n hq hz
          rw [if_neg (fun z => z rfl), Cs_miss (fun n hn => hW.1 u n hu hn) ht]
          simp only [Option.bind_some, b2i_0]
          cases hz2 : sSz S u with
          | none =>
            rw [if_neg (by decide)]
            exact CR.meet (k := 1) h (by decide)
          | some m =>
            have hm8 := hW.1 u m hu hz2
            rw [hz] at hs
            rw [hz2] at ht
            rw [if_pos (show (!(some m).isSome) = false from rfl), Cs_tell hn8 hm8 hs ht]
            simp only [Option.bind_some, b2i_0]
            by_cases c0 : n = m ∧ grOk n (sBy S q) (sBy S u) = true
            · rw [if_pos (by rw [decide_eq_true c0]; decide), if_pos c0, h.r1]
              simp only [Option.bind_some]
              rw [h.gr hk]
              simp only [Option.bind_some]
              obtain ⟨c1, c2⟩ := c0
              subst c1
              unfold grOk at c2
              simp only [Bool.and_eq_true, decide_eq_true_eq] at c2
              obtain ⟨⟨⟨c3, c4⟩, c5⟩, c6⟩ := c2
              obtain ⟨f1, a1, a2, a3⟩ := Cs_layOut hn8 (by omega) (by omega) hs ht c4 c5 (h.go hk).ga
              obtain ⟨p1, p2⟩ := wh_prm hn8 c4
              obtain ⟨s1, s2⟩ := wh_prm hn8 c5
              have hok : Ok (n, rowN (sBy S q), rowN (sBy S u)) := ⟨⟨show 1 ≤ n by omega, hn8, p1, s1⟩, conn_of_full p1 s1 (show 0 < n by omega) c6⟩
              have h1 := h.grd hk (Z := some (n, rowN (sBy S q), rowN (sBy S u))) a3 ⟨a2, hok⟩
              rw [a1]
              simp only [Option.bind_some]
              rw [h1.r1]
              simp only [Option.bind_some]
              rw [h1.gr hk]
              simp only [Option.bind_some]
              rw [a2.nn]
              exact ⟨f1, rfl, h1, a3.wi (by omega) (by omega)⟩
            · rw [if_neg (fun z => z (decide_eq_false c0)), if_neg c0]
              exact CR.stay h
theorem Cl_drop (S : St) (g : Int32) : CSp 57 [.int g] S (spDrop S g) := by
  refine CSp.of rfl fun f h => ?_
  rw [F57_eq]
  refine Cl_ask h (K := fun x3 q4 => (gR q4.2 2 7 1).bind fun x5 => (cAldR q4.2 x5 g).bind fun x6 => (vV 19 x6 [] q4.2).bind fun h7 => some (some (.int 1), h7)) fun k G hk e hs hok hv => ?_
  subst e
  rw [nI_cl (by omega)]
  simp only
  rw [h.r1]
  simp only [Option.bind_some]
  rw [h.gr hk]
  simp only [Option.bind_some]
  obtain ⟨f1, a1, a2, a3⟩ := Cg_vanish hv.ga
  rw [a1]
  exact ⟨f1, rfl, h.grd hk a3 a2, a3.wi (by omega) (by omega)⟩
theorem Cl_twin (S : St) (g to : Int32) : CSp 58 [.int g, .int to] S (spTwin S g to) := by
  refine CSp.of rfl fun f h => ?_
  rw [F58_eq, Cs_groundNo]
  simp only [Option.bind_some, b2i_0]
  unfold spTwin
  by_cases hb : isIn 10 g = false
  · have e : (if isIn 10 to = false then ((-1, S) : Int32 × St) else spAsk S g (fun G => (nI G.1, sSetGr S to.toNatClampNeg (some G)))) = (-1, S) := by
      unfold spAsk
      rw [if_pos hb]
      split <;> rfl
    rw [if_pos hb, e]
    exact CR.stay h
  · rw [if_neg hb, Cs_groundNo]
    simp only [Option.bind_some, b2i_0]
    by_cases hb2 : isIn 10 to = false
    · rw [if_neg (fun z => z hb2), if_pos hb2]
      exact CR.stay h
    · rw [if_pos hb2, if_neg hb2]
      obtain ⟨k, hk, rfl, hck⟩ := idx10 hb
      obtain ⟨u, hu, rfl, hcu⟩ := idx10 hb2
      refine Cl_in h hk (K := fun x3 q5 => (gR q5.2 2 7 1).bind fun x6 => (cAldR q5.2 x6 (nI u)).bind fun x7 => (gR q5.2 2 7 1).bind fun x8 => (cAldR q5.2 x8 (nI k)).bind fun x9 => (vV 23 x7 [.ref x9] q5.2).bind fun h10 => (gR h10 2 7 1).bind fun x11 => (cAldR h10 x11 (nI u)).bind fun x12 => (gI h10 x12 3 0).bind fun x13 => some (some (.int x13), h10)) fun G hs hok hv => ?_
      rw [hcu]
      simp only
      rw [h.r1]
      simp only [Option.bind_some]
      rw [h.gr hk, h.gr hu]
      simp only [Option.bind_some]
      have hex : ∃ f1, vV 23 (47 + 6 * u) [.ref (47 + 6 * k)] (HF f) = some (HF f1) ∧ GV f1 (47 + 6 * u) G ∧ Fx (47 + 6 * u) (47 + 6 * u + 5) f f1 := by
        by_cases e : u = k
        · subst e
          exact Cg_self hok.1 hv
        · exact Cg_become hok.1 (by omega) hv (h.go hu).ga
      obtain ⟨f1, a1, a2, a3⟩ := hex
      have h1 := h.grd hu (Z := some G) a3 ⟨a2, hok⟩
      rw [a1]
      simp only [Option.bind_some]
      rw [h1.r1]
      simp only [Option.bind_some]
      rw [h1.gr hu]
      simp only [Option.bind_some]
      rw [a2.nn]
      exact ⟨f1, rfl, h1, a3.wi (by omega) (by omega)⟩
end C18
