/-! the class: its whole state -/
def sOb (fi : Int32) : List Value := [.ref 3, .ref 4, .ref 5, .ref 11, .ref 13, .ref 16, .ref 24, .ref 37, .ref 38, .int fi]
def Hd (S : St) (f : Nat → mCell) : Prop := T0 f ∧ f 2 = .inr (7, sOb (sFi S)) ∧ (∃ gr : Nat → Option Nat, f 3 = .inl (3, 4, .inr (.inr (.inr (.inr gr)))) ∧ ∀ s, s < 4 → gr s = some (39 + 2 * s)) ∧ (∃ gr : Nat → Option Nat, f 4 = .inl (4, 10, .inr (.inr (.inr (.inr gr)))) ∧ ∀ g, g < 10 → gr g = some (47 + 6 * g)) ∧ ∃ TF : Nat → Int32, f 38 = .inl (0, 6, .inl TF) ∧ ∀ k, k < 6 → TF k = sFs S k
def ClsAt (S : St) (f : Nat → mCell) : Prop := Hd S f ∧ GA f 5 ∧ CA f 11 ∧ NA f 13 ∧ YA f 16 ∧ OrI f ∧ FS f 37 (sUp S) (sLo S) ∧ (∀ s, s < 4 → SO f (39 + 2 * s) (sSz S s) (sBy S s)) ∧ ∀ g, g < 10 → GO f (47 + 6 * g) (sGr S g)
section C16
variable {S : St} {f f' : Nat → mCell}
theorem Hd.fx (h : Hd S f) (hf : ∀ b, (b < 5 ∨ b = 38) → f' b = f b) : Hd S f' := by
  unfold Hd T0
  rw [hf 0 (by omega), hf 2 (by omega), hf 3 (by omega), hf 4 (by omega), hf 38 (by omega)]
  exact h
theorem ClsAt.hd (h : ClsAt S f) : Hd S f := h.1
theorem ClsAt.t0 (h : ClsAt S f) : T0 f := h.1.1
theorem ClsAt.ga (h : ClsAt S f) : GA f 5 := h.2.1
theorem ClsAt.ca (h : ClsAt S f) : CA f 11 := h.2.2.1
theorem ClsAt.na (h : ClsAt S f) : NA f 13 := h.2.2.2.1
theorem ClsAt.ya (h : ClsAt S f) : YA f 16 := h.2.2.2.2.1
theorem ClsAt.oi (h : ClsAt S f) : OrI f := h.2.2.2.2.2.1
theorem ClsAt.fs (h : ClsAt S f) : FS f 37 (sUp S) (sLo S) := h.2.2.2.2.2.2.1
theorem ClsAt.so (h : ClsAt S f) {s : Nat} (hs : s < 4) : SO f (39 + 2 * s) (sSz S s) (sBy S s) := h.2.2.2.2.2.2.2.1 s hs
theorem ClsAt.go (h : ClsAt S f) {g : Nat} (hg : g < 10) : GO f (47 + 6 * g) (sGr S g) := h.2.2.2.2.2.2.2.2 g hg
theorem ClsAt.out (h : ClsAt S f) {hi : Nat} (hf : Fx 107 hi f f') : ClsAt S f' := ⟨h.hd.fx (fun b hb => hf b (by omega)), h.ga.fx hf (by omega), h.ca.fx hf (by omega), h.na.fx hf (by omega), h.ya.fx hf (by omega), h.oi.fx hf (by omega), h.fs.fx hf (by omega), fun s hs => (h.so hs).fx hf (by omega), fun g hg => (h.go hg).fx hf (by omega)⟩
theorem ClsAt.c1 (h : ClsAt S f) (hf : Fx 1 1 f f') : ClsAt S f' := ⟨by
  unfold Hd T0
  rw [hf 0 (by omega), hf 2 (by omega), hf 3 (by omega), hf 4 (by omega), hf 38 (by omega)]
  exact h.hd, h.ga.fx hf (by omega), h.ca.fx hf (by omega), h.na.fx hf (by omega), h.ya.fx hf (by omega), h.oi.fx hf (by omega), h.fs.fx hf (by omega), fun s hs => (h.so hs).fx hf (by omega), fun g hg => (h.go hg).fx hf (by omega)⟩
theorem ClsAt.seen (h : ClsAt S f) (hf : Fx 5 10 f f') (hn : GA f' 5) : ClsAt S f' := ⟨h.hd.fx (fun b hb => hf b (by omega)), hn, h.ca.fx hf (by omega), h.na.fx hf (by omega), h.ya.fx hf (by omega), h.oi.fx hf (by omega), h.fs.fx hf (by omega), fun s hs => (h.so hs).fx hf (by omega), fun g hg => (h.go hg).fx hf (by omega)⟩
theorem ClsAt.corn (h : ClsAt S f) (hf : Fx 11 12 f f') (hn : CA f' 11) : ClsAt S f' := ⟨h.hd.fx (fun b hb => hf b (by omega)), h.ga.fx hf (by omega), hn, h.na.fx hf (by omega), h.ya.fx hf (by omega), h.oi.fx hf (by omega), h.fs.fx hf (by omega), fun s hs => (h.so hs).fx hf (by omega), fun g hg => (h.go hg).fx hf (by omega)⟩
theorem ClsAt.nam (h : ClsAt S f) (hf : Fx 13 15 f f') (hn : NA f' 13) : ClsAt S f' := ⟨h.hd.fx (fun b hb => hf b (by omega)), h.ga.fx hf (by omega), h.ca.fx hf (by omega), hn, h.ya.fx hf (by omega), h.oi.fx hf (by omega), h.fs.fx hf (by omega), fun s hs => (h.so hs).fx hf (by omega), fun g hg => (h.go hg).fx hf (by omega)⟩
theorem ClsAt.lyi (h : ClsAt S f) (hf : Fx 16 23 f f') (hn : YA f' 16) : ClsAt S f' := ⟨h.hd.fx (fun b hb => hf b (by omega)), h.ga.fx hf (by omega), h.ca.fx hf (by omega), h.na.fx hf (by omega), hn, h.oi.fx hf (by omega), h.fs.fx hf (by omega), fun s hs => (h.so hs).fx hf (by omega), fun g hg => (h.go hg).fx hf (by omega)⟩
theorem ClsAt.orb (h : ClsAt S f) (hf : Fx 24 36 f f') (hn : OrI f') : ClsAt S f' := ⟨h.hd.fx (fun b hb => hf b (by omega)), h.ga.fx hf (by omega), h.ca.fx hf (by omega), h.na.fx hf (by omega), h.ya.fx hf (by omega), hn, h.fs.fx hf (by omega), fun s hs => (h.so hs).fx hf (by omega), fun g hg => (h.go hg).fx hf (by omega)⟩
theorem ClsAt.fra (h : ClsAt S f) {a b : Int64} (hf : Fx 37 37 f f') (hn : FS f' 37 a b) : ClsAt (sSetFr S a b) f' := ⟨Hd.fx (S := sSetFr S a b) h.hd (fun b hb => hf b (by omega)), h.ga.fx hf (by omega), h.ca.fx hf (by omega), h.na.fx hf (by omega), h.ya.fx hf (by omega), h.oi.fx hf (by omega), hn, fun s hs => (h.so hs).fx hf (by omega), fun g hg => (h.go hg).fx hf (by omega)⟩
theorem ClsAt.she (h : ClsAt S f) {s : Nat} (hs : s < 4) {z : Option Nat} {b : Nat → Int32} (hf : Fx (39 + 2 * s) (39 + 2 * s + 1) f f') (hn : SO f' (39 + 2 * s) z b) : ClsAt (sSetSheet S s z b) f' := by
  refine ⟨Hd.fx (S := sSetSheet S s z b) h.hd (fun b hb => hf b (by omega)), h.ga.fx hf (by omega), h.ca.fx hf (by omega), h.na.fx hf (by omega), h.ya.fx hf (by omega), h.oi.fx hf (by omega), h.fs.fx hf (by omega), fun t ht => ?_, fun g hg => (h.go hg).fx hf (by omega)⟩
  show SO f' (39 + 2 * t) (fu (sSz S) s z t) (fu (sBy S) s b t)
  by_cases e : t = s
  · rw [e, fu_at, fu_at]
    exact hn
  · rw [fu_ne e, fu_ne e]
    exact (h.so ht).fx hf (by omega)
theorem ClsAt.grd (h : ClsAt S f) {g : Nat} (hg : g < 10) {Z : Option Gr} (hf : Fx (47 + 6 * g) (47 + 6 * g + 5) f f') (hn : GO f' (47 + 6 * g) Z) : ClsAt (sSetGr S g Z) f' := by
  refine ⟨Hd.fx (S := sSetGr S g Z) h.hd (fun b hb => hf b (by omega)), h.ga.fx hf (by omega), h.ca.fx hf (by omega), h.na.fx hf (by omega), h.ya.fx hf (by omega), h.oi.fx hf (by omega), h.fs.fx hf (by omega), fun t ht => (h.so ht).fx hf (by omega), fun t ht => ?_⟩
  show GO f' (47 + 6 * t) (fu (sGr S) g Z t)
  by_cases e : t = g
  · rw [e, fu_at]
    exact hn
  · rw [fu_ne e]
    exact (h.go ht).fx hf (by omega)
theorem ClsAt.O (h : ClsAt S f) : gO (HF f) 2 7 = some () := gO_of (by omega) h.hd.2.1
theorem ClsAt.r0 (h : ClsAt S f) : gR (HF f) 2 7 0 = some 3 := gR_of (by omega) h.hd.2.1 rfl
theorem ClsAt.r1 (h : ClsAt S f) : gR (HF f) 2 7 1 = some 4 := gR_of (by omega) h.hd.2.1 rfl
theorem ClsAt.r2 (h : ClsAt S f) : gR (HF f) 2 7 2 = some 5 := gR_of (by omega) h.hd.2.1 rfl
theorem ClsAt.r3 (h : ClsAt S f) : gR (HF f) 2 7 3 = some 11 := gR_of (by omega) h.hd.2.1 rfl
theorem ClsAt.r4 (h : ClsAt S f) : gR (HF f) 2 7 4 = some 13 := gR_of (by omega) h.hd.2.1 rfl
theorem ClsAt.r5 (h : ClsAt S f) : gR (HF f) 2 7 5 = some 16 := gR_of (by omega) h.hd.2.1 rfl
theorem ClsAt.r6 (h : ClsAt S f) : gR (HF f) 2 7 6 = some 24 := gR_of (by omega) h.hd.2.1 rfl
theorem ClsAt.r7 (h : ClsAt S f) : gR (HF f) 2 7 7 = some 37 := gR_of (by omega) h.hd.2.1 rfl
theorem ClsAt.r8 (h : ClsAt S f) : gR (HF f) 2 7 8 = some 38 := gR_of (by omega) h.hd.2.1 rfl
theorem ClsAt.i9 (h : ClsAt S f) : gI (HF f) 2 7 9 = some (sFi S) := gI_of (by omega) h.hd.2.1 rfl
theorem ClsAt.sh (h : ClsAt S f) {s : Nat} (hs : s < 4) : cAldR (HF f) 3 (nI s) = some (39 + 2 * s) := by
  obtain ⟨gr, h1, h2⟩ := h.hd.2.2.1
  rw [cAldR_of (Or.inl rfl) (by omega) h1 hs (by omega)]
  exact h2 s hs
theorem ClsAt.gr (h : ClsAt S f) {g : Nat} (hg : g < 10) : cAldR (HF f) 4 (nI g) = some (47 + 6 * g) := by
  obtain ⟨gr, h1, h2⟩ := h.hd.2.2.2.1
  rw [cAldR_of (Or.inr rfl) (by omega) h1 hg (by omega)]
  exact h2 g hg
theorem Cl_found (h : ClsAt S f) {k : Nat} (hk : k < 6) : ∃ f', vI 92 2 [.int (nI k)] (HF f) = some (-3, HF f') ∧ ClsAt (sMeet S k) f' ∧ Fx 2 106 f f' := by
  have hO := h.O
  have hr := h.r8
  obtain ⟨h1, h2, h3, h4, TF, h5, h6⟩ := h.hd
  have pre := F92_eq 2 (nI k) (HF f)
  rw [cPut_of (by omega) h2 (by show 9 < 10; omega)] at pre
  simp only [Option.bind_some] at pre
  have x1 : gR (HF (up f 2 (.inr (7, (sOb (sFi S)).set 9 (.int (nI k)))))) 2 7 8 = some 38 := gR_of (by omega) up_at rfl
  have x2 : up f 2 (.inr (7, (sOb (sFi S)).set 9 (.int (nI k)))) 38 = .inl (0, 6, .inl TF) := by rw [up_ne (by decide)]; exact h5
  rw [x1] at pre
  simp only [Option.bind_some] at pre
  rw [cAldI_of (by omega) x2 hk (by omega)] at pre
  simp only [Option.bind_some] at pre
  rw [cAstI_of (by omega) x2 hk (by omega)] at pre
  simp only [Option.bind_some] at pre
  have hf : ∀ b, b ≠ 2 → b ≠ 38 → up (up f 2 (.inr (7, (sOb (sFi S)).set 9 (.int (nI k))))) 38 (.inl (0, 6, .inl (upd TF k (TF k + 1)))) b = f b := fun b b1 b2 => by rw [up_ne b2, up_ne b1]
  have hx : Fx 2 2 f (up f 2 (.inr (7, (sOb (sFi S)).set 9 (.int (nI k))))) := Fx.up (by omega) (by omega)
  have hy : Fx 38 38 (up f 2 (.inr (7, (sOb (sFi S)).set 9 (.int (nI k))))) (up (up f 2 (.inr (7, (sOb (sFi S)).set 9 (.int (nI k))))) 38 (.inl (0, 6, .inl (upd TF k (TF k + 1))))) := Fx.up (by omega) (by omega)
  refine ⟨_, vI_of (ci := 7) rfl hO pre, ⟨⟨?_, ?_, ?_, ?_, ?_⟩, (h.ga.fx hx (by omega)).fx hy (by omega), (h.ca.fx hx (by omega)).fx hy (by omega), (h.na.fx hx (by omega)).fx hy (by omega), (h.ya.fx hx (by omega)).fx hy (by omega), (h.oi.fx hx (by omega)).fx hy (by omega), (h.fs.fx hx (by omega)).fx hy (by omega), fun s hs => ((h.so hs).fx hx (by omega)).fx hy (by omega), fun g hg => ((h.go hg).fx hx (by omega)).fx hy (by omega)⟩, (hx.wi (by omega) (by omega)).tr (hy.wi (by omega) (by omega))⟩
  · unfold T0
    rw [hf 0 (by decide) (by decide)]
    exact h1
  · rw [up_ne (by decide), up_at]
    rfl
  · rw [hf 3 (by decide) (by decide)]
    exact h3
  · rw [hf 4 (by decide) (by decide)]
    exact h4
  · refine ⟨_, up_at, fun j hj => ?_⟩
    show upd TF k (TF k + 1) j = fu (sFs S) k (sFs S k + 1) j
    by_cases e : j = k
    · rw [e, pk_us, fu_at, h6 k hk]
    · rw [pk_un e, fu_ne e]
      exact h6 j hj
end C16
/-- what a call of the class answers and leaves -/
def CR (X : mR') (f : Nat → mCell) (r : Int32 × St) : Prop := ∃ f', X = some (some (.int r.1), HF f') ∧ ClsAt r.2 f' ∧ Fx 2 106 f f'
def CSp (j : Nat) (as : List Value) (S : St) (r : Int32 × St) : Prop := ∀ f, ClsAt S f → ∃ f', vI j 2 as (HF f) = some (r.1, HF f') ∧ ClsAt r.2 f' ∧ Fx 2 106 f f'
section C17
variable {S : St} {f f' : Nat → mCell}
theorem CSp.of {j : Nat} {as : List Value} {r : Int32 × St} (hj : mO j = 7) (h : ∀ f, ClsAt S f → CR (F j (.ref 2 :: as) (HF f)) f r) : CSp j as S r := by
  intro f hf
  obtain ⟨f', h1, h2, h3⟩ := h f hf
  exact ⟨f', vI_of (ci := 7) hj hf.O h1, h2, h3⟩
theorem CR.stay (h : ClsAt S f) {x : Int32} : CR (some (some (.int x), HF f)) f (x, S) := ⟨f, rfl, h, Fx.rf⟩
theorem CR.meet (h : ClsAt S f) {k : Nat} (hk : k < 6) : CR ((vI 92 2 [.int (nI k)] (HF f)).bind fun q => some (some (.int q.1), q.2)) f (-3, sMeet S k) := by
  obtain ⟨f', h1, h2, h3⟩ := Cl_found h hk
  refine ⟨f', ?_, h2, h3⟩
  rw [h1]
  rfl
theorem CR.tr {X : mR'} {f1 : Nat → mCell} {r : Int32 × St} (hx : Fx 2 106 f f1) (h : CR X f1 r) : CR X f r := by
  obtain ⟨f', h1, h2, h3⟩ := h
  exact ⟨f', h1, h2, hx.tr h3⟩
theorem Cl_in (h : ClsAt S f) {k : Nat} (hk : k < 10) {K : Nat → Int32 × mHeap → mR'} {fK : Gr → Int32 × St} (hK : ∀ G, sGr S k = some G → Ok G → GV f (47 + 6 * k) G → CR (K (47 + 6 * k) (0, HF f)) f (fK G)) : CR ((gR (HF f) 2 7 1).bind fun x2 => (cAldR (HF f) x2 (nI k)).bind fun x3 => (vI 18 x3 [] (HF f)).bind fun q4 => if (q4.1 : Int32) = 0 then K x3 q4 else ((vI 92 2 [.int 1] q4.2).bind fun q8 => some (some (.int q8.1), q8.2))) f (spAsk S (nI k) fK) := by
  have hg := h.go hk
  rw [h.r1]
  simp only [Option.bind_some]
  rw [h.gr hk]
  simp only [Option.bind_some]
  unfold spAsk
  rw [if_neg (by rw [isIn_nI (by omega) hk]; decide), nI_cl (by omega)]
  cases e : sGr S k with
  | none =>
    rw [e] at hg
    obtain ⟨ρ, C, hg⟩ := hg
    rw [Cg_missN hg]
    simp only [Option.bind_some]
    rw [if_neg (by decide)]
    exact CR.meet (k := 1) h (by decide)
  | some G =>
    rw [e] at hg
    rw [Cg_missV hg.2.1.2.1 hg.1]
    simp only [Option.bind_some]
    rw [if_pos trivial]
    exact hK G e hg.2 hg.1
theorem Cl_ask (h : ClsAt S f) {g : Int32} {K : Nat → Int32 × mHeap → mR'} {fK : Gr → Int32 × St} (hK : ∀ k G, k < 10 → g = nI k → sGr S k = some G → Ok G → GV f (47 + 6 * k) G → CR (K (47 + 6 * k) (0, HF f)) f (fK G)) : CR ((sI 86 [.int g] (HF f)).bind fun q1 => if ¬ (q1.1 : Int32) = 0 then ((gR q1.2 2 7 1).bind fun x2 => (cAldR q1.2 x2 g).bind fun x3 => (vI 18 x3 [] q1.2).bind fun q4 => if (q4.1 : Int32) = 0 then K x3 q4 else ((vI 92 2 [.int 1] q4.2).bind fun q8 => some (some (.int q8.1), q8.2))) else (some (some (.int (-1)), q1.2))) f (spAsk S g fK) := by
  rw [Cs_groundNo]
  simp only [Option.bind_some, b2i_0]
  by_cases hb : isIn 10 g = false
  · unfold spAsk
    rw [if_neg (fun z => z hb), if_pos hb]
    exact CR.stay h
  · obtain ⟨k, k1, k2, k3⟩ := idx10 hb
    rw [if_pos hb]
    subst k2
    exact Cl_in h k1 (fun G => hK k G k1 rfl)
end C17
