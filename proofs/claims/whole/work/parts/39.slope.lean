/-! slopes -/
theorem i_add {a b : Int32} (h : -2147483648 ≤ a.toInt + b.toInt ∧ a.toInt + b.toInt < 2147483648) : (a + b).toInt = a.toInt + b.toInt := by
  rw [Int32.toInt_add]
  apply Int.bmod_eq_of_le <;> omega
theorem i_sub {a b : Int32} (h : -2147483648 ≤ a.toInt - b.toInt ∧ a.toInt - b.toInt < 2147483648) : (a - b).toInt = a.toInt - b.toInt := by
  rw [Int32.toInt_sub]
  apply Int.bmod_eq_of_le <;> omega
theorem i_mul {a b : Int32} {X : Int} (e : a.toInt * b.toInt = X) (h : -2147483648 ≤ X ∧ X < 2147483648) : (a * b).toInt = X := by
  rw [Int32.toInt_mul, e]
  apply Int.bmod_eq_of_le <;> omega
theorem i_neg {a : Int32} (h : -2147483648 < a.toInt) : (-a).toInt = -a.toInt := by
  have h2 := a.toInt_lt
  rw [Int32.toInt_neg]
  apply Int.bmod_eq_of_le <;> omega
theorem i_div {a b : Int32} (h : -1000000 ≤ a.toInt ∧ a.toInt ≤ 1000000) : (a / b).toInt = a.toInt.tdiv b.toInt ∧ -1000000 ≤ a.toInt.tdiv b.toInt ∧ a.toInt.tdiv b.toInt ≤ 1000000 := by
  have h1 : (a.toInt.tdiv b.toInt).natAbs ≤ a.toInt.natAbs := by
    rw [Int.natAbs_tdiv]
    exact Nat.div_le_self _ _
  have h2 : -1000000 ≤ a.toInt.tdiv b.toInt ∧ a.toInt.tdiv b.toInt ≤ 1000000 := by omega
  refine ⟨?_, h2⟩
  rw [Int32.toInt_div]
  apply Int.bmod_eq_of_le <;> omega
def flo (A B : Int) : Int := if A - B * A.tdiv B < 0 then A.tdiv B - 1 else A.tdiv B
theorem tmod_of (A B : Int) : A - B * A.tdiv B = A.tmod B := by
  have := Int.tmod_add_mul_tdiv A B
  omega
theorem flo_ok {A B : Int} (hB : 0 < B) : 0 ≤ A - B * flo A B ∧ A - B * flo A B < B := by
  have h1 := tmod_bounds (a := A) hB
  have h2 := tmod_of A B
  unfold flo
  split
  · rw [Int.mul_sub, Int.mul_one]
    omega
  · omega
def sg : Nat → Int → Int → Gr → Gr
  | 0, _, _, G => G
  | f + 1, p, q, G => if q ≤ 0 then G else sg f (-q) (p - q * flo p q) (tuG true (shZ (-(flo p q)) G))
def seeG (p q : Int) (G : Gr) : Gr := sg 51 p q G
theorem Ok.sg {G : Gr} (h : Ok G) : ∀ (f : Nat) (p q : Int), Ok (sg f p q G) := by
  intro f
  induction f generalizing G with
  | zero => intro p q; exact h
  | succ f ih =>
    intro p q
    unfold CSquareGroundsLaw_law_r5734_d6814d.sg
    split
    · exact h
    · exact ih ((h.z _).tu true) _ _
theorem sg_n : ∀ (f : Nat) (p q : Int) (G : Gr), (sg f p q G).1 = G.1 := by
  intro f
  induction f with
  | zero => intro p q G; rfl
  | succ f ih =>
    intro p q G
    unfold sg
    split
    · rfl
    · rw [ih]; exact shZ_n _ G
theorem sg_fuel : ∀ (f : Nat) (p q : Int) (G : Gr), q ≤ f → sg (f + 1) p q G = sg f p q G := by
  intro f
  induction f with
  | zero =>
    intro p q G hq
    show (if q ≤ 0 then G else _) = G
    rw [if_pos (by omega)]
  | succ f ih =>
    intro p q G hq
    show (if q ≤ 0 then G else _) = (if q ≤ 0 then G else _)
    by_cases h : q ≤ 0
    · rw [if_pos h, if_pos h]
    · rw [if_neg h, if_neg h]
      have := flo_ok (A := p) (B := q) (by omega)
      exact ih _ _ _ (by omega)
section M8
variable {x : Nat → mCell} {mi : Nat → Int32} {ml : Nat → Int64} {ma : Nat → Nat → Int32} {S : St} {G : Gr}
theorem flo_bd {A B : Int} (h : -50 ≤ A ∧ A ≤ 50) (hB : 0 < B) : -51 ≤ flo A B ∧ flo A B ≤ 50 := by
  have h1 : (A.tdiv B).natAbs ≤ A.natAbs := by
    rw [Int.natAbs_tdiv]
    exact Nat.div_le_self _ _
  unfold flo
  split <;> omega
theorem Mo_seeL : ∀ (f : Nat) (p q v1 v2 : Int32) (d5 d6 : Option Value) (G : Gr) (ma : Nat → Nat → Int32), q.toInt ≤ f → 0 ≤ q.toInt ∧ q.toInt ≤ 50 → -50 ≤ p.toInt ∧ p.toInt ≤ 50 → Ok G → Cur G mi ma → ∃ ma', q142_5 107 v1 v2 p q d5 d6 (MH x mi ml ma) = some (none, MH x mi ml ma') ∧ Sm [112, 113, 114, 115, 124] ma ma' ∧ Cur (sg f p.toInt q.toInt G) mi ma' := by
  intro f
  induction f with
  | zero =>
    intro p q v1 v2 d5 d6 G ma hf hq hp hG hC
    refine ⟨ma, ?_, Sm.rf, hC⟩
    rw [q142_5_eq, if_pos (by rw [Int32.le_iff_toInt_le]; show q.toInt ≤ 0; omega)]
  | succ f ih =>
    intro p q v1 v2 d5 d6 G ma hf hq hp hG hC
    by_cases h0 : q.toInt ≤ 0
    · refine ⟨ma, ?_, Sm.rf, ?_⟩
      · rw [q142_5_eq, if_pos (by rw [Int32.le_iff_toInt_le]; exact h0)]
      · unfold sg
        rw [if_pos h0]
        exact hC
    · have hB : 0 < q.toInt := by omega
      have hne : ¬ q = 0 := fun z => by subst z; exact h0 (by decide)
      obtain ⟨t1, t2, t3⟩ := i_div (a := p) (b := q) (by omega)
      have t4 : (p.toInt.tdiv q.toInt).natAbs ≤ p.toInt.natAbs := by
        rw [Int.natAbs_tdiv]
        exact Nat.div_le_self _ _
      have hX := tmod_of p.toInt q.toInt
      have hXb := tmod_bounds (a := p.toInt) hB
      have m1 : (p / q * q).toInt = q.toInt * p.toInt.tdiv q.toInt := i_mul (by rw [t1, Int.mul_comm]) (by omega)
      have m2 : (p - p / q * q).toInt = p.toInt.tmod q.toInt := by rw [i_sub (by rw [m1]; omega), m1]; exact hX
      have m3 : (q * (p / q)).toInt = q.toInt * p.toInt.tdiv q.toInt := i_mul (by rw [t1]) (by omega)
      have hfl := flo_ok (A := p.toInt) hB
      have hfb := flo_bd hp hB
      have step : ∀ (kk np : Int32) (e1 e2 : Option Value), kk.toInt = flo p.toInt q.toInt → np.toInt = p.toInt - q.toInt * flo p.toInt q.toInt → ∃ ma', ((vV 137 107 [.int (-kk)] (MH x mi ml ma)).bind fun h1 => (vV 138 107 [.int 1] h1).bind fun h2 => q142_5 107 v1 v2 (-q) np e1 e2 h2) = some (none, MH x mi ml ma') ∧ Sm [112, 113, 114, 115, 124] ma ma' ∧ Cur (sg f (-q.toInt) (p.toInt - q.toInt * flo p.toInt q.toInt) (tuG true (shZ (-(flo p.toInt q.toInt)) G))) mi ma' := by
        intro kk np e1 e2 hk hn
        obtain ⟨u, m, e, hm, hu, hz⟩ := sgn_of (k := -kk) (z := -(flo p.toInt q.toInt)) (by rw [i_neg (by omega), hk]) (by omega)
        obtain ⟨ma1, a1, a2, a3⟩ := Mo_shearBy (x := x) (ml := ml) u hm hu hG.1 hC
        obtain ⟨ma2, b1, b2, b3⟩ := Mo_turnOnce (x := x) (ml := ml) (hG.it u m).1 true a3
        rw [hz]
        have nq : (-q).toInt = -q.toInt := i_neg (by omega)
        obtain ⟨ma3, c1, c2, c3⟩ := ih (-q) np v1 v2 e1 e2 (tuG true (shIt u m G)) ma2 (by omega) (by omega) (by omega) ((hG.it u m).tu true) b3
        rw [nq, hn] at c3
        refine ⟨ma3, ?_, ((a2.sub (by decide)).tr b2).tr c2, c3⟩
        rw [e, a1]
        simp only [Option.bind_some]
        rw [show (Value.int 1) = Value.int (b2i true) from rfl, b1]
        exact c1
      have hsg : sg (f + 1) p.toInt q.toInt G = sg f (-q.toInt) (p.toInt - q.toInt * flo p.toInt q.toInt) (tuG true (shZ (-(flo p.toInt q.toInt)) G)) := by
        show (if q.toInt ≤ 0 then G else _) = _
        rw [if_neg h0]
      rw [hsg, q142_5_eq, if_neg (by rw [Int32.le_iff_toInt_le]; exact h0), if_neg hne, if_neg hne]
      by_cases hr : 0 ≤ p.toInt.tmod q.toInt
      · rw [if_pos (by rw [Int32.le_iff_toInt_le, m2]; exact hr)]
        have e : flo p.toInt q.toInt = p.toInt.tdiv q.toInt := by unfold flo; rw [if_neg (by omega)]
        exact step (p / q) _ _ _ (by rw [e]; exact t1) (by rw [i_sub (by rw [m3]; omega), m3, e])
      · rw [if_neg (by rw [Int32.le_iff_toInt_le, m2]; exact hr)]
        have e : flo p.toInt q.toInt = p.toInt.tdiv q.toInt - 1 := by unfold flo; rw [if_pos (by omega)]
        have s1 : (p / q - 1).toInt = p.toInt.tdiv q.toInt - 1 := by rw [i_sub (by rw [t1]; show _ ≤ _ - 1 ∧ _ - 1 < _; omega), t1]; rfl
        have m4 : (q * (p / q - 1)).toInt = q.toInt * p.toInt.tdiv q.toInt - q.toInt := i_mul (by rw [s1, Int.mul_sub, Int.mul_one]) (by omega)
        exact step (p / q - 1) _ _ _ (by rw [e]; exact s1) (by rw [i_sub (by rw [m4]; omega), m4, e, Int.mul_sub, Int.mul_one])
theorem Mo_seeIn (p q : Int32) (hq : 0 ≤ q.toInt ∧ q.toInt ≤ 50) (hp : -50 ≤ p.toInt ∧ p.toInt ≤ 50) (hG : Ok G) (hC : Cur G mi ma) : ∃ ma', vV 142 107 [.int p, .int q] (MH x mi ml ma) = some (MH x mi ml ma') ∧ Sm [112, 113, 114, 115, 124] ma ma' ∧ Cur (seeG p.toInt q.toInt G) mi ma' := by
  obtain ⟨ma', c1, c2, c3⟩ := Mo_seeL (x := x) (mi := mi) (ml := ml) 51 p q p q none none G ma (by omega) hq hp hG hC
  exact ⟨ma', vV_of (ci := 8) rfl mo_O (by rw [F142_eq]; exact c1), c2, c3⟩
end M8
def isSl (p q : Int32) : Bool := decide ((-50 ≤ p.toInt ∧ p.toInt ≤ 50) ∧ (0 ≤ q.toInt ∧ q.toInt ≤ 50) ∧ Nat.gcd p.toInt.natAbs q.toInt.natAbs = 1 ∧ (0 < q.toInt ∨ p.toInt = 1))
theorem gcd_step (A B : Nat) : Nat.gcd A B = Nat.gcd B (A % B) := by
  rw [Nat.gcd_comm A B, Nat.gcd_rec B A, Nat.gcd_comm]
theorem Mo_gcdL (p q : Int32) (h : mHeap) : ∀ (B A : Nat) (d : Option Value), A ≤ 50 → B ≤ 50 → q141_36 p q (nI A) (nI B) d h = some (some (.int (b2i (decide (Nat.gcd A B = 1 ∧ (0 < q.toInt ∨ p.toInt = 1))))), h) := by
  intro B
  induction B using Nat.strongRecOn with
  | ind B ih =>
    intro A d hA hB
    rw [q141_36_eq]
    by_cases h0 : B = 0
    · subst h0
      rw [if_pos (show nI 0 = 0 from rfl)]
      have e0 : (nI A = 1) = (A = 1) := iEQ (show A < 2000000000 by omega) (show 1 < 2000000000 by omega)
      simp only [Nat.gcd_zero_right, e0, nz0, nz1, if_true]
      have e1 : (0 < q) = (0 < q.toInt) := propext (by rw [Int32.lt_iff_toInt_lt]; rfl)
      have e2 : (p = 1) = (p.toInt = 1) := propext ⟨fun z => by subst z; rfl, fun z => Int32.toInt_inj.mp z⟩
      simp only [e1, e2]
      by_cases c1 : A = 1 <;> by_cases c2 : 0 < q.toInt <;> by_cases c3 : p.toInt = 1 <;> simp [c1, c2, c3, b2i]
    · rw [if_neg (by rw [l0, iEQ (by omega) (by omega)]; exact h0), if_neg (by rw [l0, iEQ (by omega) (by omega)]; exact h0), pk_rem (by omega) (by omega) (by omega)]
      have hlt := Nat.mod_lt A (show 0 < B by omega)
      rw [ih (A % B) hlt B _ hB (by omega)]
      simp only [gcd_step A B]
theorem Mo_isSlope (p q : Int32) (h : mHeap) : sI 141 [.int p, .int q] h = some (b2i (isSl p q), h) := by
  refine sI_of ?_
  unfold isSl
  rw [F141_eq, Mo_in]
  simp only [Option.bind_some, in_toInt, b2i_0, decide_eq_false_iff_not, nz0, if_true]
  show (if ¬ (-50 ≤ p.toInt ∧ p.toInt ≤ 50) then _ else _) = _
  by_cases h1 : -50 ≤ p.toInt ∧ p.toInt ≤ 50
  · rw [if_neg (fun z => z h1), Mo_in]
    simp only [Option.bind_some, in_toInt, b2i_0, decide_eq_false_iff_not]
    show (if ¬ ¬ (0 ≤ q.toInt ∧ q.toInt ≤ 50) then _ else _) = _
    by_cases h2 : 0 ≤ q.toInt ∧ q.toInt ≤ 50
    · rw [if_pos (fun z => z h2)]
      have hq : q = nI q.toInt.natAbs := by
        apply Int32.toInt_inj.mp
        rw [nI_toInt (by omega)]
        omega
      by_cases h3 : 0 ≤ p.toInt
      · rw [if_pos (by rw [Int32.le_iff_toInt_le]; exact h3)]
        have hp : p = nI p.toInt.natAbs := by
          apply Int32.toInt_inj.mp
          rw [nI_toInt (by omega)]
          omega
        have := Mo_gcdL p q h q.toInt.natAbs p.toInt.natAbs none (by omega) (by omega)
        rw [← hp, ← hq] at this
        rw [this]
        simp only [h1, h2, true_and]
      · rw [if_neg (by rw [Int32.le_iff_toInt_le]; exact h3)]
        have hp : -p = nI p.toInt.natAbs := by
          apply Int32.toInt_inj.mp
          rw [i_neg (by omega), nI_toInt (by omega)]
          omega
        have := Mo_gcdL p q h q.toInt.natAbs p.toInt.natAbs none (by omega) (by omega)
        rw [← hp, ← hq] at this
        rw [this]
        simp only [h1, h2, true_and]
    · rw [if_neg (fun z => z h2)]
      simp [h2, b2i]
  · rw [if_pos h1]
    simp [h1, b2i]
def spSee (S : St) (g p q : Int32) : Int32 × St := if isSl p q = false then (-1, S) else spAsk S g (fun G => (nI G.1, sSetGr S g.toNatClampNeg (some (seeG p.toInt q.toInt G))))
theorem Mo_see (S : St) (hW : Wf S) (g p q : Int32) : MoSp 143 [.int g, .int p, .int q] S (spSee S g p q) := by
  intro x mi ml ma h
  unfold spSee
  by_cases hb : isSl p q = false
  · rw [if_pos hb]
    refine ⟨mi, ml, ma, vI_of (ci := 8) rfl mo_O ?_, h⟩
    rw [F143_eq, Mo_isSlope]
    simp only [Option.bind_some, b2i_0, hb, not_true, if_false]
  · rw [if_neg hb]
    refine Mo_ask (K := fun q2 => (vV 142 107 [.int p, .int q] q2.2).bind fun h3 => (vI 112 107 [.int g] h3).bind fun q4 => some (some (.int q4.1), q4.2)) hW h rfl ?_ (fun j G ma' hj e hs hok hC hM => ?_)
    · rw [F143_eq, Mo_isSlope]
      simp only [Option.bind_some, b2i_0]
      rw [if_pos hb]
    · subst e
      have hb2 : isSl p q = true := by simpa using hb
      unfold isSl at hb2
      simp only [decide_eq_true_eq] at hb2
      obtain ⟨ma1, a1, a2, a3⟩ := Mo_seeIn (x := x) (ml := ml) p q hb2.2.1 hb2.1 hok hC
      obtain ⟨ma2, d1, d2⟩ := Mo_keep (x := x) hW (hok.sg 51 p.toInt q.toInt).1 hj (hM.keep (a2.sub (by decide)) rfl rfl rfl) a3
      refine ⟨_, ml, ma2, ?_, by rw [nI_cl (by omega)]; exact d2⟩
      dsimp only
      rw [a1]
      simp only [Option.bind_some]
      rw [d1, sg_n]
      rfl
