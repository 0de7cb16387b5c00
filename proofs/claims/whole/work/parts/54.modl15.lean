/-! the reference's calls about what can be come to -/
def spReach (S : St) (g : Int32) (f : Gr → Rs → Int32 × St) : Int32 × St := spAsk S g (fun G => match rch G.1 (nmV G) with
  | none => (-6, S)
  | some r => f G r)
theorem isIn_m {n : Nat} (h0 : n < 1000000) (i : Int32) : (decide ((0 : Int32) ≤ i) && decide (i ≤ nI n - 1)) = isIn n i := by
  unfold isIn
  congr 1
  apply decide_eq_decide.mpr
  have h1 : (nI n).toInt = (n : Nat) := nI_toInt (by omega)
  have h2 : (nI n - 1).toInt = (n : Int) - 1 := pk_sub_toInt (a := n) (b := 1) (by omega) (by omega)
  rw [Int32.lt_iff_toInt_lt, Int32.le_iff_toInt_le, h1, h2]
  omega
section M22
variable {x : Nat → mCell} {mi : Nat → Int32} {ml : Nat → Int64} {ma : Nat → Nat → Int32} {S : St} {G : Gr}
theorem Mo_rask {j : Nat} {as : List Value} {g : Int32} {K : Int32 × mHeap → mR'} {f : Gr → Rs → Int32 × St} (hW : Wf S) (h : MoAt S mi ml ma) (hj : mO j = 8) (hF : F j (.ref 107 :: as) (MH x mi ml ma) = (vI 156 107 [.int g] (MH x mi ml ma)).bind fun q1 => if 0 ≤ q1.1 then K q1 else some (some (.int q1.1), q1.2))
    (hK : ∀ (k : Nat) (G : Gr) (r : Rs) (mi' : Nat → Int32) (ma' : Nat → Nat → Int32), k < 10 → g = nI k → sGr S k = some G → Ok G → rch G.1 (nmV G) = some r → mi' 5 = nI G.1 → RcAt G.1 r mi' ma' → MoAt S mi' ml ma' → ∃ mi'' ml'' ma'', K (0, MH x mi' ml ma') = some (some (.int (f G r).1), MH x mi'' ml'' ma'') ∧ MoAt (f G r).2 mi'' ml'' ma'') :
    ∃ mi' ml' ma', vI j 107 as (MH x mi ml ma) = some ((spReach S g f).1, MH x mi' ml' ma') ∧ MoAt (spReach S g f).2 mi' ml' ma' := by
  unfold spReach spAsk
  by_cases hb : isIn 10 g = false
  · rw [if_pos hb]
    refine ⟨mi, ml, ma, vI_of hj mo_O ?_, h⟩
    have e : vI 156 107 [.int g] (MH x mi ml ma) = some (-1, MH x mi ml ma) := vI_of (ci := 8) rfl mo_O (by rw [F156_eq, Mo_askB hb]; rfl)
    rw [hF, e]
    rfl
  · rw [if_neg hb]
    obtain ⟨k, hk, rfl, hc⟩ := idx10 hb
    rw [hc]
    cases hs : sGr S k with
    | none =>
      refine ⟨_, ml, _, vI_of hj mo_O ?_, h.meet (k := 1) (by decide)⟩
      have e : vI 156 107 [.int (nI k)] (MH x mi ml ma) = some (-3, MH x (iup mi 0 (nI 1)) ml (mup ma 108 1 (ma 108 1 + 1))) := vI_of (ci := 8) rfl mo_O (by rw [F156_eq, Mo_askN hk h hs]; rfl)
      rw [hF, e]
      rfl
    | some G =>
      have hok := hW.2.2 k G hk hs
      obtain ⟨ma1, c1, c2, c3⟩ := Mo_askG (x := x) hok.1 hk h hs
      obtain ⟨mi2, ma2, d1, d2, d3, d4⟩ := Mo_setReach (x := x) (ml := ml) hok c3
      have hM : MoAt S mi2 ml ma2 := h.keep ((c2.sub (by decide)).tr (d2.sub (by decide))) ((d3 0 (by decide) (by decide)).trans (iup_ne (by decide))) rfl rfl
      have e : vI 156 107 [.int (nI k)] (MH x mi ml ma) = some (op6 (rch G.1 (nmV G)), MH x mi2 ml ma2) := vI_of (ci := 8) rfl mo_O (by
        rw [F156_eq, c1]
        simp only [Option.bind_some]
        rw [if_pos (by decide), d1]
        rfl)
      dsimp only
      cases hr : rch G.1 (nmV G) with
      | none =>
        refine ⟨mi2, ml, ma2, vI_of hj mo_O ?_, hM⟩
        rw [hF, e, hr]
        rfl
      | some r =>
        obtain ⟨mi3, ml3, ma3, f1, f2⟩ := hK k G r mi2 ma2 hk rfl hs hok hr ((d3 5 (by decide) (by decide)).trans c3.1) (d4 r hr) hM
        refine ⟨mi3, ml3, ma3, vI_of hj mo_O ?_, f2⟩
        rw [hF, e, hr]
        exact f1
theorem Mo_roundL {sh : Nat → Nat} {z k : Nat} (hz : z ≤ 500) (hp : Prm z sh) (hk : k < z) (hs : ∀ q, q < z → ma 127 q = nI (sh q)) : ∀ (d i : Nat), i + d = bd sh z k → fsK sh k i = true → q159_9 107 (nI k) (nI (i + 1)) (nI (it sh (i + 1) k)) (MH x mi ml ma) = some (some (.int (nI (rnd sh z k))), MH x mi ml ma) := by
  obtain ⟨b1, b2, b3⟩ := bd_ok hp hk
  intro d
  induction d with
  | zero =>
    intro i hi hf
    have ei : i = bd sh z k := by omega
    rw [q159_9_eq, ei, b2, if_pos rfl]
    unfold rnd
    rw [ei] at hf
    rw [if_pos hf]
  | succ d ih =>
    intro i hi hf
    have hlt := it_lt hp.1 hk (i + 1)
    have hne := b3 i (by omega)
    rw [q159_9_eq, if_neg (by rw [iEQ (by omega) (by omega)]; exact hne)]
    simp only [iLE (show k < 2000000000 by omega) (show it sh (i + 1) k < 2000000000 by omega)]
    by_cases c : k ≤ it sh (i + 1) k
    · rw [if_pos c, moR25]
      simp only [Option.bind_some]
      rw [moAld (by decide) (show it sh (i + 1) k < moLen 127 by show _ < 500; omega), hs _ hlt]
      simp only [Option.bind_some]
      rw [show nI (i + 1) + 1 = nI (i + 1 + 1) from iAdd _ 1]
      exact ih (i + 1) (by omega) (by
        show (fsK sh k i && decide (k < it sh (i + 1) k)) = true
        rw [hf, decide_eq_true (by omega)]
        rfl)
    · rw [if_neg c]
      unfold rnd
      rw [if_neg]
      · rfl
      · intro z
        have := (fsK_iff sh k _).mp z i (by omega)
        omega
theorem Mo_roundOf {sh : Nat → Nat} {z k : Nat} (hz : z ≤ 500) (hp : Prm z sh) (hk : k < z) (hs : ∀ q, q < z → ma 127 q = nI (sh q)) : vI 159 107 [.int (nI k)] (MH x mi ml ma) = some (nI (rnd sh z k), MH x mi ml ma) := by
  refine vI_of (ci := 8) rfl mo_O ?_
  rw [F159_eq, moR25]
  simp only [Option.bind_some]
  rw [moAld (by decide) (show k < moLen 127 by show _ < 500; omega), hs k hk]
  exact Mo_roundL hz hp hk hs (bd sh z k) 0 (by omega) rfl
def rP (r : Rs) (k : Nat) : Bool := decide (0 < rnd r.2.2.1 r.1 k)
theorem Mo_cuspL {r : Rs} (hz : r.1 ≤ 500) (h23 : mi 23 = nI r.1) (hp : Prm r.1 r.2.2.1) (hs : ∀ q, q < r.1 → ma 127 q = nI (r.2.2.1 q)) {v1 v2 : Int32} : ∀ (d k : Nat), k + d = r.1 → q160_17 107 v1 v2 (nI (cnt (rP r) k)) (nI k) (MH x mi ml ma) = some (some (.int (nI (cnt (rP r) r.1))), MH x mi ml ma) := by
  intro d
  induction d with
  | zero =>
    intro k hk
    have ek : k = r.1 := by omega
    rw [q160_17_eq, moI23]
    simp only [Option.bind_some]
    rw [h23, if_pos (by rw [iLE (by omega) (by omega)]; omega), ek]
  | succ d ih =>
    intro k hk
    have hn := ih (k + 1) (by omega)
    have hc : cnt (rP r) (k + 1) = cnt (rP r) k + (if rP r k = true then 1 else 0) := rfl
    rw [hc] at hn
    have hle := rnd_le hp (show k < r.1 by omega)
    have z1 : nI k + 1 = nI (k + 1) := iAdd k 1
    rw [q160_17_eq, moI23]
    simp only [Option.bind_some]
    rw [h23, if_neg (by rw [iLE (by omega) (by omega)]; omega), Mo_roundOf hz hp (by omega) hs]
    have q0 : (nI (rnd r.2.2.1 r.1 k) ≤ 0) = (rnd r.2.2.1 r.1 k ≤ 0) := iLE (b := 0) (by omega) (by omega)
    simp only [Option.bind_some, q0, z1]
    by_cases c : rnd r.2.2.1 r.1 k ≤ 0
    · rw [if_pos c, show nI (cnt (rP r) k) + 0 = nI (cnt (rP r) k + 0) from iAdd _ 0]
      rw [if_neg (by unfold rP; rw [decide_eq_true_eq]; omega)] at hn
      exact hn
    · rw [if_neg c, show nI (cnt (rP r) k) + 1 = nI (cnt (rP r) k + 1) from iAdd _ 1]
      rw [if_pos (by unfold rP; rw [decide_eq_true_eq]; omega)] at hn
      exact hn
def widV (r : Rs) (i : Int) : Int32 := match nth (rP r) r.1 i with
  | none => -9
  | some k => nI (rnd r.2.2.1 r.1 k)
theorem Mo_widL {r : Rs} (hz : r.1 ≤ 500) (h23 : mi 23 = nI r.1) (hp : Prm r.1 r.2.2.1) (hs : ∀ q, q < r.1 → ma 127 q = nI (r.2.2.1 q)) {v1 i v3 : Int32} : ∀ (d k : Nat), k + d = r.1 → (∀ q, q < k → rP r q = true → (cnt (rP r) q : Int) ≠ i.toInt) → ∀ d6, q161_18 107 v1 i v3 (nI (cnt (rP r) k)) (nI k) d6 (MH x mi ml ma) = some (some (.int (widV r i.toInt)), MH x mi ml ma) := by
  intro d
  induction d with
  | zero =>
    intro k hk hno d6
    have ek : k = r.1 := by omega
    subst ek
    unfold widV
    rw [nth_none hno, q161_18_eq, moI23]
    simp only [Option.bind_some]
    rw [h23, if_pos (by rw [iLE (by omega) (by omega)]; omega)]
  | succ d ih =>
    intro k hk hno d6
    have hc : cnt (rP r) (k + 1) = cnt (rP r) k + (if rP r k = true then 1 else 0) := rfl
    have hcl := cnt_le (rP r) k
    have hle := rnd_le hp (show k < r.1 by omega)
    have z1 : nI k + 1 = nI (k + 1) := iAdd k 1
    rw [q161_18_eq, moI23]
    simp only [Option.bind_some]
    rw [h23, if_neg (by rw [iLE (by omega) (by omega)]; omega), Mo_roundOf hz hp (by omega) hs]
    have q0 : (nI (rnd r.2.2.1 r.1 k) ≤ 0) = (rnd r.2.2.1 r.1 k ≤ 0) := iLE (b := 0) (by omega) (by omega)
    have q1 : (nI (cnt (rP r) k) = i) = ((cnt (rP r) k : Int) = i.toInt) := by
      apply propext
      rw [← Int32.toInt_inj, nI_toInt (by omega)]
    simp only [Option.bind_some, q0, q1, z1]
    by_cases c : rnd r.2.2.1 r.1 k ≤ 0
    · have hP : ¬ rP r k = true := by unfold rP; rw [decide_eq_true_eq]; omega
      rw [if_neg hP] at hc
      rw [if_pos c]
      have := ih (k + 1) (by omega) (fun q hq hp' => by
        by_cases e : q = k
        · subst e; exact absurd hp' hP
        · exact hno q (by omega) hp') (some (.int (nI (rnd r.2.2.1 r.1 k))))
      rw [hc] at this
      exact this
    · have hP : rP r k = true := by unfold rP; rw [decide_eq_true_eq]; omega
      rw [if_pos hP] at hc
      rw [if_neg c]
      by_cases c2 : (cnt (rP r) k : Int) = i.toInt
      · rw [if_neg (fun z => z c2)]
        unfold widV
        rw [nth_some (show k < r.1 by omega) hP c2]
      · rw [if_pos c2, show nI (cnt (rP r) k) + 1 = nI (cnt (rP r) k + 1) from iAdd _ 1, ← hc]
        exact ih (k + 1) (by omega) (fun q hq hp' => by
          by_cases e : q = k
          · subst e; exact c2
          · exact hno q (by omega) hp') _
noncomputable def rSh (n : Nat) (r : Rs) (k : Nat) : Nat := shr (unN n (r.2.1 k)) n
theorem rSh_le {n : Nat} (h8 : n ≤ 8) (r : Rs) (k : Nat) : rSh n r k ≤ 53760 := by
  have h1 : shr (unN n (r.2.1 k)) n ≤ 6720 * n := shr_le (G := unN n (r.2.1 k)) h8 n
  show shr (unN n (r.2.1 k)) n ≤ 53760
  omega
theorem Mo_allL {n : Nat} (h8 : n ≤ 8) {r : Rs} (hz : r.1 ≤ 500) (h23 : mi 23 = nI r.1) (hs : ∀ q, q < r.1 → ma 131 q = nI (rSh n r q)) : ∀ (d k : Nat), k + d = r.1 → q162_4 107 (lN (sumT (rSh n r) k)) (nI k) (MH x mi ml ma) = some (some (.long (lN (sumT (rSh n r) r.1))), MH x mi ml ma) := by
  intro d
  induction d with
  | zero =>
    intro k hk
    have ek : k = r.1 := by omega
    rw [q162_4_eq, moI23]
    simp only [Option.bind_some]
    rw [h23, if_pos (by rw [iLE (by omega) (by omega)]; omega), ek]
  | succ d ih =>
    intro k hk
    have hle := rSh_le h8 r k
    rw [q162_4_eq, moI23]
    simp only [Option.bind_some]
    rw [h23, if_neg (by rw [iLE (by omega) (by omega)]; omega), moR29]
    simp only [Option.bind_some]
    rw [moAld (by decide) (show k < moLen 131 by show _ < 500; omega), hs k (by omega)]
    simp only [Option.bind_some]
    rw [nI_l (by omega), lN_add, show nI k + 1 = nI (k + 1) from iAdd k 1]
    exact ih (k + 1) (by omega)
theorem Mo_allShares {n : Nat} (h8 : n ≤ 8) {r : Rs} (hz : r.1 ≤ 500) (hR : RcAt n r mi ma) : vL 162 107 [] (MH x mi ml ma) = some (lN (sumT (rSh n r) r.1), MH x mi ml ma) := by
  refine vL_of (ci := 8) rfl mo_O ?_
  rw [F162_eq]
  exact Mo_allL h8 hz hR.1.1 (fun q hq => (hR.2 q hq).2.2.2) r.1 0 (by omega)
end M22
def spReach0 (S : St) (g : Int32) : Int32 × St := spReach S g (fun _ r => (nI r.1, S))
theorem Mo_reach (S : St) (hW : Wf S) (g : Int32) : MoSp 157 [.int g] S (spReach0 S g) := by
  intro x mi ml ma h
  refine Mo_rask hW h rfl (F157_eq 107 g _) (fun k G r mi' ma' hk e hs hok hr h5 hR hM => ?_)
  refine ⟨mi', ml, ma', ?_, hM⟩
  dsimp only
  rw [moI23, hR.1.1]
  rfl
noncomputable def rcdV (n : Nat) (r : Rs) (w : Int) (q : Nat) : Nat := if w = 0 then r.2.2.1 q else if w = 1 then r.2.2.2 q else if w = 2 then nmS (unN n (r.2.1 q)) else cyN (unN n (r.2.1 q))
noncomputable def spReached (S : St) (g i w : Int32) : Int32 × St := if 0 ≤ w.toInt ∧ w.toInt ≤ 3 then spReach S g (fun G r => ((if isIn r.1 i = false then -9 else nI (rcdV G.1 r w.toInt i.toNatClampNeg)), S)) else (-1, S)
theorem Mo_reached (S : St) (hW : Wf S) (g i w : Int32) : MoSp 158 [.int g, .int i, .int w] S (spReached S g i w) := by
  intro x mi ml ma h
  unfold spReached
  have t0 : (0 : Int32).toInt = 0 := rfl
  have t1 : (1 : Int32).toInt = 1 := rfl
  have t2 : (2 : Int32).toInt = 2 := rfl
  have t3 : (3 : Int32).toInt = 3 := rfl
  by_cases hb : 0 ≤ w.toInt ∧ w.toInt ≤ 3
  · rw [if_pos hb]
    have pre := F158_eq 107 g i w (MH x mi ml ma)
    rw [Mo_in] at pre
    simp only [Option.bind_some, in_toInt, b2i_0, decide_eq_false_iff_not] at pre
    rw [if_pos (fun z => z (by rw [t0, t3]; exact hb))] at pre
    refine Mo_rask hW h rfl pre (fun k G r mi' ma' hk e hs hok hr h5 hR hM => ?_)
    have hI := (rch_RI (IsNm.of hok) hr).1
    have h500 := hI.1.1
    refine ⟨mi', ml, ma', ?_, hM⟩
    dsimp only
    rw [moI23, hR.1.1]
    simp only [Option.bind_some]
    rw [Mo_in, isIn_m (by omega)]
    simp only [Option.bind_some, b2i_0]
    by_cases hi : isIn r.1 i = false
    · rw [if_neg (fun z => z hi), if_pos hi]
    · rw [if_pos hi, if_neg hi]
      obtain ⟨p, hp, rfl, hcp⟩ := isIn_ok (n := r.1) (by omega) (by simpa using hi)
      obtain ⟨c1, c2, c3, c4⟩ := hR.2 p hp
      have c5 := (hR.1.2 p hp).2
      rw [hcp]
      unfold rcdV
      simp only [i32eq w]
      rw [t0, t1, t2]
      by_cases w0 : w.toInt = 0
      · rw [if_neg (fun z => z w0), if_pos w0, moR25]
        simp only [Option.bind_some]
        rw [moAld (by decide) (show p < moLen 127 by show _ < 500; omega), c1]
        rfl
      · rw [if_pos w0, if_neg w0]
        by_cases w1 : w.toInt = 1
        · rw [if_neg (fun z => z w1), if_pos w1, moR26]
          simp only [Option.bind_some]
          rw [moAld (by decide) (show p < moLen 128 by show _ < 500; omega), c2]
          rfl
        · rw [if_pos w1, if_neg w1]
          by_cases w2 : w.toInt = 2
          · rw [if_neg (fun z => z w2), if_pos w2, moR27]
            simp only [Option.bind_some]
            rw [moAld (by decide) (show p < moLen 129 by show _ < 500; omega), c5]
            rfl
          · rw [if_pos w2, if_neg w2, moR28]
            simp only [Option.bind_some]
            rw [moAld (by decide) (show p < moLen 130 by show _ < 500; omega), c3]
            rfl
  · rw [if_neg hb]
    refine ⟨mi, ml, ma, vI_of (ci := 8) rfl mo_O ?_, h⟩
    rw [F158_eq, Mo_in]
    simp only [Option.bind_some, in_toInt, b2i_0, decide_eq_false_iff_not]
    rw [if_neg (fun z => z (by rw [t0, t3]; exact hb))]
def spCusps (S : St) (g : Int32) : Int32 × St := spReach S g (fun _ r => (nI (cnt (rP r) r.1), S))
theorem Mo_cusps (S : St) (hW : Wf S) (g : Int32) : MoSp 160 [.int g] S (spCusps S g) := by
  intro x mi ml ma h
  refine Mo_rask hW h rfl (F160_eq 107 g _) (fun k G r mi' ma' hk e hs hok hr h5 hR hM => ?_)
  have hI := (rch_RI (IsNm.of hok) hr).1
  exact ⟨mi', ml, ma', Mo_cuspL hI.1.1 hR.1.1 hI.prm (fun q hq => (hR.2 q hq).1) r.1 0 (by omega), hM⟩
def spWidth (S : St) (g i : Int32) : Int32 × St := spReach S g (fun _ r => (widV r i.toInt, S))
theorem Mo_width (S : St) (hW : Wf S) (g i : Int32) : MoSp 161 [.int g, .int i] S (spWidth S g i) := by
  intro x mi ml ma h
  refine Mo_rask hW h rfl (F161_eq 107 g i _) (fun k G r mi' ma' hk e hs hok hr h5 hR hM => ?_)
  have hI := (rch_RI (IsNm.of hok) hr).1
  exact ⟨mi', ml, ma', Mo_widL hI.1.1 hR.1.1 hI.prm (fun q hq => (hR.2 q hq).1) r.1 0 (by omega) (fun q hq => by omega) none, hM⟩
noncomputable def spMeanShare (S : St) (g : Int32) : Int32 × St := spReach S g (fun G r => (1, frS S (sumT (rSh G.1 r) r.1) (840 * r.1)))
theorem Mo_meanShare (S : St) (hW : Wf S) (g : Int32) : MoSp 163 [.int g] S (spMeanShare S g) := by
  intro x mi ml ma h
  refine Mo_rask hW h rfl (F163_eq 107 g _) (fun k G r mi' ma' hk e hs hok hr h5 hR hM => ?_)
  obtain ⟨hI, h1, _⟩ := rch_RI (IsNm.of hok) hr
  have h500 := hI.1.1
  have hb := sumT_b (rSh_le hok.1.2.1 r) r.1
  refine ⟨mi', _, ma', ?_, MoAt.fr hM⟩
  dsimp only
  rw [Mo_allShares hok.1.2.1 hI.1.1 hR]
  simp only [Option.bind_some, moI23]
  rw [hR.1.1]
  rw [nI_l (by omega), show (840 : Int64) = lN 840 from rfl, lN_mul, Mo_tell (by omega) (by omega) (by omega)]
  rfl
