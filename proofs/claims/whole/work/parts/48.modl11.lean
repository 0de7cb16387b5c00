/-! cylinders: the reference's calls -/
noncomputable def labF (G : Gr) : Nat → Nat := Classical.epsilon (fun lb => Lab G lb)
theorem labF_ok {G : Gr} {lb : Nat → Nat} (h : Lab G lb) : ∀ q, q < G.1 → labF G q = lb q := by
  have he : Lab G (labF G) := Classical.epsilon_spec (p := fun lb => Lab G lb) ⟨lb, h⟩
  exact lab_uniq he h
noncomputable def cyP (G : Gr) (q : Nat) : Bool := decide (labF G q = q)
noncomputable def cyN (G : Gr) : Nat := cnt (cyP G) G.1
noncomputable def cyZ (G : Gr) (f : Nat) : Nat := cnt (fun q => decide (labF G q = f)) G.1
def nth (P : Nat → Bool) (n : Nat) (i : Int) : Option Nat := (List.range n).find? (fun q => P q && decide ((cnt P q : Int) = i))
theorem cnt_mono {P : Nat → Bool} {a : Nat} : ∀ d, cnt P a ≤ cnt P (a + d)
  | 0 => Nat.le_refl _
  | d + 1 => Nat.le_trans (cnt_mono d) (Nat.le_add_right _ _)
theorem cnt_lt {P : Nat → Bool} {a b : Nat} (h : a < b) (hp : P a = true) : cnt P a < cnt P b := by
  have h1 : cnt P (a + 1) = cnt P a + 1 := by
    show cnt P a + _ = _
    rw [if_pos hp]
  have h2 := cnt_mono (P := P) (a := a + 1) (b - (a + 1))
  rw [show a + 1 + (b - (a + 1)) = b by omega] at h2
  omega
theorem nth_some {P : Nat → Bool} {n q : Nat} {i : Int} (hq : q < n) (hp : P q = true) (hc : (cnt P q : Int) = i) : nth P n i = some q := by
  unfold nth
  cases hf : (List.range n).find? (fun q => P q && decide ((cnt P q : Int) = i)) with
  | none =>
    rw [List.find?_eq_none] at hf
    have := hf q (List.mem_range.mpr hq)
    simp [hp, hc] at this
  | some r =>
    obtain ⟨h1, h2, h3⟩ := find_range hf
    simp only [Bool.and_eq_true, decide_eq_true_eq] at h2
    rcases Nat.lt_trichotomy q r with z | z | z
    · have := cnt_lt z hp
      omega
    · rw [z]
    · have := cnt_lt z h2.1
      omega
theorem nth_none {P : Nat → Bool} {n : Nat} {i : Int} (h : ∀ q, q < n → P q = true → (cnt P q : Int) ≠ i) : nth P n i = none := by
  unfold nth
  rw [List.find?_eq_none]
  intro q hq
  simp only [Bool.and_eq_true, decide_eq_true_eq]
  exact fun z => h q (List.mem_range.mp hq) z.1 z.2
noncomputable def cyT (G : Gr) (q : Nat) : Nat := cyZ G q / rl G q * (840 / rl G q)
noncomputable def shr (G : Gr) : Nat → Nat
  | 0 => 0
  | k + 1 => shr G k + (if cyP G k = true then cyT G k else 0)
theorem cyZ_le {G : Gr} (h8 : G.1 ≤ 8) (f : Nat) : cyZ G f ≤ 8 := Nat.le_trans (cnt_le _ _) h8
theorem cyT_le {G : Gr} (h8 : G.1 ≤ 8) (q : Nat) : cyT G q ≤ 6720 := by
  have h1 := cyZ_le h8 q
  have h2 : cyZ G q / rl G q ≤ 8 := Nat.le_trans (Nat.div_le_self _ _) h1
  have h3 : 840 / rl G q ≤ 840 := Nat.div_le_self _ _
  exact Nat.mul_le_mul h2 h3
theorem shr_le {G : Gr} (h8 : G.1 ≤ 8) : ∀ k, shr G k ≤ 6720 * k
  | 0 => Nat.le_refl _
  | k + 1 => by
    have h1 := shr_le h8 k
    have h2 := cyT_le h8 k
    show shr G k + _ ≤ _
    split <;> omega
section M17
variable {x : Nat → mCell} {mi : Nat → Int32} {ml : Nat → Int64} {ma : Nat → Nat → Int32} {S : St} {G : Gr}
/-- the labels stand -/
def CyAt (G : Gr) (ma : Nat → Nat → Int32) : Prop := ∀ q, q < G.1 → labF G q < 8 ∧ ma 125 q = nI (labF G q)
theorem Mo_setCyl (hG : Gd G) (hC : Cur G mi ma) : ∃ ma', vI 144 107 [] (MH x mi ml ma) = some (nI (cyN G), MH x mi ml ma') ∧ Sm [125] ma ma' ∧ CyAt G ma' := by
  obtain ⟨ma', lb', c1, c2, c3, c4⟩ := Mo_cylI (x := x) (mi := mi) (ml := ml) hG G.1 0 (by omega) ma hC (fun q hq => by omega)
  have e := labF_ok c4
  refine ⟨ma', vI_of (ci := 8) rfl mo_O ?_, c2, fun q hq => by rw [e q hq]; exact c3 q hq⟩
  have e2 : cyN G = cnt (fun q => decide (lb' q = q)) G.1 := cnt_congr _ (fun q hq => by unfold cyP; rw [e q hq])
  rw [F144_eq, e2]
  exact c1
theorem Mo_sizeL (g2 : G.1 ≤ 8) (hm : mi 5 = nI G.1) (hL : CyAt G ma) {f : Nat} (hf : f < 8) : ∀ (d k : Nat), k + d = G.1 → q147_4 107 (nI f) (nI (cnt (fun q => decide (labF G q = f)) k)) (nI k) (MH x mi ml ma) = some (some (.int (nI (cyZ G f))), MH x mi ml ma) := by
  intro d
  induction d with
  | zero =>
    intro k hk
    have ek : k = G.1 := by omega
    subst ek
    rw [q147_4_eq, moI5]
    simp only [Option.bind_some]
    rw [hm, if_pos (by rw [iLE (by omega) (by omega)]; omega)]
    rfl
  | succ d ih =>
    intro k hk
    obtain ⟨b1, b2⟩ := hL k (by omega)
    have hn := ih (k + 1) (by omega)
    have hc : cnt (fun q => decide (labF G q = f)) (k + 1) = cnt (fun q => decide (labF G q = f)) k + (if decide (labF G k = f) = true then 1 else 0) := rfl
    rw [hc] at hn
    have q0 : (nI (labF G k) = nI f) = (labF G k = f) := iEQ (by omega) (by omega)
    have z1 : nI k + 1 = nI (k + 1) := iAdd k 1
    rw [q147_4_eq, moI5]
    simp only [Option.bind_some]
    rw [hm, if_neg (by rw [iLE (by omega) (by omega)]; omega), moR20]
    simp only [Option.bind_some]
    rw [moAld (by decide) (show k < moLen 125 by show _ < 8; omega), b2]
    simp only [Option.bind_some, q0, z1]
    by_cases c : labF G k = f
    · rw [if_neg (fun z => z c)]
      rw [if_pos (decide_eq_true c)] at hn
      have z2 : nI (cnt (fun q => decide (labF G q = f)) k) + 1 = nI (cnt (fun q => decide (labF G q = f)) k + 1) := iAdd _ 1
      rw [z2]
      exact hn
    · rw [if_pos c]
      rw [if_neg (by simpa using c)] at hn
      have z2 : nI (cnt (fun q => decide (labF G q = f)) k) + 0 = nI (cnt (fun q => decide (labF G q = f)) k + 0) := iAdd _ 0
      rw [z2]
      exact hn
theorem Mo_sizeOf (g2 : G.1 ≤ 8) (hm : mi 5 = nI G.1) (hL : CyAt G ma) {f : Nat} (hf : f < 8) : vI 147 107 [.int (nI f)] (MH x mi ml ma) = some (nI (cyZ G f), MH x mi ml ma) := by
  refine vI_of (ci := 8) rfl mo_O ?_
  rw [F147_eq]
  exact Mo_sizeL g2 hm hL hf G.1 0 (by omega)
end M17
noncomputable def spCyls (S : St) (g p q : Int32) : Int32 × St := if isSl p q = false then (-1, S) else spAsk S g (fun G => (nI (cyN (seeG p.toInt q.toInt G)), S))
theorem Mo_cylinders (S : St) (hW : Wf S) (g p q : Int32) : MoSp 148 [.int g, .int p, .int q] S (spCyls S g p q) := by
  intro x mi ml ma h
  unfold spCyls
  by_cases hb : isSl p q = false
  · rw [if_pos hb]
    refine ⟨mi, ml, ma, vI_of (ci := 8) rfl mo_O ?_, h⟩
    rw [F148_eq, Mo_isSlope]
    simp only [Option.bind_some, b2i_0, hb, not_true, if_false]
  · rw [if_neg hb]
    refine Mo_ask (K := fun q2 => (vV 142 107 [.int p, .int q] q2.2).bind fun h3 => (vI 144 107 [] h3).bind fun q4 => some (some (.int q4.1), q4.2)) hW h rfl ?_ (fun j G ma' hj e hs hok hC hM => ?_)
    · rw [F148_eq, Mo_isSlope]
      simp only [Option.bind_some, b2i_0]
      rw [if_pos hb]
    · subst e
      have hb2 : isSl p q = true := by simpa using hb
      unfold isSl at hb2
      simp only [decide_eq_true_eq] at hb2
      obtain ⟨ma1, a1, a2, a3⟩ := Mo_seeIn (x := x) (ml := ml) p q hb2.2.1 hb2.1 hok hC
      obtain ⟨ma2, d1, d2, d3⟩ := Mo_setCyl (x := x) (ml := ml) (hok.sg 51 p.toInt q.toInt).1 a3
      refine ⟨_, ml, ma2, ?_, hM.keep ((a2.sub (by decide)).tr (d2.sub (by decide))) rfl rfl rfl⟩
      dsimp only
      rw [a1]
      simp only [Option.bind_some]
      rw [d1]
      rfl
noncomputable def cylT (G : Gr) (w : Int) (q : Nat) : Nat := if w = 0 then rl G q else if w = 1 then cyZ G q / rl G q else q
noncomputable def spCyl (S : St) (g i w : Int32) : Int32 × St := if 0 ≤ w.toInt ∧ w.toInt ≤ 2 then spAsk S g (fun G => ((match nth (cyP G) G.1 i.toInt with
  | none => -9
  | some q => nI (cylT G w.toInt q)), S)) else (-1, S)
section M18
variable {x : Nat → mCell} {mi : Nat → Int32} {ml : Nat → Int64} {ma : Nat → Nat → Int32} {S : St} {G : Gr}
theorem Mo_cylL (hG : Gd G) (hC : Cur G mi ma) (hL : CyAt G ma) {v1 v4 v5 i w : Int32} (hw : 0 ≤ w.toInt ∧ w.toInt ≤ 2) : ∀ (d k : Nat), k + d = G.1 → (∀ q, q < k → cyP G q = true → (cnt (cyP G) q : Int) ≠ i.toInt) → q149_38 107 v1 i w v4 v5 (nI (cnt (cyP G) k)) (nI k) (MH x mi ml ma) = some (some (.int (match nth (cyP G) G.1 i.toInt with
  | none => -9
  | some q => nI (cylT G w.toInt q))), MH x mi ml ma) := by
  have g2 := hG.2.1
  intro d
  induction d with
  | zero =>
    intro k hk hn
    have ek : k = G.1 := by omega
    subst ek
    rw [nth_none hn, q149_38_eq, moI5]
    simp only [Option.bind_some]
    rw [hC.1, if_pos (by rw [iLE (by omega) (by omega)]; omega)]
  | succ d ih =>
    intro k hk hn
    have hkn : k < G.1 := by omega
    obtain ⟨b1, b2⟩ := hL k (by omega)
    have hc : cnt (cyP G) (k + 1) = cnt (cyP G) k + (if cyP G k = true then 1 else 0) := rfl
    have hcl := cnt_le (cyP G) k
    have q0 : (nI (labF G k) = nI k) = (labF G k = k) := iEQ (by omega) (by omega)
    have z1 : nI k + 1 = nI (k + 1) := iAdd k 1
    rw [q149_38_eq, moI5]
    simp only [Option.bind_some]
    rw [hC.1, if_neg (by rw [iLE (by omega) (by omega)]; omega), moR20]
    simp only [Option.bind_some]
    rw [moAld (by decide) (show k < moLen 125 by show _ < 8; omega), b2]
    simp only [Option.bind_some, q0, z1]
    by_cases c : labF G k = k
    · have hp : cyP G k = true := decide_eq_true c
      rw [if_pos hp] at hc
      rw [if_neg (fun z => z c)]
      have z2 : nI (cnt (cyP G) k) + 1 = nI (cnt (cyP G) k + 1) := iAdd _ 1
      have q1 : (nI (cnt (cyP G) k) = i) = ((cnt (cyP G) k : Int) = i.toInt) := by
        apply propext
        rw [← Int32.toInt_inj, nI_toInt (by omega)]
      simp only [q1, z2]
      by_cases c2 : (cnt (cyP G) k : Int) = i.toInt
      · rw [if_neg (fun z => z c2), nth_some hkn hp c2, Mo_ringOf hG hC hkn]
        have hrl : 1 ≤ rl G k ∧ rl G k ≤ 8 := by
          have := (bd_ok hG.2.2.1 hkn).1
          unfold rl
          omega
        simp only [Option.bind_some]
        unfold cylT
        simp only [i32eq]
        have t0 : (0 : Int32).toInt = 0 := rfl
        have t1 : (1 : Int32).toInt = 1 := rfl
        rw [t0, t1]
        by_cases w0 : w.toInt = 0
        · rw [if_neg (fun z => z w0), if_pos w0]
        · rw [if_pos w0, if_neg w0]
          by_cases w1 : w.toInt = 1
          · rw [if_neg (fun z => z w1), if_pos w1, Mo_sizeOf g2 hC.1 hL (by omega)]
            simp only [Option.bind_some]
            have hz := cyZ_le g2 k
            rw [if_neg (by rw [nI_toInt (by omega)]; omega), pk_div (by omega) (by omega) (by omega)]
          · rw [if_pos w1, if_neg w1]
      · rw [if_pos c2, ← hc]
        exact ih (k + 1) (by omega) (fun q hq hp' => by
          by_cases e : q = k
          · subst e; exact c2
          · exact hn q (by omega) hp')
    · have hp : ¬ cyP G k = true := by unfold cyP; simpa using c
      rw [if_neg hp] at hc
      rw [if_pos c]
      have := ih (k + 1) (by omega) (fun q hq hp' => by
          by_cases e : q = k
          · subst e; exact absurd hp' hp
          · exact hn q (by omega) hp')
      rw [hc] at this
      exact this
theorem Mo_shareL (hG : Gd G) (hC : Cur G mi ma) (hL : CyAt G ma) {v1 : Int32} : ∀ (d k : Nat), k + d = G.1 → ∀ d4 : Option Value, q150_9 107 v1 (nI (shr G k)) (nI k) d4 (MH x mi ml ma) = some (some (.int (nI (shr G G.1))), MH x mi ml ma) := by
  have g2 := hG.2.1
  intro d
  induction d with
  | zero =>
    intro k hk d4
    have ek : k = G.1 := by omega
    subst ek
    rw [q150_9_eq, moI5]
    simp only [Option.bind_some]
    rw [hC.1, if_pos (by rw [iLE (by omega) (by omega)]; omega)]
  | succ d ih =>
    intro k hk d4
    have hkn : k < G.1 := by omega
    obtain ⟨b1, b2⟩ := hL k (by omega)
    have hc : shr G (k + 1) = shr G k + (if cyP G k = true then cyT G k else 0) := rfl
    have q0 : (nI (labF G k) = nI k) = (labF G k = k) := iEQ (by omega) (by omega)
    have z1 : nI k + 1 = nI (k + 1) := iAdd k 1
    rw [q150_9_eq, moI5]
    simp only [Option.bind_some]
    rw [hC.1, if_neg (by rw [iLE (by omega) (by omega)]; omega), moR20]
    simp only [Option.bind_some]
    rw [moAld (by decide) (show k < moLen 125 by show _ < 8; omega), b2]
    simp only [Option.bind_some, q0, z1]
    by_cases c : labF G k = k
    · have hp : cyP G k = true := decide_eq_true c
      rw [if_pos hp] at hc
      rw [if_neg (fun z => z c), Mo_ringOf hG hC hkn]
      have hrl : 1 ≤ rl G k ∧ rl G k ≤ 8 := by
        have := (bd_ok hG.2.2.1 hkn).1
        unfold rl
        omega
      have hz := cyZ_le g2 k
      simp only [Option.bind_some]
      rw [Mo_sizeOf g2 hC.1 hL (by omega)]
      simp only [Option.bind_some]
      have hne : ¬ nI (rl G k) = 0 := by rw [l0, iEQ (by omega) (by omega)]; omega
      have t840 : (840 : Int32) = nI 840 := rfl
      rw [if_neg hne, if_neg hne, pk_div (by omega) (by omega) (by omega), t840, pk_div (by omega) (by omega) (by omega), iMul, iAdd]
      have := ih (k + 1) (by omega) (some (.int (nI (rl G k))))
      rw [hc] at this
      exact this
    · have hp : ¬ cyP G k = true := by unfold cyP; simpa using c
      rw [if_neg hp] at hc
      rw [if_pos c]
      have := ih (k + 1) (by omega) d4
      rw [hc] at this
      exact this
theorem Mo_shareOf (hG : Gd G) (hC : Cur G mi ma) : ∃ ma', vI 150 107 [] (MH x mi ml ma) = some (nI (shr G G.1), MH x mi ml ma') ∧ Sm [125] ma ma' := by
  obtain ⟨ma1, a1, a2, a3⟩ := Mo_setCyl (x := x) (ml := ml) hG hC
  have hC1 : Cur G mi ma1 := hC.keep rfl (a2 _ (by decide)) (a2 _ (by decide)) (a2 _ (by decide)) (a2 _ (by decide))
  refine ⟨ma1, vI_of (ci := 8) rfl mo_O ?_, a2⟩
  rw [F150_eq, a1]
  simp only [Option.bind_some]
  exact Mo_shareL hG hC1 a3 G.1 0 (by omega) none
/-- a fraction is told -/
theorem Mo_tellL {a b : Nat} (ha : a < 2 ^ 62) (hb : b < 2 ^ 62) (h0 : 0 < b) : ∀ (m u v : Nat), v ≤ m → u < 2 ^ 62 → v < 2 ^ 62 → (0 < u ∨ 0 < v) → Nat.gcd v u = Nat.gcd a b → ∀ d9 d10 : Option Value, q151_6 107 (lN a) (lN b) (lN u) (lN v) d9 d10 (MH x mi ml ma) = some (some (.int 1), MH x mi (lup (lup ml 21 (lN (a / Nat.gcd a b))) 22 (lN (b / Nat.gcd a b))) ma) := by
  intro m
  have hg : 0 < Nat.gcd a b := Nat.gcd_pos_of_pos_right _ h0
  have hgb : Nat.gcd a b ≤ b := Nat.gcd_le_right _ h0
  have cz : ∀ v : Nat, v < 2 ^ 62 → (lg_cmp (lN v) 0 = 0) = (v = 0) := by
    intro v hv
    apply propext
    rw [lg_cmp_eq, show (0 : Int64) = lN 0 from rfl, pk_lEQ (by omega) (by omega)]
  have z0 : ∀ v : Nat, v < 2 ^ 62 → (lN v = 0) = (v = 0) := by
    intro v hv
    apply propext
    rw [show (0 : Int64) = lN 0 from rfl, pk_lEQ (by omega) (by omega)]
  induction m using Nat.strongRecOn with
  | ind m ih =>
    intro u v hm hu hv hp hgc d9 d10
    rw [q151_6_eq]
    simp only [cz v hv, z0 v hv, z0 u hu]
    by_cases hv0 : v = 0
    · subst hv0
      rw [Nat.gcd_zero_left] at hgc
      subst hgc
      rw [if_pos rfl, if_neg (by omega), pk_lDiv (by omega) (by omega) (by omega), moPutL (Or.inl rfl)]
      simp only [Option.bind_some]
      rw [if_neg (by omega), pk_lDiv (by omega) (by omega) (by omega), moPutL (Or.inr rfl)]
      rfl
    · rw [if_neg hv0, if_neg hv0, pk_lRem (by omega) (by omega) (by omega)]
      have hlt : u % v < v := Nat.mod_lt _ (by omega)
      exact ih (u % v) (by omega) v (u % v) (Nat.le_refl _) hv (by omega) (Or.inl (by omega)) (by rw [← Nat.gcd_rec, hgc]) _ _
theorem Mo_tell {a b : Nat} (ha : a < 2 ^ 62) (hb : b < 2 ^ 62) (h0 : 0 < b) : vI 151 107 [.long (lN a), .long (lN b)] (MH x mi ml ma) = some (1, MH x mi (lup (lup ml 21 (lN (a / Nat.gcd a b))) 22 (lN (b / Nat.gcd a b))) ma) := by
  refine vI_of (ci := 8) rfl mo_O ?_
  rw [F151_eq]
  exact Mo_tellL ha hb h0 b a b (Nat.le_refl _) ha hb (Or.inr h0) (Nat.gcd_comm _ _) none none
def frS (S : St) (a b : Nat) : St := sSetFr S (lN (a / Nat.gcd a b)) (lN (b / Nat.gcd a b))
theorem MoAt.fr {a b : Int64} (h : MoAt S mi ml ma) : MoAt (sSetFr S a b) mi (lup (lup ml 21 a) 22 b) ma := by
  obtain ⟨a1, a2, a3, a4, a5, a6, a7, a8⟩ := h
  exact ⟨a1, a2, a3, a4, a5, a6, rfl, rfl⟩
end M18
theorem Mo_cylinder (S : St) (hW : Wf S) (g i w : Int32) : MoSp 149 [.int g, .int i, .int w] S (spCyl S g i w) := by
  intro x mi ml ma h
  unfold spCyl
  have t0 : (0 : Int32).toInt = 0 := rfl
  have t2 : (2 : Int32).toInt = 2 := rfl
  by_cases hb : 0 ≤ w.toInt ∧ w.toInt ≤ 2
  · rw [if_pos hb]
    refine Mo_ask (K := fun q2 => (vI 144 107 [] q2.2).bind fun q3 => q149_38 107 g i w q2.1 q3.1 0 0 q3.2) hW h rfl ?_ (fun j G ma' hj e hs hok hC hM => ?_)
    · rw [F149_eq, Mo_in]
      simp only [Option.bind_some, in_toInt, b2i_0, decide_eq_false_iff_not]
      rw [if_pos (fun z => z (by rw [t0, t2]; exact hb))]
    · obtain ⟨ma2, d1, d2, d3⟩ := Mo_setCyl (x := x) (ml := ml) hok.1 hC
      have hC1 : Cur G (iup mi 5 (nI G.1)) ma2 := hC.keep rfl (d2 _ (by decide)) (d2 _ (by decide)) (d2 _ (by decide)) (d2 _ (by decide))
      refine ⟨_, ml, ma2, ?_, hM.keep (d2.sub (by decide)) rfl rfl rfl⟩
      dsimp only
      rw [d1]
      simp only [Option.bind_some]
      exact Mo_cylL hok.1 hC1 d3 hb G.1 0 (by omega) (fun q hq => by omega)
  · rw [if_neg hb]
    refine ⟨mi, ml, ma, vI_of (ci := 8) rfl mo_O ?_, h⟩
    rw [F149_eq, Mo_in]
    simp only [Option.bind_some, in_toInt, b2i_0, decide_eq_false_iff_not]
    rw [if_neg (fun z => z (by rw [t0, t2]; exact hb))]
noncomputable def spShare (S : St) (g : Int32) : Int32 × St := spAsk S g (fun G => (1, frS S (shr G G.1) 840))
theorem Mo_share (S : St) (hW : Wf S) (g : Int32) : MoSp 152 [.int g] S (spShare S g) := by
  intro x mi ml ma h
  refine Mo_ask hW h rfl (F152_eq 107 g _) (fun k G ma' hk e hs hok hC hM => ?_)
  obtain ⟨ma2, d1, d2⟩ := Mo_shareOf (x := x) (ml := ml) hok.1 hC
  have hb := shr_le hok.1.2.1 G.1
  have h8 := hok.1.2.1
  refine ⟨_, _, ma2, ?_, MoAt.fr (hM.keep (d2.sub (by decide)) rfl rfl rfl)⟩
  dsimp only
  rw [d1]
  simp only [Option.bind_some]
  rw [nI_l (by omega), show (840 : Int64) = lN 840 from rfl, Mo_tell (by omega) (by omega) (by omega)]
  rfl
