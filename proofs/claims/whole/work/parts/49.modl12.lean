/-! count, digest -/
def sh01 (S : St) (s : Nat) : Nat := match sSz S s with
  | none => 0
  | some _ => 1
def gr01 (S : St) (two : Bool) (g : Nat) : Nat := match sGr S g with
  | none => 0
  | some G => if two = true then G.1 else 1
def cntV (S : St) (w : Int) : Nat := if w = 0 then sumT (sh01 S) 4 else sumT (gr01 S (decide (w = 2))) 10
def spCount (S : St) (w : Int32) : Int32 × St := if 0 ≤ w.toInt ∧ w.toInt ≤ 2 then (nI (cntV S w.toInt), S) else (-1, S)
def dgRow (f : Nat → Int32) : Nat → Int64 → Int64
  | 0, h => h
  | k + 1, h => 31 * dgRow f k h + (f k).toInt64
def dgG1 (Z : Option Gr) (h : Int64) : Int64 := match Z with
  | none => 31 * h + Int32.toInt64 (-1)
  | some G => dgRow (fun q => nI (G.2.2 q)) G.1 (dgRow (fun q => nI (G.2.1 q)) G.1 (31 * h + (nI G.1).toInt64))
def dgG (S : St) : Nat → Int64
  | 0 => 17
  | g + 1 => dgG1 (sGr S g) (dgG S g)
def dgS1 (z : Option Nat) (b : Nat → Int32) (h : Int64) : Int64 := match z with
  | none => 31 * h + Int32.toInt64 (-1)
  | some n => dgRow b n (31 * h + (nI n).toInt64)
def dgS (S : St) : Nat → Int64
  | 0 => dgG S 10
  | s + 1 => dgS1 (sSz S s) (sBy S s) (dgS S s)
theorem sumT_b {f : Nat → Nat} {b : Nat} (h : ∀ k, f k ≤ b) : ∀ n, sumT f n ≤ b * n
  | 0 => Nat.le_refl _
  | n + 1 => by
    have := sumT_b h n
    have := h n
    show sumT f n + f n ≤ _
    rw [Nat.mul_succ]
    omega
theorem sh01_le (S : St) (k : Nat) : sh01 S k ≤ 1 := by unfold sh01; split <;> omega
section M19
variable {x : Nat → mCell} {mi : Nat → Int32} {ml : Nat → Int64} {ma : Nat → Nat → Int32} {S : St} {G : Gr}
theorem Mo_countE {w v2 : Int32} (hw : 0 ≤ w.toInt ∧ w.toInt ≤ 2) {h : mHeap} : ((sI 100 [.int w, .int 0, .int 2] h).bind fun q1 => if (q1.1 : Int32) = 0 then (some (some (.int (-1)), q1.2) : mR') else (some (some (.int v2), q1.2))) = some (some (.int v2), h) := by
  have t0 : (0 : Int32).toInt = 0 := rfl
  have t2 : (2 : Int32).toInt = 2 := rfl
  rw [Mo_in]
  simp only [Option.bind_some, in_toInt, b2i_0, decide_eq_false_iff_not]
  rw [if_neg (fun z => z (by rw [t0, t2]; exact hw))]
theorem Mo_countE' {w v2 : Int32} (hw : ¬ (0 ≤ w.toInt ∧ w.toInt ≤ 2)) {h : mHeap} : ((sI 100 [.int w, .int 0, .int 2] h).bind fun q1 => if (q1.1 : Int32) = 0 then (some (some (.int (-1)), q1.2) : mR') else (some (some (.int v2), q1.2))) = some (some (.int (-1)), h) := by
  have t0 : (0 : Int32).toInt = 0 := rfl
  have t2 : (2 : Int32).toInt = 2 := rfl
  rw [Mo_in]
  simp only [Option.bind_some, in_toInt, b2i_0, decide_eq_false_iff_not]
  rw [if_pos (by rw [t0, t2]; exact hw)]
theorem Mo_cntG (hW : Wf S) (h : MoAt S mi ml ma) {w : Int32} (hw : 0 < w.toInt) : ∀ (d k : Nat), k + d = 10 → q168_38 107 w (nI (sumT (gr01 S (decide (w.toInt = 2))) k)) (nI k) (MH x mi ml ma) = ((sI 100 [.int w, .int 0, .int 2] (MH x mi ml ma)).bind fun q1 => if (q1.1 : Int32) = 0 then (some (some (.int (-1)), q1.2) : mR') else (some (some (.int (nI (sumT (gr01 S (decide (w.toInt = 2))) 10))), q1.2))) := by
  intro d
  induction d with
  | zero =>
    intro k hk
    have ek : k = 10 := by omega
    subst ek
    rw [q168_38_eq, if_pos (by decide)]
  | succ d ih =>
    intro k hk
    have hg := h.2.2.2.2.1 k (by omega)
    have z1 : nI k + 1 = nI (k + 1) := iAdd k 1
    have hn := ih (k + 1) (by omega)
    have hs : sumT (gr01 S (decide (w.toInt = 2))) (k + 1) = sumT (gr01 S (decide (w.toInt = 2))) k + gr01 S (decide (w.toInt = 2)) k := rfl
    rw [hs] at hn
    have l116 : k < moLen 116 := by show _ < 10; omega
    have hle : ¬ w ≤ 0 := by rw [Int32.le_iff_toInt_le]; show ¬ w.toInt ≤ 0; omega
    rw [q168_38_eq, if_neg (by rw [l10, iLE (by omega) (by omega)]; omega), if_neg hle, moR10]
    simp only [Option.bind_some]
    rw [moAld (by decide) l116, hg]
    simp only [Option.bind_some, z1]
    have e2 : (w = 2) = (w.toInt = 2) := i32eq w 2
    have e0 : ∀ a, nI a + 0 = nI (a + 0) := fun a => iAdd a 0
    have e1 : ∀ a, nI a + 1 = nI (a + 1) := fun a => iAdd a 1
    simp only [e2]
    cases hz : sGr S k with
    | none =>
      have hr : gr01 S (decide (w.toInt = 2)) k = 0 := by unfold gr01; rw [hz]
      rw [hr] at hn
      by_cases c : w.toInt = 2
      · rw [if_neg (fun z => z c), e0]
        exact hn
      · rw [if_pos c, if_pos (by decide), e0]
        exact hn
    | some G =>
      have hok := (hW.2.2 k G (by omega) hz).1
      have h1 := hok.1
      have h8 := hok.2.1
      by_cases c : w.toInt = 2
      · have hr : gr01 S (decide (w.toInt = 2)) k = G.1 := by unfold gr01; rw [hz]; simp only [c, decide_true, if_true]
        rw [hr] at hn
        rw [if_neg (fun z => z c)]
        dsimp only
        rw [iAdd]
        exact hn
      · have hr : gr01 S (decide (w.toInt = 2)) k = 1 := by unfold gr01; rw [hz]; simp only [c, decide_false, Bool.false_eq_true, if_false]
        rw [hr] at hn
        rw [if_pos c]
        dsimp only
        rw [if_neg (by rw [l0, iLE (by omega) (by omega)]; omega), e1]
        exact hn
theorem Mo_cntS (hW : Wf S) (h : MoAt S mi ml ma) : ∀ (d k : Nat), k + d = 4 → q168_4 107 0 (nI (sumT (sh01 S) k)) (nI k) (MH x mi ml ma) = q168_38 107 0 (nI (sumT (sh01 S) 4)) 0 (MH x mi ml ma) := by
  intro d
  induction d with
  | zero =>
    intro k hk
    have ek : k = 4 := by omega
    subst ek
    rw [q168_4_eq, if_pos (by decide)]
  | succ d ih =>
    intro k hk
    have hg := h.2.2.1 k (by omega)
    have z1 : nI k + 1 = nI (k + 1) := iAdd k 1
    have hn := ih (k + 1) (by omega)
    have hs : sumT (sh01 S) (k + 1) = sumT (sh01 S) k + sh01 S k := rfl
    rw [hs] at hn
    have l109 : k < moLen 109 := by show _ < 4; omega
    have e0 : ∀ a, nI a + 0 = nI (a + 0) := fun a => iAdd a 0
    have e1 : ∀ a, nI a + 1 = nI (a + 1) := fun a => iAdd a 1
    rw [q168_4_eq, if_neg (by rw [l4, iLE (by omega) (by omega)]; omega), if_neg (fun z => z rfl), moR2]
    simp only [Option.bind_some]
    rw [moAld (by decide) l109, hg]
    simp only [Option.bind_some, z1]
    cases hz : sSz S k with
    | none =>
      have hr : sh01 S k = 0 := by unfold sh01; rw [hz]
      rw [hr] at hn
      rw [if_pos (by decide), e0]
      exact hn
    | some n =>
      have hr : sh01 S k = 1 := by unfold sh01; rw [hz]
      have := hW.1 k n (by omega) hz
      rw [hr] at hn
      dsimp only
      rw [if_neg (nI_pos (by omega)), e1]
      exact hn
theorem Mo_dgR {n : Nat} (hn8 : n ≤ 8) {g : Nat} (hg : g < 10) (h0 : ma 116 g = nI n) {R U : Nat → Nat} (hr : ∀ q, q < n → ma 117 (8 * g + q) = nI (R q) ∧ ma 118 (8 * g + q) = nI (U q)) (v : Int64) : ∀ (d k : Nat), k + d = 2 * n → q171_42 107 (if k ≤ n then dgRow (fun q => nI (R q)) k v else dgRow (fun q => nI (U q)) (k - n) (dgRow (fun q => nI (R q)) n v)) (nI g) (nI k) (MH x mi ml ma) = q171_6 107 (dgRow (fun q => nI (U q)) n (dgRow (fun q => nI (R q)) n v)) (nI (g + 1)) (some (.int (nI (2 * n)))) (MH x mi ml ma) := by
  have l116 : g < moLen 116 := hg
  intro d
  induction d with
  | zero =>
    intro k hk
    have ek : k = 2 * n := by omega
    subst ek
    rw [q171_42_eq, moR10]
    simp only [Option.bind_some]
    rw [moAld (by decide) l116, h0]
    simp only [Option.bind_some]
    rw [l2, iMul, if_pos (by rw [iLE (by omega) (by omega)]; omega)]
    have z1 : nI g + 1 = nI (g + 1) := iAdd g 1
    rw [z1]
    congr 1
    by_cases c : 2 * n ≤ n
    · have : n = 0 := by omega
      subst this
      rfl
    · rw [if_neg c, show 2 * n - n = n by omega]
  | succ d ih =>
    intro k hk
    have hn := ih (k + 1) (by omega)
    have z1 : nI k + 1 = nI (k + 1) := iAdd k 1
    rw [q171_42_eq, moR10]
    simp only [Option.bind_some]
    rw [moAld (by decide) l116, h0]
    simp only [Option.bind_some]
    rw [l2, iMul, if_neg (by rw [iLE (by omega) (by omega)]; omega)]
    simp only [iLE (show n < 2000000000 by omega) (show k < 2000000000 by omega)]
    by_cases c : n ≤ k
    · rw [if_pos c, moR12]
      simp only [Option.bind_some]
      rw [l8, iMul, iAdd, iSub (by omega), show 8 * g + k - n = 8 * g + (k - n) by omega, moAld (by decide) (show 8 * g + (k - n) < moLen 118 by show _ < 80; omega), (hr (k - n) (by omega)).2]
      simp only [Option.bind_some, z1]
      rw [if_neg (show ¬ k + 1 ≤ n by omega), show k + 1 - n = (k - n) + 1 by omega] at hn
      by_cases c2 : k ≤ n
      · have e : k = n := by omega
        subst e
        rw [if_pos (Nat.le_refl _)]
        rw [Nat.sub_self] at hn ⊢
        exact hn
      · rw [if_neg c2]
        exact hn
    · rw [if_neg c, moR11]
      simp only [Option.bind_some]
      rw [l8, iMul, iAdd, moAld (by decide) (show 8 * g + k < moLen 117 by show _ < 80; omega), (hr k (by omega)).1]
      simp only [Option.bind_some, z1]
      rw [if_pos (show k + 1 ≤ n by omega)] at hn
      rw [if_pos (show k ≤ n by omega)]
      exact hn
theorem Mo_dgG (hW : Wf S) (h : MoAt S mi ml ma) : ∀ (d g : Nat), g + d = 10 → ∀ d4, ∃ d4', q171_6 107 (dgG S g) (nI g) d4 (MH x mi ml ma) = q171_122 107 (dgG S 10) 0 d4' (MH x mi ml ma) := by
  intro d
  induction d with
  | zero =>
    intro k hk d4
    have ek : k = 10 := by omega
    subst ek
    exact ⟨d4, by rw [q171_6_eq, if_pos (by decide)]⟩
  | succ d ih =>
    intro k hk d4
    have hg := h.2.2.2.2.1 k (by omega)
    have l116 : k < moLen 116 := by show _ < 10; omega
    rw [q171_6_eq, if_neg (by rw [l10, iLE (by omega) (by omega)]; omega), moR10]
    simp only [Option.bind_some]
    rw [moAld (by decide) l116]
    simp only [Option.bind_some]
    cases hz : sGr S k with
    | none =>
      rw [hz] at hg
      have hs : dgG S (k + 1) = 31 * dgG S k + Int32.toInt64 (-1) := by show dgG1 (sGr S k) _ = _; rw [hz]; rfl
      obtain ⟨e, he⟩ := ih (k + 1) (by omega) (some (.int (nI (2 * 0))))
      refine ⟨e, ?_⟩
      rw [hg, if_neg (by decide)]
      have := Mo_dgR (x := x) (mi := mi) (ml := ml) (ma := ma) (n := 0) (by omega) (show k < 10 by omega) hg (R := id) (U := id) (fun q hq => by omega) (dgG S (k + 1)) 0 0 rfl
      rw [← he, ← hs]
      exact this
    | some G =>
      rw [hz] at hg
      have hok := (hW.2.2 k G (by omega) hz).1
      have h1 := hok.1
      have h8 := hok.2.1
      have hs : dgG S (k + 1) = dgG1 (some G) (dgG S k) := by show dgG1 (sGr S k) _ = _; rw [hz]
      obtain ⟨e, he⟩ := ih (k + 1) (by omega) (some (.int (nI (2 * G.1))))
      refine ⟨e, ?_⟩
      rw [hg]
      dsimp only
      rw [if_pos (by rw [l0, iEQ (by omega) (by omega)]; omega)]
      have := Mo_dgR (x := x) (mi := mi) (ml := ml) (ma := ma) h8 (show k < 10 by omega) hg (R := G.2.1) (U := G.2.2) (h.2.2.2.2.2.1 k G (by omega) hz) (31 * dgG S k + (nI G.1).toInt64) (2 * G.1) 0 (by omega)
      rw [hs] at he
      rw [← he]
      exact this
theorem Mo_dgB {n : Nat} (hn8 : n ≤ 8) {s : Nat} (hs : s < 4) {b : Nat → Int32} (hb : ∀ i, i < 8 → ma 110 (8 * s + i) = b i) {z : Int32} (h0 : ma 109 s = z) (hz : z = nI n ∨ (z = -9 ∧ n = 0)) (v : Int64) : ∀ (d k : Nat), k + d = n → q171_157 107 (dgRow b k v) (nI s) (nI k) (MH x mi ml ma) = q171_122 107 (dgRow b n v) (nI (s + 1)) (some (.int (nI n))) (MH x mi ml ma) := by
  have l109 : s < moLen 109 := hs
  intro d
  induction d with
  | zero =>
    intro k hk
    have ek : k = n := by omega
    subst ek
    have z1 : nI s + 1 = nI (s + 1) := iAdd s 1
    rw [q171_157_eq, moR2]
    simp only [Option.bind_some]
    rw [moAld (by decide) l109, h0]
    simp only [Option.bind_some]
    rw [z1, if_pos]
    rcases hz with e | ⟨e, e2⟩
    · rw [e, iLE (by omega) (by omega)]; omega
    · subst e2; rw [e]; decide
  | succ d ih =>
    intro k hk
    have hn := ih (k + 1) (by omega)
    have z1 : nI k + 1 = nI (k + 1) := iAdd k 1
    have ez : z = nI n := by
      rcases hz with e | ⟨e, e2⟩
      · exact e
      · omega
    rw [q171_157_eq, moR2]
    simp only [Option.bind_some]
    rw [moAld (by decide) l109, h0, ez]
    simp only [Option.bind_some]
    rw [if_neg (by rw [iLE (by omega) (by omega)]; omega), moR3]
    simp only [Option.bind_some]
    rw [l8, iMul, iAdd, moAld (by decide) (show 8 * s + k < moLen 110 by show _ < 32; omega), hb k (by omega)]
    simp only [Option.bind_some, z1]
    exact hn
theorem Mo_dgS (hW : Wf S) (h : MoAt S mi ml ma) : ∀ (d s : Nat), s + d = 4 → ∀ d4, q171_122 107 (dgS S s) (nI s) d4 (MH x mi ml ma) = some (some (.long (dgS S 4)), MH x mi ml ma) := by
  intro d
  induction d with
  | zero =>
    intro k hk d4
    have ek : k = 4 := by omega
    subst ek
    rw [q171_122_eq, if_pos (by decide)]
  | succ d ih =>
    intro k hk d4
    have hg := h.2.2.1 k (by omega)
    have hb := fun i => h.2.2.2.1 k i (by omega)
    have l109 : k < moLen 109 := by show _ < 4; omega
    rw [q171_122_eq, if_neg (by rw [l4, iLE (by omega) (by omega)]; omega), moR2]
    simp only [Option.bind_some]
    rw [moAld (by decide) l109]
    simp only [Option.bind_some]
    cases hz : sSz S k with
    | none =>
      rw [hz] at hg
      have hs : dgS S (k + 1) = 31 * dgS S k + Int32.toInt64 (-1) := by show dgS1 (sSz S k) _ _ = _; rw [hz]; rfl
      rw [hg, if_neg (by decide)]
      have := Mo_dgB (x := x) (mi := mi) (ml := ml) (ma := ma) (n := 0) (by omega) (show k < 4 by omega) hb hg (Or.inr ⟨rfl, rfl⟩) (dgS S (k + 1)) 0 0 rfl
      rw [hs] at this
      have he := ih (k + 1) (by omega) (some (.int (nI 0)))
      rw [hs] at he
      exact this.trans he
    | some n =>
      rw [hz] at hg
      have h8 := hW.1 k n (by omega) hz
      have hs : dgS S (k + 1) = dgRow (sBy S k) n (31 * dgS S k + (nI n).toInt64) := by show dgS1 (sSz S k) _ _ = _; rw [hz]; rfl
      have he := ih (k + 1) (by omega) (some (.int (nI n)))
      rw [hg]
      dsimp only
      rw [if_pos (nI_pos' (by omega))]
      have := Mo_dgB (x := x) (mi := mi) (ml := ml) (ma := ma) h8 (show k < 4 by omega) hb hg (Or.inl rfl) (31 * dgS S k + (nI n).toInt64) n 0 (by omega)
      rw [hs] at he
      exact this.trans he
end M19
theorem Mo_count (S : St) (hW : Wf S) (w : Int32) : MoSp 168 [.int w] S (spCount S w) := by
  intro x mi ml ma h
  have key : F 168 [.ref 107, .int w] (MH x mi ml ma) = some (some (.int (spCount S w).1), MH x mi ml ma) := by
    unfold spCount
    have t0 : (w = 0) = (w.toInt = 0) := i32eq w 0
    have t1 : (w ≤ 0) = (w.toInt ≤ 0) := propext Int32.le_iff_toInt_le
    rw [F168_eq]
    by_cases c0 : w.toInt = 0
    · have ew : w = 0 := by rw [t0]; exact c0
      have e := Mo_cntS (x := x) hW h 4 0 rfl
      have e2 : q168_38 107 0 (nI (sumT (sh01 S) 4)) 0 (MH x mi ml ma) = some (some (.int (nI (sumT (sh01 S) 4))), MH x mi ml ma) := by
        rw [q168_38_eq, if_neg (by decide), if_pos (by decide), Mo_countE (by decide)]
      rw [if_pos (by omega)]
      subst ew
      unfold cntV
      rw [if_pos (show Int32.toInt 0 = 0 from rfl)]
      exact e.trans e2
    · rw [q168_4_eq, if_neg (by decide), if_pos (by rw [t0]; exact c0)]
      by_cases c1 : 0 < w.toInt
      · have e := Mo_cntG (x := x) hW h c1 10 0 rfl
        by_cases c2 : 0 ≤ w.toInt ∧ w.toInt ≤ 2
        · rw [if_pos c2]
          unfold cntV
          rw [if_neg c0]
          exact e.trans (Mo_countE c2)
        · rw [if_neg c2]
          exact e.trans (Mo_countE' c2)
      · rw [q168_38_eq, if_neg (by decide), if_pos (by rw [t1]; omega), if_neg (by omega)]
        exact Mo_countE' (by omega)
  have e : (spCount S w).2 = S := by unfold spCount; split <;> rfl
  exact ⟨mi, ml, ma, vI_of (ci := 8) rfl mo_O key, by rw [e]; exact h⟩
theorem Mo_digest (S : St) (hW : Wf S) : ∀ (x : Nat → mCell) (mi : Nat → Int32) (ml : Nat → Int64) (ma : Nat → Nat → Int32), MoAt S mi ml ma → vL 171 107 [] (MH x mi ml ma) = some (dgS S 4, MH x mi ml ma) := by
  intro x mi ml ma h
  refine vL_of (ci := 8) rfl mo_O ?_
  obtain ⟨e, he⟩ := Mo_dgG (x := x) hW h 10 0 rfl none
  rw [F171_eq]
  refine Eq.trans he ?_
  exact Mo_dgS hW h 4 0 rfl e
