/-! grounds that are alike; names -/
theorem sumT_congr {f g : Nat → Nat} : ∀ n, (∀ q, q < n → f q = g q) → sumT f n = sumT g n
  | 0, _ => rfl
  | n + 1, h => by
    show sumT f n + f n = sumT g n + g n
    rw [sumT_congr n (fun q hq => h q (by omega)), h n (by omega)]
theorem sumT_fu (f : Nat → Nat) {w : Nat} : ∀ m, w < m → sumT f m = sumT (fu f w 0) m + f w
  | 0, h => by omega
  | m + 1, h => by
    show sumT f m + f m = sumT (fu f w 0) m + fu f w 0 m + f w
    by_cases e : w = m
    · subst e
      rw [fu_at, sumT_congr w (g := fu f w 0) (fun q hq => (fu_ne (by omega)).symm)]
      omega
    · rw [fu_ne (show m ≠ w by omega), sumT_fu f (w := w) m (by omega)]
      omega
theorem sumT_inj {m : Nat} {φ : Nat → Nat} : ∀ (n : Nat) (f : Nat → Nat), (∀ q, q < n → φ q < m) → Inj n φ → sumT (fun s => f (φ s)) n ≤ sumT f m
  | 0, _, _, _ => Nat.zero_le _
  | n + 1, f, h1, h2 => by
    have ih := sumT_inj n (fu f (φ n) 0) (fun q hq => h1 q (by omega)) (fun p q hp hq e => h2 p q (by omega) (by omega) e)
    have e1 : sumT (fun s => fu f (φ n) 0 (φ s)) n = sumT (fun s => f (φ s)) n := sumT_congr n (fun q hq => fu_ne (fun z => by
      have := h2 q n (by omega) (by omega) z
      omega))
    have e2 := sumT_fu f m (h1 n (by omega))
    show sumT (fun s => f (φ s)) n + f (φ n) ≤ _
    rw [e1] at ih
    omega
theorem sumT_prm {n : Nat} {φ : Nat → Nat} (h : Prm n φ) (f : Nat → Nat) : sumT (fun s => f (φ s)) n = sumT f n := by
  have h1 := sumT_inj n f h.1 h.2
  have h2 := sumT_inj n (fun s => f (φ s)) (inv_prm h).1 (inv_prm h).2
  have e : sumT (fun s => f (φ (inv n φ s))) n = sumT f n := sumT_congr n (fun q hq => by rw [(inv_ok h hq).2])
  rw [e] at h2
  omega
theorem cnt_sum (P : Nat → Bool) : ∀ n, cnt P n = sumT (fun q => if P q = true then 1 else 0) n
  | 0 => rfl
  | n + 1 => by
    show cnt P n + _ = sumT _ n + _
    rw [cnt_sum P n]
theorem cnt_prm {n : Nat} {φ : Nat → Nat} (h : Prm n φ) (P : Nat → Bool) : cnt (fun s => P (φ s)) n = cnt P n := by
  rw [cnt_sum, cnt_sum]
  exact sumT_prm h (fun q => if P q = true then 1 else 0)
theorem cnt_0 {P : Nat → Bool} : ∀ n, (∀ q, q < n → P q = false) → cnt P n = 0
  | 0, _ => rfl
  | n + 1, h => by
    show cnt P n + _ = 0
    rw [cnt_0 n (fun q hq => h q (by omega)), if_neg (by rw [h n (by omega)]; decide)]
def Iso (φ : Nat → Nat) (G H : Gr) : Prop := G.1 = H.1 ∧ Prm G.1 φ ∧ ∀ q, q < G.1 → φ (G.2.1 q) = H.2.1 (φ q) ∧ φ (G.2.2 q) = H.2.2 (φ q)
theorem Iso.iv {φ : Nat → Nat} {G H : Gr} (h : Iso φ G H) (hG : Gd G) : Iso (inv G.1 φ) H G := by
  obtain ⟨h1, h2, h3⟩ := h
  refine ⟨h1.symm, by rw [← h1]; exact inv_prm h2, fun q hq => ?_⟩
  rw [← h1] at hq
  obtain ⟨i1, i2⟩ := inv_ok h2 hq
  obtain ⟨a, b⟩ := h3 _ i1
  rw [i2] at a b
  exact ⟨inv_uniq h2 (hG.2.2.1.1 _ i1) a, inv_uniq h2 (hG.2.2.2.1 _ i1) b⟩
theorem Iso.tr {φ ψ : Nat → Nat} {G H K : Gr} (h : Iso φ G H) (k : Iso ψ H K) : Iso (fun q => ψ (φ q)) G K := by
  obtain ⟨h1, h2, h3⟩ := h
  obtain ⟨k1, k2, k3⟩ := k
  rw [← h1] at k2 k3
  refine ⟨h1.trans k1, k2.comp h2, fun q hq => ?_⟩
  obtain ⟨a, b⟩ := h3 q hq
  obtain ⟨c, d⟩ := k3 _ (h2.1 q hq)
  exact ⟨(congrArg ψ a).trans c, (congrArg ψ b).trans d⟩
theorem Iso.sh {φ : Nat → Nat} {G H : Gr} (h : Iso φ G H) (hG : Gd G) (hH : Gd H) (u : Bool) : Iso φ (shG u G) (shG u H) := by
  obtain ⟨h1, h2, h3⟩ := h
  refine ⟨h1, h2, fun q hq => ⟨(h3 q hq).1, ?_⟩⟩
  cases u
  · obtain ⟨i1, i2⟩ := inv_ok hG.2.2.1 hq
    have e1 := (h3 _ i1).1
    rw [i2] at e1
    have e2 : inv H.1 H.2.1 (φ q) = φ (inv G.1 G.2.1 q) := inv_uniq hH.2.2.1 (by rw [← h1]; exact h2.1 _ i1) e1.symm
    show φ (G.2.2 (inv G.1 G.2.1 q)) = H.2.2 (inv H.1 H.2.1 (φ q))
    rw [e2]
    exact (h3 _ i1).2
  · show φ (G.2.2 (G.2.1 q)) = H.2.2 (H.2.1 (φ q))
    rw [(h3 _ (hG.2.2.1.1 q hq)).2, (h3 q hq).1]
theorem Iso.back {G : Gr} (hG : Gd G) : Iso id (shG true (shG false G)) G := by
  refine ⟨rfl, ⟨fun q hq => hq, fun p q _ _ e => e⟩, fun q hq => ⟨rfl, ?_⟩⟩
  show G.2.2 (inv G.1 G.2.1 (G.2.1 q)) = G.2.2 q
  rw [inv_l hG.2.2.1 hq]
theorem Iso.ok {φ : Nat → Nat} {G H : Gr} (h : Iso φ G H) (hH : Ok H) (m1 : Map G.1 G.2.1) (m2 : Map G.1 G.2.2) : Ok G := by
  obtain ⟨h1, h2, h3⟩ := h
  obtain ⟨⟨g1, g2, g3, g4⟩, g5⟩ := hH
  rw [← h1] at g1 g2 g3 g4 g5
  refine ⟨⟨g1, g2, ⟨m1, fun p q hp hq e => ?_⟩, ⟨m2, fun p q hp hq e => ?_⟩⟩, fun X hX hne q hq => ?_⟩
  · apply h2.2 p q hp hq
    apply g3.2 _ _ (h2.1 p hp) (h2.1 q hq)
    rw [← (h3 p hp).1, ← (h3 q hq).1, e]
  · apply h2.2 p q hp hq
    apply g4.2 _ _ (h2.1 p hp) (h2.1 q hq)
    rw [← (h3 p hp).2, ← (h3 q hq).2, e]
  · obtain ⟨r, hr, hx⟩ := hne
    obtain ⟨p, hp, e, hpx⟩ := g5 (fun y => ∃ p, p < G.1 ∧ φ p = y ∧ X p) (by
      rintro y hy ⟨p, hp, e, hpx⟩
      obtain ⟨a, b⟩ := h3 p hp
      rw [← e, ← a, ← b]
      exact ⟨⟨_, m1 p hp, rfl, (hX p hp hpx).1⟩, ⟨_, m2 p hp, rfl, (hX p hp hpx).2⟩⟩) ⟨φ r, h2.1 r hr, r, hr, rfl, hx⟩ (φ q) (h2.1 q hq)
    rw [← h2.2 p q hp hq e]
    exact hpx
/-- numberings go along -/
def Br (n : Nat) (φ : Nat → Nat) (b c : Bs) : Prop := b.1 = c.1 ∧ (∀ t, t < n → c.2.1 (φ t) = b.2.1 t) ∧ ∀ i, i < b.1 → b.2.2 i < n ∧ c.2.2 i = φ (b.2.2 i)
theorem Br.vs {n : Nat} {φ : Nat → Nat} {b c : Bs} (hp : Prm n φ) (h : Br n φ b c) {s : Nat} (hs : s < n) : Br n φ (vis b s) (vis c (φ s)) := by
  obtain ⟨h1, h2, h3⟩ := h
  unfold vis
  rw [h2 s hs]
  cases b.2.1 s with
  | some i => exact ⟨h1, h2, h3⟩
  | none =>
    dsimp only
    rw [h1] at h3 ⊢
    refine ⟨rfl, fun t ht => ?_, fun i hi => ?_⟩
    · by_cases e : t = s
      · subst e; dsimp only; rw [fu_at, fu_at]
      · dsimp only; rw [fu_ne e, fu_ne (fun z => e (hp.2 t s ht hs z))]; exact h2 t ht
    · dsimp only at hi ⊢
      by_cases e : i = c.1
      · subst e; rw [fu_at, fu_at]; exact ⟨hs, rfl⟩
      · rw [fu_ne e, fu_ne e]; exact h3 i (by omega)
theorem Br.bf {φ : Nat → Nat} {G H : Gr} (h : Iso φ G H) (hG : Gd G) {s : Nat} (hs : s < G.1) : ∀ k, Br G.1 φ (bfs G.2.1 G.2.2 s k) (bfs H.2.1 H.2.2 (φ s) k)
  | 0 => by
    refine ⟨rfl, fun t ht => ?_, fun i hi => ?_⟩
    · show (b0 (φ s)).2.1 (φ t) = (b0 s).2.1 t
      unfold b0
      dsimp only
      by_cases e : t = s
      · subst e; rw [fu_at, fu_at]
      · rw [fu_ne e, fu_ne (fun z => e (h.2.1.2 t s ht hs z))]
    · have : i = 0 := by have : i < 1 := hi; omega
      subst this
      exact ⟨hs, rfl⟩
  | k + 1 => by
    have ih := Br.bf h hG hs k
    unfold bfs
    rw [← ih.1]
    by_cases c : k < (bfs G.2.1 G.2.2 s k).1
    · rw [if_pos c, if_pos c]
      obtain ⟨o1, o2⟩ := ih.2.2 k c
      obtain ⟨e1, e2⟩ := h.2.2 _ o1
      unfold bst
      rw [o2, ← e1, ← e2]
      exact (ih.vs h.2.1 (hG.2.2.1.1 _ o1)).vs h.2.1 (hG.2.2.2.1 _ o1)
    · rw [if_neg c, if_neg c]
      exact ih
theorem rowv_iso {φ : Nat → Nat} {G H : Gr} (h : Iso φ G H) (hG : Ok G) {s : Nat} (hs : s < G.1) : rowv H (φ s) = rowv G s := by
  have hb := Br.bf h hG.1 hs G.1
  have hf := bfs_full hG.1.2.2.1.1 hG.1.2.2.2.1 hs hG.2
  unfold rowv
  rw [← h.1]
  refine pkv_congr _ (fun i hi => ?_)
  unfold dgt
  rw [← h.1]
  by_cases c : i < G.1
  · obtain ⟨o1, o2⟩ := hb.2.2 i (by omega)
    rw [if_pos c, if_pos c, o2, ← (h.2.2 _ o1).1, hb.2.1 _ (hG.1.2.2.1.1 _ o1)]
  · obtain ⟨o1, o2⟩ := hb.2.2 (i - G.1) (by omega)
    rw [if_neg c, if_neg c, o2, ← (h.2.2 _ o1).2, hb.2.1 _ (hG.1.2.2.2.1 _ o1)]
theorem nmA_le (G : Gr) : ∀ k s, s < k → (nmA G k).1 ≤ rowv G s
  | 0, s, hs => by omega
  | k + 1, s, hs => by
    have ih := nmA_le G k s
    unfold nmA
    by_cases e : s = k
    · subst e
      split
      · exact Nat.le_refl _
      · split <;> (try dsimp only) <;> omega
    · have := ih (by omega)
      split
      · dsimp only; omega
      · split <;> (try dsimp only) <;> omega
theorem nmA_cnt (G : Gr) : ∀ k, (nmA G k).2 = cnt (fun s => decide (rowv G s = (nmA G k).1)) k
  | 0 => rfl
  | k + 1 => by
    have ih := nmA_cnt G k
    have hl := nmA_le G k
    show _ = cnt _ k + _
    unfold nmA
    split
    · rename_i c
      rw [cnt_0 k (fun q hq => by
        have := hl q hq
        rw [decide_eq_false_iff_not]
        dsimp only
        omega)]
      simp
    · split
      · rename_i c
        rw [if_pos (decide_eq_true c), ← ih]
      · rename_i c
        rw [if_neg (by simpa using c), ← ih]
        rfl
theorem nm_iso {φ : Nat → Nat} {G H : Gr} (h : Iso φ G H) (hG : Ok G) (hH : Ok H) : nmV G = nmV H ∧ nmS G = nmS H := by
  have e : nmV G = nmV H := by
    obtain ⟨s, s1, s2⟩ := nmA_row hG G.1 hG.1.1 (Nat.le_refl _)
    obtain ⟨t, t1, t2⟩ := nmA_row hH H.1 hH.1.1 (Nat.le_refl _)
    obtain ⟨p, p1, p2⟩ := surj_of_inj G.1 φ h.2.1.1 h.2.1.2 t (by rw [h.1]; exact t1)
    have a1 := nmA_le H H.1 (φ s) (by rw [← h.1]; exact h.2.1.1 s s1)
    have a2 := nmA_le G G.1 p p1
    rw [rowv_iso h hG s1] at a1
    rw [← rowv_iso h hG p1, p2] at a2
    unfold nmV
    omega
  refine ⟨e, ?_⟩
  unfold nmS
  rw [nmA_cnt, nmA_cnt, ← h.1, ← cnt_prm h.2.1 (fun s => decide (rowv H s = (nmA H G.1).1))]
  refine cnt_congr _ (fun q hq => ?_)
  unfold nmV at e
  rw [rowv_iso h hG hq, e, h.1]
/-- the ground that a name tells -/
def unN (n v : Nat) : Gr := (n, fun q => v / 8 ^ (2 * n - 1 - q) % 8, fun q => v / 8 ^ (2 * n - 1 - (n + q)) % 8)
theorem un_iso {G : Gr} (h : Ok G) {s : Nat} (hs : s < G.1) : Iso (bfs G.2.1 G.2.2 s G.1).2.2 (unN G.1 (rowv G s)) G ∧ Map G.1 (unN G.1 (rowv G s)).2.1 ∧ Map G.1 (unN G.1 (rowv G s)).2.2 := by
  have hb := bfs_BI h.1.2.2.1.1 h.1.2.2.2.1 hs G.1
  have hf := bfs_full h.1.2.2.1.1 h.1.2.2.2.1 hs h.2
  have h8 := h.1.2.1
  have dl : ∀ i, i < 2 * G.1 → dgt G s i < 8 := fun i hi => by have := dgt_lt h hs hi; omega
  have dg : ∀ i, i < 2 * G.1 → rowv G s / 8 ^ (2 * G.1 - 1 - i) % 8 = dgt G s i := fun i hi => pkv_digit _ dl i hi
  have e1 : ∀ q, q < G.1 → (unN G.1 (rowv G s)).2.1 q = dgt G s q := fun q hq => dg q (by omega)
  have e2 : ∀ q, q < G.1 → (unN G.1 (rowv G s)).2.2 q = dgt G s (G.1 + q) := fun q hq => dg (G.1 + q) (by omega)
  have num : ∀ t, t < G.1 → (bfs G.2.1 G.2.2 s G.1).2.2 (((bfs G.2.1 G.2.2 s G.1).2.1 t).getD 0) = t := by
    intro t ht
    obtain ⟨i, i1, i2⟩ := dgt_num h hs ht
    rw [i2]
    exact (hb.1 t i i2).2
  refine ⟨⟨rfl, ⟨fun q hq => (hb.2 q (by rw [hf]; exact hq)).1, fun p q hp hq e => ?_⟩, fun q hq => ⟨?_, ?_⟩⟩, fun q hq => by rw [e1 q hq]; exact dgt_lt h hs (by omega), fun q hq => by rw [e2 q hq]; exact dgt_lt h hs (by omega)⟩
  · have a1 := (hb.2 p (by rw [hf]; exact hp)).2
    have a2 := (hb.2 q (by rw [hf]; exact hq)).2
    rw [e, a2] at a1
    cases a1
    rfl
  · have hq' : q < G.1 := hq
    rw [e1 q hq', dgt_lo hq']
    exact num _ (h.1.2.2.1.1 _ (hb.2 q (by omega)).1)
  · have hq' : q < G.1 := hq
    rw [e2 q hq', dgt_hi]
    exact num _ (h.1.2.2.2.1 _ (hb.2 q (by omega)).1)
theorem un_nm {G : Gr} (h : Ok G) : Ok (unN G.1 (nmV G)) ∧ nmV (unN G.1 (nmV G)) = nmV G ∧ nmS (unN G.1 (nmV G)) = nmS G ∧ nmV G < 8 ^ (2 * G.1) ∧ ∃ φ, Iso φ (unN G.1 (nmV G)) G := by
  obtain ⟨s, s1, s2⟩ := nmA_row h G.1 h.1.1 (Nat.le_refl _)
  have e : nmV G = rowv G s := s2
  obtain ⟨i1, i2, i3⟩ := un_iso h s1
  have hk := i1.ok h i2 i3
  have h8 := h.1.2.1
  rw [e]
  obtain ⟨a, b⟩ := nm_iso i1 hk h
  exact ⟨hk, a.trans e, b, pkv_lt_pow _ (fun i hi => by have := dgt_lt h s1 hi; omega), _, i1⟩
theorem nm_sh_inj {G H : Gr} (hG : Ok G) (hH : Ok H) (hn : G.1 = H.1) (e : nmV (shG false G) = nmV (shG false H)) : nmV G = nmV H := by
  obtain ⟨a1, a2, a3, a4, φ, a5⟩ := un_nm (hG.sh false)
  obtain ⟨b1, b2, b3, b4, ψ, b5⟩ := un_nm (hH.sh false)
  have en : (shG false G).1 = (shG false H).1 := hn
  rw [← e, ← en] at b5
  have k := ((a5.iv a1.1).tr b5).sh (hG.sh false).1 (hH.sh false).1 true
  have c1 := (nm_iso k ((hG.sh false).sh true) ((hH.sh false).sh true)).1
  have c2 := (nm_iso (Iso.back hG.1) ((hG.sh false).sh true) hG).1
  have c3 := (nm_iso (Iso.back hH.1) ((hH.sh false).sh true) hH).1
  rw [← c2, ← c3, c1]
