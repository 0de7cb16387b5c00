/-! names -/
def pkv (f : Nat → Nat) : Nat → Nat
  | 0 => 0
  | k + 1 => pkv f k * 8 + f k
theorem pkv_congr {f g : Nat → Nat} : ∀ m, (∀ i, i < m → f i = g i) → pkv f m = pkv g m
  | 0, _ => rfl
  | m + 1, h => by
    show pkv f m * 8 + f m = pkv g m * 8 + g m
    rw [pkv_congr m (fun i hi => h i (by omega)), h m (by omega)]
theorem pkv_lt_pow {f : Nat → Nat} : ∀ m, (∀ i, i < m → f i < 8) → pkv f m < 8 ^ m
  | 0, _ => Nat.one_pos
  | m + 1, h => by
    have h1 := pkv_lt_pow m (fun i hi => h i (by omega))
    have h2 := h m (by omega)
    show pkv f m * 8 + f m < 8 ^ (m + 1)
    rw [Nat.pow_succ]
    omega
theorem pkv_lex {f g : Nat → Nat} {k : Nat} (he : ∀ i, i < k → f i = g i) (hlt : f k < g k) : ∀ d, (∀ i, i < k + 1 + d → f i < 8) → pkv f (k + 1 + d) < pkv g (k + 1 + d)
  | 0, _ => by
    show pkv f k * 8 + f k < pkv g k * 8 + g k
    rw [pkv_congr k he]
    omega
  | d + 1, h => by
    have ih := pkv_lex he hlt d (fun i hi => h i (by omega))
    have h2 := h (k + 1 + d) (by omega)
    show pkv f (k + 1 + d) * 8 + f (k + 1 + d) < pkv g (k + 1 + d) * 8 + g (k + 1 + d)
    omega
theorem pkv_digit {f : Nat → Nat} : ∀ m, (∀ i, i < m → f i < 8) → ∀ i, i < m → pkv f m / 8 ^ (m - 1 - i) % 8 = f i
  | 0, _, i, hi => by omega
  | m + 1, h, i, hi => by
    have h2 := h m (by omega)
    by_cases e : i = m
    · subst e
      show (pkv f i * 8 + f i) / 8 ^ (i + 1 - 1 - i) % 8 = f i
      rw [show i + 1 - 1 - i = 0 by omega, Nat.pow_zero, Nat.div_one]
      omega
    · have ih := pkv_digit m (fun i hi => h i (by omega)) i (by omega)
      show (pkv f m * 8 + f m) / 8 ^ (m + 1 - 1 - i) % 8 = f i
      rw [show m + 1 - 1 - i = (m - 1 - i) + 1 by omega, Nat.pow_succ, Nat.mul_comm (8 ^ _) 8, ← Nat.div_div_eq_div_mul, show (pkv f m * 8 + f m) / 8 = pkv f m by omega]
      exact ih
theorem pkv_inj {f g : Nat → Nat} {m : Nat} (hf : ∀ i, i < m → f i < 8) (hg : ∀ i, i < m → g i < 8) (h : pkv f m = pkv g m) : ∀ i, i < m → f i = g i := by
  intro i hi
  rw [← pkv_digit m hf i hi, ← pkv_digit m hg i hi, h]
/-- the row that begins at s -/
def dgt (G : Gr) (s k : Nat) : Nat := ((bfs G.2.1 G.2.2 s G.1).2.1 (if k < G.1 then G.2.1 ((bfs G.2.1 G.2.2 s G.1).2.2 k) else G.2.2 ((bfs G.2.1 G.2.2 s G.1).2.2 (k - G.1)))).getD 0
def rowv (G : Gr) (s : Nat) : Nat := pkv (dgt G s) (2 * G.1)
/-- the least row of those that begin below k, and how many are like it -/
def nmA (G : Gr) : Nat → Nat × Nat
  | 0 => (8 ^ 16, 0)
  | k + 1 => if rowv G k < (nmA G k).1 then (rowv G k, 1) else if rowv G k = (nmA G k).1 then ((nmA G k).1, (nmA G k).2 + 1) else nmA G k
def nmV (G : Gr) : Nat := (nmA G G.1).1
def nmS (G : Gr) : Nat := (nmA G G.1).2
theorem dgt_num {G : Gr} (h : Ok G) {s : Nat} (hs : s < G.1) {t : Nat} (ht : t < G.1) : ∃ i, i < G.1 ∧ (bfs G.2.1 G.2.2 s G.1).2.1 t = some i := by
  have hb := bfs_BI h.1.2.2.1.1 h.1.2.2.2.1 hs G.1
  have hf := bfs_full h.1.2.2.1.1 h.1.2.2.2.1 hs h.2
  obtain ⟨i, hi, e⟩ := surj_of_inj G.1 (bfs G.2.1 G.2.2 s G.1).2.2 (fun q hq => (hb.2 q (by omega)).1) (fun p q hp hq e => by
    have e1 := (hb.2 p (by omega)).2
    have e2 := (hb.2 q (by omega)).2
    rw [e, e2] at e1
    cases e1
    rfl) t ht
  have := (hb.2 i (by omega)).2
  rw [e] at this
  exact ⟨i, hi, this⟩
theorem od_lt {G : Gr} (h : Ok G) {s : Nat} (hs : s < G.1) {k : Nat} (hk : k < G.1) : (bfs G.2.1 G.2.2 s G.1).2.2 k < G.1 := by
  have hb := bfs_BI h.1.2.2.1.1 h.1.2.2.2.1 hs G.1
  have hf := bfs_full h.1.2.2.1.1 h.1.2.2.2.1 hs h.2
  exact (hb.2 k (by omega)).1
theorem dgt_lt {G : Gr} (h : Ok G) {s : Nat} (hs : s < G.1) {k : Nat} (hk : k < 2 * G.1) : dgt G s k < G.1 := by
  unfold dgt
  by_cases c : k < G.1
  · rw [if_pos c]
    obtain ⟨i, hi, e⟩ := dgt_num h hs (h.1.2.2.1.1 _ (od_lt h hs c))
    rw [e]
    exact hi
  · rw [if_neg c]
    obtain ⟨i, hi, e⟩ := dgt_num h hs (h.1.2.2.2.1 _ (od_lt h hs (show k - G.1 < G.1 by omega)))
    rw [e]
    exact hi
theorem rowv_lt {G : Gr} (h : Ok G) {s : Nat} (hs : s < G.1) : rowv G s < 8 ^ 16 := by
  have h8 := h.1.2.1
  have h1 := pkv_lt_pow (f := dgt G s) (2 * G.1) (fun i hi => by have := dgt_lt h hs hi; omega)
  exact Nat.lt_of_lt_of_le h1 (Nat.pow_le_pow_right (by decide) (by omega))
theorem nmA_1 {G : Gr} (h : Ok G) : nmA G 1 = (rowv G 0, 1) := by
  show (if rowv G 0 < 8 ^ 16 then _ else _) = _
  rw [if_pos (rowv_lt h h.1.1)]
theorem nmA_sel (G : Gr) : ∀ k, (nmA G k).2 ≤ k
  | 0 => Nat.le_refl _
  | k + 1 => by
    have ih := nmA_sel G k
    unfold nmA
    split
    · show 1 ≤ k + 1; omega
    · split
      · show (nmA G k).2 + 1 ≤ k + 1; omega
      · omega
/-- the least is one of the rows -/
theorem nmA_row {G : Gr} (h : Ok G) : ∀ k, 1 ≤ k → k ≤ G.1 → ∃ s, s < k ∧ (nmA G k).1 = rowv G s
  | 0, h1, _ => by omega
  | k + 1, _, hk => by
    by_cases e : k = 0
    · subst e
      rw [nmA_1 h]
      exact ⟨0, by omega, rfl⟩
    · obtain ⟨s, hs, e1⟩ := nmA_row h k (by omega) (by omega)
      unfold nmA
      split
      · exact ⟨k, by omega, rfl⟩
      · split
        · exact ⟨s, by omega, e1⟩
        · exact ⟨s, by omega, e1⟩
section M13
variable {x : Nat → mCell} {mi : Nat → Int32} {ml : Nat → Int64} {ma : Nat → Nat → Int32} {S : St} {G : Gr}
/-- digits in an array -/
def DgAt (m : Nat) (f : Nat → Nat) (a : Nat → Int32) : Prop := ∀ i, i < m → f i < 8 ∧ a i = nI (f i)
theorem Mo_againstL (hm : mi 5 = nI G.1) (h8 : G.1 ≤ 8) {f g : Nat → Nat} (hf : DgAt (2 * G.1) f (ma 122)) (hg : DgAt (2 * G.1) g (ma 121)) : ∀ (d k : Nat), k + d = 2 * G.1 → (∀ i, i < k → f i = g i) → ∃ r : Int32, q124_2 107 (nI k) (MH x mi ml ma) = some (some (.int r), MH x mi ml ma) ∧ ((r < 0 ∧ pkv f (2 * G.1) < pkv g (2 * G.1)) ∨ (r = 0 ∧ pkv f (2 * G.1) = pkv g (2 * G.1)) ∨ (0 < r ∧ pkv g (2 * G.1) < pkv f (2 * G.1))) := by
  intro d
  induction d with
  | zero =>
    intro k hk he
    have ek : k = 2 * G.1 := by omega
    refine ⟨0, ?_, Or.inr (Or.inl ⟨rfl, pkv_congr _ (fun i hi => he i (by omega))⟩)⟩
    rw [q124_2_eq, moI5]
    simp only [Option.bind_some]
    rw [hm, l2, iMul, if_pos (by rw [iLE (by omega) (by omega)]; omega)]
  | succ d ih =>
    intro k hk he
    obtain ⟨f1, f2⟩ := hf k (by omega)
    obtain ⟨g1, g2⟩ := hg k (by omega)
    have pre := q124_2_eq 107 (nI k) (MH x mi ml ma)
    rw [moI5] at pre
    simp only [Option.bind_some] at pre
    rw [hm, l2, iMul, if_neg (by rw [iLE (by omega) (by omega)]; omega), moR16] at pre
    simp only [Option.bind_some, moR15] at pre
    rw [moAld (by decide) (show k < moLen 122 by show _ < 16; omega), f2] at pre
    simp only [Option.bind_some] at pre
    rw [moAld (by decide) (show k < moLen 121 by show _ < 16; omega), g2] at pre
    simp only [Option.bind_some, iEQ (show f k < 2000000000 by omega) (show g k < 2000000000 by omega)] at pre
    by_cases c : f k = g k
    · obtain ⟨r, r1, r2⟩ := ih (k + 1) (by omega) (fun i hi => by
        by_cases e : i = k
        · subst e; exact c
        · exact he i (by omega))
      refine ⟨r, ?_, r2⟩
      rw [if_pos c] at pre
      rw [pre]
      have z1 : nI k + 1 = nI (k + 1) := iAdd k 1
      rw [z1]
      exact r1
    · rw [if_neg c] at pre
      refine ⟨_, pre, ?_⟩
      have ht : (nI (f k) - nI (g k)).toInt = (f k : Int) - g k := pk_sub_toInt (by omega) (by omega)
      rcases Nat.lt_or_gt_of_ne c with z | z
      · refine Or.inl ⟨by rw [Int32.lt_iff_toInt_lt, ht]; show _ < (0 : Int); omega, ?_⟩
        have := pkv_lex he z d (fun i hi => (hf i (by omega)).1)
        rw [show k + 1 + d = 2 * G.1 by omega] at this
        exact this
      · refine Or.inr (Or.inr ⟨by rw [Int32.lt_iff_toInt_lt, ht]; show (0 : Int) < _; omega, ?_⟩)
        have := pkv_lex (fun i hi => (he i hi).symm) z d (fun i hi => (hg i (by omega)).1)
        rw [show k + 1 + d = 2 * G.1 by omega] at this
        exact this
theorem Mo_against (hm : mi 5 = nI G.1) (h8 : G.1 ≤ 8) {f g : Nat → Nat} (hf : DgAt (2 * G.1) f (ma 122)) (hg : DgAt (2 * G.1) g (ma 121)) : ∃ r : Int32, vI 124 107 [] (MH x mi ml ma) = some (r, MH x mi ml ma) ∧ ((r < 0 ∧ pkv f (2 * G.1) < pkv g (2 * G.1)) ∨ (r = 0 ∧ pkv f (2 * G.1) = pkv g (2 * G.1)) ∨ (0 < r ∧ pkv g (2 * G.1) < pkv f (2 * G.1))) := by
  obtain ⟨r, r1, r2⟩ := Mo_againstL (x := x) (ml := ml) hm h8 hf hg (2 * G.1) 0 (by omega) (fun i hi => by omega)
  exact ⟨r, vI_of (ci := 8) rfl mo_O (by rw [F124_eq]; exact r1), r2⟩
end M13
