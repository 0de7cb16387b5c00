/-! all that can be come to -/
def dg (n v i : Nat) : Nat := v / 8 ^ (2 * n - 1 - i) % 8
theorem dg_lt (n v i : Nat) : dg n v i < 8 := Nat.mod_lt _ (by omega)
def IsNm (n v : Nat) : Prop := ∃ H, Ok H ∧ H.1 = n ∧ nmV H = v
theorem IsNm.pk {n v : Nat} (h : IsNm n v) : pkv (dg n v) (2 * n) = v := by
  obtain ⟨H, hH, rfl, rfl⟩ := h
  obtain ⟨s, s1, s2⟩ := nmA_row hH H.1 hH.1.1 (Nat.le_refl _)
  have e : nmV H = pkv (dgt H s) (2 * H.1) := s2
  have h8 := hH.1.2.1
  conv => rhs; rw [e]
  refine pkv_congr _ (fun i hi => ?_)
  unfold dg
  rw [e]
  exact pkv_digit _ (fun i hi => by have := dgt_lt hH s1 hi; omega) i hi
theorem IsNm.inj {n v w : Nat} (h : IsNm n v) (k : IsNm n w) (e : ∀ i, i < 2 * n → dg n v i = dg n w i) : v = w := by
  rw [← h.pk, ← k.pk]
  exact pkv_congr _ e
theorem IsNm.un {n v : Nat} (h : IsNm n v) : Ok (unN n v) ∧ nmV (unN n v) = v := by
  obtain ⟨H, hH, rfl, rfl⟩ := h
  obtain ⟨a, b, _⟩ := un_nm hH
  exact ⟨a, b⟩
theorem IsNm.of {G : Gr} (h : Ok G) : IsNm G.1 (nmV G) := ⟨G, h, rfl, rfl⟩
def rfind (nm : Nat → Nat) (z v : Nat) : Option Nat := (List.range z).find? (fun k => decide (nm k = v))
theorem rfind_some {nm : Nat → Nat} {z v k : Nat} (h : rfind nm z v = some k) : k < z ∧ nm k = v ∧ ∀ j, j < k → nm j ≠ v := by
  obtain ⟨a, b, c⟩ := find_range h
  exact ⟨a, by simpa using b, fun j hj => by simpa using c j hj⟩
theorem rfind_none {nm : Nat → Nat} {z v : Nat} (h : rfind nm z v = none) : ∀ k, k < z → nm k ≠ v := by
  intro k hk
  unfold rfind at h
  rw [List.find?_eq_none] at h
  simpa using h k (List.mem_range.mpr hk)
theorem rfind_at {nm : Nat → Nat} {z v k : Nat} (hk : k < z) (e : nm k = v) (hn : ∀ j, j < k → nm j ≠ v) : rfind nm z v = some k := by
  cases h : rfind nm z v with
  | none => exact absurd e (rfind_none h k hk)
  | some i =>
    obtain ⟨a, b, c⟩ := rfind_some h
    rcases Nat.lt_trichotomy i k with z | z | z
    · exact absurd b (hn i z)
    · rw [z]
    · exact absurd e (c k z)
theorem rfind_no {nm : Nat → Nat} {z v : Nat} (hn : ∀ k, k < z → nm k ≠ v) : rfind nm z v = none := by
  cases h : rfind nm z v with
  | none => rfl
  | some i =>
    obtain ⟨a, b, c⟩ := rfind_some h
    exact absurd b (hn i a)
abbrev Rs : Type := Nat × (Nat → Nat) × (Nat → Nat) × (Nat → Nat)
def radd (z : Nat) (nm : Nat → Nat) (v : Nat) : Nat × (Nat → Nat) × Option Nat := match rfind nm z v with
  | some k => (z, nm, some k)
  | none => if z = 500 then (z, nm, none) else (z + 1, fu nm z v, some z)
def rst (n i : Nat) (r : Rs) : Option Rs := match (radd r.1 r.2.1 (nmV (shG false (unN n (r.2.1 i))))).2.2 with
  | none => none
  | some p => match (radd (radd r.1 r.2.1 (nmV (shG false (unN n (r.2.1 i))))).1 (radd r.1 r.2.1 (nmV (shG false (unN n (r.2.1 i))))).2.1 (nmV (tuG false (unN n (r.2.1 i))))).2.2 with
    | none => none
    | some q => some ((radd (radd r.1 r.2.1 (nmV (shG false (unN n (r.2.1 i))))).1 (radd r.1 r.2.1 (nmV (shG false (unN n (r.2.1 i))))).2.1 (nmV (tuG false (unN n (r.2.1 i))))).1, (radd (radd r.1 r.2.1 (nmV (shG false (unN n (r.2.1 i))))).1 (radd r.1 r.2.1 (nmV (shG false (unN n (r.2.1 i))))).2.1 (nmV (tuG false (unN n (r.2.1 i))))).2.1, fu r.2.2.1 i p, fu r.2.2.2 i q)
def rgo (n : Nat) : Nat → Nat → Rs → Option Rs
  | 0, _, r => some r
  | f + 1, i, r => if i < r.1 then match rst n i r with
    | none => none
    | some r' => rgo n f (i + 1) r' else some r
def rch (n v : Nat) : Option Rs := rgo n 501 0 (1, (fun _ => v), (fun _ => 0), (fun _ => 0))
def NmI (n z : Nat) (nm : Nat → Nat) : Prop := z ≤ 500 ∧ (∀ k, k < z → IsNm n (nm k)) ∧ Inj z nm
theorem radd_ok {n z : Nat} {nm : Nat → Nat} {v : Nat} (h : NmI n z nm) (hv : IsNm n v) : z ≤ (radd z nm v).1 ∧ (∀ k, k < z → (radd z nm v).2.1 k = nm k) ∧ NmI n (radd z nm v).1 (radd z nm v).2.1 ∧ ∀ p, (radd z nm v).2.2 = some p → p < (radd z nm v).1 ∧ (radd z nm v).2.1 p = v := by
  obtain ⟨h1, h2, h3⟩ := h
  unfold radd
  cases hf : rfind nm z v with
  | some k =>
    obtain ⟨a, b, c⟩ := rfind_some hf
    refine ⟨Nat.le_refl _, fun _ _ => rfl, ⟨h1, h2, h3⟩, fun p hp => ?_⟩
    cases hp
    exact ⟨a, b⟩
  | none =>
    have hn := rfind_none hf
    dsimp only
    by_cases c : z = 500
    · rw [if_pos c]
      exact ⟨Nat.le_refl _, fun _ _ => rfl, ⟨h1, h2, h3⟩, (fun p hp => by cases hp)⟩
    · rw [if_neg c]
      refine ⟨Nat.le_succ _, fun k hk => fu_ne (by omega), ⟨by dsimp only; omega, fun k hk => ?_, fun p q hp hq e => ?_⟩, fun p hp => ?_⟩
      · dsimp only at hk ⊢
        by_cases e : k = z
        · subst e; rw [fu_at]; exact hv
        · rw [fu_ne e]; exact h2 k (by omega)
      · dsimp only at hp hq e
        by_cases e1 : p = z
        · by_cases e2 : q = z
          · omega
          · rw [e1, fu_at, fu_ne e2] at e
            exact absurd e.symm (hn q (by omega))
        · by_cases e2 : q = z
          · rw [e2, fu_at, fu_ne e1] at e
            exact absurd e (hn p (by omega))
          · rw [fu_ne e1, fu_ne e2] at e
            exact h3 p q (by omega) (by omega) e
      · cases hp
        exact ⟨Nat.lt_succ_self _, fu_at⟩
/-- numbers below i are done -/
def RI (n i : Nat) (r : Rs) : Prop := NmI n r.1 r.2.1 ∧ i ≤ r.1 ∧ ∀ k, k < i → (r.2.2.1 k < r.1 ∧ r.2.1 (r.2.2.1 k) = nmV (shG false (unN n (r.2.1 k)))) ∧ r.2.2.2 k < r.1
theorem rst_RI {n i : Nat} {r r' : Rs} (h : RI n i r) (hi : i < r.1) (e : rst n i r = some r') : RI n (i + 1) r' ∧ r.1 ≤ r'.1 ∧ (∀ k, k < r.1 → r'.2.1 k = r.2.1 k) ∧ (∀ k, k < i → r'.2.2.1 k = r.2.2.1 k ∧ r'.2.2.2 k = r.2.2.2 k) := by
  obtain ⟨h1, h2, h3⟩ := h
  have hu := (h1.2.1 i hi).un
  have a := radd_ok (v := nmV (shG false (unN n (r.2.1 i)))) h1 ⟨_, hu.1.sh false, rfl, rfl⟩
  unfold rst at e
  generalize hA : radd r.1 r.2.1 (nmV (shG false (unN n (r.2.1 i)))) = A at a e
  obtain ⟨a1, a2, a3, a4⟩ := a
  have b := radd_ok (v := nmV (tuG false (unN n (r.2.1 i)))) a3 ⟨_, hu.1.tu false, rfl, rfl⟩
  cases hp : A.2.2 with
  | none => rw [hp] at e; cases e
  | some p =>
    rw [hp] at e
    dsimp only at e
    generalize hB : radd A.1 A.2.1 (nmV (tuG false (unN n (r.2.1 i)))) = B at b e
    obtain ⟨b1, b2, b3, b4⟩ := b
    cases hq : B.2.2 with
    | none => rw [hq] at e; cases e
    | some q =>
      rw [hq] at e
      cases e
      obtain ⟨p1, p2⟩ := a4 p hp
      obtain ⟨q1, q2⟩ := b4 q hq
      have nmk : ∀ k, k < r.1 → B.2.1 k = r.2.1 k := fun k hk => (b2 k (by omega)).trans (a2 k hk)
      refine ⟨⟨b3, by dsimp only; omega, fun k hk => ?_⟩, by dsimp only; omega, nmk, fun k hk => ⟨fu_ne (by omega), fu_ne (by omega)⟩⟩
      dsimp only
      by_cases ek : k = i
      · subst ek
        rw [fu_at, fu_at, b2 p p1, p2, nmk k hi]
        exact ⟨⟨by omega, rfl⟩, q1⟩
      · rw [fu_ne ek, fu_ne ek]
        obtain ⟨⟨c1, c2⟩, c3⟩ := h3 k (by omega)
        rw [nmk _ c1, nmk k (by omega)]
        exact ⟨⟨by omega, c2⟩, by omega⟩
theorem rgo_RI {n : Nat} : ∀ (f i : Nat) (r r' : Rs), i + f = 501 → RI n i r → rgo n f i r = some r' → RI n r'.1 r' ∧ r.1 ≤ r'.1 ∧ (∀ k, k < r.1 → r'.2.1 k = r.2.1 k)
  | 0, i, r, r', hf, h, e => by
    have := h.1.1
    have := h.2.1
    omega
  | f + 1, i, r, r', hf, h, e => by
    unfold rgo at e
    by_cases c : i < r.1
    · rw [if_pos c] at e
      cases hs : rst n i r with
      | none => rw [hs] at e; cases e
      | some r1 =>
        rw [hs] at e
        obtain ⟨k1, k2, k3, k4⟩ := rst_RI h c hs
        obtain ⟨j1, j2, j3⟩ := rgo_RI f (i + 1) r1 r' (by omega) k1 e
        exact ⟨j1, by omega, fun k hk => (j3 k (by omega)).trans (k3 k hk)⟩
    · rw [if_neg c] at e
      cases e
      have : i = r.1 := by have := h.2.1; omega
      subst this
      exact ⟨h, Nat.le_refl _, fun _ _ => rfl⟩
theorem rch_RI {n v : Nat} {r : Rs} (hv : IsNm n v) (e : rch n v = some r) : RI n r.1 r ∧ 1 ≤ r.1 ∧ r.2.1 0 = v := by
  obtain ⟨a, b, c⟩ := rgo_RI 501 0 _ r rfl ⟨⟨by show 1 ≤ 500; omega, fun k _ => hv, fun p q hp hq _ => by have : p < 1 := hp; have : q < 1 := hq; omega⟩, Nat.zero_le _, fun k hk => by omega⟩ e
  exact ⟨a, b, c 0 (by show 0 < 1; omega)⟩
/-- shears go round -/
theorem RI.prm {n : Nat} {r : Rs} (h : RI n r.1 r) : Prm r.1 r.2.2.1 := by
  obtain ⟨h1, h2, h3⟩ := h
  refine ⟨fun k hk => (h3 k hk).1.1, fun p q hp hq e => ?_⟩
  have e1 := (h3 p hp).1.2
  have e2 := (h3 q hq).1.2
  obtain ⟨u1, u2⟩ := (h1.2.1 p hp).un
  obtain ⟨w1, w2⟩ := (h1.2.1 q hq).un
  rw [e, e2] at e1
  have := nm_sh_inj w1 u1 rfl e1
  rw [u2, w2] at this
  exact (h1.2.2 q p hq hp this).symm
def rnd (sh : Nat → Nat) (z k : Nat) : Nat := if fsK sh k (bd sh z k) = true then bd sh z k + 1 else 0
theorem rnd_le {sh : Nat → Nat} {z k : Nat} (h : Prm z sh) (hk : k < z) : rnd sh z k ≤ z := by
  have := (bd_ok h hk).1
  unfold rnd
  split <;> omega
