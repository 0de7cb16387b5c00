/-! the constructors: run by the kernel -/
def vEq (a b : Value) : Bool := match a, b with
  | .int x, .int y => decide (x = y)
  | .long x, .long y => decide (x = y)
  | .ref x, .ref y => decide (x = y)
  | _, _ => false
theorem vEq_ok {a b : Value} (h : vEq a b = true) : a = b := by
  unfold vEq at h
  split at h
  · rw [of_decide_eq_true h]
  · rw [of_decide_eq_true h]
  · rw [of_decide_eq_true h]
  · cases h
def vEqL : List Value → List Value → Bool
  | [], [] => true
  | a :: r, b :: s => vEq a b && vEqL r s
  | _, _ => false
theorem vEqL_ok : ∀ {a b : List Value}, vEqL a b = true → a = b
  | [], [], _ => rfl
  | a :: r, b :: s, h => by
    have h : (vEq a b && vEqL r s) = true := h
    rw [Bool.and_eq_true] at h
    rw [vEq_ok h.1, vEqL_ok h.2]
  | [], _ :: _, h => by cases h
  | _ :: _, [], h => by cases h
def chO (ci : Nat) (fs : List Value) (c : mCell) : Bool := match c with
  | .inr (k, gs) => decide (k = ci) && vEqL gs fs
  | _ => false
def chI (tg n m : Nat) (v : Int32) (c : mCell) : Bool := match c with
  | .inl (k, n', .inl g) => decide (k = tg) && decide (n' = n) && (List.range m).all (fun i => decide (g i = v))
  | _ => false
def chL (n : Nat) (c : mCell) : Bool := match c with
  | .inl (k, n', .inr (.inl _)) => decide (k = 2) && decide (n' = n)
  | _ => false
def chR (tg n : Nat) (w : Nat → Nat) (c : mCell) : Bool := match c with
  | .inl (k, n', .inr (.inr (.inr (.inr g)))) => decide (k = tg) && decide (n' = n) && (List.range n).all (fun i => decide (g i = some (w i)))
  | _ => false
theorem chO_ok {ci : Nat} {fs : List Value} {c : mCell} (h : chO ci fs c = true) : c = .inr (ci, fs) := by
  unfold chO at h
  split at h
  · rw [Bool.and_eq_true] at h
    rw [of_decide_eq_true h.1, vEqL_ok h.2]
  · cases h
theorem chI_ok {tg n m : Nat} {v : Int32} {c : mCell} (h : chI tg n m v c = true) : ∃ g, c = .inl (tg, n, .inl g) ∧ ∀ i, i < m → g i = v := by
  unfold chI at h
  split at h
  · rename_i k n' g
    rw [Bool.and_eq_true, Bool.and_eq_true, List.all_eq_true] at h
    refine ⟨g, by rw [of_decide_eq_true h.1.1, of_decide_eq_true h.1.2], fun i hi => ?_⟩
    exact of_decide_eq_true (h.2 i (List.mem_range.2 hi))
  · cases h
theorem chL_ok {n : Nat} {c : mCell} (h : chL n c = true) : ∃ g, c = .inl (2, n, .inr (.inl g)) := by
  unfold chL at h
  split at h
  · rename_i k n' g
    rw [Bool.and_eq_true] at h
    exact ⟨g, by rw [of_decide_eq_true h.1, of_decide_eq_true h.2]⟩
  · cases h
theorem chR_ok {tg n : Nat} {w : Nat → Nat} {c : mCell} (h : chR tg n w c = true) : ∃ g : Nat → Option Nat, c = .inl (tg, n, .inr (.inr (.inr (.inr g)))) ∧ ∀ i, i < n → g i = some (w i) := by
  unfold chR at h
  split at h
  · rename_i k n' g
    rw [Bool.and_eq_true, Bool.and_eq_true, List.all_eq_true] at h
    refine ⟨g, by rw [of_decide_eq_true h.1.1, of_decide_eq_true h.1.2], fun i hi => ?_⟩
    exact of_decide_eq_true (h.2 i (List.mem_range.2 hi))
  · cases h
/-- what is asked of each cell -/
def chC (a : Nat) : mCell → Bool :=
  if a = 2 then chO 7 (sOb 0)
  else if a = 3 then chR 3 4 (fun s => 39 + 2 * s)
  else if a = 4 then chR 4 10 (fun g => 47 + 6 * g)
  else if a = 5 ∨ a = 28 ∨ (47 ≤ a ∧ a < 107 ∧ (a - 47) % 6 = 0) then chO 3 (gOb (-1) (fun i => a + 1 + i))
  else if a = 11 ∨ a = 17 then chO 0 (cOb a (fun _ => 0) 0)
  else if a = 13 ∨ a = 34 then chO 4 (nOb a 0 0 0)
  else if a = 16 then chO 1 (yOb 16 0)
  else if a = 24 then chO 5 (rOb 0 0 0)
  else if a = 25 then chL 500
  else if a = 26 ∨ a = 27 then chI 0 500 0 0
  else if a = 37 then chO 2 [.long 0, .long 1]
  else if a = 38 then chI 0 6 6 0
  else if 39 ≤ a ∧ a < 47 then (if a % 2 = 1 then chO 6 [.int (-1), .ref (a + 1)] else chI 1 8 8 0)
  else if a < 107 then chI 0 8 0 0
  else if a = 107 then chO 8 (moObj (fun _ => 0) (fun k => if k = 22 then 1 else 0))
  else if a = 108 then chI 0 6 6 0
  else if a = 109 then chI 0 4 4 (-9)
  else if a = 110 then chI 0 32 32 0
  else if a = 116 then chI 0 10 10 0
  else chI 0 (moLen a) 0 0
def chF : Nat → List mCell → Bool
  | _, [] => true
  | a, c :: r => chC a c && chF (a + 1) r
theorem chF_ok : ∀ {l : List mCell} {a : Nat}, chF a l = true → ∀ k c, l[k]? = some c → chC (a + k) c = true
  | [], _, _, k, c, hk => by simp at hk
  | x :: r, a, h, k, c, hk => by
    have h : (chC a x && chF (a + 1) r) = true := h
    rw [Bool.and_eq_true] at h
    cases k with
    | zero =>
      have : x = c := by simpa using hk
      rw [← this]
      exact h.1
    | succ k =>
      have := chF_ok h.2 k c (by simpa using hk)
      rw [show a + (k + 1) = a + 1 + k by omega]
      exact this
def ch51 (H : mHeap) : Bool := decide (H.length = 107) && wH H
def ch99 (H : mHeap) : Bool := decide (H.length = 132) && chF 2 (H.drop 2)
def ck2 (o : mR') (k : mHeap → mR') : Bool := match o with
  | some (none, H) => ch51 H && (match k H with
    | some (none, H') => ch99 H'
    | _ => false)
  | _ => false
theorem ck2_ok {o : mR'} {k : mHeap → mR'} (h : ck2 o k = true) : ∃ H H', o = some (none, H) ∧ ch51 H = true ∧ k H = some (none, H') ∧ ch99 H' = true := by
  unfold ck2 at h
  split at h
  · rename_i H
    rw [Bool.and_eq_true] at h
    obtain ⟨h2, h3⟩ := h
    split at h3
    · rename_i H' h4
      exact ⟨H, H', rfl, h2, h4, h3⟩
    · cases h3
  · cases h
set_option maxRecDepth 100000 in
theorem tAll : ck2 (run 2000 51 0 (mEnt 51 [.ref 2]) [] (k5 9 mPart :: k6 0 (fun _ => 0) :: [.inr (7, mZero 7)]) 0 0) (fun H => run 2000 99 0 (mEnt 99 [.ref 107]) [] (H ++ [.inr (8, mZero 8)]) 0 0) = true := by decide +kernel
