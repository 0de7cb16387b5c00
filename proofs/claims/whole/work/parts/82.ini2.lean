def gOf (c : mCell) : Nat → Int32 := match c with
  | .inl (_, _, .inl g) => g
  | _ => fun _ => 0
theorem chI_g {n m : Nat} {v : Int32} {c : mCell} (h : chI 0 n m v c = true) : c = .inl (0, n, .inl (gOf c)) ∧ ∀ i, i < m → gOf c i = v := by
  obtain ⟨g, rfl, h2⟩ := chI_ok h
  exact ⟨rfl, h2⟩
def S0 : St := (fun _ => none, fun _ _ => 0, fun _ => none, (0, fun _ => 0), (0, 1))
/-- the heap when both have been made -/
theorem ini_run (L : Nat) (xs : Nat → Int32) : ∃ t1 t2 : mHeap, run 2000 51 0 (mEnt 51 [.ref 2]) [] (k5 9 mPart :: k6 L xs :: [.inr (7, mZero 7)]) 0 0 = some (none, k5 9 mPart :: k6 L xs :: t1) ∧ t1.length = 105 ∧ wH (k5 9 mPart :: k6 L xs :: t1) = true ∧ run 2000 99 0 (mEnt 99 [.ref 107]) [] (k5 9 mPart :: k6 L xs :: (t1 ++ [.inr (8, mZero 8)])) 0 0 = some (none, k5 9 mPart :: k6 L xs :: t2) ∧ t2.length = 130 ∧ chF 2 t2 = true := by
  obtain ⟨H, H', h1, h2, h4, h3⟩ := ck2_ok tAll
  unfold ch51 at h2
  rw [Bool.and_eq_true] at h2
  have hl := of_decide_eq_true h2.1
  unfold ch99 at h3
  rw [Bool.and_eq_true] at h3
  have hl' := of_decide_eq_true h3.1
  obtain ⟨t1, rfl, e1⟩ := run_r (L2 := L) (x2 := xs) 2000 (show 51 ≠ mLaw by decide +kernel) h1
  rw [List.cons_append, List.cons_append] at h4
  obtain ⟨t2, rfl, e2⟩ := run_r (L2 := L) (x2 := xs) 2000 (show 99 ≠ mLaw by decide +kernel) h4
  exact ⟨t1, t2, e1, by simpa using hl, h2.2, e2, by simpa using hl', h3.2⟩
def InH (f : Nat → mCell) : Prop := ∀ a, 2 ≤ a → a < 132 → chC a (f a) = true
section INI
variable {f : Nat → mCell}
theorem in_ar (hC : InH f) {a : Nat} (h2 : 5 ≤ a) (ha : a < 107) (hx : ¬ (a = 5 ∨ a = 28 ∨ (47 ≤ a ∧ a < 107 ∧ (a - 47) % 6 = 0))) (h11 : ¬ (a = 11 ∨ a = 17)) (h13 : ¬ (a = 13 ∨ a = 34)) (h16 : a ≠ 16) (h24 : a ≠ 24) (h25 : a ≠ 25) (h26 : ¬ (a = 26 ∨ a = 27)) (h37 : a ≠ 37) (h38 : a ≠ 38) (h39 : ¬ (39 ≤ a ∧ a < 47)) : f a = AI (gOf (f a)) := by
  have h := hC a (by omega) (by omega)
  unfold chC at h
  rw [if_neg (by omega), if_neg (by omega), if_neg (by omega), if_neg hx, if_neg h11, if_neg h13, if_neg h16, if_neg h24, if_neg h25, if_neg h26, if_neg h37, if_neg h38, if_neg h39, if_pos ha] at h
  exact (chI_g h).1
theorem in_gr (hC : InH f) {a : Nat} (hx : a = 5 ∨ a = 28 ∨ (47 ≤ a ∧ a < 107 ∧ (a - 47) % 6 = 0)) : GS f a (-1) (fun i => a + 1 + i) (fun i => gOf (f (a + 1 + i))) := by
  have h := hC a (by omega) (by omega)
  unfold chC at h
  rw [if_neg (by omega), if_neg (by omega), if_neg (by omega), if_pos hx] at h
  refine ⟨by omega, fun i hi => ⟨by show a < a + 1 + i; omega, by show a + 1 + i ≤ a + 5; omega⟩, fun i j _ _ e => by have e : a + 1 + i = a + 1 + j := e; omega, chO_ok h, fun i hi => ?_⟩
  show f (a + 1 + i) = AI (gOf (f (a + 1 + i)))
  exact in_ar hC (by omega) (by omega) (by omega) (by omega) (by omega) (by omega) (by omega) (by omega) (by omega) (by omega) (by omega) (by omega)
theorem in_co (hC : InH f) {a : Nat} (hx : a = 11 ∨ a = 17) : CA f a := by
  have h := hC a (by omega) (by omega)
  unfold chC at h
  rw [if_neg (by omega), if_neg (by omega), if_neg (by omega), if_neg (by omega), if_pos hx] at h
  exact ⟨fun _ => 0, 0, gOf (f (a + 1)), by omega, chO_ok h, in_ar hC (by omega) (by omega) (by omega) (by omega) (by omega) (by omega) (by omega) (by omega) (by omega) (by omega) (by omega) (by omega)⟩
theorem in_na (hC : InH f) {a : Nat} (hx : a = 13 ∨ a = 34) : NA f a := by
  have h := hC a (by omega) (by omega)
  unfold chC at h
  rw [if_neg (by omega), if_neg (by omega), if_neg (by omega), if_neg (by omega), if_neg (by omega), if_pos hx] at h
  exact ⟨0, 0, 0, gOf (f (a + 1)), gOf (f (a + 2)), by omega, chO_ok h, in_ar hC (by omega) (by omega) (by omega) (by omega) (by omega) (by omega) (by omega) (by omega) (by omega) (by omega) (by omega) (by omega), in_ar hC (by omega) (by omega) (by omega) (by omega) (by omega) (by omega) (by omega) (by omega) (by omega) (by omega) (by omega) (by omega)⟩
theorem in_cls (hC : InH f) (h0 : T0 f) : ClsAt S0 f := by
  have c2 : f 2 = .inr (7, sOb 0) := chO_ok (hC 2 (by omega) (by omega))
  obtain ⟨g3, c3, d3⟩ := chR_ok (hC 3 (by omega) (by omega))
  obtain ⟨g4, c4, d4⟩ := chR_ok (hC 4 (by omega) (by omega))
  obtain ⟨g38, c38, d38⟩ := chI_ok (hC 38 (by omega) (by omega))
  have c16 : f 16 = .inr (1, yOb 16 0) := chO_ok (hC 16 (by omega) (by omega))
  have c24 : f 24 = .inr (5, rOb 0 0 0) := chO_ok (hC 24 (by omega) (by omega))
  obtain ⟨g25, c25⟩ := chL_ok (hC 25 (by omega) (by omega))
  obtain ⟨g26, c26, -⟩ := chI_ok (hC 26 (by omega) (by omega))
  obtain ⟨g27, c27, -⟩ := chI_ok (hC 27 (by omega) (by omega))
  have c37 : f 37 = .inr (2, [.long 0, .long 1]) := chO_ok (hC 37 (by omega) (by omega))
  refine ⟨⟨h0, c2, ⟨g3, c3, d3⟩, ⟨g4, c4, d4⟩, g38, c38, d38⟩, ⟨_, _, _, in_gr hC (Or.inl rfl)⟩, in_co hC (Or.inl rfl), in_na hC (Or.inl rfl), ⟨in_co hC (Or.inr rfl), 0, fun k => gOf (f (16 + k)), by omega, c16, fun k k3 k7 => in_ar hC (by omega) (by omega) (by omega) (by omega) (by omega) (by omega) (by omega) (by omega) (by omega) (by omega) (by omega) (by omega)⟩, ⟨⟨_, _, _, in_gr hC (Or.inr (Or.inl rfl))⟩, in_na hC (Or.inr rfl), Or.inl ⟨0, 0, g25, g26, g27, c24, c25, c26, c27⟩⟩, ⟨by omega, c37⟩, fun s hs => ?_, fun g hg => ⟨_, _, in_gr hC (by omega)⟩⟩
  have h := hC (39 + 2 * s) (by omega) (by omega)
  unfold chC at h
  rw [if_neg (by omega), if_neg (by omega), if_neg (by omega), if_neg (by omega), if_neg (by omega), if_neg (by omega), if_neg (by omega), if_neg (by omega), if_neg (by omega), if_neg (by omega), if_neg (by omega), if_neg (by omega), if_pos (by omega), if_pos (by omega)] at h
  have h' := hC (39 + 2 * s + 1) (by omega) (by omega)
  unfold chC at h'
  rw [if_neg (by omega), if_neg (by omega), if_neg (by omega), if_neg (by omega), if_neg (by omega), if_neg (by omega), if_neg (by omega), if_neg (by omega), if_neg (by omega), if_neg (by omega), if_neg (by omega), if_neg (by omega), if_pos (by omega), if_neg (by omega)] at h'
  obtain ⟨B, e1, e2⟩ := chI_ok h'
  exact ⟨B, ⟨by omega, chO_ok h, e1⟩, e2⟩
def mi0 : Nat → Int32 := fun _ => 0
def ml0 : Nat → Int64 := fun k => if k = 22 then 1 else 0
theorem moLen_v : moLen 108 = 6 ∧ moLen 109 = 4 ∧ moLen 110 = 32 ∧ moLen 116 = 10 := ⟨rfl, rfl, rfl, rfl⟩
theorem in_mf (hC : InH f) {a : Nat} (h1 : 107 ≤ a) (h2 : a < 132) : f a = MF f mi0 ml0 (fun a => gOf (f a)) a := by
  have h := hC a (by omega) h2
  obtain ⟨l1, l2, l3, l4⟩ := moLen_v
  unfold MF
  rw [if_neg (by omega)]
  by_cases e : a = 107
  · rw [if_pos e]
    subst e
    exact chO_ok h
  · rw [if_neg e]
    unfold chC at h
    rw [if_neg (by omega), if_neg (by omega), if_neg (by omega), if_neg (by omega), if_neg (by omega), if_neg (by omega), if_neg (by omega), if_neg (by omega), if_neg (by omega), if_neg (by omega), if_neg (by omega), if_neg (by omega), if_neg (by omega), if_neg (by omega), if_neg e] at h
    by_cases e1 : a = 108
    · rw [if_pos e1] at h
      subst e1
      exact (chI_g h).1
    · rw [if_neg e1] at h
      by_cases e2 : a = 109
      · rw [if_pos e2] at h
        subst e2
        exact (chI_g h).1
      · rw [if_neg e2] at h
        by_cases e3 : a = 110
        · rw [if_pos e3] at h
          subst e3
          exact (chI_g h).1
        · rw [if_neg e3] at h
          by_cases e4 : a = 116
          · rw [if_pos e4] at h
            subst e4
            exact (chI_g h).1
          · rw [if_neg e4] at h
            exact (chI_g h).1
theorem in_mo (hC : InH f) : MoAt S0 mi0 ml0 (fun a => gOf (f a)) := by
  have h1 := (chI_g (n := 6) (m := 6) (v := 0) (hC 108 (by omega) (by omega))).2
  have h2 := (chI_g (n := 4) (m := 4) (v := -9) (hC 109 (by omega) (by omega))).2
  have h3 := (chI_g (n := 32) (m := 32) (v := 0) (hC 110 (by omega) (by omega))).2
  have h4 := (chI_g (n := 10) (m := 10) (v := 0) (hC 116 (by omega) (by omega))).2
  exact ⟨rfl, h1, h2, fun s i hs hi => h3 _ (by omega), h4, (fun g G _ e => by cases e), rfl, rfl⟩
end INI
