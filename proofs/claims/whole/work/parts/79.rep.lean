/-! no method but the law looks into the script: another may lie there -/
abbrev k5 (n : Nat) (f : Nat → Int32) : mCell := .inl (5, n, .inl f)
abbrev k6 (n : Nat) (f : Nat → Int32) : mCell := .inl (6, n, .inl f)
section RP
variable {n0 L1 L2 : Nat} {f0 x1 x2 : Nat → Int32} {t : mHeap}
theorem cFld_r {a ci k : Nat} : cFld (k5 n0 f0 :: k6 L2 x2 :: t) a ci k = cFld (k5 n0 f0 :: k6 L1 x1 :: t) a ci k := by rcases a with _ | _ | a <;> rfl
theorem cAldI_r {a : Nat} {i : Int32} : cAldI false (k5 n0 f0 :: k6 L2 x2 :: t) a i = cAldI false (k5 n0 f0 :: k6 L1 x1 :: t) a i := by
  rcases a with _ | _ | a
  · rfl
  · have z : ∀ L x, cAldI false (k5 n0 f0 :: k6 L x :: t) 1 i = none := by
      intro L x
      show (if (i < 0 ∨ L ≤ i.toNatClampNeg) then none else if (6 : Nat) = 0 ∨ ((6 : Nat) = 5 ∧ (1 : Nat) = 0) ∨ ((6 : Nat) = 6 ∧ (1 : Nat) = 1 ∧ false = true) then some (x i.toNatClampNeg) else none) = none
      split
      · rfl
      · exact if_neg (by decide)
    exact (z L2 x2).trans (z L1 x1).symm
  · rfl
theorem cAldB_r {a : Nat} {i : Int32} : cAldB (k5 n0 f0 :: k6 L2 x2 :: t) a i = cAldB (k5 n0 f0 :: k6 L1 x1 :: t) a i := by
  rcases a with _ | _ | a
  · rfl
  · have z : ∀ L x, cAldB (k5 n0 f0 :: k6 L x :: t) 1 i = none := by
      intro L x
      show (if (i < 0 ∨ L ≤ i.toNatClampNeg) then none else if (6 : Nat) = 1 then some (x i.toNatClampNeg) else none) = none
      split
      · rfl
      · exact if_neg (by decide)
    exact (z L2 x2).trans (z L1 x1).symm
  · rfl
theorem cAldL_r {a : Nat} {i : Int32} : cAldL (k5 n0 f0 :: k6 L2 x2 :: t) a i = cAldL (k5 n0 f0 :: k6 L1 x1 :: t) a i := by rcases a with _ | _ | a <;> rfl
theorem cAldR_r {a : Nat} {i : Int32} : cAldR (k5 n0 f0 :: k6 L2 x2 :: t) a i = cAldR (k5 n0 f0 :: k6 L1 x1 :: t) a i := by rcases a with _ | _ | a <;> rfl
theorem cLen_r {a : Nat} : cLen false (k5 n0 f0 :: k6 L2 x2 :: t) a = cLen false (k5 n0 f0 :: k6 L1 x1 :: t) a := by
  rcases a with _ | _ | a
  · rfl
  · have z : ∀ L x, cLen false (k5 n0 f0 :: k6 L x :: t) 1 = none := by
      intro L x
      show (if (6 : Nat) = 6 ∧ (1 : Nat) = 1 ∧ false = true then some (Int32.ofNat L) else none) = none
      exact if_neg (by decide)
    exact (z L2 x2).trans (z L1 x1).symm
  · rfl
theorem cPut_r {a ci k : Nat} {v : Value} {h' : mHeap} (hx : cPut (k5 n0 f0 :: k6 L1 x1 :: t) a ci k v = some h') : ∃ t', h' = k5 n0 f0 :: k6 L1 x1 :: t' ∧ cPut (k5 n0 f0 :: k6 L2 x2 :: t) a ci k v = some (k5 n0 f0 :: k6 L2 x2 :: t') := by
  rcases a with _ | _ | a
  · cases hx
  · cases hx
  · have e : ∀ L x, cPut (k5 n0 f0 :: k6 L x :: t) (a + 2) ci k v = match t[a]? with
      | some (.inr (c, fs)) => if c = ci ∧ k < fs.length then some (k5 n0 f0 :: k6 L x :: t.set a (.inr (c, fs.set k v))) else none
      | _ => none := fun L x => rfl
    rw [e] at hx
    rw [e]
    split at hx
    · rename_i c fs hc
      split at hx
      · rename_i h2
        cases hx
        exact ⟨_, rfl, if_pos h2⟩
      · cases hx
    · cases hx
theorem cAstI_r {a : Nat} {i x : Int32} {h' : mHeap} (hx : cAstI (k5 n0 f0 :: k6 L1 x1 :: t) a i x = some h') : ∃ t', h' = k5 n0 f0 :: k6 L1 x1 :: t' ∧ cAstI (k5 n0 f0 :: k6 L2 x2 :: t) a i x = some (k5 n0 f0 :: k6 L2 x2 :: t') := by
  rcases a with _ | _ | a
  · have : cAstI (k5 n0 f0 :: k6 L1 x1 :: t) 0 i x = none := by
      show (if (i < 0 ∨ n0 ≤ i.toNatClampNeg) then none else if (5 : Nat) = 0 then _ else none) = none
      split
      · rfl
      · exact if_neg (by decide)
    rw [this] at hx
    cases hx
  · have : cAstI (k5 n0 f0 :: k6 L1 x1 :: t) 1 i x = none := by
      show (if (i < 0 ∨ L1 ≤ i.toNatClampNeg) then none else if (6 : Nat) = 0 then _ else none) = none
      split
      · rfl
      · exact if_neg (by decide)
    rw [show (0 + 1 : Nat) = 1 from rfl, this] at hx
    cases hx
  · have e : ∀ L y, cAstI (k5 n0 f0 :: k6 L y :: t) (a + 2) i x = match t[a]? with
      | some (.inl (u, n, .inl f)) => if (i < 0 ∨ n ≤ i.toNatClampNeg) then none else if u = 0 then some (k5 n0 f0 :: k6 L y :: t.set a (.inl (0, n, .inl (upd f i.toNatClampNeg x)))) else none
      | _ => none := fun L y => rfl
    rw [e] at hx
    rw [e]
    split at hx
    · split at hx
      · cases hx
      · rename_i h1
        split at hx
        · rename_i h2
          cases hx
          exact ⟨_, rfl, by rw [if_neg h1, if_pos h2]⟩
        · cases hx
    · cases hx
theorem cAstB_r {a : Nat} {i x : Int32} {h' : mHeap} (hx : cAstB (k5 n0 f0 :: k6 L1 x1 :: t) a i x = some h') : ∃ t', h' = k5 n0 f0 :: k6 L1 x1 :: t' ∧ cAstB (k5 n0 f0 :: k6 L2 x2 :: t) a i x = some (k5 n0 f0 :: k6 L2 x2 :: t') := by
  rcases a with _ | _ | a
  · have : cAstB (k5 n0 f0 :: k6 L1 x1 :: t) 0 i x = none := by
      show (if (i < 0 ∨ n0 ≤ i.toNatClampNeg) then none else if (5 : Nat) = 1 then _ else none) = none
      split
      · rfl
      · exact if_neg (by decide)
    rw [this] at hx
    cases hx
  · have : cAstB (k5 n0 f0 :: k6 L1 x1 :: t) 1 i x = none := by
      show (if (i < 0 ∨ L1 ≤ i.toNatClampNeg) then none else if (6 : Nat) = 1 then _ else none) = none
      split
      · rfl
      · exact if_neg (by decide)
    rw [show (0 + 1 : Nat) = 1 from rfl, this] at hx
    cases hx
  · have e : ∀ L y, cAstB (k5 n0 f0 :: k6 L y :: t) (a + 2) i x = match t[a]? with
      | some (.inl (u, n, .inl f)) => if (i < 0 ∨ n ≤ i.toNatClampNeg) then none else if u = 1 then some (k5 n0 f0 :: k6 L y :: t.set a (.inl (1, n, .inl (upd f i.toNatClampNeg (vp_nar .byte x))))) else none
      | _ => none := fun L y => rfl
    rw [e] at hx
    rw [e]
    split at hx
    · split at hx
      · cases hx
      · rename_i h1
        split at hx
        · rename_i h2
          cases hx
          exact ⟨_, rfl, by rw [if_neg h1, if_pos h2]⟩
        · cases hx
    · cases hx
theorem cAstL_r {a : Nat} {i : Int32} {x : Int64} {h' : mHeap} (hx : cAstL (k5 n0 f0 :: k6 L1 x1 :: t) a i x = some h') : ∃ t', h' = k5 n0 f0 :: k6 L1 x1 :: t' ∧ cAstL (k5 n0 f0 :: k6 L2 x2 :: t) a i x = some (k5 n0 f0 :: k6 L2 x2 :: t') := by
  rcases a with _ | _ | a
  · cases hx
  · cases hx
  · have e : ∀ L y, cAstL (k5 n0 f0 :: k6 L y :: t) (a + 2) i x = match t[a]? with
      | some (.inl (u, n, .inr (.inl f))) => if (i < 0 ∨ n ≤ i.toNatClampNeg) then none else if u = 2 then some (k5 n0 f0 :: k6 L y :: t.set a (.inl (2, n, .inr (.inl (vp_updL f i.toNatClampNeg x))))) else none
      | _ => none := fun L y => rfl
    rw [e] at hx
    rw [e]
    split at hx
    · split at hx
      · cases hx
      · rename_i h1
        split at hx
        · rename_i h2
          cases hx
          exact ⟨_, rfl, by rw [if_neg h1, if_pos h2]⟩
        · cases hx
    · cases hx
theorem cAstR_r {a b : Nat} {i : Int32} {h' : mHeap} (hx : cAstR (k5 n0 f0 :: k6 L1 x1 :: t) a i b = some h') : ∃ t', h' = k5 n0 f0 :: k6 L1 x1 :: t' ∧ cAstR (k5 n0 f0 :: k6 L2 x2 :: t) a i b = some (k5 n0 f0 :: k6 L2 x2 :: t') := by
  rcases a with _ | _ | a
  · cases hx
  · cases hx
  · rcases b with _ | _ | b
    · unfold cAstR at hx
      split at hx
      · rename_i h1 h2
        cases h2
      · cases hx
    · unfold cAstR at hx
      split at hx
      · rename_i h1 h2
        cases h2
      · cases hx
    · have e : ∀ L y, cAstR (k5 n0 f0 :: k6 L y :: t) (a + 2) i (b + 2) = match t[a]?, t[b]? with
        | some (.inl (u, n, .inr (.inr (.inr (.inr f))))), some (.inr (c, _)) => if (i < 0 ∨ n ≤ i.toNatClampNeg) then none else if (u = 3 ∨ u = 4) ∧ c = cElt u then some (k5 n0 f0 :: k6 L y :: t.set a (.inl (u, n, .inr (.inr (.inr (.inr (va_up f i.toNatClampNeg (some (b + 2)))))))) ) else none
        | _, _ => none := fun L y => rfl
      rw [e] at hx
      rw [e]
      split at hx
      · split at hx
        · cases hx
        · rename_i h1
          split at hx
          · rename_i h2
            cases hx
            exact ⟨_, rfl, by rw [if_neg h1, if_pos h2]⟩
          · cases hx
      · cases hx
theorem cCpy_r {a b : Nat} {sp dp m : Int32} {h' : mHeap} (hx : cCpy (k5 n0 f0 :: k6 L1 x1 :: t) a b sp dp m = some h') : ∃ t', h' = k5 n0 f0 :: k6 L1 x1 :: t' ∧ cCpy (k5 n0 f0 :: k6 L2 x2 :: t) a b sp dp m = some (k5 n0 f0 :: k6 L2 x2 :: t') := by
  unfold cCpy at hx
  split at hx
  · rename_i t0 n0' f t1 n1 g e1 e2
    split at hx
    · rename_i hc
      obtain ⟨c1, c2, c3⟩ := hc
      subst c1
      subst c2
      rcases a with _ | _ | a
      · cases e1
      · cases e1
      · rcases b with _ | _ | b
        · cases e2
        · cases e2
        · cases hx
          refine ⟨_, rfl, ?_⟩
          unfold cCpy
          have e1' : (k5 n0 f0 :: k6 L2 x2 :: t)[a + 1 + 1]? = some (.inl (1, n0', .inl f)) := e1
          have e2' : (k5 n0 f0 :: k6 L2 x2 :: t)[b + 1 + 1]? = some (.inl (1, n1, .inl g)) := e2
          rw [e1', e2']
          exact if_pos ⟨rfl, rfl, c3⟩
    · cases hx
  · cases hx
theorem wH_r : wH (k5 n0 f0 :: k6 L2 x2 :: t) = wH (k5 n0 f0 :: k6 L1 x1 :: t) := rfl
section RP2
variable {j : Nat} {i : Instr} {len pc : Nat} {ls : mLoc} {st : List Value} {cu su : Nat} {o : mOut}
def Rp (n0 L1 L2 : Nat) (f0 x1 x2 : Nat → Int32) (a b : Option mOut) : Prop := ∀ o, a = some o → (∃ pc' ls' st' t' cu' su', o = .inl (pc', ls', st', k5 n0 f0 :: k6 L1 x1 :: t', cu', su') ∧ b = some (.inl (pc', ls', st', k5 n0 f0 :: k6 L2 x2 :: t', cu', su'))) ∨ ((∃ x, o = .inr x) ∧ b = some o)
theorem Rp.no {b : Option mOut} : Rp n0 L1 L2 f0 x1 x2 none b := fun o ho => by cases ho
theorem Rp.nx {pc' : Nat} {ls' : mLoc} {st' : List Value} {t' : mHeap} {cu' su' : Nat} : Rp n0 L1 L2 f0 x1 x2 (mnx pc' ls' st' (k5 n0 f0 :: k6 L1 x1 :: t') cu' su') (mnx pc' ls' st' (k5 n0 f0 :: k6 L2 x2 :: t') cu' su') := fun o ho => by
  cases ho
  exact Or.inl ⟨_, _, _, _, _, _, rfl, rfl⟩
theorem Rp.out {x : Option Value ⊕ (Nat × List Value × List Value)} : Rp n0 L1 L2 f0 x1 x2 (some (.inr x)) (some (.inr x)) := fun o ho => by
  cases ho
  exact Or.inr ⟨⟨x, rfl⟩, rfl⟩
theorem Rp.new {c : mCell} {n l : Nat} : Rp n0 L1 L2 f0 x1 x2 (mNew j c n l pc ls st (k5 n0 f0 :: k6 L1 x1 :: t) cu su) (mNew j c n l pc ls st (k5 n0 f0 :: k6 L2 x2 :: t) cu su) := by
  unfold mNew
  by_cases h : cu + 1 ≤ (mRm j).cells ∧ su + n ≤ (mRm j).slots ∧ wLS (k5 n0 f0 :: k6 L1 x1 :: t).length ls st = true ∧ wH (k5 n0 f0 :: k6 L1 x1 :: t) = true ∧ 2 ≤ (k5 n0 f0 :: k6 L1 x1 :: t).length
  · rw [if_pos h, if_pos (show cu + 1 ≤ (mRm j).cells ∧ su + n ≤ (mRm j).slots ∧ wLS (k5 n0 f0 :: k6 L2 x2 :: t).length ls st = true ∧ wH (k5 n0 f0 :: k6 L2 x2 :: t) = true ∧ 2 ≤ (k5 n0 f0 :: k6 L2 x2 :: t).length from h)]
    intro o ho
    cases ho
    exact Or.inl ⟨_, _, _, _, _, _, rfl, rfl⟩
  · rw [if_neg h]
    exact Rp.no
theorem Rp.call {kd idx : Nat} : Rp n0 L1 L2 f0 x1 x2 (mCall j kd idx len pc ls st (k5 n0 f0 :: k6 L1 x1 :: t) cu su) (mCall j kd idx len pc ls st (k5 n0 f0 :: k6 L2 x2 :: t) cu su) := by
  unfold mCall
  rw [show (k5 n0 f0 :: k6 L2 x2 :: t).length = (k5 n0 f0 :: k6 L1 x1 :: t).length from rfl]
  split
  · split
    · split
      · split
        · split
          · exact Rp.nx
          · exact Rp.no
        · exact Rp.no
      · split
        · split
          · split
            · cases e : cCpy (k5 n0 f0 :: k6 L1 x1 :: t) _ _ _ _ _ with
              | none => exact Rp.no
              | some h' =>
                obtain ⟨t', rfl, e2⟩ := cCpy_r (L2 := L2) (x2 := x2) e
                rw [e2]
                exact Rp.nx
            · exact Rp.no
          · exact Rp.no
        · split
          · split
            · split
              · exact Rp.out
              · exact Rp.no
            · split
              · rename_i b r hb
                rcases b with _ | _ | b
                · exact Rp.no
                · exact Rp.no
                · show Rp n0 L1 L2 f0 x1 x2 (match t[b]? with
                    | some (.inr (c, _)) => _
                    | _ => none) (match t[b]? with
                    | some (.inr (c, _)) => _
                    | _ => none)
                  split
                  · split
                    · exact Rp.out
                    · exact Rp.no
                  · exact Rp.no
              · exact Rp.no
          · exact Rp.no
    · exact Rp.no
  · exact Rp.no
end RP2
end RP
