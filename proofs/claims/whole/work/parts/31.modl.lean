/-! the reference, method by method: small ones -/
theorem sI_of {j : Nat} {as : List Value} {h h' : mHeap} {r : Int32} (hF : F j as h = some (some (.int r), h')) : sI j as h = some (r, h') := by unfold sI; rw [hF]; rfl
theorem sL_of {j : Nat} {as : List Value} {h h' : mHeap} {r : Int64} (hF : F j as h = some (some (.long r), h')) : sL j as h = some (r, h') := by unfold sL; rw [hF]; rfl
theorem sV_of {j : Nat} {as : List Value} {h h' : mHeap} (hF : F j as h = some (none, h')) : sV j as h = some h' := by unfold sV; rw [hF]; rfl
theorem vI_of {j b ci : Nat} {as : List Value} {h h' : mHeap} {r : Int32} (hj : mO j = ci) (ho : gO h b ci = some ()) (hF : F j (.ref b :: as) h = some (some (.int r), h')) : vI j b as h = some (r, h') := by unfold vI; rw [hj, ho]; exact sI_of hF
theorem vL_of {j b ci : Nat} {as : List Value} {h h' : mHeap} {r : Int64} (hj : mO j = ci) (ho : gO h b ci = some ()) (hF : F j (.ref b :: as) h = some (some (.long r), h')) : vL j b as h = some (r, h') := by unfold vL; rw [hj, ho]; exact sL_of hF
theorem vV_of {j b ci : Nat} {as : List Value} {h h' : mHeap} (hj : mO j = ci) (ho : gO h b ci = some ()) (hF : F j (.ref b :: as) h = some (none, h')) : vV j b as h = some h' := by unfold vV; rw [hj, ho]; exact sV_of hF
theorem nz0 : (narrow .boolean (.int 0) = .int 0) = True := eq_true (by decide)
theorem nz1 : (narrow .boolean (.int 1) = .int 1) = True := eq_true (by decide)
def b2i (b : Bool) : Int32 := if b then 1 else 0
theorem nzb (b : Bool) : narrow .boolean (.int (b2i b)) = .int (b2i b) := by cases b <;> decide
theorem b2i_0 (b : Bool) : (b2i b = 0) = (b = false) := by cases b <;> simp [b2i]
/-- in(v, low, high) -/
theorem Mo_in (v lo hi : Int32) (h : mHeap) : sI 100 [.int v, .int lo, .int hi] h = some (b2i (decide (lo ≤ v) && decide (v ≤ hi)), h) := by
  refine sI_of ?_
  rw [F100_eq]
  simp only [nz0, nz1, if_true]
  have e1 : (v < lo) = ¬ (lo ≤ v) := by
    apply propext
    rw [Int32.lt_iff_toInt_lt, Int32.le_iff_toInt_le]
    omega
  have e2 : (hi < v) = ¬ (v ≤ hi) := by
    apply propext
    rw [Int32.lt_iff_toInt_lt, Int32.le_iff_toInt_le]
    omega
  simp only [e1, e2]
  by_cases h1 : lo ≤ v <;> by_cases h2 : v ≤ hi <;> simp [h1, h2, b2i]
theorem Mo_isSheet (v : Int32) (h : mHeap) : sI 102 [.int v] h = some (b2i (decide (0 ≤ v) && decide (v ≤ 3)), h) := by
  refine sI_of ?_
  rw [F102_eq, Mo_in]
  simp only [Option.bind_some, nzb, if_true]
theorem Mo_isNumber (v : Int32) (h : mHeap) : sI 109 [.int v] h = some (b2i (decide (0 ≤ v) && decide (v ≤ 9)), h) := by
  refine sI_of ?_
  rw [F109_eq, Mo_in]
  simp only [Option.bind_some, nzb, if_true]
section M1
variable {x : Nat → mCell} {mi : Nat → Int32} {ml : Nat → Int64} {ma : Nat → Nat → Int32}
theorem Mo_meets {k : Nat} (hk : k < 6) : vI 101 107 [.int (nI k)] (MH x mi ml ma) = some (-3, MH x (iup mi 0 (nI k)) ml (mup ma 108 k (ma 108 k + 1))) := by
  refine vI_of (ci := 8) rfl mo_O ?_
  rw [F101_eq, moPutI (Or.inl rfl)]
  simp only [Option.bind_some, moR1]
  rw [moAld (by decide) (show k < moLen 108 from hk)]
  simp only [Option.bind_some]
  rw [moAst (by decide) (show k < moLen 108 from hk)]
  rfl
end M1
