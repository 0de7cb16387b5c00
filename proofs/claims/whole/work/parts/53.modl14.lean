def DoneAt (n i : Nat) (r : Rs) (ma : Nat → Nat → Int32) : Prop := ∀ k, k < i → ma 127 k = nI (r.2.2.1 k) ∧ ma 128 k = nI (r.2.2.2 k) ∧ ma 130 k = nI (cyN (unN n (r.2.1 k))) ∧ ma 131 k = nI (shr (unN n (r.2.1 k)) n)
def RcAt (n : Nat) (r : Rs) (mi : Nat → Int32) (ma : Nat → Nat → Int32) : Prop := NmsAt n r.1 r.2.1 mi ma ∧ DoneAt n r.1 r ma
def rL : List Nat := [112, 113, 114, 115, 119, 120, 121, 122, 124, 125, 126, 127, 128, 129, 130, 131]
def op6 (o : Option Rs) : Int32 := match o with
  | none => -6
  | some _ => 0
theorem op9_ne {p : Nat} (h : p < 2000000000) : ¬ nI p = -9 := nI_ne9 h
section M21
variable {x : Nat → mCell} {mi : Nat → Int32} {ml : Nat → Int64} {ma : Nat → Nat → Int32} {S : St} {K : Gr} {n z : Nat} {nm : Nat → Nat}
theorem Mo_srL (hn8 : n ≤ 8) {v1 : Int32} : ∀ (f i : Nat) (r : Rs) (mi : Nat → Int32) (ma : Nat → Nat → Int32), i + f = 501 → RI n i r → mi 5 = nI n → NmsAt n r.1 r.2.1 mi ma → DoneAt n i r ma → ∃ mi' ma', q155_12 107 v1 (nI i) (MH x mi ml ma) = some (some (.int (op6 (rgo n f i r))), MH x mi' ml ma') ∧ Sm rL ma ma' ∧ (∀ j, j ≠ 17 → j ≠ 23 → mi' j = mi j) ∧ ∀ r', rgo n f i r = some r' → RcAt n r' mi' ma' := by
  intro f
  induction f with
  | zero =>
    intro i r mi ma hf hI
    have := hI.1.1
    have := hI.2.1
    omega
  | succ f ih =>
    intro i r mi ma hf hI hm hN hD
    have h500 := hI.1.1
    unfold rgo
    by_cases c : i < r.1
    · rw [if_pos c]
      obtain ⟨g1, g2⟩ := hN.2 i c
      obtain ⟨hok, hnm⟩ := (hI.1.2.1 i c).un
      -- the ground, its cylinders, its share
      obtain ⟨ma1, a1, a2, a3⟩ := Mo_loadName (x := x) (ml := ml) hn8 hm (show i < 500 by omega) hok g1
      obtain ⟨ma2, b1, b2, b3⟩ := Mo_setCyl (x := x) (ml := ml) hok.1 a3
      have hC3 : Cur (unN n (r.2.1 i)) mi (mup ma2 130 i (nI (cyN (unN n (r.2.1 i))))) := by
        refine a3.keep rfl ?_ ?_ ?_ ?_ <;> (rw [mup_ne (by decide)]; exact b2 _ (by decide))
      obtain ⟨ma4, d1, d2⟩ := Mo_shareOf (x := x) (ml := ml) hok.1 hC3
      have hC5 : Cur (unN n (r.2.1 i)) mi (mup ma4 131 i (nI (shr (unN n (r.2.1 i)) n))) := by
        refine hC3.keep rfl ?_ ?_ ?_ ?_ <;> (rw [mup_ne (by decide)]; exact d2 _ (by decide))
      obtain ⟨ma6, e1, e2, e3⟩ := Mo_shearOnce (x := x) (ml := ml) hok.1 false hC5
      -- arrays untouched so far
      have k6 : ∀ a, a ∉ [112, 113, 114, 115, 124, 125, 130, 131] → ma6 a = ma a := by
        intro a ha
        simp only [List.mem_cons, List.not_mem_nil, or_false, not_or] at ha
        rw [e2 a (by simp; omega), mup_ne (by omega), d2 a (by simp; omega), mup_ne (by omega), b2 a (by simp; omega), a2 a (by simp; omega)]
      have h130 : ma6 130 = upd (ma 130) i (nI (cyN (unN n (r.2.1 i)))) := by
        rw [e2 130 (by decide), mup_ne (by decide), d2 130 (by decide), mup_at, b2 130 (by decide), a2 130 (by decide)]
      have h131 : ma6 131 = upd (ma 131) i (nI (shr (unN n (r.2.1 i)) n)) := by
        rw [e2 131 (by decide), mup_at, d2 131 (by decide), mup_ne (by decide), b2 131 (by decide), a2 131 (by decide)]
      have hN6 : NmsAt n r.1 r.2.1 mi ma6 := hN.keep rfl (k6 _ (by decide)) (k6 _ (by decide))
      obtain ⟨mi7, ma7, p1, p2, p3, p4⟩ := Mo_found (x := x) (ml := ml) (K := shG false (unN n (r.2.1 i))) (hok.sh false) e3 hI.1 hN6
      have ra := radd_ok (v := nmV (shG false (unN n (r.2.1 i)))) hI.1 ⟨_, hok.sh false, rfl, rfl⟩
      have l130 : i < moLen 130 := by show _ < 500; omega
      have l131 : i < moLen 131 := by show _ < 500; omega
      have l127 : i < moLen 127 := by show _ < 500; omega
      have l128 : i < moLen 128 := by show _ < 500; omega
      have z1 : nI i + 1 = nI (i + 1) := iAdd i 1
      have pre := q155_12_eq 107 v1 (nI i) (MH x mi ml ma)
      rw [moI23] at pre
      simp only [Option.bind_some] at pre
      rw [hN.1, if_neg (by rw [iLE (by omega) (by omega)]; omega), a1] at pre
      simp only [Option.bind_some, moR28] at pre
      rw [b1] at pre
      simp only [Option.bind_some] at pre
      rw [moAst (by decide) l130] at pre
      simp only [Option.bind_some, moR29] at pre
      rw [show vI 150 107 [] (MH x mi ml (mup ma2 130 i (nI (cyN (unN n (r.2.1 i)))))) = some (nI (shr (unN n (r.2.1 i)) n), MH x mi ml ma4) from d1] at pre
      simp only [Option.bind_some] at pre
      rw [moAst (by decide) l131] at pre
      simp only [Option.bind_some] at pre
      rw [show vV 136 107 [.int 0] (MH x mi ml (mup ma4 131 i (nI (shr (unN n (r.2.1 i)) n)))) = _ from e1] at pre
      simp only [Option.bind_some, moR25] at pre
      rw [p1] at pre
      simp only [Option.bind_some] at pre
      rw [moAst (by decide) l127] at pre
      simp only [Option.bind_some] at pre
      unfold rst
      generalize hA : radd r.1 r.2.1 (nmV (shG false (unN n (r.2.1 i)))) = A at *
      obtain ⟨q1, q2, q3, q4⟩ := ra
      have hm7 : mi7 5 = nI n := (p3 5 (by decide) (by decide)).trans hm
      have hN8 : NmsAt n A.1 A.2.1 mi7 (mup ma7 127 i (op9 A.2.2)) := NmsAt.keep p4 rfl (mup_ne (by decide)) (mup_ne (by decide))
      have g1' := (hN8.2 i (by omega)).1
      rw [q2 i c] at g1'
      obtain ⟨ma9, s1, s2, s3⟩ := Mo_loadName (x := x) (ml := ml) hn8 hm7 (show i < 500 by omega) hok g1'
      obtain ⟨ma10, t1, t2, t3⟩ := Mo_turnOnce (x := x) (ml := ml) hok.1 false s3
      rw [s1] at pre
      simp only [Option.bind_some] at pre
      rw [show vV 138 107 [.int 0] (MH x mi7 ml ma9) = _ from t1] at pre
      simp only [Option.bind_some, moR26, moR25] at pre
      rw [moAld (by decide) l127] at pre
      simp only [Option.bind_some] at pre
      have h127 : ma10 127 = upd (ma 127) i (op9 A.2.2) := by
        rw [t2 127 (by decide), s2 127 (by decide), mup_at, p2 127 (by decide), k6 127 (by decide)]
      rw [h127, pk_us] at pre
      have k10 : Sm rL ma ma10 := by
        intro a ha
        simp only [rL, List.mem_cons, List.not_mem_nil, or_false, not_or] at ha
        rw [t2 a (by simp; omega), s2 a (by simp; omega), mup_ne (by omega), p2 a (by simp; omega), k6 a (by simp; omega)]
      have k10' : ∀ a, a ∉ [112, 113, 114, 115, 119, 120, 121, 122, 124, 126, 127, 129] → ma10 a = ma6 a := by
        intro a ha
        simp only [List.mem_cons, List.not_mem_nil, or_false, not_or] at ha
        rw [t2 a (by simp; omega), s2 a (by simp; omega), mup_ne (by omega), p2 a (by simp; omega)]
      cases hp : A.2.2 with
      | none =>
        rw [hp] at pre
        dsimp only
        rw [show op9 none = -9 from rfl, if_neg (by decide), moAst (by decide) l128] at pre
        simp only [Option.bind_some, moR26] at pre
        rw [moAld (by decide) l128, mup_at, pk_us] at pre
        simp only [Option.bind_some] at pre
        rw [if_neg (by decide)] at pre
        exact ⟨mi7, _, pre, k10.tr (Sm.up (by decide)), p3, (fun r' h => by cases h)⟩
      | some p =>
        rw [hp] at pre
        dsimp only
        obtain ⟨u1, u2⟩ := q4 p hp
        have hle := q3.1
        rw [show op9 (some p) = nI p from rfl, if_pos (op9_ne (by omega))] at pre
        have hN10 : NmsAt n A.1 A.2.1 mi7 ma10 := NmsAt.keep hN8 rfl (by rw [t2 126 (by decide), s2 126 (by decide)]) (by rw [t2 129 (by decide), s2 129 (by decide)])
        obtain ⟨mi11, ma11, w1, w2, w3, w4⟩ := Mo_found (x := x) (ml := ml) (K := tuG false (unN n (r.2.1 i))) (hok.tu false) t3 q3 hN10
        have rb := radd_ok (v := nmV (tuG false (unN n (r.2.1 i)))) q3 ⟨_, hok.tu false, rfl, rfl⟩
        rw [w1] at pre
        simp only [Option.bind_some] at pre
        rw [moAst (by decide) l128] at pre
        simp only [Option.bind_some, moR26] at pre
        rw [moAld (by decide) l128, mup_at, pk_us] at pre
        simp only [Option.bind_some, z1] at pre
        have hRst : rst n i r = (match (radd A.1 A.2.1 (nmV (tuG false (unN n (r.2.1 i))))).2.2 with
          | none => none
          | some q => some ((radd A.1 A.2.1 (nmV (tuG false (unN n (r.2.1 i))))).1, (radd A.1 A.2.1 (nmV (tuG false (unN n (r.2.1 i))))).2.1, fu r.2.2.1 i p, fu r.2.2.2 i q)) := by
          unfold rst
          rw [hA, hp]
          rfl
        generalize hB : radd A.1 A.2.1 (nmV (tuG false (unN n (r.2.1 i)))) = B at *
        obtain ⟨v1', v2, v3, v4⟩ := rb
        have p3' : ∀ j, j ≠ 17 → j ≠ 23 → mi11 j = mi j := fun j h1 h2 => (w3 j h1 h2).trans (p3 j h1 h2)
        have k12 : Sm rL ma (mup ma11 128 i (op9 B.2.2)) := (k10.tr (w2.sub (by decide))).tr (Sm.up (by decide))
        cases hq : B.2.2 with
        | none =>
          rw [hq] at pre k12
          dsimp only
          rw [show op9 none = -9 from rfl, if_neg (by decide)] at pre
          exact ⟨mi11, _, pre, k12, p3', (fun r' h => by cases h)⟩
        | some q =>
          rw [hq] at pre k12 hRst
          dsimp only at hRst ⊢
          obtain ⟨y1, y2⟩ := v4 q hq
          have hle2 := v3.1
          rw [show op9 (some q) = nI q from rfl, if_pos (op9_ne (by omega))] at pre
          obtain ⟨o1, o2, o3, o4⟩ := rst_RI hI c hRst
          obtain ⟨miF, maF, f1, f2, f3, f4⟩ := ih (i + 1) _ mi11 (mup ma11 128 i (nI q)) (by omega) o1 ((p3' 5 (by decide) (by decide)).trans hm) (NmsAt.keep w4 rfl (mup_ne (by decide)) (mup_ne (by decide))) (by
            intro k hk
            have nmk : B.2.1 k = r.2.1 k := o3 k (by omega)
            dsimp only
            rw [nmk, mup_ne (show 127 ≠ 128 by decide), mup_at, mup_ne (show 130 ≠ 128 by decide), mup_ne (show 131 ≠ 128 by decide), w2 127 (by decide), w2 128 (by decide), w2 130 (by decide), w2 131 (by decide), h127, k10' 128 (by decide), k6 128 (by decide), k10' 130 (by decide), h130, k10' 131 (by decide), h131]
            by_cases ek : k = i
            · subst ek
              rw [pk_us, pk_us, pk_us, pk_us, fu_at, fu_at, hp]
              exact ⟨rfl, rfl, rfl, rfl⟩
            · rw [pk_un ek, pk_un ek, pk_un ek, pk_un ek, fu_ne ek, fu_ne ek]
              exact hD k (by omega))
          exact ⟨miF, maF, pre.trans f1, k12.tr f2, fun j h1 h2 => (f3 j h1 h2).trans (p3' j h1 h2), f4⟩
    · rw [if_neg c]
      refine ⟨mi, ma, ?_, Sm.rf, fun _ _ _ => rfl, fun r' h => ?_⟩
      · rw [q155_12_eq, moI23]
        simp only [Option.bind_some]
        have := hI.2.1
        rw [hN.1, if_pos (by rw [iLE (by omega) (by omega)]; omega)]
        rfl
      · cases h
        have e : i = r.1 := by have := hI.2.1; omega
        subst e
        exact ⟨hN, hD⟩
theorem Mo_setReach (hok : Ok K) (hC : Cur K mi ma) : ∃ mi' ma', vI 155 107 [] (MH x mi ml ma) = some (op6 (rch K.1 (nmV K)), MH x mi' ml ma') ∧ Sm rL ma ma' ∧ (∀ j, j ≠ 17 → j ≠ 23 → mi' j = mi j) ∧ ∀ r, rch K.1 (nmV K) = some r → RcAt K.1 r mi' ma' := by
  have h8 := hok.1.2.1
  have hC1 : Cur K (iup mi 23 0) ma := hC.keep (iup_ne (by decide)) rfl rfl rfl rfl
  obtain ⟨mi1, ma1, a1, a2, a3, a4⟩ := Mo_found (x := x) (ml := ml) (z := 0) (nm := fun _ => nmV K) hok hC1 ⟨by omega, fun k hk => by omega, fun p q hp => by omega⟩ ⟨iup_at, fun k hk => by omega⟩
  have hr : radd 0 (fun _ => nmV K) (nmV K) = (1, fu (fun _ => nmV K) 0 (nmV K), some 0) := rfl
  have hfu : fu (fun _ => nmV K) 0 (nmV K) = fun _ => nmV K := by
    funext k
    unfold fu
    split <;> rfl
  rw [hr, hfu] at a1 a4
  obtain ⟨mi2, ma2, b1, b2, b3, b4⟩ := Mo_srL (x := x) (ml := ml) (v1 := 0) h8 501 0 (1, (fun _ => nmV K), (fun _ => 0), (fun _ => 0)) mi1 ma1 rfl ⟨⟨by show 1 ≤ 500; omega, fun k _ => IsNm.of hok, fun p q hp hq _ => by have : p < 1 := hp; have : q < 1 := hq; omega⟩, Nat.zero_le _, fun k hk => by omega⟩ ((a3 5 (by decide) (by decide)).trans hC1.1) a4 (fun k hk => by omega)
  refine ⟨mi2, ma2, vI_of (ci := 8) rfl mo_O ?_, (a2.sub (by decide)).tr b2, fun j h1 h2 => (b3 j h1 h2).trans ((a3 j h1 h2).trans (iup_ne h2)), b4⟩
  rw [F155_eq, moPutI (by decide)]
  simp only [Option.bind_some]
  rw [a1]
  exact b1
end M21
