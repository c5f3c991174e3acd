def XSt_leftOut_25_36_l4 : Nat → Int32 → Int32 → ax_S → Option (Int32 × ax_S)
  | 0, _, _, _ => none
  | n + 1, x2, x3, s =>
    if (16 : Int32) ≤ x3 then (
      some (x2, s)) else
    match XSt_tellOf_25_36 x3 s with
    | none => none
    | some s1 =>
      match XLa_isLeftOut_36 s1 with
      | none => none
      | some (v2, s3) =>
        if v2 = 0 then (
          XSt_leftOut_25_36_l4 n x2 (x3 + (1)) s3) else
        XSt_leftOut_25_36_l4 n (x2 ||| ((1 : Int32) <<< (x3 &&& 31))) (x3 + (1)) s3
def XSt_leftOut_25_36  (s : ax_S) : Option (Int32 × ax_S) :=
  match XSt_leftOut_25_36_l4 70000 (0 : Int32) (0 : Int32) s with
  | none => none
  | some (v4, s5) =>
    some (v4, s5)
theorem w_XSt_leftOut_25_36_l4 (d : Nat) {o : ax_O} : ∀ (n : Nat) (x2 : Int32) (x3 : Int32) (s : ax_S) (r : Int32 × ax_S) (h : XSt_leftOut_25_36_l4 n x2 x3 s = some r) (hk0 : ∀ (t0 : Int32) (t1 : ax_S), r = (t0, t1) → ax_go true none (ax_ev true (d + 4)) ax_m92 35 [none, none, some (.int t0), none] [] t1 o), ax_go true none (ax_ev true (d + 4)) ax_m92 4 [some (.ref 25), some (.ref 36), some (.int x2), some (.int x3)] [] s o := by
  intro n
  induction n with
  | zero => intro x2 x3 s r h hk0; cases h
  | succ n ih =>
    intro x2 x3 s r h hk0
    rw [XSt_leftOut_25_36_l4] at h
    by_cases c1 : (16 : Int32) ≤ x3
    · rw [if_pos c1] at h
      have h := Option.some.inj h
      subst r
      exact ax_cut (pc' := 35) (la := [some (.ref 25), some (.ref 36), some (.int x2), some (.int x3)]) [none, none, some (.int x2), none] (st' := []) (σ' := s) 3 (And.intro rfl (trivial)) (fun _ hh => (And.intro (fun _ => hh) (fun q => absurd c1 q))) (hk0 _ _ rfl)
    · rw [if_neg c1] at h
      cases hz2 : XSt_tellOf_25_36 x3 s with
      | none => rw [hz2] at h; cases h
      | some s1 =>
      rw [hz2] at h
      dsimp only at h
      cases hz3 : XLa_isLeftOut_36 s1 with
      | none => rw [hz3] at h; cases h
      | some z3 =>
      rw [hz3] at h
      obtain ⟨v2, s3⟩ := z3
      dsimp only at h
      by_cases c4 : v2 = 0
      · rw [if_pos c4] at h
        exact ax_cut (pc' := 4) (la := [some (.ref 25), some (.ref 36), some (.int x2), some (.int (x3 + (1)))]) [some (.ref 25), some (.ref 36), some (.int x2), some (.int (x3 + (1)))] (st' := []) (σ' := s3) 12 (And.intro rfl (And.intro rfl (And.intro rfl (And.intro rfl (trivial))))) (fun _ hh => (And.intro (fun q => absurd q c1) (fun _ => (Exists.intro (none, s1) (And.intro (e_XSt_tellOf_25_36 d hz2) (Exists.intro (some (.int v2), s3) (And.intro (e_XLa_isLeftOut_36 d hz3) (And.intro (fun _ => hh) (fun q => absurd c4 q))))))))) (ih x2 (x3 + (1)) s3 _ h hk0)
      · rw [if_neg c4] at h
        refine ax_cut (pc' := 29) (la := [some (.ref 25), some (.ref 36), some (.int (x2 ||| ((1 : Int32) <<< (x3 &&& 31)))), some (.int x3)]) [some (.ref 25), some (.ref 36), some (.int (x2 ||| ((1 : Int32) <<< (x3 &&& 31)))), some (.int x3)] (st' := []) (σ' := s3) 16 (And.intro rfl (And.intro rfl (And.intro rfl (And.intro rfl (trivial))))) (fun _ hh => (And.intro (fun q => absurd q c1) (fun _ => (Exists.intro (none, s1) (And.intro (e_XSt_tellOf_25_36 d hz2) (Exists.intro (some (.int v2), s3) (And.intro (e_XLa_isLeftOut_36 d hz3) (And.intro (fun q => absurd q c4) (fun _ => hh))))))))) ?_
        exact ax_cut (pc' := 4) (la := [some (.ref 25), some (.ref 36), some (.int (x2 ||| ((1 : Int32) <<< (x3 &&& 31)))), some (.int (x3 + (1)))]) [some (.ref 25), some (.ref 36), some (.int (x2 ||| ((1 : Int32) <<< (x3 &&& 31)))), some (.int (x3 + (1)))] (st' := []) (σ' := s3) 2 (And.intro rfl (And.intro rfl (And.intro rfl (And.intro rfl (trivial))))) (fun _ hh => hh) (ih (x2 ||| ((1 : Int32) <<< (x3 &&& 31))) (x3 + (1)) s3 _ h hk0)
theorem e_XSt_leftOut_25_36 (d : Nat)  {s : ax_S} {r : Int32 × ax_S} (h : XSt_leftOut_25_36 s = some r) : ax_ev true (d + 5) 92 [.ref 25, .ref 36] s (some (.int r.1), r.2) := by
  refine ⟨Nat.le_of_ble_eq_true rfl, ?_⟩
  show ax_go true none (ax_ev true (d + 4)) ax_m92 0 [some (.ref 25), some (.ref 36), none, none] [] s _
  unfold XSt_leftOut_25_36 at h
  cases hz1 : XSt_leftOut_25_36_l4 70000 (0 : Int32) (0 : Int32) s with
  | none => rw [hz1] at h; cases h
  | some z1 =>
  rw [hz1] at h
  refine ax_cut (pc' := 4) (la := [some (.ref 25), some (.ref 36), some (.int (0 : Int32)), some (.int (0 : Int32))]) [some (.ref 25), some (.ref 36), some (.int (0 : Int32)), some (.int (0 : Int32))] (st' := []) (σ' := s) 4 (And.intro rfl (And.intro rfl (And.intro rfl (And.intro rfl (trivial))))) (fun _ hh => hh) (w_XSt_leftOut_25_36_l4 d 70000 (0 : Int32) (0 : Int32) s _ hz1 ?_)
  · intro v4 s5 hq
    subst z1
    dsimp only at h
    have h := Option.some.inj h
    subst r
    exact ax_end 2 rfl
def XFi_personBit_26 (x1 : Int32)  (s : ax_S) : Option (Int32) :=
  match XFi_isTold_26 x1 s with
  | none => none
  | some v1 =>
    if v1 = 0 then (
      some (0 : Int32)) else
    if (x1 < 0 ∨ 12 ≤ (x1).toNatClampNeg) then none else
    some ((1 : Int32) <<< ((s.2.1 27 (x1).toNatClampNeg) &&& 31))
theorem e_XFi_personBit_26 (d : Nat) {x1 : Int32} {s : ax_S} {r : Int32} (h : XFi_personBit_26 x1 s = some r) : ax_ev true (d + 2) 96 [.ref 26, .int x1] s (some (.int r), s) := by
  refine ⟨Nat.le_of_ble_eq_true rfl, ?_⟩
  show ax_go true none (ax_ev true (d + 1)) ax_m96 0 [some (.ref 26), some (.int x1)] [] s _
  unfold XFi_personBit_26 at h
  cases hz1 : XFi_isTold_26 x1 s with
  | none => rw [hz1] at h; cases h
  | some v1 =>
  rw [hz1] at h
  dsimp only at h
  by_cases c2 : v1 = 0
  · rw [if_pos c2] at h
    have h := Option.some.inj h
    subst r
    exact ax_end 6 (Exists.intro (some (.int v1), s) (And.intro (e_XFi_isTold_26 d hz1) (And.intro (fun _ => rfl) (fun q => absurd c2 q))))
  · rw [if_neg c2] at h
    by_cases c3 : (x1 < 0 ∨ 12 ≤ (x1).toNatClampNeg)
    · rw [if_pos c3] at h; cases h
    · rw [if_neg c3] at h
      have h := Option.some.inj h
      subst r
      exact ax_end 12 (Exists.intro (some (.int v1), s) (And.intro (e_XFi_isTold_26 d hz1) (And.intro (fun q => absurd q c2) (fun _ => (And.intro c3 rfl)))))
def XFi_cellsInRow_26 (x1 : Int32) (x2 : Int32)  (s : ax_S) : Option (Int32) :=
  match XFi_isTold_26 x1 s with
  | none => none
  | some v1 =>
    if v1 = 0 then (
      some (0 : Int32)) else
    if (x1 < 0 ∨ 12 ≤ (x1).toNatClampNeg) then none else
    if x2 < (s.2.1 29 (x1).toNatClampNeg) then (
      some (0 : Int32)) else
    if (x1 < 0 ∨ 12 ≤ (x1).toNatClampNeg) then none else
    if (x1 < 0 ∨ 12 ≤ (x1).toNatClampNeg) then none else
    if x2 < ((s.2.1 29 (x1).toNatClampNeg) + (s.2.1 31 (x1).toNatClampNeg)) then (
      if (x1 < 0 ∨ 12 ≤ (x1).toNatClampNeg) then none else
      if (x1 < 0 ∨ 12 ≤ (x1).toNatClampNeg) then none else
      some ((((1 : Int32) <<< ((s.2.1 30 (x1).toNatClampNeg) &&& 31)) - (1 : Int32)) <<< ((s.2.1 28 (x1).toNatClampNeg) &&& 31))) else
    some (0 : Int32)
theorem e_XFi_cellsInRow_26 (d : Nat) {x1 : Int32} {x2 : Int32} {s : ax_S} {r : Int32} (h : XFi_cellsInRow_26 x1 x2 s = some r) : ax_ev true (d + 2) 97 [.ref 26, .int x1, .int x2] s (some (.int r), s) := by
  refine ⟨Nat.le_of_ble_eq_true rfl, ?_⟩
  show ax_go true none (ax_ev true (d + 1)) ax_m97 0 [some (.ref 26), some (.int x1), some (.int x2)] [] s _
  unfold XFi_cellsInRow_26 at h
  cases hz1 : XFi_isTold_26 x1 s with
  | none => rw [hz1] at h; cases h
  | some v1 =>
  rw [hz1] at h
  dsimp only at h
  by_cases c2 : v1 = 0
  · rw [if_pos c2] at h
    have h := Option.some.inj h
    subst r
    exact ax_end 6 (Exists.intro (some (.int v1), s) (And.intro (e_XFi_isTold_26 d hz1) (And.intro (fun _ => rfl) (fun q => absurd c2 q))))
  · rw [if_neg c2] at h
    by_cases c3 : (x1 < 0 ∨ 12 ≤ (x1).toNatClampNeg)
    · rw [if_pos c3] at h; cases h
    · rw [if_neg c3] at h
      by_cases c4 : x2 < (s.2.1 29 (x1).toNatClampNeg)
      · rw [if_pos c4] at h
        have h := Option.some.inj h
        subst r
        exact ax_end 12 (Exists.intro (some (.int v1), s) (And.intro (e_XFi_isTold_26 d hz1) (And.intro (fun q => absurd q c2) (fun _ => (And.intro c3 (And.intro (fun _ => rfl) (fun q => absurd c4 q)))))))
      · rw [if_neg c4] at h
        by_cases c5 : (x1 < 0 ∨ 12 ≤ (x1).toNatClampNeg)
        · rw [if_pos c5] at h; cases h
        · rw [if_neg c5] at h
          refine ax_cut (pc' := 26) (la := [some (.ref 26), some (.int x1), some (.int x2)]) [some (.ref 26), some (.int x1), none] (st' := [.ref 26, .int (s.2.1 29 (x1).toNatClampNeg), .int x2]) (σ' := s) 16 (And.intro rfl (And.intro rfl (trivial))) (fun _ hh => (Exists.intro (some (.int v1), s) (And.intro (e_XFi_isTold_26 d hz1) (And.intro (fun q => absurd q c2) (fun _ => (And.intro c3 (And.intro (fun q => absurd q c4) (fun _ => (And.intro c5 hh))))))))) ?_
          by_cases c6 : (x1 < 0 ∨ 12 ≤ (x1).toNatClampNeg)
          · rw [if_pos c6] at h; cases h
          · rw [if_neg c6] at h
            by_cases c7 : x2 < ((s.2.1 29 (x1).toNatClampNeg) + (s.2.1 31 (x1).toNatClampNeg))
            · rw [if_pos c7] at h
              by_cases c8 : (x1 < 0 ∨ 12 ≤ (x1).toNatClampNeg)
              · rw [if_pos c8] at h; cases h
              · rw [if_neg c8] at h
                refine ax_cut (pc' := 52) (la := [some (.ref 26), some (.int x1), none]) [none, none, none] (st' := [.int x1, .ref 28, .int (((1 : Int32) <<< ((s.2.1 30 (x1).toNatClampNeg) &&& 31)) - (1 : Int32))]) (σ' := s) 16 (trivial) (fun _ hh => (And.intro c6 (And.intro (fun _ => (And.intro c8 hh)) (fun q => absurd c7 q)))) ?_
                by_cases c9 : (x1 < 0 ∨ 12 ≤ (x1).toNatClampNeg)
                · rw [if_pos c9] at h; cases h
                · rw [if_neg c9] at h
                  have h := Option.some.inj h
                  subst r
                  exact ax_end 3 (And.intro c9 rfl)
            · rw [if_neg c7] at h
              have h := Option.some.inj h
              subst r
              exact ax_end 7 (And.intro c6 (And.intro (fun q => absurd q c7) (fun _ => rfl)))
def XCu_layOut_26_l36 : Nat → Int32 → Int32 → Int32 → ax_S → Option (ax_S)
  | 0, _, _, _, _ => none
  | n + 1, x2, x4, x5, s =>
    if (12 : Int32) ≤ x5 then (
      some s) else
    if (x5 < 0 ∨ 12 ≤ (x5).toNatClampNeg) then none else
    match XFi_cellsInRow_26 x4 x5 s with
    | none => none
    | some v3 =>
      if (x5 < 0 ∨ 12 ≤ (x5).toNatClampNeg) then none else
      XCu_layOut_26_l36 n x2 x4 (x5 + (1)) (ax_sI s 56 (x5).toNatClampNeg ((s.2.1 56 (x5).toNatClampNeg) ||| v3))
def XCu_layOut_26_l15 : Nat → Int32 → Int32 → ax_S → Option (ax_S)
  | 0, _, _, _ => none
  | n + 1, x2, x4, s =>
    if (12 : Int32) ≤ x4 then (
      some s) else
    match XFi_personBit_26 x4 s with
    | none => none
    | some v2 =>
      if (v2 &&& x2) = 0 then (
        XCu_layOut_26_l15 n x2 (x4 + (1)) s) else
      match XCu_layOut_26_l36 70000 x2 x4 (0 : Int32) s with
      | none => none
      | some s4 =>
        XCu_layOut_26_l15 n x2 (x4 + (1)) s4
def XCu_layOut_26 (x2 : Int32) (x3 : Int32)  (s : ax_S) : Option (ax_S) :=
  match J_fill_56 (0 : Int32) s with
  | none => none
  | some s1 =>
    match XCu_layOut_26_l15 70000 x2 (if (0 : Int32) < x3 then x3 else (0 : Int32)) s1 with
    | none => none
    | some s5 =>
      some s5
theorem w_XCu_layOut_26_l36 (d : Nat) {o : ax_O} : ∀ (n : Nat) (x2 : Int32) (x4 : Int32) (x5 : Int32) (s : ax_S) (r : ax_S) (h : XCu_layOut_26_l36 n x2 x4 x5 s = some r) (hk0 : ∀ (t0 : ax_S), r = t0 → ax_go true none (ax_ev true (d + 2)) ax_m95 67 [some (.ref 55), some (.ref 26), some (.int x2), none, some (.int x4), none] [] t0 o), ax_go true none (ax_ev true (d + 2)) ax_m95 36 [some (.ref 55), some (.ref 26), some (.int x2), none, some (.int x4), some (.int x5)] [] s o := by
  intro n
  induction n with
  | zero => intro x2 x4 x5 s r h hk0; cases h
  | succ n ih =>
    intro x2 x4 x5 s r h hk0
    rw [XCu_layOut_26_l36] at h
    by_cases c1 : (12 : Int32) ≤ x5
    · rw [if_pos c1] at h
      have h := Option.some.inj h
      subst r
      exact ax_cut (pc' := 67) (la := [some (.ref 55), some (.ref 26), some (.int x2), none, some (.int x4), some (.int x5)]) [some (.ref 55), some (.ref 26), some (.int x2), none, some (.int x4), none] (st' := []) (σ' := s) 3 (And.intro rfl (And.intro rfl (And.intro rfl (And.intro rfl (trivial))))) (fun _ hh => (And.intro (fun _ => hh) (fun q => absurd c1 q))) (hk0 _ rfl)
    · rw [if_neg c1] at h
      by_cases c2 : (x5 < 0 ∨ 12 ≤ (x5).toNatClampNeg)
      · rw [if_pos c2] at h; cases h
      · rw [if_neg c2] at h
        cases hz3 : XFi_cellsInRow_26 x4 x5 s with
        | none => rw [hz3] at h; cases h
        | some v3 =>
        rw [hz3] at h
        dsimp only at h
        by_cases c4 : (x5 < 0 ∨ 12 ≤ (x5).toNatClampNeg)
        · rw [if_pos c4] at h; cases h
        · rw [if_neg c4] at h
          exact ax_cut (pc' := 36) (la := [some (.ref 55), some (.ref 26), some (.int x2), none, some (.int x4), some (.int (x5 + (1)))]) [some (.ref 55), some (.ref 26), some (.int x2), none, some (.int x4), some (.int (x5 + (1)))] (st' := []) (σ' := (ax_sI s 56 (x5).toNatClampNeg ((s.2.1 56 (x5).toNatClampNeg) ||| v3))) 16 (And.intro rfl (And.intro rfl (And.intro rfl (And.intro rfl (And.intro rfl (trivial)))))) (fun _ hh => (And.intro (fun q => absurd q c1) (fun _ => (And.intro c2 (Exists.intro (some (.int v3), s) (And.intro (e_XFi_cellsInRow_26 d hz3) (And.intro c4 hh))))))) (ih x2 x4 (x5 + (1)) (ax_sI s 56 (x5).toNatClampNeg ((s.2.1 56 (x5).toNatClampNeg) ||| v3)) _ h hk0)
theorem w_XCu_layOut_26_l15 (d : Nat) {o : ax_O} : ∀ (n : Nat) (x2 : Int32) (x4 : Int32) (s : ax_S) (r : ax_S) (h : XCu_layOut_26_l15 n x2 x4 s = some r) (hk0 : ∀ (t0 : ax_S), r = t0 → ax_go true none (ax_ev true (d + 2)) ax_m95 73 [none, none, none, none, none, none] [] t0 o), ax_go true none (ax_ev true (d + 2)) ax_m95 15 [some (.ref 55), some (.ref 26), some (.int x2), none, some (.int x4), none] [] s o := by
  intro n
  induction n with
  | zero => intro x2 x4 s r h hk0; cases h
  | succ n ih =>
    intro x2 x4 s r h hk0
    rw [XCu_layOut_26_l15] at h
    by_cases c1 : (12 : Int32) ≤ x4
    · rw [if_pos c1] at h
      have h := Option.some.inj h
      subst r
      exact ax_cut (pc' := 73) (la := [some (.ref 55), some (.ref 26), some (.int x2), none, some (.int x4), none]) [none, none, none, none, none, none] (st' := []) (σ' := s) 3 (trivial) (fun _ hh => (And.intro (fun _ => hh) (fun q => absurd c1 q))) (hk0 _ rfl)
    · rw [if_neg c1] at h
      cases hz2 : XFi_personBit_26 x4 s with
      | none => rw [hz2] at h; cases h
      | some v2 =>
      rw [hz2] at h
      dsimp only at h
      by_cases c3 : (v2 &&& x2) = 0
      · rw [if_pos c3] at h
        exact ax_cut (pc' := 15) (la := [some (.ref 55), some (.ref 26), some (.int x2), none, some (.int (x4 + (1))), none]) [some (.ref 55), some (.ref 26), some (.int x2), none, some (.int (x4 + (1))), none] (st' := []) (σ' := s) 11 (And.intro rfl (And.intro rfl (And.intro rfl (And.intro rfl (trivial))))) (fun _ hh => (And.intro (fun q => absurd q c1) (fun _ => (Exists.intro (some (.int v2), s) (And.intro (e_XFi_personBit_26 d hz2) (And.intro (fun _ => hh) (fun q => absurd c3 q))))))) (ih x2 (x4 + (1)) s _ h hk0)
      · rw [if_neg c3] at h
        cases hz4 : XCu_layOut_26_l36 70000 x2 x4 (0 : Int32) s with
        | none => rw [hz4] at h; cases h
        | some z4 =>
        rw [hz4] at h
        refine ax_cut (pc' := 36) (la := [some (.ref 55), some (.ref 26), some (.int x2), none, some (.int x4), some (.int (0 : Int32))]) [some (.ref 55), some (.ref 26), some (.int x2), none, some (.int x4), some (.int (0 : Int32))] (st' := []) (σ' := s) 11 (And.intro rfl (And.intro rfl (And.intro rfl (And.intro rfl (And.intro rfl (trivial)))))) (fun _ hh => (And.intro (fun q => absurd q c1) (fun _ => (Exists.intro (some (.int v2), s) (And.intro (e_XFi_personBit_26 d hz2) (And.intro (fun q => absurd q c3) (fun _ => hh))))))) (w_XCu_layOut_26_l36 d 70000 x2 x4 (0 : Int32) s _ hz4 ?_)
        · intro s4 hq
          subst z4
          dsimp only at h
          exact ax_cut (pc' := 15) (la := [some (.ref 55), some (.ref 26), some (.int x2), none, some (.int (x4 + (1))), none]) [some (.ref 55), some (.ref 26), some (.int x2), none, some (.int (x4 + (1))), none] (st' := []) (σ' := s4) 2 (And.intro rfl (And.intro rfl (And.intro rfl (And.intro rfl (trivial))))) (fun _ hh => hh) (ih x2 (x4 + (1)) s4 _ h hk0)
theorem e_XCu_layOut_26 (d : Nat) {x2 : Int32} {x3 : Int32} {s : ax_S} {r : ax_S} (h : XCu_layOut_26 x2 x3 s = some r) : ax_ev true (d + 3) 95 [.ref 55, .ref 26, .int x2, .int x3] s (none, r) := by
  refine ⟨Nat.le_of_ble_eq_true rfl, ?_⟩
  show ax_go true none (ax_ev true (d + 2)) ax_m95 0 [some (.ref 55), some (.ref 26), some (.int x2), some (.int x3), none, none] [] s _
  unfold XCu_layOut_26 at h
  cases hz1 : J_fill_56 (0 : Int32) s with
  | none => rw [hz1] at h; cases h
  | some s1 =>
  rw [hz1] at h
  dsimp only at h
  cases hz2 : XCu_layOut_26_l15 70000 x2 (if (0 : Int32) < x3 then x3 else (0 : Int32)) s1 with
  | none => rw [hz2] at h; cases h
  | some z2 =>
  rw [hz2] at h
  refine ax_cut (pc' := 15) (la := [some (.ref 55), some (.ref 26), some (.int x2), some (.int x3), some (.int (if (0 : Int32) < x3 then x3 else (0 : Int32))), none]) [some (.ref 55), some (.ref 26), some (.int x2), none, some (.int (if (0 : Int32) < x3 then x3 else (0 : Int32))), none] (st' := []) (σ' := s1) 8 (And.intro rfl (And.intro rfl (And.intro rfl (And.intro rfl (trivial))))) (fun _ hh => (Exists.intro (none, s1) (And.intro (e_J_fill_56 (d + 1) hz1) hh))) (w_XCu_layOut_26_l15 d 70000 x2 (if (0 : Int32) < x3 then x3 else (0 : Int32)) s1 _ hz2 ?_)
  · intro s5 hq
    subst z2
    dsimp only at h
    have h := Option.some.inj h
    subst r
    exact ax_end 1 rfl
def XCu_cutWithout_26_l29 : Nat → Int32 → Int32 → Int32 → ax_S → Option (ax_S)
  | 0, _, _, _, _ => none
  | n + 1, x3, x4, x5, s =>
    if (12 : Int32) ≤ x5 then (
      some s) else
    if (x5 < 0 ∨ 12 ≤ (x5).toNatClampNeg) then none else
    match XCu_offerFreeRuns (x4 ||| (s.2.1 56 (x5).toNatClampNeg)) x3 ((x5 - x3) + (1 : Int32)) s with
    | none => none
    | some s2 =>
      XCu_cutWithout_26_l29 n x3 (x4 ||| (s.2.1 56 (x5).toNatClampNeg)) (x5 + (1)) s2
def XCu_cutWithout_26_l17 : Nat → Int32 → ax_S → Option (ax_S)
  | 0, _, _ => none
  | n + 1, x3, s =>
    if (12 : Int32) ≤ x3 then (
      some s) else
    match XCu_cutWithout_26_l29 70000 x3 (0 : Int32) x3 s with
    | none => none
    | some s3 =>
      XCu_cutWithout_26_l17 n (x3 + (1)) s3
def XCu_cutWithout_26 (x2 : Int32)  (s : ax_S) : Option (ax_S) :=
  match XCu_layOut_26 x2 (0 : Int32) s with
  | none => none
  | some s1 =>
    match XCu_cutWithout_26_l17 70000 (0 : Int32) (XCu_put (0 : Int32) (0 : Int32) (0 : Int32) (0 : Int32) s1) with
    | none => none
    | some s4 =>
      some s4
theorem w_XCu_cutWithout_26_l29 (d : Nat) {o : ax_O} : ∀ (n : Nat) (x3 : Int32) (x4 : Int32) (x5 : Int32) (s : ax_S) (r : ax_S) (h : XCu_cutWithout_26_l29 n x3 x4 x5 s = some r) (hk0 : ∀ (t0 : ax_S), r = t0 → ax_go true none (ax_ev true (d + 3)) ax_m94 67 [some (.ref 55), none, none, some (.int x3), none, none] [] t0 o), ax_go true none (ax_ev true (d + 3)) ax_m94 29 [some (.ref 55), none, none, some (.int x3), some (.int x4), some (.int x5)] [] s o := by
  intro n
  induction n with
  | zero => intro x3 x4 x5 s r h hk0; cases h
  | succ n ih =>
    intro x3 x4 x5 s r h hk0
    rw [XCu_cutWithout_26_l29] at h
    by_cases c1 : (12 : Int32) ≤ x5
    · rw [if_pos c1] at h
      have h := Option.some.inj h
      subst r
      exact ax_cut (pc' := 67) (la := [some (.ref 55), none, none, some (.int x3), some (.int x4), some (.int x5)]) [some (.ref 55), none, none, some (.int x3), none, none] (st' := []) (σ' := s) 3 (And.intro rfl (And.intro rfl (trivial))) (fun _ hh => (And.intro (fun _ => hh) (fun q => absurd c1 q))) (hk0 _ rfl)
    · rw [if_neg c1] at h
      by_cases c2 : (x5 < 0 ∨ 12 ≤ (x5).toNatClampNeg)
      · rw [if_pos c2] at h; cases h
      · rw [if_neg c2] at h
        refine ax_cut (pc' := 56) (la := [some (.ref 55), none, none, some (.int x3), some (.int (x4 ||| (s.2.1 56 (x5).toNatClampNeg))), some (.int x5)]) [some (.ref 55), none, none, some (.int x3), some (.int (x4 ||| (s.2.1 56 (x5).toNatClampNeg))), some (.int x5)] (st' := [.int (x5 - x3), .int x3, .int (x4 ||| (s.2.1 56 (x5).toNatClampNeg)), .ref 55]) (σ' := s) 16 (And.intro rfl (And.intro rfl (And.intro rfl (And.intro rfl (trivial))))) (fun _ hh => (And.intro (fun q => absurd q c1) (fun _ => (And.intro c2 hh)))) ?_
        cases hz3 : XCu_offerFreeRuns (x4 ||| (s.2.1 56 (x5).toNatClampNeg)) x3 ((x5 - x3) + (1 : Int32)) s with
        | none => rw [hz3] at h; cases h
        | some s2 =>
        rw [hz3] at h
        dsimp only at h
        exact ax_cut (pc' := 29) (la := [some (.ref 55), none, none, some (.int x3), some (.int (x4 ||| (s.2.1 56 (x5).toNatClampNeg))), some (.int (x5 + (1)))]) [some (.ref 55), none, none, some (.int x3), some (.int (x4 ||| (s.2.1 56 (x5).toNatClampNeg))), some (.int (x5 + (1)))] (st' := []) (σ' := s2) 5 (And.intro rfl (And.intro rfl (And.intro rfl (And.intro rfl (trivial))))) (fun _ hh => (Exists.intro (none, s2) (And.intro (e_XCu_offerFreeRuns (d + 1) hz3) hh))) (ih x3 (x4 ||| (s.2.1 56 (x5).toNatClampNeg)) (x5 + (1)) s2 _ h hk0)
theorem w_XCu_cutWithout_26_l17 (d : Nat) {o : ax_O} : ∀ (n : Nat) (x3 : Int32) (s : ax_S) (r : ax_S) (h : XCu_cutWithout_26_l17 n x3 s = some r) (hk0 : ∀ (t0 : ax_S), r = t0 → ax_go true none (ax_ev true (d + 3)) ax_m94 73 [none, none, none, none, none, none] [] t0 o), ax_go true none (ax_ev true (d + 3)) ax_m94 17 [some (.ref 55), none, none, some (.int x3), none, none] [] s o := by
  intro n
  induction n with
  | zero => intro x3 s r h hk0; cases h
  | succ n ih =>
    intro x3 s r h hk0
    rw [XCu_cutWithout_26_l17] at h
    by_cases c1 : (12 : Int32) ≤ x3
    · rw [if_pos c1] at h
      have h := Option.some.inj h
      subst r
      exact ax_cut (pc' := 73) (la := [some (.ref 55), none, none, some (.int x3), none, none]) [none, none, none, none, none, none] (st' := []) (σ' := s) 3 (trivial) (fun _ hh => (And.intro (fun _ => hh) (fun q => absurd c1 q))) (hk0 _ rfl)
    · rw [if_neg c1] at h
      cases hz2 : XCu_cutWithout_26_l29 70000 x3 (0 : Int32) x3 s with
      | none => rw [hz2] at h; cases h
      | some z2 =>
      rw [hz2] at h
      refine ax_cut (pc' := 29) (la := [some (.ref 55), none, none, some (.int x3), some (.int (0 : Int32)), some (.int x3)]) [some (.ref 55), none, none, some (.int x3), some (.int (0 : Int32)), some (.int x3)] (st' := []) (σ' := s) 7 (And.intro rfl (And.intro rfl (And.intro rfl (And.intro rfl (trivial))))) (fun _ hh => (And.intro (fun q => absurd q c1) (fun _ => hh))) (w_XCu_cutWithout_26_l29 d 70000 x3 (0 : Int32) x3 s _ hz2 ?_)
      · intro s3 hq
        subst z2
        dsimp only at h
        exact ax_cut (pc' := 17) (la := [some (.ref 55), none, none, some (.int (x3 + (1))), none, none]) [some (.ref 55), none, none, some (.int (x3 + (1))), none, none] (st' := []) (σ' := s3) 2 (And.intro rfl (And.intro rfl (trivial))) (fun _ hh => hh) (ih (x3 + (1)) s3 _ h hk0)
theorem e_XCu_cutWithout_26 (d : Nat) {x2 : Int32} {s : ax_S} {r : ax_S} (h : XCu_cutWithout_26 x2 s = some r) : ax_ev true (d + 4) 94 [.ref 55, .ref 26, .int x2] s (none, r) := by
  refine ⟨Nat.le_of_ble_eq_true rfl, ?_⟩
  show ax_go true none (ax_ev true (d + 3)) ax_m94 0 [some (.ref 55), some (.ref 26), some (.int x2), none, none, none] [] s _
  unfold XCu_cutWithout_26 at h
  cases hz1 : XCu_layOut_26 x2 (0 : Int32) s with
  | none => rw [hz1] at h; cases h
  | some s1 =>
  rw [hz1] at h
  dsimp only at h
  cases hz2 : XCu_cutWithout_26_l17 70000 (0 : Int32) (XCu_put (0 : Int32) (0 : Int32) (0 : Int32) (0 : Int32) s1) with
  | none => rw [hz2] at h; cases h
  | some z2 =>
  rw [hz2] at h
  refine ax_cut (pc' := 17) (la := [some (.ref 55), some (.ref 26), some (.int x2), some (.int (0 : Int32)), none, none]) [some (.ref 55), none, none, some (.int (0 : Int32)), none, none] (st' := []) (σ' := (XCu_put (0 : Int32) (0 : Int32) (0 : Int32) (0 : Int32) s1)) 13 (And.intro rfl (And.intro rfl (trivial))) (fun _ hh => (Exists.intro (none, s1) (And.intro (e_XCu_layOut_26 d hz1) (Exists.intro (none, (XCu_put (0 : Int32) (0 : Int32) (0 : Int32) (0 : Int32) s1)) (And.intro (e_XCu_put (d + 2) (0 : Int32) (0 : Int32) (0 : Int32) (0 : Int32) s1) hh))))) (w_XCu_cutWithout_26_l17 d 70000 (0 : Int32) (XCu_put (0 : Int32) (0 : Int32) (0 : Int32) (0 : Int32) s1) _ hz2 ?_)
  · intro s4 hq
    subst z2
    dsimp only at h
    have h := Option.some.inj h
    subst r
    exact ax_end 1 rfl
def XSt_slip_25_36_j43 (y0 : Int32) (y1 : Int32)  (s : ax_S) : Int32 :=
  if y1 ≤ y0 then (
    (0 : Int32)) else
  (1 : Int32)
def XSt_slip_25_36  (s : ax_S) : Option (Int32 × ax_S) :=
  match XLa_ask_36 (104 : Int32) (10 : Int32) (XLa_setPerson_36 (0 : Int32) (0 : Int32) (0 : Int32) (0 : Int32) (0 : Int32) (ax_sI s 25 6 ((((25173 : Int32) * (s.2.1 25 6)) + (13849 : Int32)) &&& (65535 : Int32)))) with
  | none => none
  | some (v1, s2) =>
    if (XSt_slip_25_36_j43 (((XLa_setPerson_36 (0 : Int32) (0 : Int32) (0 : Int32) (0 : Int32) (0 : Int32) (ax_sI s 25 6 ((((25173 : Int32) * (s.2.1 25 6)) + (13849 : Int32)) &&& (65535 : Int32)))).2.1 25 6) - ((XLa_setPerson_36 (0 : Int32) (0 : Int32) (0 : Int32) (0 : Int32) (0 : Int32) (ax_sI s 25 6 ((((25173 : Int32) * (s.2.1 25 6)) + (13849 : Int32)) &&& (65535 : Int32)))).2.1 25 6) / (10 : Int32) * (10 : Int32)) v1 s2) = 0 then (
      if ¬ ((XSt_slip_25_36_j43 (((XLa_setPerson_36 (0 : Int32) (0 : Int32) (0 : Int32) (0 : Int32) (0 : Int32) (ax_sI s 25 6 ((((25173 : Int32) * (s.2.1 25 6)) + (13849 : Int32)) &&& (65535 : Int32)))).2.1 25 6) - ((XLa_setPerson_36 (0 : Int32) (0 : Int32) (0 : Int32) (0 : Int32) (0 : Int32) (ax_sI s 25 6 ((((25173 : Int32) * (s.2.1 25 6)) + (13849 : Int32)) &&& (65535 : Int32)))).2.1 25 6) / (10 : Int32) * (10 : Int32)) v1 s2) = 0 ∨ (XSt_slip_25_36_j43 (((XLa_setPerson_36 (0 : Int32) (0 : Int32) (0 : Int32) (0 : Int32) (0 : Int32) (ax_sI s 25 6 ((((25173 : Int32) * (s.2.1 25 6)) + (13849 : Int32)) &&& (65535 : Int32)))).2.1 25 6) - ((XLa_setPerson_36 (0 : Int32) (0 : Int32) (0 : Int32) (0 : Int32) (0 : Int32) (ax_sI s 25 6 ((((25173 : Int32) * (s.2.1 25 6)) + (13849 : Int32)) &&& (65535 : Int32)))).2.1 25 6) / (10 : Int32) * (10 : Int32)) v1 s2) = 1) then none else
      some ((XSt_slip_25_36_j43 (((XLa_setPerson_36 (0 : Int32) (0 : Int32) (0 : Int32) (0 : Int32) (0 : Int32) (ax_sI s 25 6 ((((25173 : Int32) * (s.2.1 25 6)) + (13849 : Int32)) &&& (65535 : Int32)))).2.1 25 6) - ((XLa_setPerson_36 (0 : Int32) (0 : Int32) (0 : Int32) (0 : Int32) (0 : Int32) (ax_sI s 25 6 ((((25173 : Int32) * (s.2.1 25 6)) + (13849 : Int32)) &&& (65535 : Int32)))).2.1 25 6) / (10 : Int32) * (10 : Int32)) v1 s2), s2)) else
    if ¬ ((XSt_slip_25_36_j43 (((XLa_setPerson_36 (0 : Int32) (0 : Int32) (0 : Int32) (0 : Int32) (0 : Int32) (ax_sI s 25 6 ((((25173 : Int32) * (s.2.1 25 6)) + (13849 : Int32)) &&& (65535 : Int32)))).2.1 25 6) - ((XLa_setPerson_36 (0 : Int32) (0 : Int32) (0 : Int32) (0 : Int32) (0 : Int32) (ax_sI s 25 6 ((((25173 : Int32) * (s.2.1 25 6)) + (13849 : Int32)) &&& (65535 : Int32)))).2.1 25 6) / (10 : Int32) * (10 : Int32)) v1 s2) = 0 ∨ (XSt_slip_25_36_j43 (((XLa_setPerson_36 (0 : Int32) (0 : Int32) (0 : Int32) (0 : Int32) (0 : Int32) (ax_sI s 25 6 ((((25173 : Int32) * (s.2.1 25 6)) + (13849 : Int32)) &&& (65535 : Int32)))).2.1 25 6) - ((XLa_setPerson_36 (0 : Int32) (0 : Int32) (0 : Int32) (0 : Int32) (0 : Int32) (ax_sI s 25 6 ((((25173 : Int32) * (s.2.1 25 6)) + (13849 : Int32)) &&& (65535 : Int32)))).2.1 25 6) / (10 : Int32) * (10 : Int32)) v1 s2) = 1) then none else
    some ((XSt_slip_25_36_j43 (((XLa_setPerson_36 (0 : Int32) (0 : Int32) (0 : Int32) (0 : Int32) (0 : Int32) (ax_sI s 25 6 ((((25173 : Int32) * (s.2.1 25 6)) + (13849 : Int32)) &&& (65535 : Int32)))).2.1 25 6) - ((XLa_setPerson_36 (0 : Int32) (0 : Int32) (0 : Int32) (0 : Int32) (0 : Int32) (ax_sI s 25 6 ((((25173 : Int32) * (s.2.1 25 6)) + (13849 : Int32)) &&& (65535 : Int32)))).2.1 25 6) / (10 : Int32) * (10 : Int32)) v1 s2), (ax_sI s2 25 8 ((s2.2.1 25 8) + (1 : Int32))))
theorem w_XSt_slip_25_36_j43 (d : Nat) {o : ax_O} (y0 : Int32) (y1 : Int32) (s : ax_S) (r : Int32) (h : XSt_slip_25_36_j43 y0 y1 s = r) (hk0 : ∀ (t0 : Int32), r = t0 → ax_go true none (ax_ev true (d + 4)) ax_m102 51 [some (.ref 25), none, none] [.int t0] s o) : ax_go true none (ax_ev true (d + 4)) ax_m102 43 [some (.ref 25), none, none] [.int y1, .int y0] s o := by
  unfold XSt_slip_25_36_j43 at h
  by_cases c1 : y1 ≤ y0
  · rw [if_pos c1] at h
    have h := h
    subst r
    exact ax_cut (pc' := 51) (la := [some (.ref 25), none, none]) [some (.ref 25), none, none] (st' := [.int (0 : Int32)]) (σ' := s) 2 (And.intro rfl (trivial)) (fun _ hh => (And.intro (fun _ => hh) (fun q => absurd c1 q))) (hk0 _ rfl)
  · rw [if_neg c1] at h
    have h := h
    subst r
    exact ax_cut (pc' := 51) (la := [some (.ref 25), none, none]) [some (.ref 25), none, none] (st' := [.int (1 : Int32)]) (σ' := s) 3 (And.intro rfl (trivial)) (fun _ hh => (And.intro (fun q => absurd q c1) (fun _ => hh))) (hk0 _ rfl)
theorem e_XSt_slip_25_36 (d : Nat)  {s : ax_S} {r : Int32 × ax_S} (h : XSt_slip_25_36 s = some r) : ax_ev true (d + 5) 102 [.ref 25, .ref 36] s (some (.int r.1), r.2) := by
  refine ⟨Nat.le_of_ble_eq_true rfl, ?_⟩
  show ax_go true none (ax_ev true (d + 4)) ax_m102 0 [some (.ref 25), some (.ref 36), none] [] s _
  unfold XSt_slip_25_36 at h
  refine ax_cut (pc' := 25) (la := [some (.ref 25), some (.ref 36), none]) [some (.ref 25), some (.ref 36), none] (st' := [.int (0 : Int32), .int (0 : Int32), .int (0 : Int32), .int (0 : Int32), .int (0 : Int32), .ref 36]) (σ' := (ax_sI s 25 6 ((((25173 : Int32) * (s.2.1 25 6)) + (13849 : Int32)) &&& (65535 : Int32)))) 16 (And.intro rfl (And.intro rfl (trivial))) (fun _ hh => hh) ?_
  cases hz1 : XLa_ask_36 (104 : Int32) (10 : Int32) (XLa_setPerson_36 (0 : Int32) (0 : Int32) (0 : Int32) (0 : Int32) (0 : Int32) (ax_sI s 25 6 ((((25173 : Int32) * (s.2.1 25 6)) + (13849 : Int32)) &&& (65535 : Int32)))) with
  | none => rw [hz1] at h; cases h
  | some z1 =>
  rw [hz1] at h
  obtain ⟨v1, s2⟩ := z1
  dsimp only at h
  refine ax_cut (pc' := 43) (la := [some (.ref 25), some (.ref 36), none]) [some (.ref 25), none, none] (st' := [.int v1, .int (((XLa_setPerson_36 (0 : Int32) (0 : Int32) (0 : Int32) (0 : Int32) (0 : Int32) (ax_sI s 25 6 ((((25173 : Int32) * (s.2.1 25 6)) + (13849 : Int32)) &&& (65535 : Int32)))).2.1 25 6) - ((XLa_setPerson_36 (0 : Int32) (0 : Int32) (0 : Int32) (0 : Int32) (0 : Int32) (ax_sI s 25 6 ((((25173 : Int32) * (s.2.1 25 6)) + (13849 : Int32)) &&& (65535 : Int32)))).2.1 25 6) / (10 : Int32) * (10 : Int32))]) (σ' := s2) 9 (And.intro rfl (trivial)) (fun _ hh => (Exists.intro (none, (XLa_setPerson_36 (0 : Int32) (0 : Int32) (0 : Int32) (0 : Int32) (0 : Int32) (ax_sI s 25 6 ((((25173 : Int32) * (s.2.1 25 6)) + (13849 : Int32)) &&& (65535 : Int32))))) (And.intro (e_XLa_setPerson_36 (d + 3) (0 : Int32) (0 : Int32) (0 : Int32) (0 : Int32) (0 : Int32) (ax_sI s 25 6 ((((25173 : Int32) * (s.2.1 25 6)) + (13849 : Int32)) &&& (65535 : Int32)))) (And.intro (show ¬ (10 : Int32) = 0 by decide) (Exists.intro (some (.int v1), s2) (And.intro (e_XLa_ask_36 d hz1) hh)))))) (w_XSt_slip_25_36_j43 d (((XLa_setPerson_36 (0 : Int32) (0 : Int32) (0 : Int32) (0 : Int32) (0 : Int32) (ax_sI s 25 6 ((((25173 : Int32) * (s.2.1 25 6)) + (13849 : Int32)) &&& (65535 : Int32)))).2.1 25 6) - ((XLa_setPerson_36 (0 : Int32) (0 : Int32) (0 : Int32) (0 : Int32) (0 : Int32) (ax_sI s 25 6 ((((25173 : Int32) * (s.2.1 25 6)) + (13849 : Int32)) &&& (65535 : Int32)))).2.1 25 6) / (10 : Int32) * (10 : Int32)) v1 s2 _ rfl (fun v3 hq => ?_))
  obtain rfl : v3 = (XSt_slip_25_36_j43 (((XLa_setPerson_36 (0 : Int32) (0 : Int32) (0 : Int32) (0 : Int32) (0 : Int32) (ax_sI s 25 6 ((((25173 : Int32) * (s.2.1 25 6)) + (13849 : Int32)) &&& (65535 : Int32)))).2.1 25 6) - ((XLa_setPerson_36 (0 : Int32) (0 : Int32) (0 : Int32) (0 : Int32) (0 : Int32) (ax_sI s 25 6 ((((25173 : Int32) * (s.2.1 25 6)) + (13849 : Int32)) &&& (65535 : Int32)))).2.1 25 6) / (10 : Int32) * (10 : Int32)) v1 s2) := hq.symm
  by_cases c2 : (XSt_slip_25_36_j43 (((XLa_setPerson_36 (0 : Int32) (0 : Int32) (0 : Int32) (0 : Int32) (0 : Int32) (ax_sI s 25 6 ((((25173 : Int32) * (s.2.1 25 6)) + (13849 : Int32)) &&& (65535 : Int32)))).2.1 25 6) - ((XLa_setPerson_36 (0 : Int32) (0 : Int32) (0 : Int32) (0 : Int32) (0 : Int32) (ax_sI s 25 6 ((((25173 : Int32) * (s.2.1 25 6)) + (13849 : Int32)) &&& (65535 : Int32)))).2.1 25 6) / (10 : Int32) * (10 : Int32)) v1 s2) = 0
  · rw [if_pos c2] at h
    by_cases c3 : ¬ ((XSt_slip_25_36_j43 (((XLa_setPerson_36 (0 : Int32) (0 : Int32) (0 : Int32) (0 : Int32) (0 : Int32) (ax_sI s 25 6 ((((25173 : Int32) * (s.2.1 25 6)) + (13849 : Int32)) &&& (65535 : Int32)))).2.1 25 6) - ((XLa_setPerson_36 (0 : Int32) (0 : Int32) (0 : Int32) (0 : Int32) (0 : Int32) (ax_sI s 25 6 ((((25173 : Int32) * (s.2.1 25 6)) + (13849 : Int32)) &&& (65535 : Int32)))).2.1 25 6) / (10 : Int32) * (10 : Int32)) v1 s2) = 0 ∨ (XSt_slip_25_36_j43 (((XLa_setPerson_36 (0 : Int32) (0 : Int32) (0 : Int32) (0 : Int32) (0 : Int32) (ax_sI s 25 6 ((((25173 : Int32) * (s.2.1 25 6)) + (13849 : Int32)) &&& (65535 : Int32)))).2.1 25 6) - ((XLa_setPerson_36 (0 : Int32) (0 : Int32) (0 : Int32) (0 : Int32) (0 : Int32) (ax_sI s 25 6 ((((25173 : Int32) * (s.2.1 25 6)) + (13849 : Int32)) &&& (65535 : Int32)))).2.1 25 6) / (10 : Int32) * (10 : Int32)) v1 s2) = 1)
    · rw [if_pos c3] at h; cases h
    · rw [if_neg c3] at h
      have h := Option.some.inj h
      subst r
      exact ax_end 5 (And.intro (fun _ => (And.intro (Decidable.not_not.mp c3) rfl)) (fun q => absurd c2 q))
  · rw [if_neg c2] at h
    by_cases c4 : ¬ ((XSt_slip_25_36_j43 (((XLa_setPerson_36 (0 : Int32) (0 : Int32) (0 : Int32) (0 : Int32) (0 : Int32) (ax_sI s 25 6 ((((25173 : Int32) * (s.2.1 25 6)) + (13849 : Int32)) &&& (65535 : Int32)))).2.1 25 6) - ((XLa_setPerson_36 (0 : Int32) (0 : Int32) (0 : Int32) (0 : Int32) (0 : Int32) (ax_sI s 25 6 ((((25173 : Int32) * (s.2.1 25 6)) + (13849 : Int32)) &&& (65535 : Int32)))).2.1 25 6) / (10 : Int32) * (10 : Int32)) v1 s2) = 0 ∨ (XSt_slip_25_36_j43 (((XLa_setPerson_36 (0 : Int32) (0 : Int32) (0 : Int32) (0 : Int32) (0 : Int32) (ax_sI s 25 6 ((((25173 : Int32) * (s.2.1 25 6)) + (13849 : Int32)) &&& (65535 : Int32)))).2.1 25 6) - ((XLa_setPerson_36 (0 : Int32) (0 : Int32) (0 : Int32) (0 : Int32) (0 : Int32) (ax_sI s 25 6 ((((25173 : Int32) * (s.2.1 25 6)) + (13849 : Int32)) &&& (65535 : Int32)))).2.1 25 6) / (10 : Int32) * (10 : Int32)) v1 s2) = 1)
    · rw [if_pos c4] at h; cases h
    · rw [if_neg c4] at h
      have h := Option.some.inj h
      subst r
      exact ax_end 11 (And.intro (fun q => absurd q c2) (fun _ => (And.intro (Decidable.not_not.mp c4) rfl)))
def XFi_wholeIn_26_l6 : Nat → Int32 → Int32 → Int32 → Int32 → Int32 → Int32 → ax_S → Option (Int32)
  | 0, _, _, _, _, _, _, _ => none
  | n + 1, x1, x2, x3, x4, x5, x6, s =>
    if (12 : Int32) ≤ x6 then (
      some x5) else
    if (x6 < 0 ∨ 12 ≤ (x6).toNatClampNeg) then none else
    if (s.2.1 28 (x6).toNatClampNeg) < x1 then (
      XFi_wholeIn_26_l6 n x1 x2 x3 x4 x5 (x6 + (1)) s) else
    if (x6 < 0 ∨ 12 ≤ (x6).toNatClampNeg) then none else
    if (x6 < 0 ∨ 12 ≤ (x6).toNatClampNeg) then none else
    if (x1 + x3) < ((s.2.1 28 (x6).toNatClampNeg) + (s.2.1 30 (x6).toNatClampNeg)) then (
      XFi_wholeIn_26_l6 n x1 x2 x3 x4 x5 (x6 + (1)) s) else
    if (x6 < 0 ∨ 12 ≤ (x6).toNatClampNeg) then none else
    if (s.2.1 29 (x6).toNatClampNeg) < x2 then (
      XFi_wholeIn_26_l6 n x1 x2 x3 x4 x5 (x6 + (1)) s) else
    if (x6 < 0 ∨ 12 ≤ (x6).toNatClampNeg) then none else
    if (x6 < 0 ∨ 12 ≤ (x6).toNatClampNeg) then none else
    if (x2 + x4) < ((s.2.1 29 (x6).toNatClampNeg) + (s.2.1 31 (x6).toNatClampNeg)) then (
      XFi_wholeIn_26_l6 n x1 x2 x3 x4 x5 (x6 + (1)) s) else
    match XFi_personBit_26 x6 s with
    | none => none
    | some v1 =>
      XFi_wholeIn_26_l6 n x1 x2 x3 x4 (x5 ||| v1) (x6 + (1)) s
def XFi_wholeIn_26 (x1 : Int32) (x2 : Int32) (x3 : Int32) (x4 : Int32)  (s : ax_S) : Option (Int32) :=
  match XFi_wholeIn_26_l6 70000 x1 x2 x3 x4 (0 : Int32) (0 : Int32) s with
  | none => none
  | some v2 =>
    some v2
theorem w_XFi_wholeIn_26_l6 (d : Nat) {o : ax_O} : ∀ (n : Nat) (x1 : Int32) (x2 : Int32) (x3 : Int32) (x4 : Int32) (x5 : Int32) (x6 : Int32) (s : ax_S) (r : Int32) (h : XFi_wholeIn_26_l6 n x1 x2 x3 x4 x5 x6 s = some r) (hk0 : ∀ (t0 : Int32), r = t0 → ax_go true none (ax_ev true (d + 2)) ax_m106 95 [none, none, none, none, none, some (.int t0), none] [] s o), ax_go true none (ax_ev true (d + 2)) ax_m106 6 [some (.ref 26), some (.int x1), some (.int x2), some (.int x3), some (.int x4), some (.int x5), some (.int x6)] [] s o := by
  intro n
  induction n with
  | zero => intro x1 x2 x3 x4 x5 x6 s r h hk0; cases h
  | succ n ih =>
    intro x1 x2 x3 x4 x5 x6 s r h hk0
    rw [XFi_wholeIn_26_l6] at h
    by_cases c1 : (12 : Int32) ≤ x6
    · rw [if_pos c1] at h
      have h := Option.some.inj h
      subst r
      exact ax_cut (pc' := 95) (la := [some (.ref 26), some (.int x1), some (.int x2), some (.int x3), some (.int x4), some (.int x5), some (.int x6)]) [none, none, none, none, none, some (.int x5), none] (st' := []) (σ' := s) 3 (And.intro rfl (trivial)) (fun _ hh => (And.intro (fun _ => hh) (fun q => absurd c1 q))) (hk0 _ rfl)
    · rw [if_neg c1] at h
      by_cases c2 : (x6 < 0 ∨ 12 ≤ (x6).toNatClampNeg)
      · rw [if_pos c2] at h; cases h
      · rw [if_neg c2] at h
        by_cases c3 : (s.2.1 28 (x6).toNatClampNeg) < x1
        · rw [if_pos c3] at h
          exact ax_cut (pc' := 6) (la := [some (.ref 26), some (.int x1), some (.int x2), some (.int x3), some (.int x4), some (.int x5), some (.int (x6 + (1)))]) [some (.ref 26), some (.int x1), some (.int x2), some (.int x3), some (.int x4), some (.int x5), some (.int (x6 + (1)))] (st' := []) (σ' := s) 11 (And.intro rfl (And.intro rfl (And.intro rfl (And.intro rfl (And.intro rfl (And.intro rfl (And.intro rfl (trivial)))))))) (fun _ hh => (And.intro (fun q => absurd q c1) (fun _ => (And.intro c2 (And.intro (fun _ => hh) (fun q => absurd c3 q)))))) (ih x1 x2 x3 x4 x5 (x6 + (1)) s _ h hk0)
        · rw [if_neg c3] at h
          by_cases c4 : (x6 < 0 ∨ 12 ≤ (x6).toNatClampNeg)
          · rw [if_pos c4] at h; cases h
          · rw [if_neg c4] at h
            refine ax_cut (pc' := 37) (la := [some (.ref 26), some (.int x1), some (.int x2), some (.int x3), some (.int x4), some (.int x5), some (.int x6)]) [some (.ref 26), some (.int x1), some (.int x2), some (.int x3), some (.int x4), some (.int x5), some (.int x6)] (st' := [.int x6, .ref 30, .int (s.2.1 28 (x6).toNatClampNeg)]) (σ' := s) 16 (And.intro rfl (And.intro rfl (And.intro rfl (And.intro rfl (And.intro rfl (And.intro rfl (And.intro rfl (trivial)))))))) (fun _ hh => (And.intro (fun q => absurd q c1) (fun _ => (And.intro c2 (And.intro (fun q => absurd q c3) (fun _ => (And.intro c4 hh))))))) ?_
            by_cases c5 : (x6 < 0 ∨ 12 ≤ (x6).toNatClampNeg)
            · rw [if_pos c5] at h; cases h
            · rw [if_neg c5] at h
              by_cases c6 : (x1 + x3) < ((s.2.1 28 (x6).toNatClampNeg) + (s.2.1 30 (x6).toNatClampNeg))
              · rw [if_pos c6] at h
                exact ax_cut (pc' := 6) (la := [some (.ref 26), some (.int x1), some (.int x2), some (.int x3), some (.int x4), some (.int x5), some (.int (x6 + (1)))]) [some (.ref 26), some (.int x1), some (.int x2), some (.int x3), some (.int x4), some (.int x5), some (.int (x6 + (1)))] (st' := []) (σ' := s) 8 (And.intro rfl (And.intro rfl (And.intro rfl (And.intro rfl (And.intro rfl (And.intro rfl (And.intro rfl (trivial)))))))) (fun _ hh => (And.intro c5 (And.intro (fun _ => hh) (fun q => absurd c6 q)))) (ih x1 x2 x3 x4 x5 (x6 + (1)) s _ h hk0)
              · rw [if_neg c6] at h
                by_cases c7 : (x6 < 0 ∨ 12 ≤ (x6).toNatClampNeg)
                · rw [if_pos c7] at h; cases h
                · rw [if_neg c7] at h
                  by_cases c8 : (s.2.1 29 (x6).toNatClampNeg) < x2
                  · rw [if_pos c8] at h
                    exact ax_cut (pc' := 6) (la := [some (.ref 26), some (.int x1), some (.int x2), some (.int x3), some (.int x4), some (.int x5), some (.int (x6 + (1)))]) [some (.ref 26), some (.int x1), some (.int x2), some (.int x3), some (.int x4), some (.int x5), some (.int (x6 + (1)))] (st' := []) (σ' := s) 14 (And.intro rfl (And.intro rfl (And.intro rfl (And.intro rfl (And.intro rfl (And.intro rfl (And.intro rfl (trivial)))))))) (fun _ hh => (And.intro c5 (And.intro (fun q => absurd q c6) (fun _ => (And.intro c7 (And.intro (fun _ => hh) (fun q => absurd c8 q))))))) (ih x1 x2 x3 x4 x5 (x6 + (1)) s _ h hk0)
                  · rw [if_neg c8] at h
                    by_cases c9 : (x6 < 0 ∨ 12 ≤ (x6).toNatClampNeg)
                    · rw [if_pos c9] at h; cases h
                    · rw [if_neg c9] at h
                      refine ax_cut (pc' := 63) (la := [some (.ref 26), some (.int x1), some (.int x2), some (.int x3), some (.int x4), some (.int x5), some (.int x6)]) [some (.ref 26), some (.int x1), some (.int x2), some (.int x3), some (.int x4), some (.int x5), some (.int x6)] (st' := [.int (s.2.1 29 (x6).toNatClampNeg)]) (σ' := s) 16 (And.intro rfl (And.intro rfl (And.intro rfl (And.intro rfl (And.intro rfl (And.intro rfl (And.intro rfl (trivial)))))))) (fun _ hh => (And.intro c5 (And.intro (fun q => absurd q c6) (fun _ => (And.intro c7 (And.intro (fun q => absurd q c8) (fun _ => (And.intro c9 hh)))))))) ?_
                      by_cases c10 : (x6 < 0 ∨ 12 ≤ (x6).toNatClampNeg)
                      · rw [if_pos c10] at h; cases h
                      · rw [if_neg c10] at h
                        by_cases c11 : (x2 + x4) < ((s.2.1 29 (x6).toNatClampNeg) + (s.2.1 31 (x6).toNatClampNeg))
                        · rw [if_pos c11] at h
                          exact ax_cut (pc' := 6) (la := [some (.ref 26), some (.int x1), some (.int x2), some (.int x3), some (.int x4), some (.int x5), some (.int (x6 + (1)))]) [some (.ref 26), some (.int x1), some (.int x2), some (.int x3), some (.int x4), some (.int x5), some (.int (x6 + (1)))] (st' := []) (σ' := s) 11 (And.intro rfl (And.intro rfl (And.intro rfl (And.intro rfl (And.intro rfl (And.intro rfl (And.intro rfl (trivial)))))))) (fun _ hh => (And.intro c10 (And.intro (fun _ => hh) (fun q => absurd c11 q)))) (ih x1 x2 x3 x4 x5 (x6 + (1)) s _ h hk0)
                        · rw [if_neg c11] at h
                          cases hz12 : XFi_personBit_26 x6 s with
                          | none => rw [hz12] at h; cases h
                          | some v1 =>
                          rw [hz12] at h
                          dsimp only at h
                          refine ax_cut (pc' := 92) (la := [some (.ref 26), some (.int x1), some (.int x2), some (.int x3), some (.int x4), some (.int (x5 ||| v1)), some (.int (x6 + (1)))]) [some (.ref 26), some (.int x1), some (.int x2), some (.int x3), some (.int x4), some (.int (x5 ||| v1)), some (.int (x6 + (1)))] (st' := []) (σ' := s) 16 (And.intro rfl (And.intro rfl (And.intro rfl (And.intro rfl (And.intro rfl (And.intro rfl (And.intro rfl (trivial)))))))) (fun _ hh => (And.intro c10 (And.intro (fun q => absurd q c11) (fun _ => (Exists.intro (some (.int v1), s) (And.intro (e_XFi_personBit_26 d hz12) hh)))))) ?_
                          exact ax_cut (pc' := 6) (la := [some (.ref 26), some (.int x1), some (.int x2), some (.int x3), some (.int x4), some (.int (x5 ||| v1)), some (.int (x6 + (1)))]) [some (.ref 26), some (.int x1), some (.int x2), some (.int x3), some (.int x4), some (.int (x5 ||| v1)), some (.int (x6 + (1)))] (st' := []) (σ' := s) 1 (And.intro rfl (And.intro rfl (And.intro rfl (And.intro rfl (And.intro rfl (And.intro rfl (And.intro rfl (trivial)))))))) (fun _ hh => hh) (ih x1 x2 x3 x4 (x5 ||| v1) (x6 + (1)) s _ h hk0)
theorem e_XFi_wholeIn_26 (d : Nat) {x1 : Int32} {x2 : Int32} {x3 : Int32} {x4 : Int32} {s : ax_S} {r : Int32} (h : XFi_wholeIn_26 x1 x2 x3 x4 s = some r) : ax_ev true (d + 3) 106 [.ref 26, .int x1, .int x2, .int x3, .int x4] s (some (.int r), s) := by
  refine ⟨Nat.le_of_ble_eq_true rfl, ?_⟩
  show ax_go true none (ax_ev true (d + 2)) ax_m106 0 [some (.ref 26), some (.int x1), some (.int x2), some (.int x3), some (.int x4), none, none] [] s _
  unfold XFi_wholeIn_26 at h
  cases hz1 : XFi_wholeIn_26_l6 70000 x1 x2 x3 x4 (0 : Int32) (0 : Int32) s with
  | none => rw [hz1] at h; cases h
  | some z1 =>
  rw [hz1] at h
  refine ax_cut (pc' := 6) (la := [some (.ref 26), some (.int x1), some (.int x2), some (.int x3), some (.int x4), some (.int (0 : Int32)), some (.int (0 : Int32))]) [some (.ref 26), some (.int x1), some (.int x2), some (.int x3), some (.int x4), some (.int (0 : Int32)), some (.int (0 : Int32))] (st' := []) (σ' := s) 4 (And.intro rfl (And.intro rfl (And.intro rfl (And.intro rfl (And.intro rfl (And.intro rfl (And.intro rfl (trivial)))))))) (fun _ hh => hh) (w_XFi_wholeIn_26_l6 d 70000 x1 x2 x3 x4 (0 : Int32) (0 : Int32) s _ hz1 ?_)
  · intro v2 hq
    subst z1
    dsimp only at h
    have h := Option.some.inj h
    subst r
    exact ax_end 2 rfl
def XCu_wholeInCut_26  (s : ax_S) : Option (Int32) :=
  match XFi_wholeIn_26 (s.2.1 55 1) (s.2.1 55 2) (s.2.1 55 3) (s.2.1 55 4) s with
  | none => none
  | some v1 =>
    some v1
theorem e_XCu_wholeInCut_26 (d : Nat)  {s : ax_S} {r : Int32} (h : XCu_wholeInCut_26 s = some r) : ax_ev true (d + 4) 105 [.ref 55, .ref 26] s (some (.int r), s) := by
  refine ⟨Nat.le_of_ble_eq_true rfl, ?_⟩
  show ax_go true none (ax_ev true (d + 3)) ax_m105 0 [some (.ref 55), some (.ref 26)] [] s _
  unfold XCu_wholeInCut_26 at h
  cases hz1 : XFi_wholeIn_26 (s.2.1 55 1) (s.2.1 55 2) (s.2.1 55 3) (s.2.1 55 4) s with
  | none => rw [hz1] at h; cases h
  | some v1 =>
  rw [hz1] at h
  dsimp only at h
  have h := Option.some.inj h
  subst r
  exact ax_end 11 (Exists.intro (some (.int v1), s) (And.intro (e_XFi_wholeIn_26 d hz1) rfl))
def XSt_paste_25_j26 (x2 : Int32) (y1 : Int32)  (s : ax_S) : Option (Int32) :=
  if y1 = 0 then (
    some (0 : Int32)) else
  match XCu_wholeInCut_26 s with
  | none => none
  | some v1 =>
    some v1
def XSt_paste_25_l71 : Nat → Int32 → Int32 → Int32 → ax_S → Option (ax_S)
  | 0, _, _, _, _ => none
  | n + 1, x2, x3, x4, s =>
    if (4 : Int32) ≤ x4 then (
      some s) else
    if (s.2.1 25 9) = 0 then (
      if ((x3 + x4) < 0 ∨ 180 ≤ ((x3 + x4)).toNatClampNeg) then none else
      XSt_paste_25_l71 n x2 x3 (x4 + (1)) (ax_sI s 35 ((x3 + x4)).toNatClampNeg (0 : Int32))) else
    if ((x3 + x4) < 0 ∨ 180 ≤ ((x3 + x4)).toNatClampNeg) then none else
    XSt_paste_25_l71 n x2 x3 (x4 + (1)) (ax_sI s 35 ((x3 + x4)).toNatClampNeg (XCu_part x4 s))
def XSt_paste_25_j53 (x2 : Int32) (x3 : Int32) (y0 : Int32)  (s : ax_S) : Option (ax_S) :=
  if y0 < 0 then (
    some s) else
  if (180 : Int32) < (x3 + (6 : Int32)) then (
    some s) else
  match XSt_paste_25_l71 70000 x2 x3 (0 : Int32) s with
  | none => none
  | some s3 =>
    if ((x3 + (4 : Int32)) < 0 ∨ 180 ≤ ((x3 + (4 : Int32))).toNatClampNeg) then none else
    if x2 = 0 then (
      if ((x3 + (5 : Int32)) < 0 ∨ 180 ≤ ((x3 + (5 : Int32))).toNatClampNeg) then none else
      some (ax_sI (ax_sI s3 35 ((x3 + (4 : Int32))).toNatClampNeg (s3.2.1 25 10)) 35 ((x3 + (5 : Int32))).toNatClampNeg (0 : Int32))) else
    if ((x3 + (5 : Int32)) < 0 ∨ 180 ≤ ((x3 + (5 : Int32))).toNatClampNeg) then none else
    some (ax_sI (ax_sI s3 35 ((x3 + (4 : Int32))).toNatClampNeg (s3.2.1 25 10)) 35 ((x3 + (5 : Int32))).toNatClampNeg (1 : Int32))
def XSt_paste_25_l151 : Nat → Int32 → ax_S → Option (ax_S)
  | 0, _, _ => none
  | n + 1, x4, s =>
    if (16 : Int32) ≤ x4 then (
      some s) else
    if (((s.2.1 25 10) >>> (x4 &&& 31)) &&& (1 : Int32)) = (1 : Int32) then (
      if (x4 < 0 ∨ 16 ≤ (x4).toNatClampNeg) then none else
      if (x4 < 0 ∨ 16 ≤ (x4).toNatClampNeg) then none else
      if (x4 < 0 ∨ 16 ≤ (x4).toNatClampNeg) then none else
      XSt_paste_25_l151 n (x4 + (1)) (ax_sI (ax_sI s 33 (x4).toNatClampNeg ((s.2.1 33 (x4).toNatClampNeg) + (1 : Int32))) 34 (x4).toNatClampNeg (s.2.1 25 5))) else
    XSt_paste_25_l151 n (x4 + (1)) s
def XSt_paste_25 (x2 : Int32)  (s : ax_S) : Option (ax_S) :=
  match XSt_paste_25_j26 x2 (XCu_cells s) (ax_sI (ax_sI s 25 9 (XCu_cells s)) 25 7 ((s.2.1 25 7) + (XCu_cells s))) with
  | none => none
  | some v2 =>
    match XSt_paste_25_j53 x2 (XSt_cutPlace (s.2.1 25 5) (ax_sI (ax_sI (ax_sI s 25 9 (XCu_cells s)) 25 7 ((s.2.1 25 7) + (XCu_cells s))) 25 10 v2)) (XSt_cutPlace (s.2.1 25 5) (ax_sI (ax_sI (ax_sI s 25 9 (XCu_cells s)) 25 7 ((s.2.1 25 7) + (XCu_cells s))) 25 10 v2)) (ax_sI (ax_sI (ax_sI s 25 9 (XCu_cells s)) 25 7 ((s.2.1 25 7) + (XCu_cells s))) 25 10 v2) with
    | none => none
    | some s4 =>
      match XSt_paste_25_l151 70000 (0 : Int32) (ax_sI s4 25 5 ((s4.2.1 25 5) + (1 : Int32))) with
      | none => none
      | some s5 =>
        some s5
theorem w_XSt_paste_25_j26 (d : Nat) {o : ax_O} (x2 : Int32) (y1 : Int32) (s : ax_S) (r : Int32) (h : XSt_paste_25_j26 x2 y1 s = some r) (hk0 : ∀ (t0 : Int32), r = t0 → ax_go true none (ax_ev true (d + 4)) ax_m104 41 [some (.ref 25), some (.ref 55), some (.int x2), none, none] [.int t0, .ref 25] s o) : ax_go true none (ax_ev true (d + 4)) ax_m104 26 [some (.ref 25), some (.ref 55), some (.int x2), none, none] [.int y1, .ref 25] s o := by
  unfold XSt_paste_25_j26 at h
  by_cases c1 : y1 = 0
  · rw [if_pos c1] at h
    have h := Option.some.inj h
    subst r
    exact ax_cut (pc' := 41) (la := [some (.ref 25), some (.ref 55), some (.int x2), none, none]) [some (.ref 25), some (.ref 55), some (.int x2), none, none] (st' := [.int (0 : Int32), .ref 25]) (σ' := s) 3 (And.intro rfl (And.intro rfl (And.intro rfl (trivial)))) (fun _ hh => (And.intro (fun q => absurd c1 q) (fun _ => hh))) (hk0 _ rfl)
  · rw [if_neg c1] at h
    cases hz2 : XCu_wholeInCut_26 s with
    | none => rw [hz2] at h; cases h
    | some v1 =>
    rw [hz2] at h
    dsimp only at h
    have h := Option.some.inj h
    subst r
    exact ax_cut (pc' := 41) (la := [some (.ref 25), some (.ref 55), some (.int x2), none, none]) [some (.ref 25), some (.ref 55), some (.int x2), none, none] (st' := [.int v1, .ref 25]) (σ' := s) 5 (And.intro rfl (And.intro rfl (And.intro rfl (trivial)))) (fun _ hh => (And.intro (fun _ => (Exists.intro (some (.int v1), s) (And.intro (e_XCu_wholeInCut_26 d hz2) hh))) (fun q => absurd c1 q))) (hk0 _ rfl)
theorem w_XSt_paste_25_l71 (d : Nat) {o : ax_O} : ∀ (n : Nat) (x2 : Int32) (x3 : Int32) (x4 : Int32) (s : ax_S) (r : ax_S) (h : XSt_paste_25_l71 n x2 x3 x4 s = some r) (hk0 : ∀ (t0 : ax_S), r = t0 → ax_go true none (ax_ev true (d + 4)) ax_m104 109 [some (.ref 25), none, some (.int x2), some (.int x3), none] [] t0 o), ax_go true none (ax_ev true (d + 4)) ax_m104 71 [some (.ref 25), some (.ref 55), some (.int x2), some (.int x3), some (.int x4)] [] s o := by
  intro n
  induction n with
  | zero => intro x2 x3 x4 s r h hk0; cases h
  | succ n ih =>
    intro x2 x3 x4 s r h hk0
    rw [XSt_paste_25_l71] at h
    by_cases c1 : (4 : Int32) ≤ x4
    · rw [if_pos c1] at h
      have h := Option.some.inj h
      subst r
      exact ax_cut (pc' := 109) (la := [some (.ref 25), some (.ref 55), some (.int x2), some (.int x3), some (.int x4)]) [some (.ref 25), none, some (.int x2), some (.int x3), none] (st' := []) (σ' := s) 3 (And.intro rfl (And.intro rfl (And.intro rfl (trivial)))) (fun _ hh => (And.intro (fun _ => hh) (fun q => absurd c1 q))) (hk0 _ rfl)
    · rw [if_neg c1] at h
      by_cases c2 : (s.2.1 25 9) = 0
      · rw [if_pos c2] at h
        by_cases c3 : ((x3 + x4) < 0 ∨ 180 ≤ ((x3 + x4)).toNatClampNeg)
        · rw [if_pos c3] at h; cases h
        · rw [if_neg c3] at h
          exact ax_cut (pc' := 71) (la := [some (.ref 25), some (.ref 55), some (.int x2), some (.int x3), some (.int (x4 + (1)))]) [some (.ref 25), some (.ref 55), some (.int x2), some (.int x3), some (.int (x4 + (1)))] (st' := []) (σ' := (ax_sI s 35 ((x3 + x4)).toNatClampNeg (0 : Int32))) 16 (And.intro rfl (And.intro rfl (And.intro rfl (And.intro rfl (And.intro rfl (trivial)))))) (fun _ hh => (And.intro (fun q => absurd q c1) (fun _ => (And.intro (fun q => absurd c2 q) (fun _ => (And.intro c3 hh)))))) (ih x2 x3 (x4 + (1)) (ax_sI s 35 ((x3 + x4)).toNatClampNeg (0 : Int32)) _ h hk0)
      · rw [if_neg c2] at h
        by_cases c4 : ((x3 + x4) < 0 ∨ 180 ≤ ((x3 + x4)).toNatClampNeg)
        · rw [if_pos c4] at h; cases h
        · rw [if_neg c4] at h
          refine ax_cut (pc' := 106) (la := [some (.ref 25), some (.ref 55), some (.int x2), some (.int x3), some (.int (x4 + (1)))]) [some (.ref 25), some (.ref 55), some (.int x2), some (.int x3), some (.int (x4 + (1)))] (st' := []) (σ' := (ax_sI s 35 ((x3 + x4)).toNatClampNeg (XCu_part x4 s))) 16 (And.intro rfl (And.intro rfl (And.intro rfl (And.intro rfl (And.intro rfl (trivial)))))) (fun _ hh => (And.intro (fun q => absurd q c1) (fun _ => (And.intro (fun _ => (Exists.intro (some (.int (XCu_part x4 s)), s) (And.intro (e_XCu_part (d + 2) x4 s) (And.intro c4 hh)))) (fun q => absurd c2 q))))) ?_
          exact ax_cut (pc' := 71) (la := [some (.ref 25), some (.ref 55), some (.int x2), some (.int x3), some (.int (x4 + (1)))]) [some (.ref 25), some (.ref 55), some (.int x2), some (.int x3), some (.int (x4 + (1)))] (st' := []) (σ' := (ax_sI s 35 ((x3 + x4)).toNatClampNeg (XCu_part x4 s))) 1 (And.intro rfl (And.intro rfl (And.intro rfl (And.intro rfl (And.intro rfl (trivial)))))) (fun _ hh => hh) (ih x2 x3 (x4 + (1)) (ax_sI s 35 ((x3 + x4)).toNatClampNeg (XCu_part x4 s)) _ h hk0)
theorem w_XSt_paste_25_j53 (d : Nat) {o : ax_O} (x2 : Int32) (x3 : Int32) (y0 : Int32) (s : ax_S) (r : ax_S) (h : XSt_paste_25_j53 x2 x3 y0 s = some r) (hk0 : ∀ (t0 : ax_S), r = t0 → ax_go true none (ax_ev true (d + 4)) ax_m104 138 [some (.ref 25), none, none, none, none] [] t0 o) : ax_go true none (ax_ev true (d + 4)) ax_m104 53 [some (.ref 25), some (.ref 55), some (.int x2), some (.int x3), none] [.int y0] s o := by
  unfold XSt_paste_25_j53 at h
  by_cases c1 : y0 < 0
  · rw [if_pos c1] at h
    have h := Option.some.inj h
    subst r
    exact ax_cut (pc' := 138) (la := [some (.ref 25), some (.ref 55), some (.int x2), some (.int x3), none]) [some (.ref 25), none, none, none, none] (st' := []) (σ' := s) 1 (And.intro rfl (trivial)) (fun _ hh => (And.intro (fun _ => hh) (fun q => absurd c1 q))) (hk0 _ rfl)
  · rw [if_neg c1] at h
    by_cases c2 : (180 : Int32) < (x3 + (6 : Int32))
    · rw [if_pos c2] at h
      have h := Option.some.inj h
      subst r
      exact ax_cut (pc' := 138) (la := [some (.ref 25), some (.ref 55), some (.int x2), some (.int x3), none]) [some (.ref 25), none, none, none, none] (st' := []) (σ' := s) 8 (And.intro rfl (trivial)) (fun _ hh => (And.intro (fun q => absurd q c1) (fun _ => (And.intro (fun _ => hh) (fun q => absurd c2 q))))) (hk0 _ rfl)
    · rw [if_neg c2] at h
      cases hz3 : XSt_paste_25_l71 70000 x2 x3 (0 : Int32) s with
      | none => rw [hz3] at h; cases h
      | some z3 =>
      rw [hz3] at h
      refine ax_cut (pc' := 71) (la := [some (.ref 25), some (.ref 55), some (.int x2), some (.int x3), some (.int (0 : Int32))]) [some (.ref 25), some (.ref 55), some (.int x2), some (.int x3), some (.int (0 : Int32))] (st' := []) (σ' := s) 10 (And.intro rfl (And.intro rfl (And.intro rfl (And.intro rfl (And.intro rfl (trivial)))))) (fun _ hh => (And.intro (fun q => absurd q c1) (fun _ => (And.intro (fun q => absurd q c2) (fun _ => hh))))) (w_XSt_paste_25_l71 d 70000 x2 x3 (0 : Int32) s _ hz3 ?_)
      · intro s3 hq
        subst z3
        dsimp only at h
        by_cases c4 : ((x3 + (4 : Int32)) < 0 ∨ 180 ≤ ((x3 + (4 : Int32))).toNatClampNeg)
        · rw [if_pos c4] at h; cases h
        · rw [if_neg c4] at h
          by_cases c5 : x2 = 0
          · rw [if_pos c5] at h
            refine ax_cut (pc' := 137) (la := [some (.ref 25), none, some (.int x2), some (.int x3), none]) [some (.ref 25), none, none, none, none] (st' := [.int (0 : Int32), .int (x3 + (5 : Int32)), .ref 35]) (σ' := (ax_sI s3 35 ((x3 + (4 : Int32))).toNatClampNeg (s3.2.1 25 10))) 16 (And.intro rfl (trivial)) (fun _ hh => (And.intro c4 (And.intro (fun _ => hh) (fun q => absurd c5 q)))) ?_
            by_cases c6 : ((x3 + (5 : Int32)) < 0 ∨ 180 ≤ ((x3 + (5 : Int32))).toNatClampNeg)
            · rw [if_pos c6] at h; cases h
            · rw [if_neg c6] at h
              have h := Option.some.inj h
              subst r
              exact ax_cut (pc' := 138) (la := [some (.ref 25), none, none, none, none]) [some (.ref 25), none, none, none, none] (st' := []) (σ' := (ax_sI (ax_sI s3 35 ((x3 + (4 : Int32))).toNatClampNeg (s3.2.1 25 10)) 35 ((x3 + (5 : Int32))).toNatClampNeg (0 : Int32))) 1 (And.intro rfl (trivial)) (fun _ hh => (And.intro c6 hh)) (hk0 _ rfl)
          · rw [if_neg c5] at h
            refine ax_cut (pc' := 133) (la := [some (.ref 25), none, some (.int x2), some (.int x3), none]) [some (.ref 25), none, none, none, none] (st' := [.int (1 : Int32), .int (x3 + (5 : Int32)), .ref 35]) (σ' := (ax_sI s3 35 ((x3 + (4 : Int32))).toNatClampNeg (s3.2.1 25 10))) 16 (And.intro rfl (trivial)) (fun _ hh => (And.intro c4 (And.intro (fun q => absurd q c5) (fun _ => hh)))) ?_
            by_cases c7 : ((x3 + (5 : Int32)) < 0 ∨ 180 ≤ ((x3 + (5 : Int32))).toNatClampNeg)
            · rw [if_pos c7] at h; cases h
            · rw [if_neg c7] at h
              have h := Option.some.inj h
              subst r
              exact ax_cut (pc' := 138) (la := [some (.ref 25), none, none, none, none]) [some (.ref 25), none, none, none, none] (st' := []) (σ' := (ax_sI (ax_sI s3 35 ((x3 + (4 : Int32))).toNatClampNeg (s3.2.1 25 10)) 35 ((x3 + (5 : Int32))).toNatClampNeg (1 : Int32))) 2 (And.intro rfl (trivial)) (fun _ hh => (And.intro c7 hh)) (hk0 _ rfl)
theorem w_XSt_paste_25_l151 (d : Nat) {o : ax_O} : ∀ (n : Nat) (x4 : Int32) (s : ax_S) (r : ax_S) (h : XSt_paste_25_l151 n x4 s = some r) (hk0 : ∀ (t0 : ax_S), r = t0 → ax_go true none (ax_ev true (d + 4)) ax_m104 199 [none, none, none, none, none] [] t0 o), ax_go true none (ax_ev true (d + 4)) ax_m104 151 [some (.ref 25), none, none, none, some (.int x4)] [] s o := by
  intro n
  induction n with
  | zero => intro x4 s r h hk0; cases h
  | succ n ih =>
    intro x4 s r h hk0
    rw [XSt_paste_25_l151] at h
    by_cases c1 : (16 : Int32) ≤ x4
    · rw [if_pos c1] at h
      have h := Option.some.inj h
      subst r
      exact ax_cut (pc' := 199) (la := [some (.ref 25), none, none, none, some (.int x4)]) [none, none, none, none, none] (st' := []) (σ' := s) 3 (trivial) (fun _ hh => (And.intro (fun _ => hh) (fun q => absurd c1 q))) (hk0 _ rfl)
    · rw [if_neg c1] at h
      by_cases c2 : (((s.2.1 25 10) >>> (x4 &&& 31)) &&& (1 : Int32)) = (1 : Int32)
      · rw [if_pos c2] at h
        by_cases c3 : (x4 < 0 ∨ 16 ≤ (x4).toNatClampNeg)
        · rw [if_pos c3] at h; cases h
        · rw [if_neg c3] at h
          refine ax_cut (pc' := 179) (la := [some (.ref 25), none, none, none, some (.int x4)]) [some (.ref 25), none, none, none, some (.int x4)] (st' := [.int (s.2.1 33 (x4).toNatClampNeg), .int x4, .ref 33]) (σ' := s) 16 (And.intro rfl (And.intro rfl (trivial))) (fun _ hh => (And.intro (fun q => absurd q c1) (fun _ => (And.intro (fun q => absurd c2 q) (fun _ => (And.intro c3 hh)))))) ?_
          by_cases c4 : (x4 < 0 ∨ 16 ≤ (x4).toNatClampNeg)
          · rw [if_pos c4] at h; cases h
          · rw [if_neg c4] at h
            by_cases c5 : (x4 < 0 ∨ 16 ≤ (x4).toNatClampNeg)
            · rw [if_pos c5] at h; cases h
            · rw [if_neg c5] at h
              exact ax_cut (pc' := 151) (la := [some (.ref 25), none, none, none, some (.int (x4 + (1)))]) [some (.ref 25), none, none, none, some (.int (x4 + (1)))] (st' := []) (σ' := (ax_sI (ax_sI s 33 (x4).toNatClampNeg ((s.2.1 33 (x4).toNatClampNeg) + (1 : Int32))) 34 (x4).toNatClampNeg (s.2.1 25 5))) 11 (And.intro rfl (And.intro rfl (trivial))) (fun _ hh => (And.intro c4 (And.intro c5 hh))) (ih (x4 + (1)) (ax_sI (ax_sI s 33 (x4).toNatClampNeg ((s.2.1 33 (x4).toNatClampNeg) + (1 : Int32))) 34 (x4).toNatClampNeg (s.2.1 25 5)) _ h hk0)
      · rw [if_neg c2] at h
        exact ax_cut (pc' := 151) (la := [some (.ref 25), none, none, none, some (.int (x4 + (1)))]) [some (.ref 25), none, none, none, some (.int (x4 + (1)))] (st' := []) (σ' := s) 13 (And.intro rfl (And.intro rfl (trivial))) (fun _ hh => (And.intro (fun q => absurd q c1) (fun _ => (And.intro (fun _ => hh) (fun q => absurd c2 q))))) (ih (x4 + (1)) s _ h hk0)
theorem e_XSt_paste_25 (d : Nat) {x2 : Int32} {s : ax_S} {r : ax_S} (h : XSt_paste_25 x2 s = some r) : ax_ev true (d + 5) 104 [.ref 25, .ref 55, .int x2] s (none, r) := by
  refine ⟨Nat.le_of_ble_eq_true rfl, ?_⟩
  show ax_go true none (ax_ev true (d + 4)) ax_m104 0 [some (.ref 25), some (.ref 55), some (.int x2), none, none] [] s _
  unfold XSt_paste_25 at h
  cases hz1 : XSt_paste_25_j26 x2 (XCu_cells s) (ax_sI (ax_sI s 25 9 (XCu_cells s)) 25 7 ((s.2.1 25 7) + (XCu_cells s))) with
  | none => rw [hz1] at h; cases h
  | some z1 =>
  rw [hz1] at h
  refine ax_cut (pc' := 26) (la := [some (.ref 25), some (.ref 55), some (.int x2), none, none]) [some (.ref 25), some (.ref 55), some (.int x2), none, none] (st' := [.int (XCu_cells s), .ref 25]) (σ' := (ax_sI (ax_sI s 25 9 (XCu_cells s)) 25 7 ((s.2.1 25 7) + (XCu_cells s)))) 14 (And.intro rfl (And.intro rfl (And.intro rfl (trivial)))) (fun _ hh => (Exists.intro (some (.int (XCu_cells s)), s) (And.intro (e_XCu_cells (d + 3)  s) hh))) (w_XSt_paste_25_j26 d x2 (XCu_cells s) (ax_sI (ax_sI s 25 9 (XCu_cells s)) 25 7 ((s.2.1 25 7) + (XCu_cells s))) _ hz1 ?_)
  · intro v2 hq
    subst z1
    dsimp only at h
    cases hz2 : XSt_paste_25_j53 x2 (XSt_cutPlace (s.2.1 25 5) (ax_sI (ax_sI (ax_sI s 25 9 (XCu_cells s)) 25 7 ((s.2.1 25 7) + (XCu_cells s))) 25 10 v2)) (XSt_cutPlace (s.2.1 25 5) (ax_sI (ax_sI (ax_sI s 25 9 (XCu_cells s)) 25 7 ((s.2.1 25 7) + (XCu_cells s))) 25 10 v2)) (ax_sI (ax_sI (ax_sI s 25 9 (XCu_cells s)) 25 7 ((s.2.1 25 7) + (XCu_cells s))) 25 10 v2) with
    | none => rw [hz2] at h; cases h
    | some z2 =>
    rw [hz2] at h
    refine ax_cut (pc' := 53) (la := [some (.ref 25), some (.ref 55), some (.int x2), some (.int (XSt_cutPlace (s.2.1 25 5) (ax_sI (ax_sI (ax_sI s 25 9 (XCu_cells s)) 25 7 ((s.2.1 25 7) + (XCu_cells s))) 25 10 v2))), none]) [some (.ref 25), some (.ref 55), some (.int x2), some (.int (XSt_cutPlace (s.2.1 25 5) (ax_sI (ax_sI (ax_sI s 25 9 (XCu_cells s)) 25 7 ((s.2.1 25 7) + (XCu_cells s))) 25 10 v2))), none] (st' := [.int (XSt_cutPlace (s.2.1 25 5) (ax_sI (ax_sI (ax_sI s 25 9 (XCu_cells s)) 25 7 ((s.2.1 25 7) + (XCu_cells s))) 25 10 v2))]) (σ' := (ax_sI (ax_sI (ax_sI s 25 9 (XCu_cells s)) 25 7 ((s.2.1 25 7) + (XCu_cells s))) 25 10 v2)) 6 (And.intro rfl (And.intro rfl (And.intro rfl (And.intro rfl (trivial))))) (fun _ hh => (Exists.intro (some (.int (XSt_cutPlace (s.2.1 25 5) (ax_sI (ax_sI (ax_sI s 25 9 (XCu_cells s)) 25 7 ((s.2.1 25 7) + (XCu_cells s))) 25 10 v2))), (ax_sI (ax_sI (ax_sI s 25 9 (XCu_cells s)) 25 7 ((s.2.1 25 7) + (XCu_cells s))) 25 10 v2)) (And.intro (e_XSt_cutPlace (d + 3) (s.2.1 25 5) (ax_sI (ax_sI (ax_sI s 25 9 (XCu_cells s)) 25 7 ((s.2.1 25 7) + (XCu_cells s))) 25 10 v2)) hh))) (w_XSt_paste_25_j53 d x2 (XSt_cutPlace (s.2.1 25 5) (ax_sI (ax_sI (ax_sI s 25 9 (XCu_cells s)) 25 7 ((s.2.1 25 7) + (XCu_cells s))) 25 10 v2)) (XSt_cutPlace (s.2.1 25 5) (ax_sI (ax_sI (ax_sI s 25 9 (XCu_cells s)) 25 7 ((s.2.1 25 7) + (XCu_cells s))) 25 10 v2)) (ax_sI (ax_sI (ax_sI s 25 9 (XCu_cells s)) 25 7 ((s.2.1 25 7) + (XCu_cells s))) 25 10 v2) _ hz2 ?_)
    · intro s4 hq
      subst z2
      dsimp only at h
      cases hz3 : XSt_paste_25_l151 70000 (0 : Int32) (ax_sI s4 25 5 ((s4.2.1 25 5) + (1 : Int32))) with
      | none => rw [hz3] at h; cases h
      | some z3 =>
      rw [hz3] at h
      refine ax_cut (pc' := 151) (la := [some (.ref 25), none, none, none, some (.int (0 : Int32))]) [some (.ref 25), none, none, none, some (.int (0 : Int32))] (st' := []) (σ' := (ax_sI s4 25 5 ((s4.2.1 25 5) + (1 : Int32)))) 8 (And.intro rfl (And.intro rfl (trivial))) (fun _ hh => hh) (w_XSt_paste_25_l151 d 70000 (0 : Int32) (ax_sI s4 25 5 ((s4.2.1 25 5) + (1 : Int32))) _ hz3 ?_)
      · intro s5 hq
        subst z3
        dsimp only at h
        have h := Option.some.inj h
        subst r
        exact ax_end 1 rfl
def XSt_live_25_36_j84 (x1 : Int32) (x3 : Int32) (x5 : Int32) (x6 : Int32) (y0 : Int32)  (s : ax_S) : ax_S :=
  if y0 = 0 then (
    s) else
  (XCu_loseTopRow s)
def XSt_live_25_36_l23 : Nat → Int32 → Int32 → Int32 → ax_S → Option (ax_S)
  | 0, _, _, _, _ => none
  | n + 1, x1, x3, x5, s =>
    if x1 ≤ x5 then (
      some s) else
    if (9999 : Int32) ≤ (s.2.1 25 5) then (
      some s) else
    match XSt_changePain_25_36 (XLa_setDay_36 ((s.2.1 25 5) - (s.2.1 25 5) / (100 : Int32) * (100 : Int32)) s) with
    | none => none
    | some s1 =>
      match XSt_painfulAbove_25 x3 s1 with
      | none => none
      | some v2 =>
        match XSt_leftOut_25_36 s1 with
        | none => none
        | some (v3, s4) =>
          match XCu_cutWithout_26 (v2 ||| v3) s4 with
          | none => none
          | some s5 =>
            match XSt_slip_25_36 s5 with
            | none => none
            | some (v6, s7) =>
              match XSt_paste_25 v6 (XSt_live_25_36_j84 x1 x3 x5 v6 v6 s7) with
              | none => none
              | some s9 =>
                XSt_live_25_36_l23 n x1 x3 (x5 + (1)) s9
def XSt_live_25_36 (x1 : Int32) (x3 : Int32)  (s : ax_S) : Option (ax_S) :=
  match XSt_live_25_36_l23 70000 x1 x3 (0 : Int32) (ax_sI (ax_sI (ax_sI (ax_sI s 25 7 (0 : Int32)) 25 8 (0 : Int32)) 25 9 (0 : Int32)) 25 10 (0 : Int32)) with
  | none => none
  | some s10 =>
    some s10
theorem w_XSt_live_25_36_j84 (d : Nat) {o : ax_O} (x1 : Int32) (x3 : Int32) (x5 : Int32) (x6 : Int32) (y0 : Int32) (s : ax_S) (r : ax_S) (h : XSt_live_25_36_j84 x1 x3 x5 x6 y0 s = r) (hk0 : ∀ (t0 : ax_S), r = t0 → ax_go true none (ax_ev true (d + 5)) ax_m78 92 [some (.ref 25), some (.int x1), some (.ref 36), some (.int x3), some (.ref 55), some (.int x5), some (.int x6)] [] t0 o) : ax_go true none (ax_ev true (d + 5)) ax_m78 84 [some (.ref 25), some (.int x1), some (.ref 36), some (.int x3), some (.ref 55), some (.int x5), some (.int x6)] [.int y0] s o := by
  unfold XSt_live_25_36_j84 at h
  by_cases c1 : y0 = 0
  · rw [if_pos c1] at h
    have h := h
    subst r
    exact ax_cut (pc' := 92) (la := [some (.ref 25), some (.int x1), some (.ref 36), some (.int x3), some (.ref 55), some (.int x5), some (.int x6)]) [some (.ref 25), some (.int x1), some (.ref 36), some (.int x3), some (.ref 55), some (.int x5), some (.int x6)] (st' := []) (σ' := s) 1 (And.intro rfl (And.intro rfl (And.intro rfl (And.intro rfl (And.intro rfl (And.intro rfl (And.intro rfl (trivial)))))))) (fun _ hh => (And.intro (fun _ => hh) (fun q => absurd c1 q))) (hk0 _ rfl)
  · rw [if_neg c1] at h
    have h := h
    subst r
    exact ax_cut (pc' := 92) (la := [some (.ref 25), some (.int x1), some (.ref 36), some (.int x3), some (.ref 55), some (.int x5), some (.int x6)]) [some (.ref 25), some (.int x1), some (.ref 36), some (.int x3), some (.ref 55), some (.int x5), some (.int x6)] (st' := []) (σ' := (XCu_loseTopRow s)) 3 (And.intro rfl (And.intro rfl (And.intro rfl (And.intro rfl (And.intro rfl (And.intro rfl (And.intro rfl (trivial)))))))) (fun _ hh => (And.intro (fun q => absurd q c1) (fun _ => (Exists.intro (none, (XCu_loseTopRow s)) (And.intro (e_XCu_loseTopRow (d + 4)  s) hh))))) (hk0 _ rfl)
theorem w_XSt_live_25_36_l23 (d : Nat) {o : ax_O} : ∀ (n : Nat) (x1 : Int32) (x3 : Int32) (x5 : Int32) (s : ax_S) (r : ax_S) (h : XSt_live_25_36_l23 n x1 x3 x5 s = some r) (hk0 : ∀ (t0 : ax_S), r = t0 → ax_go true none (ax_ev true (d + 5)) ax_m78 106 [none, none, none, none, none, none, none] [] t0 o), ax_go true none (ax_ev true (d + 5)) ax_m78 23 [some (.ref 25), some (.int x1), some (.ref 36), some (.int x3), some (.ref 55), some (.int x5), none] [] s o := by
  intro n
  induction n with
  | zero => intro x1 x3 x5 s r h hk0; cases h
  | succ n ih =>
    intro x1 x3 x5 s r h hk0
    rw [XSt_live_25_36_l23] at h
    by_cases c1 : x1 ≤ x5
    · rw [if_pos c1] at h
      have h := Option.some.inj h
      subst r
      exact ax_cut (pc' := 106) (la := [some (.ref 25), some (.int x1), some (.ref 36), some (.int x3), some (.ref 55), some (.int x5), none]) [none, none, none, none, none, none, none] (st' := []) (σ' := s) 3 (trivial) (fun _ hh => (And.intro (fun _ => hh) (fun q => absurd c1 q))) (hk0 _ rfl)
    · rw [if_neg c1] at h
      by_cases c2 : (9999 : Int32) ≤ (s.2.1 25 5)
      · rw [if_pos c2] at h
        have h := Option.some.inj h
        subst r
        exact ax_cut (pc' := 106) (la := [some (.ref 25), some (.int x1), some (.ref 36), some (.int x3), some (.ref 55), some (.int x5), none]) [none, none, none, none, none, none, none] (st' := []) (σ' := s) 7 (trivial) (fun _ hh => (And.intro (fun q => absurd q c1) (fun _ => (And.intro (fun _ => hh) (fun q => absurd c2 q))))) (hk0 _ rfl)
      · rw [if_neg c2] at h
        cases hz3 : XSt_changePain_25_36 (XLa_setDay_36 ((s.2.1 25 5) - (s.2.1 25 5) / (100 : Int32) * (100 : Int32)) s) with
        | none => rw [hz3] at h; cases h
        | some s1 =>
        rw [hz3] at h
        dsimp only at h
        refine ax_cut (pc' := 55) (la := [some (.ref 25), some (.int x1), some (.ref 36), some (.int x3), some (.ref 55), some (.int x5), none]) [some (.ref 25), some (.int x1), some (.ref 36), some (.int x3), some (.ref 55), some (.int x5), none] (st' := []) (σ' := s1) 16 (And.intro rfl (And.intro rfl (And.intro rfl (And.intro rfl (And.intro rfl (And.intro rfl (trivial))))))) (fun _ hh => (And.intro (fun q => absurd q c1) (fun _ => (And.intro (fun q => absurd q c2) (fun _ => (And.intro (show ¬ (100 : Int32) = 0 by decide) (Exists.intro (none, (XLa_setDay_36 ((s.2.1 25 5) - (s.2.1 25 5) / (100 : Int32) * (100 : Int32)) s)) (And.intro (e_XLa_setDay_36 (d + 4) ((s.2.1 25 5) - (s.2.1 25 5) / (100 : Int32) * (100 : Int32)) s) (Exists.intro (none, s1) (And.intro (e_XSt_changePain_25_36 d hz3) hh)))))))))) ?_
        cases hz4 : XSt_painfulAbove_25 x3 s1 with
        | none => rw [hz4] at h; cases h
        | some v2 =>
        rw [hz4] at h
        dsimp only at h
        cases hz5 : XSt_leftOut_25_36 s1 with
        | none => rw [hz5] at h; cases h
        | some z5 =>
        rw [hz5] at h
        obtain ⟨v3, s4⟩ := z5
        dsimp only at h
        cases hz6 : XCu_cutWithout_26 (v2 ||| v3) s4 with
        | none => rw [hz6] at h; cases h
        | some s5 =>
        rw [hz6] at h
        dsimp only at h
        cases hz7 : XSt_slip_25_36 s5 with
        | none => rw [hz7] at h; cases h
        | some z7 =>
        rw [hz7] at h
        obtain ⟨v6, s7⟩ := z7
        dsimp only at h
        refine ax_cut (pc' := 84) (la := [some (.ref 25), some (.int x1), some (.ref 36), some (.int x3), some (.ref 55), some (.int x5), some (.int v6)]) [some (.ref 25), some (.int x1), some (.ref 36), some (.int x3), some (.ref 55), some (.int x5), some (.int v6)] (st' := [.int v6]) (σ' := s7) 16 (And.intro rfl (And.intro rfl (And.intro rfl (And.intro rfl (And.intro rfl (And.intro rfl (And.intro rfl (trivial)))))))) (fun _ hh => (Exists.intro (some (.int v2), s1) (And.intro (e_XSt_painfulAbove_25 (d + 4) hz4) (Exists.intro (some (.int v3), s4) (And.intro (e_XSt_leftOut_25_36 d hz5) (Exists.intro (none, s5) (And.intro (e_XCu_cutWithout_26 (d + 1) hz6) (Exists.intro (some (.int v6), s7) (And.intro (e_XSt_slip_25_36 d hz7) hh))))))))) (w_XSt_live_25_36_j84 d x1 x3 x5 v6 v6 s7 _ rfl (fun s8 hq => ?_))
        obtain rfl : s8 = (XSt_live_25_36_j84 x1 x3 x5 v6 v6 s7) := hq.symm
        cases hz8 : XSt_paste_25 v6 (XSt_live_25_36_j84 x1 x3 x5 v6 v6 s7) with
        | none => rw [hz8] at h; cases h
        | some s9 =>
        rw [hz8] at h
        dsimp only at h
        exact ax_cut (pc' := 23) (la := [some (.ref 25), some (.int x1), some (.ref 36), some (.int x3), some (.ref 55), some (.int (x5 + (1))), some (.int v6)]) [some (.ref 25), some (.int x1), some (.ref 36), some (.int x3), some (.ref 55), some (.int (x5 + (1))), none] (st' := []) (σ' := s9) 6 (And.intro rfl (And.intro rfl (And.intro rfl (And.intro rfl (And.intro rfl (And.intro rfl (trivial))))))) (fun _ hh => (Exists.intro (none, s9) (And.intro (e_XSt_paste_25 d hz8) hh))) (ih x1 x3 (x5 + (1)) s9 _ h hk0)
theorem e_XSt_live_25_36 (d : Nat) {x1 : Int32} {x3 : Int32} {s : ax_S} {r : ax_S} (h : XSt_live_25_36 x1 x3 s = some r) : ax_ev true (d + 6) 78 [.ref 25, .int x1, .ref 36, .int x3, .ref 55] s (none, r) := by
  refine ⟨Nat.le_of_ble_eq_true rfl, ?_⟩
  show ax_go true none (ax_ev true (d + 5)) ax_m78 0 [some (.ref 25), some (.int x1), some (.ref 36), some (.int x3), some (.ref 55), none, none] [] s _
  unfold XSt_live_25_36 at h
  cases hz1 : XSt_live_25_36_l23 70000 x1 x3 (0 : Int32) (ax_sI (ax_sI (ax_sI (ax_sI s 25 7 (0 : Int32)) 25 8 (0 : Int32)) 25 9 (0 : Int32)) 25 10 (0 : Int32)) with
  | none => rw [hz1] at h; cases h
  | some z1 =>
  rw [hz1] at h
  refine ax_cut (pc' := 23) (la := [some (.ref 25), some (.int x1), some (.ref 36), some (.int x3), some (.ref 55), some (.int (0 : Int32)), none]) [some (.ref 25), some (.int x1), some (.ref 36), some (.int x3), some (.ref 55), some (.int (0 : Int32)), none] (st' := []) (σ' := (ax_sI (ax_sI (ax_sI (ax_sI s 25 7 (0 : Int32)) 25 8 (0 : Int32)) 25 9 (0 : Int32)) 25 10 (0 : Int32))) 14 (And.intro rfl (And.intro rfl (And.intro rfl (And.intro rfl (And.intro rfl (And.intro rfl (trivial))))))) (fun _ hh => hh) (w_XSt_live_25_36_l23 d 70000 x1 x3 (0 : Int32) (ax_sI (ax_sI (ax_sI (ax_sI s 25 7 (0 : Int32)) 25 8 (0 : Int32)) 25 9 (0 : Int32)) 25 10 (0 : Int32)) _ hz1 ?_)
  · intro s10 hq
    subst z1
    dsimp only at h
    have h := Option.some.inj h
    subst r
    exact ax_end 1 rfl
def XSt_tallied_25 (x1 : Int32)  (s : ax_S) : Int32 :=
  if x1 = (0) then (
    (s.2.1 25 7)) else
  if x1 = (1) then (
    (s.2.1 25 8)) else
  if x1 = (2) then (
    (s.2.1 25 9)) else
  (s.2.1 25 10)
theorem e_XSt_tallied_25 (d : Nat) (x1 : Int32) (s : ax_S) : ax_ev true (d + 1) 109 [.ref 25, .int x1] s (some (.int (XSt_tallied_25 x1 s)), s) := by
  refine ⟨Nat.le_of_ble_eq_true rfl, ?_⟩
  generalize h : XSt_tallied_25 x1 s = r
  show ax_go true none (ax_ev true (d + 0)) ax_m109 0 [some (.ref 25), some (.int x1)] [] s _
  unfold XSt_tallied_25 at h
  by_cases c1_0 : x1 = (0)
  · rw [if_pos c1_0] at h
    have h := h
    subst r
    exact ax_end 5 (ax_tabT (lo := 0) (hg := 2) (j0 := 0) (congrArg Int32.toInt c1_0) (by rw [c1_0]; decide) rfl)
  rw [if_neg c1_0] at h
  by_cases c1_1 : x1 = (1)
  · rw [if_pos c1_1] at h
    have h := h
    subst r
    exact ax_end 5 (ax_tabT (lo := 0) (hg := 2) (j0 := 1) (congrArg Int32.toInt c1_1) (by rw [c1_1]; decide) rfl)
  rw [if_neg c1_1] at h
  by_cases c1_2 : x1 = (2)
  · rw [if_pos c1_2] at h
    have h := h
    subst r
    exact ax_end 5 (ax_tabT (lo := 0) (hg := 2) (j0 := 2) (congrArg Int32.toInt c1_2) (by rw [c1_2]; decide) rfl)
  rw [if_neg c1_2] at h
  have c1_r : (x1).toInt < 0 ∨ 2 < (x1).toInt := by
    have := ax_ne_toInt c1_0
    have := ax_ne_toInt c1_1
    have := ax_ne_toInt c1_2
    simp only [show ∀ y : Int32, y.toInt = y.toInt from fun _ => rfl, show ((0) : Int32).toInt = 0 by decide, show ((1) : Int32).toInt = 1 by decide, show ((2) : Int32).toInt = 2 by decide] at *
    omega
  have h := h
  subst r
  exact ax_end 5 (ax_tabF (lo := 0) (hg := 2) rfl c1_r rfl)
def X_tried (x1 : Int32) (x2 : Int32)  (s : ax_S) : Option (Int32 × ax_S) :=
  if (X_isWithin x1 (1 : Int32) (30 : Int32) s) = 0 then (
    some ((-1 : Int32), s)) else
  if (X_isWithin x2 (0 : Int32) (3 : Int32) s) = 0 then (
    if (X_isPerson (x2 - (10 : Int32)) s) = 0 then (
      some ((-1 : Int32), s)) else
    match XSt_live_25_36 x1 ((XSt_copyFrom_25_3 s).2.1 0 12) (XSt_copyFrom_25_3 s) with
    | none => none
    | some s3 =>
      if (10 : Int32) ≤ x2 then (
        match XSt_painOf_25 (x2 - (10 : Int32)) s3 with
        | none => none
        | some v4 =>
          some (v4, s3)) else
      some ((XSt_tallied_25 x2 s3), s3)) else
  match XSt_live_25_36 x1 ((XSt_copyFrom_25_3 s).2.1 0 12) (XSt_copyFrom_25_3 s) with
  | none => none
  | some s1 =>
    if (10 : Int32) ≤ x2 then (
      match XSt_painOf_25 (x2 - (10 : Int32)) s1 with
      | none => none
      | some v2 =>
        some (v2, s1)) else
    some ((XSt_tallied_25 x2 s1), s1)
theorem e_X_tried (d : Nat) {x1 : Int32} {x2 : Int32} {s : ax_S} {r : Int32 × ax_S} (h : X_tried x1 x2 s = some r) : ax_ev true (d + 7) 110 [.ref 0, .int x1, .int x2] s (some (.int r.1), r.2) := by
  refine ⟨Nat.le_of_ble_eq_true rfl, ?_⟩
  show ax_go true none (ax_ev true (d + 6)) ax_m110 0 [some (.ref 0), some (.int x1), some (.int x2)] [] s _
  unfold X_tried at h
  by_cases c1 : (X_isWithin x1 (1 : Int32) (30 : Int32) s) = 0
  · rw [if_pos c1] at h
    have h := Option.some.inj h
    subst r
    exact ax_end 7 (Exists.intro (some (.int (X_isWithin x1 (1 : Int32) (30 : Int32) s)), s) (And.intro (e_X_isWithin (d + 5) x1 (1 : Int32) (30 : Int32) s) (And.intro (fun q => absurd c1 q) (fun _ => rfl))))
  · rw [if_neg c1] at h
    by_cases c2 : (X_isWithin x2 (0 : Int32) (3 : Int32) s) = 0
    · rw [if_pos c2] at h
      by_cases c3 : (X_isPerson (x2 - (10 : Int32)) s) = 0
      · rw [if_pos c3] at h
        refine ax_cut (pc' := 32) (la := [some (.ref 0), some (.int x1), some (.int x2)]) [none, none, none] (st' := [.int (-1 : Int32)]) (σ' := s) 16 (trivial) (fun _ hh => (Exists.intro (some (.int (X_isWithin x1 (1 : Int32) (30 : Int32) s)), s) (And.intro (e_X_isWithin (d + 5) x1 (1 : Int32) (30 : Int32) s) (And.intro (fun _ => (Exists.intro (some (.int (X_isWithin x2 (0 : Int32) (3 : Int32) s)), s) (And.intro (e_X_isWithin (d + 5) x2 (0 : Int32) (3 : Int32) s) (And.intro (fun q => absurd c2 q) (fun _ => (Exists.intro (some (.int (X_isPerson (x2 - (10 : Int32)) s)), s) (And.intro (e_X_isPerson (d + 4) (x2 - (10 : Int32)) s) (And.intro (fun q => absurd c3 q) (fun _ => hh))))))))) (fun q => absurd c1 q))))) ?_
        have h := Option.some.inj h
        subst r
        exact ax_end 1 rfl
      · rw [if_neg c3] at h
        refine ax_cut (pc' := 34) (la := [some (.ref 0), some (.int x1), some (.int x2)]) [some (.ref 0), some (.int x1), some (.int x2)] (st' := [.ref 0]) (σ' := s) 16 (And.intro rfl (And.intro rfl (And.intro rfl (trivial)))) (fun _ hh => (Exists.intro (some (.int (X_isWithin x1 (1 : Int32) (30 : Int32) s)), s) (And.intro (e_X_isWithin (d + 5) x1 (1 : Int32) (30 : Int32) s) (And.intro (fun _ => (Exists.intro (some (.int (X_isWithin x2 (0 : Int32) (3 : Int32) s)), s) (And.intro (e_X_isWithin (d + 5) x2 (0 : Int32) (3 : Int32) s) (And.intro (fun q => absurd c2 q) (fun _ => (Exists.intro (some (.int (X_isPerson (x2 - (10 : Int32)) s)), s) (And.intro (e_X_isPerson (d + 4) (x2 - (10 : Int32)) s) (And.intro (fun _ => hh) (fun q => absurd c3 q))))))))) (fun q => absurd c1 q))))) ?_
        cases hz4 : XSt_live_25_36 x1 ((XSt_copyFrom_25_3 s).2.1 0 12) (XSt_copyFrom_25_3 s) with
        | none => rw [hz4] at h; cases h
        | some s3 =>
        rw [hz4] at h
        dsimp only at h
        refine ax_cut (pc' := 67) (la := [some (.ref 0), some (.int x1), some (.int x2)]) [some (.ref 0), none, some (.int x2)] (st' := [.int (10 : Int32), .int x2]) (σ' := s3) 16 (And.intro rfl (And.intro rfl (trivial))) (fun _ hh => (Exists.intro (none, (XSt_copyFrom_25_3 s)) (And.intro (e_XSt_copyFrom_25_3 (d + 4)  s) (Exists.intro (none, s3) (And.intro (e_XSt_live_25_36 d hz4) hh))))) ?_
        by_cases c5 : (10 : Int32) ≤ x2
        · rw [if_pos c5] at h
          cases hz6 : XSt_painOf_25 (x2 - (10 : Int32)) s3 with
          | none => rw [hz6] at h; cases h
          | some v4 =>
          rw [hz6] at h
          dsimp only at h
          have h := Option.some.inj h
          subst r
          exact ax_end 8 (And.intro (fun _ => (Exists.intro (some (.int v4), s3) (And.intro (e_XSt_painOf_25 (d + 3) hz6) rfl))) (fun q => absurd c5 q))
        · rw [if_neg c5] at h
          have h := Option.some.inj h
          subst r
          exact ax_end 7 (And.intro (fun q => absurd q c5) (fun _ => (Exists.intro (some (.int (XSt_tallied_25 x2 s3)), s3) (And.intro (e_XSt_tallied_25 (d + 5) x2 s3) rfl))))
    · rw [if_neg c2] at h
      refine ax_cut (pc' := 45) (la := [some (.ref 0), some (.int x1), some (.int x2)]) [some (.ref 0), some (.int x1), some (.int x2)] (st' := [.ref 0]) (σ' := (XSt_copyFrom_25_3 s)) 16 (And.intro rfl (And.intro rfl (And.intro rfl (trivial)))) (fun _ hh => (Exists.intro (some (.int (X_isWithin x1 (1 : Int32) (30 : Int32) s)), s) (And.intro (e_X_isWithin (d + 5) x1 (1 : Int32) (30 : Int32) s) (And.intro (fun _ => (Exists.intro (some (.int (X_isWithin x2 (0 : Int32) (3 : Int32) s)), s) (And.intro (e_X_isWithin (d + 5) x2 (0 : Int32) (3 : Int32) s) (And.intro (fun _ => (Exists.intro (none, (XSt_copyFrom_25_3 s)) (And.intro (e_XSt_copyFrom_25_3 (d + 4)  s) hh))) (fun q => absurd c2 q))))) (fun q => absurd c1 q))))) ?_
      cases hz7 : XSt_live_25_36 x1 ((XSt_copyFrom_25_3 s).2.1 0 12) (XSt_copyFrom_25_3 s) with
      | none => rw [hz7] at h; cases h
      | some s1 =>
      rw [hz7] at h
      dsimp only at h
      by_cases c8 : (10 : Int32) ≤ x2
      · rw [if_pos c8] at h
        refine ax_cut (pc' := 88) (la := [some (.ref 0), some (.int x1), some (.int x2)]) [none, none, none] (st' := [.int (10 : Int32), .int x2, .ref 25]) (σ' := s1) 16 (trivial) (fun _ hh => (Exists.intro (none, s1) (And.intro (e_XSt_live_25_36 d hz7) (And.intro (fun _ => hh) (fun q => absurd c8 q))))) ?_
        cases hz9 : XSt_painOf_25 (x2 - (10 : Int32)) s1 with
        | none => rw [hz9] at h; cases h
        | some v2 =>
        rw [hz9] at h
        dsimp only at h
        have h := Option.some.inj h
        subst r
        exact ax_end 3 (Exists.intro (some (.int v2), s1) (And.intro (e_XSt_painOf_25 (d + 3) hz9) rfl))
      · rw [if_neg c8] at h
        refine ax_cut (pc' := 78) (la := [some (.ref 0), some (.int x1), some (.int x2)]) [none, none, none] (st' := [.int (XSt_tallied_25 x2 s1)]) (σ' := s1) 16 (trivial) (fun _ hh => (Exists.intro (none, s1) (And.intro (e_XSt_live_25_36 d hz7) (And.intro (fun q => absurd q c8) (fun _ => (Exists.intro (some (.int (XSt_tallied_25 x2 s1)), s1) (And.intro (e_XSt_tallied_25 (d + 5) x2 s1) hh))))))) ?_
        have h := Option.some.inj h
        subst r
        exact ax_end 2 rfl
def M_tried_j48 (x2 : Int32) (y0 : Int32)  (s : ax_S) : Option (Int32) :=
  if y0 = (0) then (
    some (s.2.1 63 33)) else
  if y0 = (1) then (
    some (s.2.1 63 34)) else
  if y0 = (2) then (
    some (s.2.1 63 35)) else
  if y0 = (3) then (
    some (s.2.1 63 36)) else
  if ((((60 : Int32) + x2) - (10 : Int32)) < 0 ∨ 291 ≤ ((((60 : Int32) + x2) - (10 : Int32))).toNatClampNeg) then none else
  some (s.2.1 64 ((((60 : Int32) + x2) - (10 : Int32))).toNatClampNeg)
def M_tried_j48_1 (x2 : Int32) (y0 : Int32)  (s : ax_S) : Option (Int32) :=
  if y0 = (0) then (
    some (s.2.1 63 33)) else
  if y0 = (1) then (
    some (s.2.1 63 34)) else
  if y0 = (2) then (
    some (s.2.1 63 35)) else
  if y0 = (3) then (
    some (s.2.1 63 36)) else
  if ((((60 : Int32) + x2) - (10 : Int32)) < 0 ∨ 291 ≤ ((((60 : Int32) + x2) - (10 : Int32))).toNatClampNeg) then none else
  some (s.2.1 64 ((((60 : Int32) + x2) - (10 : Int32))).toNatClampNeg)
def M_tried (x1 : Int32) (x2 : Int32)  (s : ax_S) : Option (Int32 × ax_S) :=
  if (M_in x1 (1 : Int32) (30 : Int32) s) = 0 then (
    some ((-1 : Int32), s)) else
  if (M_in x2 (0 : Int32) (3 : Int32) s) = 0 then (
    if (M_isPerson (x2 - (10 : Int32)) s) = 0 then (
      some ((-1 : Int32), s)) else
    match M_copies_64_65 s with
    | none => none
    | some s5 =>
      match M_daysGo x1 s5 with
      | none => none
      | some s6 =>
        match M_tried_j48_1 x2 x2 s6 with
        | none => none
        | some v7 =>
          match M_copies_65_64 s6 with
          | none => none
          | some s8 =>
            some (v7, s8)) else
  match M_copies_64_65 s with
  | none => none
  | some s1 =>
    match M_daysGo x1 s1 with
    | none => none
    | some s2 =>
      match M_tried_j48 x2 x2 s2 with
      | none => none
      | some v3 =>
        match M_copies_65_64 s2 with
        | none => none
        | some s4 =>
          some (v3, s4)
theorem w_M_tried_j48 (d : Nat) {o : ax_O} (x2 : Int32) (y0 : Int32) (s : ax_S) (r : Int32) (h : M_tried_j48 x2 y0 s = some r) (hk0 : ∀ (t0 : Int32), r = t0 → ax_go true none (ax_ev true (d + 6)) ax_m238 125 [some (.ref 63), none, none, some (.int t0)] [] s o) : ax_go true none (ax_ev true (d + 6)) ax_m238 48 [some (.ref 63), none, some (.int x2), none] [.int y0] s o := by
  unfold M_tried_j48 at h
  by_cases c1_0 : y0 = (0)
  · rw [if_pos c1_0] at h
    have h := Option.some.inj h
    subst r
    exact ax_cut (pc' := 125) (la := [some (.ref 63), none, some (.int x2), some (.int (s.2.1 63 33))]) [some (.ref 63), none, none, some (.int (s.2.1 63 33))] (st' := []) (σ' := s) 5 (And.intro rfl (And.intro rfl (trivial))) (fun _ hh => (ax_tabT (lo := 0) (hg := 3) (j0 := 0) (congrArg Int32.toInt c1_0) (by rw [c1_0]; decide) hh)) (hk0 _ rfl)
  rw [if_neg c1_0] at h
  by_cases c1_1 : y0 = (1)
  · rw [if_pos c1_1] at h
    have h := Option.some.inj h
    subst r
    exact ax_cut (pc' := 125) (la := [some (.ref 63), none, some (.int x2), some (.int (s.2.1 63 34))]) [some (.ref 63), none, none, some (.int (s.2.1 63 34))] (st' := []) (σ' := s) 5 (And.intro rfl (And.intro rfl (trivial))) (fun _ hh => (ax_tabT (lo := 0) (hg := 3) (j0 := 1) (congrArg Int32.toInt c1_1) (by rw [c1_1]; decide) hh)) (hk0 _ rfl)
  rw [if_neg c1_1] at h
  by_cases c1_2 : y0 = (2)
  · rw [if_pos c1_2] at h
    have h := Option.some.inj h
    subst r
    exact ax_cut (pc' := 125) (la := [some (.ref 63), none, some (.int x2), some (.int (s.2.1 63 35))]) [some (.ref 63), none, none, some (.int (s.2.1 63 35))] (st' := []) (σ' := s) 5 (And.intro rfl (And.intro rfl (trivial))) (fun _ hh => (ax_tabT (lo := 0) (hg := 3) (j0 := 2) (congrArg Int32.toInt c1_2) (by rw [c1_2]; decide) hh)) (hk0 _ rfl)
  rw [if_neg c1_2] at h
  by_cases c1_3 : y0 = (3)
  · rw [if_pos c1_3] at h
    have h := Option.some.inj h
    subst r
    exact ax_cut (pc' := 125) (la := [some (.ref 63), none, some (.int x2), some (.int (s.2.1 63 36))]) [some (.ref 63), none, none, some (.int (s.2.1 63 36))] (st' := []) (σ' := s) 5 (And.intro rfl (And.intro rfl (trivial))) (fun _ hh => (ax_tabT (lo := 0) (hg := 3) (j0 := 3) (congrArg Int32.toInt c1_3) (by rw [c1_3]; decide) hh)) (hk0 _ rfl)
  rw [if_neg c1_3] at h
  have c1_r : (y0).toInt < 0 ∨ 3 < (y0).toInt := by
    have := ax_ne_toInt c1_0
    have := ax_ne_toInt c1_1
    have := ax_ne_toInt c1_2
    have := ax_ne_toInt c1_3
    simp only [show ∀ y : Int32, y.toInt = y.toInt from fun _ => rfl, show ((0) : Int32).toInt = 0 by decide, show ((1) : Int32).toInt = 1 by decide, show ((2) : Int32).toInt = 2 by decide, show ((3) : Int32).toInt = 3 by decide] at *
    omega
  by_cases c2 : ((((60 : Int32) + x2) - (10 : Int32)) < 0 ∨ 291 ≤ ((((60 : Int32) + x2) - (10 : Int32))).toNatClampNeg)
  · rw [if_pos c2] at h; cases h
  · rw [if_neg c2] at h
    have h := Option.some.inj h
    subst r
    exact ax_cut (pc' := 125) (la := [some (.ref 63), none, some (.int x2), some (.int (s.2.1 64 ((((60 : Int32) + x2) - (10 : Int32))).toNatClampNeg))]) [some (.ref 63), none, none, some (.int (s.2.1 64 ((((60 : Int32) + x2) - (10 : Int32))).toNatClampNeg))] (st' := []) (σ' := s) 10 (And.intro rfl (And.intro rfl (trivial))) (fun _ hh => (ax_tabF (lo := 0) (hg := 3) rfl c1_r (And.intro c2 hh))) (hk0 _ rfl)
theorem w_M_tried_j48_1 (d : Nat) {o : ax_O} (x2 : Int32) (y0 : Int32) (s : ax_S) (r : Int32) (h : M_tried_j48_1 x2 y0 s = some r) (hk0 : ∀ (t0 : Int32), r = t0 → ax_go true none (ax_ev true (d + 6)) ax_m238 125 [some (.ref 63), none, none, some (.int t0)] [] s o) : ax_go true none (ax_ev true (d + 6)) ax_m238 48 [some (.ref 63), none, some (.int x2), none] [.int y0] s o := by
  unfold M_tried_j48_1 at h
  by_cases c1_0 : y0 = (0)
  · rw [if_pos c1_0] at h
    have h := Option.some.inj h
    subst r
    exact ax_cut (pc' := 125) (la := [some (.ref 63), none, some (.int x2), some (.int (s.2.1 63 33))]) [some (.ref 63), none, none, some (.int (s.2.1 63 33))] (st' := []) (σ' := s) 5 (And.intro rfl (And.intro rfl (trivial))) (fun _ hh => (ax_tabT (lo := 0) (hg := 3) (j0 := 0) (congrArg Int32.toInt c1_0) (by rw [c1_0]; decide) hh)) (hk0 _ rfl)
  rw [if_neg c1_0] at h
  by_cases c1_1 : y0 = (1)
  · rw [if_pos c1_1] at h
    have h := Option.some.inj h
    subst r
    exact ax_cut (pc' := 125) (la := [some (.ref 63), none, some (.int x2), some (.int (s.2.1 63 34))]) [some (.ref 63), none, none, some (.int (s.2.1 63 34))] (st' := []) (σ' := s) 5 (And.intro rfl (And.intro rfl (trivial))) (fun _ hh => (ax_tabT (lo := 0) (hg := 3) (j0 := 1) (congrArg Int32.toInt c1_1) (by rw [c1_1]; decide) hh)) (hk0 _ rfl)
  rw [if_neg c1_1] at h
  by_cases c1_2 : y0 = (2)
  · rw [if_pos c1_2] at h
    have h := Option.some.inj h
    subst r
    exact ax_cut (pc' := 125) (la := [some (.ref 63), none, some (.int x2), some (.int (s.2.1 63 35))]) [some (.ref 63), none, none, some (.int (s.2.1 63 35))] (st' := []) (σ' := s) 5 (And.intro rfl (And.intro rfl (trivial))) (fun _ hh => (ax_tabT (lo := 0) (hg := 3) (j0 := 2) (congrArg Int32.toInt c1_2) (by rw [c1_2]; decide) hh)) (hk0 _ rfl)
  rw [if_neg c1_2] at h
  by_cases c1_3 : y0 = (3)
  · rw [if_pos c1_3] at h
    have h := Option.some.inj h
    subst r
    exact ax_cut (pc' := 125) (la := [some (.ref 63), none, some (.int x2), some (.int (s.2.1 63 36))]) [some (.ref 63), none, none, some (.int (s.2.1 63 36))] (st' := []) (σ' := s) 5 (And.intro rfl (And.intro rfl (trivial))) (fun _ hh => (ax_tabT (lo := 0) (hg := 3) (j0 := 3) (congrArg Int32.toInt c1_3) (by rw [c1_3]; decide) hh)) (hk0 _ rfl)
  rw [if_neg c1_3] at h
  have c1_r : (y0).toInt < 0 ∨ 3 < (y0).toInt := by
    have := ax_ne_toInt c1_0
    have := ax_ne_toInt c1_1
    have := ax_ne_toInt c1_2
    have := ax_ne_toInt c1_3
    simp only [show ∀ y : Int32, y.toInt = y.toInt from fun _ => rfl, show ((0) : Int32).toInt = 0 by decide, show ((1) : Int32).toInt = 1 by decide, show ((2) : Int32).toInt = 2 by decide, show ((3) : Int32).toInt = 3 by decide] at *
    omega
  by_cases c2 : ((((60 : Int32) + x2) - (10 : Int32)) < 0 ∨ 291 ≤ ((((60 : Int32) + x2) - (10 : Int32))).toNatClampNeg)
  · rw [if_pos c2] at h; cases h
  · rw [if_neg c2] at h
    have h := Option.some.inj h
    subst r
    exact ax_cut (pc' := 125) (la := [some (.ref 63), none, some (.int x2), some (.int (s.2.1 64 ((((60 : Int32) + x2) - (10 : Int32))).toNatClampNeg))]) [some (.ref 63), none, none, some (.int (s.2.1 64 ((((60 : Int32) + x2) - (10 : Int32))).toNatClampNeg))] (st' := []) (σ' := s) 10 (And.intro rfl (And.intro rfl (trivial))) (fun _ hh => (ax_tabF (lo := 0) (hg := 3) rfl c1_r (And.intro c2 hh))) (hk0 _ rfl)
theorem e_M_tried (d : Nat) {x1 : Int32} {x2 : Int32} {s : ax_S} {r : Int32 × ax_S} (h : M_tried x1 x2 s = some r) : ax_ev true (d + 7) 238 [.ref 63, .int x1, .int x2] s (some (.int r.1), r.2) := by
  refine ⟨Nat.le_of_ble_eq_true rfl, ?_⟩
  show ax_go true none (ax_ev true (d + 6)) ax_m238 0 [some (.ref 63), some (.int x1), some (.int x2), none] [] s _
  unfold M_tried at h
  by_cases c1 : (M_in x1 (1 : Int32) (30 : Int32) s) = 0
  · rw [if_pos c1] at h
    have h := Option.some.inj h
    subst r
    exact ax_end 7 (Exists.intro (some (.int (M_in x1 (1 : Int32) (30 : Int32) s)), s) (And.intro (e_M_in (d + 5) x1 (1 : Int32) (30 : Int32) s) (And.intro (fun _ => rfl) (fun q => absurd c1 q))))
  · rw [if_neg c1] at h
    by_cases c2 : (M_in x2 (0 : Int32) (3 : Int32) s) = 0
    · rw [if_pos c2] at h
      by_cases c3 : (M_isPerson (x2 - (10 : Int32)) s) = 0
      · rw [if_pos c3] at h
        refine ax_cut (pc' := 30) (la := [some (.ref 63), some (.int x1), some (.int x2), none]) [none, none, none, none] (st' := [.int (-1 : Int32)]) (σ' := s) 16 (trivial) (fun _ hh => (Exists.intro (some (.int (M_in x1 (1 : Int32) (30 : Int32) s)), s) (And.intro (e_M_in (d + 5) x1 (1 : Int32) (30 : Int32) s) (And.intro (fun q => absurd q c1) (fun _ => (Exists.intro (some (.int (M_in x2 (0 : Int32) (3 : Int32) s)), s) (And.intro (e_M_in (d + 5) x2 (0 : Int32) (3 : Int32) s) (And.intro (fun q => absurd c2 q) (fun _ => (Exists.intro (some (.int (M_isPerson (x2 - (10 : Int32)) s)), s) (And.intro (e_M_isPerson (d + 4) (x2 - (10 : Int32)) s) (And.intro (fun q => absurd c3 q) (fun _ => hh))))))))))))) ?_
        have h := Option.some.inj h
        subst r
        exact ax_end 1 rfl
      · rw [if_neg c3] at h
        refine ax_cut (pc' := 32) (la := [some (.ref 63), some (.int x1), some (.int x2), none]) [some (.ref 63), some (.int x1), some (.int x2), none] (st' := [.ref 63]) (σ' := s) 16 (And.intro rfl (And.intro rfl (And.intro rfl (trivial)))) (fun _ hh => (Exists.intro (some (.int (M_in x1 (1 : Int32) (30 : Int32) s)), s) (And.intro (e_M_in (d + 5) x1 (1 : Int32) (30 : Int32) s) (And.intro (fun q => absurd q c1) (fun _ => (Exists.intro (some (.int (M_in x2 (0 : Int32) (3 : Int32) s)), s) (And.intro (e_M_in (d + 5) x2 (0 : Int32) (3 : Int32) s) (And.intro (fun q => absurd c2 q) (fun _ => (Exists.intro (some (.int (M_isPerson (x2 - (10 : Int32)) s)), s) (And.intro (e_M_isPerson (d + 4) (x2 - (10 : Int32)) s) (And.intro (fun _ => hh) (fun q => absurd c3 q))))))))))))) ?_
        cases hz4 : M_copies_64_65 s with
        | none => rw [hz4] at h; cases h
        | some s5 =>
        rw [hz4] at h
        dsimp only at h
        cases hz5 : M_daysGo x1 s5 with
        | none => rw [hz5] at h; cases h
        | some s6 =>
        rw [hz5] at h
        dsimp only at h
        cases hz6 : M_tried_j48_1 x2 x2 s6 with
        | none => rw [hz6] at h; cases h
        | some z6 =>
        rw [hz6] at h
        refine ax_cut (pc' := 48) (la := [some (.ref 63), some (.int x1), some (.int x2), none]) [some (.ref 63), none, some (.int x2), none] (st' := [.int x2]) (σ' := s6) 8 (And.intro rfl (And.intro rfl (trivial))) (fun _ hh => (Exists.intro (none, s5) (And.intro (e_M_copies_64_65 (d + 5) hz4) (Exists.intro (none, s6) (And.intro (e_M_daysGo d hz5) hh))))) (w_M_tried_j48_1 d x2 x2 s6 _ hz6 ?_)
        · intro v7 hq
          subst z6
          dsimp only at h
          cases hz7 : M_copies_65_64 s6 with
          | none => rw [hz7] at h; cases h
          | some s8 =>
          rw [hz7] at h
          dsimp only at h
          have h := Option.some.inj h
          subst r
          exact ax_end 7 (Exists.intro (none, s8) (And.intro (e_M_copies_65_64 (d + 5) hz7) rfl))
    · rw [if_neg c2] at h
      cases hz8 : M_copies_64_65 s with
      | none => rw [hz8] at h; cases h
      | some s1 =>
      rw [hz8] at h
      dsimp only at h
      refine ax_cut (pc' := 43) (la := [some (.ref 63), some (.int x1), some (.int x2), none]) [some (.ref 63), some (.int x1), some (.int x2), none] (st' := [.ref 63]) (σ' := s1) 16 (And.intro rfl (And.intro rfl (And.intro rfl (trivial)))) (fun _ hh => (Exists.intro (some (.int (M_in x1 (1 : Int32) (30 : Int32) s)), s) (And.intro (e_M_in (d + 5) x1 (1 : Int32) (30 : Int32) s) (And.intro (fun q => absurd q c1) (fun _ => (Exists.intro (some (.int (M_in x2 (0 : Int32) (3 : Int32) s)), s) (And.intro (e_M_in (d + 5) x2 (0 : Int32) (3 : Int32) s) (And.intro (fun _ => (Exists.intro (none, s1) (And.intro (e_M_copies_64_65 (d + 5) hz8) hh))) (fun q => absurd c2 q))))))))) ?_
      cases hz9 : M_daysGo x1 s1 with
      | none => rw [hz9] at h; cases h
      | some s2 =>
      rw [hz9] at h
      dsimp only at h
      cases hz10 : M_tried_j48 x2 x2 s2 with
      | none => rw [hz10] at h; cases h
      | some z10 =>
      rw [hz10] at h
      refine ax_cut (pc' := 48) (la := [some (.ref 63), some (.int x1), some (.int x2), none]) [some (.ref 63), none, some (.int x2), none] (st' := [.int x2]) (σ' := s2) 3 (And.intro rfl (And.intro rfl (trivial))) (fun _ hh => (Exists.intro (none, s2) (And.intro (e_M_daysGo d hz9) hh))) (w_M_tried_j48 d x2 x2 s2 _ hz10 ?_)
      · intro v3 hq
        subst z10
        dsimp only at h
        cases hz11 : M_copies_65_64 s2 with
        | none => rw [hz11] at h; cases h
        | some s4 =>
        rw [hz11] at h
        dsimp only at h
        have h := Option.some.inj h
        subst r
        exact ax_end 7 (Exists.intro (none, s4) (And.intro (e_M_copies_65_64 (d + 5) hz11) rfl))
