def X_sky (x1 : Int32)  (s : ax_S) : Option (Int32 × ax_S) :=
  if (X_isWithin x1 (0 : Int32) (3 : Int32) s) = 0 then (
    some ((-1 : Int32), s)) else
  match XCu_cutWithout_4 (65535 : Int32) s with
  | none => none
  | some s1 =>
    some ((XCu_part x1 s1), s1)
theorem e_X_sky (d : Nat) {x1 : Int32} {s : ax_S} {r : Int32 × ax_S} (h : X_sky x1 s = some r) : ax_ev true (d + 5) 127 [.ref 0, .int x1] s (some (.int r.1), r.2) := by
  refine ⟨Nat.le_of_ble_eq_true rfl, ?_⟩
  show ax_go true none (ax_ev true (d + 4)) ax_m127 0 [some (.ref 0), some (.int x1)] [] s _
  unfold X_sky at h
  by_cases c1 : (X_isWithin x1 (0 : Int32) (3 : Int32) s) = 0
  · rw [if_pos c1] at h
    have h := Option.some.inj h
    subst r
    exact ax_end 7 (Exists.intro (some (.int (X_isWithin x1 (0 : Int32) (3 : Int32) s)), s) (And.intro (e_X_isWithin (d + 3) x1 (0 : Int32) (3 : Int32) s) (And.intro (fun q => absurd c1 q) (fun _ => rfl))))
  · rw [if_neg c1] at h
    cases hz2 : XCu_cutWithout_4 (65535 : Int32) s with
    | none => rw [hz2] at h; cases h
    | some s1 =>
    rw [hz2] at h
    dsimp only at h
    refine ax_cut (pc' := 35) (la := [some (.ref 0), some (.int x1)]) [none, none] (st' := [.int (XCu_part x1 s1)]) (σ' := s1) 16 (trivial) (fun _ hh => (Exists.intro (some (.int (X_isWithin x1 (0 : Int32) (3 : Int32) s)), s) (And.intro (e_X_isWithin (d + 3) x1 (0 : Int32) (3 : Int32) s) (And.intro (fun _ => (Exists.intro (none, s1) (And.intro (e_XCu_cutWithout_4 d hz2) (Exists.intro (some (.int (XCu_part x1 s1)), s1) (And.intro (e_XCu_part (d + 2) x1 s1) hh))))) (fun q => absurd c1 q))))) ?_
    have h := Option.some.inj h
    subst r
    exact ax_end 1 rfl
def M_sky (x1 : Int32)  (s : ax_S) : Option (Int32 × ax_S) :=
  match M_without (65535 : Int32) x1 s with
  | none => none
  | some (v1, s2) =>
    some (v1, s2)
theorem e_M_sky (d : Nat) {x1 : Int32} {s : ax_S} {r : Int32 × ax_S} (h : M_sky x1 s = some r) : ax_ev true (d + 6) 251 [.ref 63, .int x1] s (some (.int r.1), r.2) := by
  refine ⟨Nat.le_of_ble_eq_true rfl, ?_⟩
  show ax_go true none (ax_ev true (d + 5)) ax_m251 0 [some (.ref 63), some (.int x1)] [] s _
  unfold M_sky at h
  cases hz1 : M_without (65535 : Int32) x1 s with
  | none => rw [hz1] at h; cases h
  | some z1 =>
  rw [hz1] at h
  obtain ⟨v1, s2⟩ := z1
  dsimp only at h
  have h := Option.some.inj h
  subst r
  exact ax_end 5 (Exists.intro (some (.int v1), s2) (And.intro (e_M_without d hz1) rfl))
def XFi_lefts_4_l4 : Nat → Int32 → Int32 → ax_S → Option (Int32)
  | 0, _, _, _ => none
  | n + 1, x1, x2, s =>
    if (12 : Int32) ≤ x2 then (
      some x1) else
    match XFi_isTold_4 x2 s with
    | none => none
    | some v1 =>
      if v1 = 0 then (
        XFi_lefts_4_l4 n (x1 ||| (0 : Int32)) (x2 + (1)) s) else
      if (x2 < 0 ∨ 12 ≤ (x2).toNatClampNeg) then none else
      XFi_lefts_4_l4 n (x1 ||| ((1 : Int32) <<< ((s.2.1 6 (x2).toNatClampNeg) &&& 31))) (x2 + (1)) s
def XFi_lefts_4  (s : ax_S) : Option (Int32) :=
  match XFi_lefts_4_l4 70000 (0 : Int32) (0 : Int32) s with
  | none => none
  | some v2 =>
    some v2
theorem w_XFi_lefts_4_l4 (d : Nat) {o : ax_O} : ∀ (n : Nat) (x1 : Int32) (x2 : Int32) (s : ax_S) (r : Int32) (h : XFi_lefts_4_l4 n x1 x2 s = some r) (hk0 : ∀ (t0 : Int32), r = t0 → ax_go true none (ax_ev true (d + 1)) ax_m130 39 [none, some (.int t0), none] [] s o), ax_go true none (ax_ev true (d + 1)) ax_m130 4 [some (.ref 4), some (.int x1), some (.int x2)] [] s o := by
  intro n
  induction n with
  | zero => intro x1 x2 s r h hk0; cases h
  | succ n ih =>
    intro x1 x2 s r h hk0
    rw [XFi_lefts_4_l4] at h
    by_cases c1 : (12 : Int32) ≤ x2
    · rw [if_pos c1] at h
      have h := Option.some.inj h
      subst r
      exact ax_cut (pc' := 39) (la := [some (.ref 4), some (.int x1), some (.int x2)]) [none, some (.int x1), none] (st' := []) (σ' := s) 3 (And.intro rfl (trivial)) (fun _ hh => (And.intro (fun _ => hh) (fun q => absurd c1 q))) (hk0 _ rfl)
    · rw [if_neg c1] at h
      cases hz2 : XFi_isTold_4 x2 s with
      | none => rw [hz2] at h; cases h
      | some v1 =>
      rw [hz2] at h
      dsimp only at h
      by_cases c3 : v1 = 0
      · rw [if_pos c3] at h
        exact ax_cut (pc' := 4) (la := [some (.ref 4), some (.int (x1 ||| (0 : Int32))), some (.int (x2 + (1)))]) [some (.ref 4), some (.int (x1 ||| (0 : Int32))), some (.int (x2 + (1)))] (st' := []) (σ' := s) 13 (And.intro rfl (And.intro rfl (And.intro rfl (trivial)))) (fun _ hh => (And.intro (fun q => absurd q c1) (fun _ => (Exists.intro (some (.int v1), s) (And.intro (e_XFi_isTold_4 d hz2) (And.intro (fun _ => hh) (fun q => absurd c3 q))))))) (ih (x1 ||| (0 : Int32)) (x2 + (1)) s _ h hk0)
      · rw [if_neg c3] at h
        by_cases c4 : (x2 < 0 ∨ 12 ≤ (x2).toNatClampNeg)
        · rw [if_pos c4] at h; cases h
        · rw [if_neg c4] at h
          refine ax_cut (pc' := 32) (la := [some (.ref 4), some (.int x1), some (.int x2)]) [some (.ref 4), none, some (.int x2)] (st' := [.int (x1 ||| ((1 : Int32) <<< ((s.2.1 6 (x2).toNatClampNeg) &&& 31)))]) (σ' := s) 16 (And.intro rfl (And.intro rfl (trivial))) (fun _ hh => (And.intro (fun q => absurd q c1) (fun _ => (Exists.intro (some (.int v1), s) (And.intro (e_XFi_isTold_4 d hz2) (And.intro (fun q => absurd q c3) (fun _ => (And.intro c4 hh)))))))) ?_
          exact ax_cut (pc' := 4) (la := [some (.ref 4), some (.int (x1 ||| ((1 : Int32) <<< ((s.2.1 6 (x2).toNatClampNeg) &&& 31)))), some (.int (x2 + (1)))]) [some (.ref 4), some (.int (x1 ||| ((1 : Int32) <<< ((s.2.1 6 (x2).toNatClampNeg) &&& 31)))), some (.int (x2 + (1)))] (st' := []) (σ' := s) 3 (And.intro rfl (And.intro rfl (And.intro rfl (trivial)))) (fun _ hh => hh) (ih (x1 ||| ((1 : Int32) <<< ((s.2.1 6 (x2).toNatClampNeg) &&& 31))) (x2 + (1)) s _ h hk0)
theorem e_XFi_lefts_4 (d : Nat)  {s : ax_S} {r : Int32} (h : XFi_lefts_4 s = some r) : ax_ev true (d + 2) 130 [.ref 4] s (some (.int r), s) := by
  refine ⟨Nat.le_of_ble_eq_true rfl, ?_⟩
  show ax_go true none (ax_ev true (d + 1)) ax_m130 0 [some (.ref 4), none, none] [] s _
  unfold XFi_lefts_4 at h
  cases hz1 : XFi_lefts_4_l4 70000 (0 : Int32) (0 : Int32) s with
  | none => rw [hz1] at h; cases h
  | some z1 =>
  rw [hz1] at h
  refine ax_cut (pc' := 4) (la := [some (.ref 4), some (.int (0 : Int32)), some (.int (0 : Int32))]) [some (.ref 4), some (.int (0 : Int32)), some (.int (0 : Int32))] (st' := []) (σ' := s) 4 (And.intro rfl (And.intro rfl (And.intro rfl (trivial)))) (fun _ hh => hh) (w_XFi_lefts_4_l4 d 70000 (0 : Int32) (0 : Int32) s _ hz1 ?_)
  · intro v2 hq
    subst z1
    dsimp only at h
    have h := Option.some.inj h
    subst r
    exact ax_end 2 rfl
def XFi_tops_4_l4 : Nat → Int32 → Int32 → ax_S → Option (Int32)
  | 0, _, _, _ => none
  | n + 1, x1, x2, s =>
    if (12 : Int32) ≤ x2 then (
      some x1) else
    match XFi_isTold_4 x2 s with
    | none => none
    | some v1 =>
      if v1 = 0 then (
        XFi_tops_4_l4 n (x1 ||| (0 : Int32)) (x2 + (1)) s) else
      if (x2 < 0 ∨ 12 ≤ (x2).toNatClampNeg) then none else
      XFi_tops_4_l4 n (x1 ||| ((1 : Int32) <<< ((s.2.1 7 (x2).toNatClampNeg) &&& 31))) (x2 + (1)) s
def XFi_tops_4  (s : ax_S) : Option (Int32) :=
  match XFi_tops_4_l4 70000 (0 : Int32) (0 : Int32) s with
  | none => none
  | some v2 =>
    some v2
theorem w_XFi_tops_4_l4 (d : Nat) {o : ax_O} : ∀ (n : Nat) (x1 : Int32) (x2 : Int32) (s : ax_S) (r : Int32) (h : XFi_tops_4_l4 n x1 x2 s = some r) (hk0 : ∀ (t0 : Int32), r = t0 → ax_go true none (ax_ev true (d + 1)) ax_m131 39 [none, some (.int t0), none] [] s o), ax_go true none (ax_ev true (d + 1)) ax_m131 4 [some (.ref 4), some (.int x1), some (.int x2)] [] s o := by
  intro n
  induction n with
  | zero => intro x1 x2 s r h hk0; cases h
  | succ n ih =>
    intro x1 x2 s r h hk0
    rw [XFi_tops_4_l4] at h
    by_cases c1 : (12 : Int32) ≤ x2
    · rw [if_pos c1] at h
      have h := Option.some.inj h
      subst r
      exact ax_cut (pc' := 39) (la := [some (.ref 4), some (.int x1), some (.int x2)]) [none, some (.int x1), none] (st' := []) (σ' := s) 3 (And.intro rfl (trivial)) (fun _ hh => (And.intro (fun _ => hh) (fun q => absurd c1 q))) (hk0 _ rfl)
    · rw [if_neg c1] at h
      cases hz2 : XFi_isTold_4 x2 s with
      | none => rw [hz2] at h; cases h
      | some v1 =>
      rw [hz2] at h
      dsimp only at h
      by_cases c3 : v1 = 0
      · rw [if_pos c3] at h
        exact ax_cut (pc' := 4) (la := [some (.ref 4), some (.int (x1 ||| (0 : Int32))), some (.int (x2 + (1)))]) [some (.ref 4), some (.int (x1 ||| (0 : Int32))), some (.int (x2 + (1)))] (st' := []) (σ' := s) 13 (And.intro rfl (And.intro rfl (And.intro rfl (trivial)))) (fun _ hh => (And.intro (fun q => absurd q c1) (fun _ => (Exists.intro (some (.int v1), s) (And.intro (e_XFi_isTold_4 d hz2) (And.intro (fun _ => hh) (fun q => absurd c3 q))))))) (ih (x1 ||| (0 : Int32)) (x2 + (1)) s _ h hk0)
      · rw [if_neg c3] at h
        by_cases c4 : (x2 < 0 ∨ 12 ≤ (x2).toNatClampNeg)
        · rw [if_pos c4] at h; cases h
        · rw [if_neg c4] at h
          refine ax_cut (pc' := 32) (la := [some (.ref 4), some (.int x1), some (.int x2)]) [some (.ref 4), none, some (.int x2)] (st' := [.int (x1 ||| ((1 : Int32) <<< ((s.2.1 7 (x2).toNatClampNeg) &&& 31)))]) (σ' := s) 16 (And.intro rfl (And.intro rfl (trivial))) (fun _ hh => (And.intro (fun q => absurd q c1) (fun _ => (Exists.intro (some (.int v1), s) (And.intro (e_XFi_isTold_4 d hz2) (And.intro (fun q => absurd q c3) (fun _ => (And.intro c4 hh)))))))) ?_
          exact ax_cut (pc' := 4) (la := [some (.ref 4), some (.int (x1 ||| ((1 : Int32) <<< ((s.2.1 7 (x2).toNatClampNeg) &&& 31)))), some (.int (x2 + (1)))]) [some (.ref 4), some (.int (x1 ||| ((1 : Int32) <<< ((s.2.1 7 (x2).toNatClampNeg) &&& 31)))), some (.int (x2 + (1)))] (st' := []) (σ' := s) 3 (And.intro rfl (And.intro rfl (And.intro rfl (trivial)))) (fun _ hh => hh) (ih (x1 ||| ((1 : Int32) <<< ((s.2.1 7 (x2).toNatClampNeg) &&& 31))) (x2 + (1)) s _ h hk0)
theorem e_XFi_tops_4 (d : Nat)  {s : ax_S} {r : Int32} (h : XFi_tops_4 s = some r) : ax_ev true (d + 2) 131 [.ref 4] s (some (.int r), s) := by
  refine ⟨Nat.le_of_ble_eq_true rfl, ?_⟩
  show ax_go true none (ax_ev true (d + 1)) ax_m131 0 [some (.ref 4), none, none] [] s _
  unfold XFi_tops_4 at h
  cases hz1 : XFi_tops_4_l4 70000 (0 : Int32) (0 : Int32) s with
  | none => rw [hz1] at h; cases h
  | some z1 =>
  rw [hz1] at h
  refine ax_cut (pc' := 4) (la := [some (.ref 4), some (.int (0 : Int32)), some (.int (0 : Int32))]) [some (.ref 4), some (.int (0 : Int32)), some (.int (0 : Int32))] (st' := []) (σ' := s) 4 (And.intro rfl (And.intro rfl (And.intro rfl (trivial)))) (fun _ hh => hh) (w_XFi_tops_4_l4 d 70000 (0 : Int32) (0 : Int32) s _ hz1 ?_)
  · intro v2 hq
    subst z1
    dsimp only at h
    have h := Option.some.inj h
    subst r
    exact ax_end 2 rfl
def XCu_shrinkFrom_4_l15 : Nat → Int32 → Int32 → Int32 → Int32 → Int32 → Int32 → ax_S → Option (ax_S)
  | 0, _, _, _, _, _, _, _ => none
  | n + 1, x2, x3, x4, x5, x6, x7, s =>
    if ((16 : Int32) - x2) < x7 then (
      some s) else
    if (XCu_cells s) = 0 then (
      match XFi_wholeIn_4 x2 x3 x7 x6 s with
      | none => none
      | some v1 =>
        if (J_bitCount v1 s) < x4 then (
          XCu_shrinkFrom_4_l15 n x2 x3 x4 x5 x6 (x7 + (1)) s) else
        if (x5 &&& (v1 ^^^ (-1 : Int32))) = 0 then (
          XCu_shrinkFrom_4_l15 n x2 x3 x4 x5 x6 (x7 + (1)) (XCu_put x2 x3 x7 x6 s)) else
        XCu_shrinkFrom_4_l15 n x2 x3 x4 x5 x6 (x7 + (1)) s) else
    if ((x7 * x6) - (XCu_cells s)) < 0 then (
      match XFi_wholeIn_4 x2 x3 x7 x6 s with
      | none => none
      | some v2 =>
        if (J_bitCount v2 s) < x4 then (
          XCu_shrinkFrom_4_l15 n x2 x3 x4 x5 x6 (x7 + (1)) s) else
        if (x5 &&& (v2 ^^^ (-1 : Int32))) = 0 then (
          XCu_shrinkFrom_4_l15 n x2 x3 x4 x5 x6 (x7 + (1)) (XCu_put x2 x3 x7 x6 s)) else
        XCu_shrinkFrom_4_l15 n x2 x3 x4 x5 x6 (x7 + (1)) s) else
    if ((x7 * x6) - (XCu_cells s)) = 0 then (
      if (XCu_isAhead x2 x3 x7 s) = 0 then (
        XCu_shrinkFrom_4_l15 n x2 x3 x4 x5 x6 (x7 + (1)) s) else
      match XFi_wholeIn_4 x2 x3 x7 x6 s with
      | none => none
      | some v3 =>
        if (J_bitCount v3 s) < x4 then (
          XCu_shrinkFrom_4_l15 n x2 x3 x4 x5 x6 (x7 + (1)) s) else
        if (x5 &&& (v3 ^^^ (-1 : Int32))) = 0 then (
          XCu_shrinkFrom_4_l15 n x2 x3 x4 x5 x6 (x7 + (1)) (XCu_put x2 x3 x7 x6 s)) else
        XCu_shrinkFrom_4_l15 n x2 x3 x4 x5 x6 (x7 + (1)) s) else
    XCu_shrinkFrom_4_l15 n x2 x3 x4 x5 x6 (x7 + (1)) s
def XCu_shrinkFrom_4_l3 : Nat → Int32 → Int32 → Int32 → Int32 → Int32 → ax_S → Option (ax_S)
  | 0, _, _, _, _, _, _ => none
  | n + 1, x2, x3, x4, x5, x6, s =>
    if ((12 : Int32) - x3) < x6 then (
      some s) else
    match XCu_shrinkFrom_4_l15 70000 x2 x3 x4 x5 x6 (1 : Int32) s with
    | none => none
    | some s4 =>
      XCu_shrinkFrom_4_l3 n x2 x3 x4 x5 (x6 + (1)) s4
def XCu_shrinkFrom_4 (x2 : Int32) (x3 : Int32) (x4 : Int32) (x5 : Int32)  (s : ax_S) : Option (ax_S) :=
  match XCu_shrinkFrom_4_l3 70000 x2 x3 x4 x5 (1 : Int32) s with
  | none => none
  | some s5 =>
    some s5
theorem w_XCu_shrinkFrom_4_l15 (d : Nat) {o : ax_O} : ∀ (n : Nat) (x2 : Int32) (x3 : Int32) (x4 : Int32) (x5 : Int32) (x6 : Int32) (x7 : Int32) (s : ax_S) (r : ax_S) (h : XCu_shrinkFrom_4_l15 n x2 x3 x4 x5 x6 x7 s = some r) (hk0 : ∀ (t0 : ax_S), r = t0 → ax_go true none (ax_ev true (d + 3)) ax_m132 112 [some (.ref 55), some (.ref 4), some (.int x2), some (.int x3), some (.int x4), some (.int x5), some (.int x6), none, none, none] [] t0 o), ax_go true none (ax_ev true (d + 3)) ax_m132 15 [some (.ref 55), some (.ref 4), some (.int x2), some (.int x3), some (.int x4), some (.int x5), some (.int x6), some (.int x7), none, none] [] s o := by
  intro n
  induction n with
  | zero => intro x2 x3 x4 x5 x6 x7 s r h hk0; cases h
  | succ n ih =>
    intro x2 x3 x4 x5 x6 x7 s r h hk0
    rw [XCu_shrinkFrom_4_l15] at h
    by_cases c1 : ((16 : Int32) - x2) < x7
    · rw [if_pos c1] at h
      have h := Option.some.inj h
      subst r
      exact ax_cut (pc' := 112) (la := [some (.ref 55), some (.ref 4), some (.int x2), some (.int x3), some (.int x4), some (.int x5), some (.int x6), some (.int x7), none, none]) [some (.ref 55), some (.ref 4), some (.int x2), some (.int x3), some (.int x4), some (.int x5), some (.int x6), none, none, none] (st' := []) (σ' := s) 5 (And.intro rfl (And.intro rfl (And.intro rfl (And.intro rfl (And.intro rfl (And.intro rfl (And.intro rfl (trivial)))))))) (fun _ hh => (And.intro (fun _ => hh) (fun q => absurd c1 q))) (hk0 _ rfl)
    · rw [if_neg c1] at h
      by_cases c2 : (XCu_cells s) = 0
      · rw [if_pos c2] at h
        refine ax_cut (pc' := 65) (la := [some (.ref 55), some (.ref 4), some (.int x2), some (.int x3), some (.int x4), some (.int x5), some (.int x6), some (.int x7), some (.int ((x7 * x6) - (XCu_cells s))), none]) [some (.ref 55), some (.ref 4), some (.int x2), some (.int x3), some (.int x4), some (.int x5), some (.int x6), some (.int x7), none, none] (st' := [.ref 4]) (σ' := s) 16 (And.intro rfl (And.intro rfl (And.intro rfl (And.intro rfl (And.intro rfl (And.intro rfl (And.intro rfl (And.intro rfl (trivial))))))))) (fun _ hh => (And.intro (fun q => absurd q c1) (fun _ => (Exists.intro (some (.int (XCu_cells s)), s) (And.intro (e_XCu_cells (d + 2)  s) (Exists.intro (some (.int (XCu_cells s)), s) (And.intro (e_XCu_cells (d + 2)  s) (And.intro (fun _ => hh) (fun q => absurd c2 q))))))))) ?_
        cases hz3 : XFi_wholeIn_4 x2 x3 x7 x6 s with
        | none => rw [hz3] at h; cases h
        | some v1 =>
        rw [hz3] at h
        dsimp only at h
        by_cases c4 : (J_bitCount v1 s) < x4
        · rw [if_pos c4] at h
          exact ax_cut (pc' := 15) (la := [some (.ref 55), some (.ref 4), some (.int x2), some (.int x3), some (.int x4), some (.int x5), some (.int x6), some (.int (x7 + (1))), none, some (.int v1)]) [some (.ref 55), some (.ref 4), some (.int x2), some (.int x3), some (.int x4), some (.int x5), some (.int x6), some (.int (x7 + (1))), none, none] (st' := []) (σ' := s) 12 (And.intro rfl (And.intro rfl (And.intro rfl (And.intro rfl (And.intro rfl (And.intro rfl (And.intro rfl (And.intro rfl (trivial))))))))) (fun _ hh => (Exists.intro (some (.int v1), s) (And.intro (e_XFi_wholeIn_4 d hz3) (Exists.intro (some (.int (J_bitCount v1 s)), s) (And.intro (e_J_bitCount (d + 2) v1 s) (And.intro (fun _ => hh) (fun q => absurd c4 q))))))) (ih x2 x3 x4 x5 x6 (x7 + (1)) s _ h hk0)
        · rw [if_neg c4] at h
          by_cases c5 : (x5 &&& (v1 ^^^ (-1 : Int32))) = 0
          · rw [if_pos c5] at h
            refine ax_cut (pc' := 96) (la := [some (.ref 55), some (.ref 4), some (.int x2), some (.int x3), some (.int x4), some (.int x5), some (.int x6), some (.int x7), none, some (.int v1)]) [some (.ref 55), some (.ref 4), some (.int x2), some (.int x3), some (.int x4), some (.int x5), some (.int x6), some (.int x7), none, none] (st' := []) (σ' := s) 16 (And.intro rfl (And.intro rfl (And.intro rfl (And.intro rfl (And.intro rfl (And.intro rfl (And.intro rfl (And.intro rfl (trivial))))))))) (fun _ hh => (Exists.intro (some (.int v1), s) (And.intro (e_XFi_wholeIn_4 d hz3) (Exists.intro (some (.int (J_bitCount v1 s)), s) (And.intro (e_J_bitCount (d + 2) v1 s) (And.intro (fun q => absurd q c4) (fun _ => (And.intro (fun q => absurd c5 q) (fun _ => hh))))))))) ?_
            exact ax_cut (pc' := 15) (la := [some (.ref 55), some (.ref 4), some (.int x2), some (.int x3), some (.int x4), some (.int x5), some (.int x6), some (.int (x7 + (1))), none, none]) [some (.ref 55), some (.ref 4), some (.int x2), some (.int x3), some (.int x4), some (.int x5), some (.int x6), some (.int (x7 + (1))), none, none] (st' := []) (σ' := (XCu_put x2 x3 x7 x6 s)) 8 (And.intro rfl (And.intro rfl (And.intro rfl (And.intro rfl (And.intro rfl (And.intro rfl (And.intro rfl (And.intro rfl (trivial))))))))) (fun _ hh => (Exists.intro (none, (XCu_put x2 x3 x7 x6 s)) (And.intro (e_XCu_put (d + 2) x2 x3 x7 x6 s) hh))) (ih x2 x3 x4 x5 x6 (x7 + (1)) (XCu_put x2 x3 x7 x6 s) _ h hk0)
          · rw [if_neg c5] at h
            refine ax_cut (pc' := 106) (la := [some (.ref 55), some (.ref 4), some (.int x2), some (.int x3), some (.int x4), some (.int x5), some (.int x6), some (.int x7), none, some (.int v1)]) [some (.ref 55), some (.ref 4), some (.int x2), some (.int x3), some (.int x4), some (.int x5), some (.int x6), some (.int x7), none, none] (st' := []) (σ' := s) 16 (And.intro rfl (And.intro rfl (And.intro rfl (And.intro rfl (And.intro rfl (And.intro rfl (And.intro rfl (And.intro rfl (trivial))))))))) (fun _ hh => (Exists.intro (some (.int v1), s) (And.intro (e_XFi_wholeIn_4 d hz3) (Exists.intro (some (.int (J_bitCount v1 s)), s) (And.intro (e_J_bitCount (d + 2) v1 s) (And.intro (fun q => absurd q c4) (fun _ => (And.intro (fun _ => hh) (fun q => absurd c5 q))))))))) ?_
            exact ax_cut (pc' := 15) (la := [some (.ref 55), some (.ref 4), some (.int x2), some (.int x3), some (.int x4), some (.int x5), some (.int x6), some (.int (x7 + (1))), none, none]) [some (.ref 55), some (.ref 4), some (.int x2), some (.int x3), some (.int x4), some (.int x5), some (.int x6), some (.int (x7 + (1))), none, none] (st' := []) (σ' := s) 2 (And.intro rfl (And.intro rfl (And.intro rfl (And.intro rfl (And.intro rfl (And.intro rfl (And.intro rfl (And.intro rfl (trivial))))))))) (fun _ hh => hh) (ih x2 x3 x4 x5 x6 (x7 + (1)) s _ h hk0)
      · rw [if_neg c2] at h
        refine ax_cut (pc' := 45) (la := [some (.ref 55), some (.ref 4), some (.int x2), some (.int x3), some (.int x4), some (.int x5), some (.int x6), some (.int x7), some (.int ((x7 * x6) - (XCu_cells s))), none]) [some (.ref 55), some (.ref 4), some (.int x2), some (.int x3), some (.int x4), some (.int x5), some (.int x6), some (.int x7), some (.int ((x7 * x6) - (XCu_cells s))), none] (st' := [.int ((x7 * x6) - (XCu_cells s))]) (σ' := s) 16 (And.intro rfl (And.intro rfl (And.intro rfl (And.intro rfl (And.intro rfl (And.intro rfl (And.intro rfl (And.intro rfl (And.intro rfl (trivial)))))))))) (fun _ hh => (And.intro (fun q => absurd q c1) (fun _ => (Exists.intro (some (.int (XCu_cells s)), s) (And.intro (e_XCu_cells (d + 2)  s) (Exists.intro (some (.int (XCu_cells s)), s) (And.intro (e_XCu_cells (d + 2)  s) (And.intro (fun q => absurd q c2) (fun _ => hh))))))))) ?_
        by_cases c6 : ((x7 * x6) - (XCu_cells s)) < 0
        · rw [if_pos c6] at h
          cases hz7 : XFi_wholeIn_4 x2 x3 x7 x6 s with
          | none => rw [hz7] at h; cases h
          | some v2 =>
          rw [hz7] at h
          dsimp only at h
          by_cases c8 : (J_bitCount v2 s) < x4
          · rw [if_pos c8] at h
            exact ax_cut (pc' := 15) (la := [some (.ref 55), some (.ref 4), some (.int x2), some (.int x3), some (.int x4), some (.int x5), some (.int x6), some (.int (x7 + (1))), some (.int ((x7 * x6) - (XCu_cells s))), some (.int v2)]) [some (.ref 55), some (.ref 4), some (.int x2), some (.int x3), some (.int x4), some (.int x5), some (.int x6), some (.int (x7 + (1))), none, none] (st' := []) (σ' := s) 14 (And.intro rfl (And.intro rfl (And.intro rfl (And.intro rfl (And.intro rfl (And.intro rfl (And.intro rfl (And.intro rfl (trivial))))))))) (fun _ hh => (And.intro (fun _ => (Exists.intro (some (.int v2), s) (And.intro (e_XFi_wholeIn_4 d hz7) (Exists.intro (some (.int (J_bitCount v2 s)), s) (And.intro (e_J_bitCount (d + 2) v2 s) (And.intro (fun _ => hh) (fun q => absurd c8 q))))))) (fun q => absurd c6 q))) (ih x2 x3 x4 x5 x6 (x7 + (1)) s _ h hk0)
          · rw [if_neg c8] at h
            refine ax_cut (pc' := 92) (la := [some (.ref 55), some (.ref 4), some (.int x2), some (.int x3), some (.int x4), some (.int x5), some (.int x6), some (.int x7), some (.int ((x7 * x6) - (XCu_cells s))), some (.int v2)]) [some (.ref 55), some (.ref 4), some (.int x2), some (.int x3), some (.int x4), some (.int x5), some (.int x6), some (.int x7), none, none] (st' := [.int (v2 ^^^ (-1 : Int32)), .int x5]) (σ' := s) 16 (And.intro rfl (And.intro rfl (And.intro rfl (And.intro rfl (And.intro rfl (And.intro rfl (And.intro rfl (And.intro rfl (trivial))))))))) (fun _ hh => (And.intro (fun _ => (Exists.intro (some (.int v2), s) (And.intro (e_XFi_wholeIn_4 d hz7) (Exists.intro (some (.int (J_bitCount v2 s)), s) (And.intro (e_J_bitCount (d + 2) v2 s) (And.intro (fun q => absurd q c8) (fun _ => hh))))))) (fun q => absurd c6 q))) ?_
            by_cases c9 : (x5 &&& (v2 ^^^ (-1 : Int32))) = 0
            · rw [if_pos c9] at h
              exact ax_cut (pc' := 15) (la := [some (.ref 55), some (.ref 4), some (.int x2), some (.int x3), some (.int x4), some (.int x5), some (.int x6), some (.int (x7 + (1))), none, none]) [some (.ref 55), some (.ref 4), some (.int x2), some (.int x3), some (.int x4), some (.int x5), some (.int x6), some (.int (x7 + (1))), none, none] (st' := []) (σ' := (XCu_put x2 x3 x7 x6 s)) 10 (And.intro rfl (And.intro rfl (And.intro rfl (And.intro rfl (And.intro rfl (And.intro rfl (And.intro rfl (And.intro rfl (trivial))))))))) (fun _ hh => (And.intro (fun q => absurd c9 q) (fun _ => (Exists.intro (none, (XCu_put x2 x3 x7 x6 s)) (And.intro (e_XCu_put (d + 2) x2 x3 x7 x6 s) hh))))) (ih x2 x3 x4 x5 x6 (x7 + (1)) (XCu_put x2 x3 x7 x6 s) _ h hk0)
            · rw [if_neg c9] at h
              exact ax_cut (pc' := 15) (la := [some (.ref 55), some (.ref 4), some (.int x2), some (.int x3), some (.int x4), some (.int x5), some (.int x6), some (.int (x7 + (1))), none, none]) [some (.ref 55), some (.ref 4), some (.int x2), some (.int x3), some (.int x4), some (.int x5), some (.int x6), some (.int (x7 + (1))), none, none] (st' := []) (σ' := s) 4 (And.intro rfl (And.intro rfl (And.intro rfl (And.intro rfl (And.intro rfl (And.intro rfl (And.intro rfl (And.intro rfl (trivial))))))))) (fun _ hh => (And.intro (fun _ => hh) (fun q => absurd c9 q))) (ih x2 x3 x4 x5 x6 (x7 + (1)) s _ h hk0)
        · rw [if_neg c6] at h
          by_cases c10 : ((x7 * x6) - (XCu_cells s)) = 0
          · rw [if_pos c10] at h
            by_cases c11 : (XCu_isAhead x2 x3 x7 s) = 0
            · rw [if_pos c11] at h
              exact ax_cut (pc' := 15) (la := [some (.ref 55), some (.ref 4), some (.int x2), some (.int x3), some (.int x4), some (.int x5), some (.int x6), some (.int (x7 + (1))), some (.int ((x7 * x6) - (XCu_cells s))), none]) [some (.ref 55), some (.ref 4), some (.int x2), some (.int x3), some (.int x4), some (.int x5), some (.int x6), some (.int (x7 + (1))), none, none] (st' := []) (σ' := s) 11 (And.intro rfl (And.intro rfl (And.intro rfl (And.intro rfl (And.intro rfl (And.intro rfl (And.intro rfl (And.intro rfl (trivial))))))))) (fun _ hh => (And.intro (fun q => absurd q c6) (fun _ => (And.intro (fun q => absurd c10 q) (fun _ => (Exists.intro (some (.int (XCu_isAhead x2 x3 x7 s)), s) (And.intro (e_XCu_isAhead (d + 2) x2 x3 x7 s) (And.intro (fun _ => hh) (fun q => absurd c11 q))))))))) (ih x2 x3 x4 x5 x6 (x7 + (1)) s _ h hk0)
            · rw [if_neg c11] at h
              cases hz12 : XFi_wholeIn_4 x2 x3 x7 x6 s with
              | none => rw [hz12] at h; cases h
              | some v3 =>
              rw [hz12] at h
              dsimp only at h
              refine ax_cut (pc' := 76) (la := [some (.ref 55), some (.ref 4), some (.int x2), some (.int x3), some (.int x4), some (.int x5), some (.int x6), some (.int x7), some (.int ((x7 * x6) - (XCu_cells s))), some (.int v3)]) [some (.ref 55), some (.ref 4), some (.int x2), some (.int x3), some (.int x4), some (.int x5), some (.int x6), some (.int x7), none, some (.int v3)] (st' := []) (σ' := s) 16 (And.intro rfl (And.intro rfl (And.intro rfl (And.intro rfl (And.intro rfl (And.intro rfl (And.intro rfl (And.intro rfl (And.intro rfl (trivial)))))))))) (fun _ hh => (And.intro (fun q => absurd q c6) (fun _ => (And.intro (fun q => absurd c10 q) (fun _ => (Exists.intro (some (.int (XCu_isAhead x2 x3 x7 s)), s) (And.intro (e_XCu_isAhead (d + 2) x2 x3 x7 s) (And.intro (fun q => absurd q c11) (fun _ => (Exists.intro (some (.int v3), s) (And.intro (e_XFi_wholeIn_4 d hz12) hh))))))))))) ?_
              by_cases c13 : (J_bitCount v3 s) < x4
              · rw [if_pos c13] at h
                exact ax_cut (pc' := 15) (la := [some (.ref 55), some (.ref 4), some (.int x2), some (.int x3), some (.int x4), some (.int x5), some (.int x6), some (.int (x7 + (1))), none, some (.int v3)]) [some (.ref 55), some (.ref 4), some (.int x2), some (.int x3), some (.int x4), some (.int x5), some (.int x6), some (.int (x7 + (1))), none, none] (st' := []) (σ' := s) 6 (And.intro rfl (And.intro rfl (And.intro rfl (And.intro rfl (And.intro rfl (And.intro rfl (And.intro rfl (And.intro rfl (trivial))))))))) (fun _ hh => (Exists.intro (some (.int (J_bitCount v3 s)), s) (And.intro (e_J_bitCount (d + 2) v3 s) (And.intro (fun _ => hh) (fun q => absurd c13 q))))) (ih x2 x3 x4 x5 x6 (x7 + (1)) s _ h hk0)
              · rw [if_neg c13] at h
                by_cases c14 : (x5 &&& (v3 ^^^ (-1 : Int32))) = 0
                · rw [if_pos c14] at h
                  refine ax_cut (pc' := 106) (la := [some (.ref 55), some (.ref 4), some (.int x2), some (.int x3), some (.int x4), some (.int x5), some (.int x6), some (.int x7), none, some (.int v3)]) [some (.ref 55), some (.ref 4), some (.int x2), some (.int x3), some (.int x4), some (.int x5), some (.int x6), some (.int x7), none, none] (st' := []) (σ' := (XCu_put x2 x3 x7 x6 s)) 16 (And.intro rfl (And.intro rfl (And.intro rfl (And.intro rfl (And.intro rfl (And.intro rfl (And.intro rfl (And.intro rfl (trivial))))))))) (fun _ hh => (Exists.intro (some (.int (J_bitCount v3 s)), s) (And.intro (e_J_bitCount (d + 2) v3 s) (And.intro (fun q => absurd q c13) (fun _ => (And.intro (fun q => absurd c14 q) (fun _ => (Exists.intro (none, (XCu_put x2 x3 x7 x6 s)) (And.intro (e_XCu_put (d + 2) x2 x3 x7 x6 s) hh))))))))) ?_
                  exact ax_cut (pc' := 15) (la := [some (.ref 55), some (.ref 4), some (.int x2), some (.int x3), some (.int x4), some (.int x5), some (.int x6), some (.int (x7 + (1))), none, none]) [some (.ref 55), some (.ref 4), some (.int x2), some (.int x3), some (.int x4), some (.int x5), some (.int x6), some (.int (x7 + (1))), none, none] (st' := []) (σ' := (XCu_put x2 x3 x7 x6 s)) 2 (And.intro rfl (And.intro rfl (And.intro rfl (And.intro rfl (And.intro rfl (And.intro rfl (And.intro rfl (And.intro rfl (trivial))))))))) (fun _ hh => hh) (ih x2 x3 x4 x5 x6 (x7 + (1)) (XCu_put x2 x3 x7 x6 s) _ h hk0)
                · rw [if_neg c14] at h
                  exact ax_cut (pc' := 15) (la := [some (.ref 55), some (.ref 4), some (.int x2), some (.int x3), some (.int x4), some (.int x5), some (.int x6), some (.int (x7 + (1))), none, some (.int v3)]) [some (.ref 55), some (.ref 4), some (.int x2), some (.int x3), some (.int x4), some (.int x5), some (.int x6), some (.int (x7 + (1))), none, none] (st' := []) (σ' := s) 12 (And.intro rfl (And.intro rfl (And.intro rfl (And.intro rfl (And.intro rfl (And.intro rfl (And.intro rfl (And.intro rfl (trivial))))))))) (fun _ hh => (Exists.intro (some (.int (J_bitCount v3 s)), s) (And.intro (e_J_bitCount (d + 2) v3 s) (And.intro (fun q => absurd q c13) (fun _ => (And.intro (fun _ => hh) (fun q => absurd c14 q))))))) (ih x2 x3 x4 x5 x6 (x7 + (1)) s _ h hk0)
          · rw [if_neg c10] at h
            exact ax_cut (pc' := 15) (la := [some (.ref 55), some (.ref 4), some (.int x2), some (.int x3), some (.int x4), some (.int x5), some (.int x6), some (.int (x7 + (1))), some (.int ((x7 * x6) - (XCu_cells s))), none]) [some (.ref 55), some (.ref 4), some (.int x2), some (.int x3), some (.int x4), some (.int x5), some (.int x6), some (.int (x7 + (1))), none, none] (st' := []) (σ' := s) 5 (And.intro rfl (And.intro rfl (And.intro rfl (And.intro rfl (And.intro rfl (And.intro rfl (And.intro rfl (And.intro rfl (trivial))))))))) (fun _ hh => (And.intro (fun q => absurd q c6) (fun _ => (And.intro (fun _ => hh) (fun q => absurd c10 q))))) (ih x2 x3 x4 x5 x6 (x7 + (1)) s _ h hk0)
theorem w_XCu_shrinkFrom_4_l3 (d : Nat) {o : ax_O} : ∀ (n : Nat) (x2 : Int32) (x3 : Int32) (x4 : Int32) (x5 : Int32) (x6 : Int32) (s : ax_S) (r : ax_S) (h : XCu_shrinkFrom_4_l3 n x2 x3 x4 x5 x6 s = some r) (hk0 : ∀ (t0 : ax_S), r = t0 → ax_go true none (ax_ev true (d + 3)) ax_m132 118 [none, none, none, none, none, none, none, none, none, none] [] t0 o), ax_go true none (ax_ev true (d + 3)) ax_m132 3 [some (.ref 55), some (.ref 4), some (.int x2), some (.int x3), some (.int x4), some (.int x5), some (.int x6), none, none, none] [] s o := by
  intro n
  induction n with
  | zero => intro x2 x3 x4 x5 x6 s r h hk0; cases h
  | succ n ih =>
    intro x2 x3 x4 x5 x6 s r h hk0
    rw [XCu_shrinkFrom_4_l3] at h
    by_cases c1 : ((12 : Int32) - x3) < x6
    · rw [if_pos c1] at h
      have h := Option.some.inj h
      subst r
      exact ax_cut (pc' := 118) (la := [some (.ref 55), some (.ref 4), some (.int x2), some (.int x3), some (.int x4), some (.int x5), some (.int x6), none, none, none]) [none, none, none, none, none, none, none, none, none, none] (st' := []) (σ' := s) 5 (trivial) (fun _ hh => (And.intro (fun _ => hh) (fun q => absurd c1 q))) (hk0 _ rfl)
    · rw [if_neg c1] at h
      cases hz2 : XCu_shrinkFrom_4_l15 70000 x2 x3 x4 x5 x6 (1 : Int32) s with
      | none => rw [hz2] at h; cases h
      | some z2 =>
      rw [hz2] at h
      refine ax_cut (pc' := 15) (la := [some (.ref 55), some (.ref 4), some (.int x2), some (.int x3), some (.int x4), some (.int x5), some (.int x6), some (.int (1 : Int32)), none, none]) [some (.ref 55), some (.ref 4), some (.int x2), some (.int x3), some (.int x4), some (.int x5), some (.int x6), some (.int (1 : Int32)), none, none] (st' := []) (σ' := s) 7 (And.intro rfl (And.intro rfl (And.intro rfl (And.intro rfl (And.intro rfl (And.intro rfl (And.intro rfl (And.intro rfl (trivial))))))))) (fun _ hh => (And.intro (fun q => absurd q c1) (fun _ => hh))) (w_XCu_shrinkFrom_4_l15 d 70000 x2 x3 x4 x5 x6 (1 : Int32) s _ hz2 ?_)
      · intro s4 hq
        subst z2
        dsimp only at h
        exact ax_cut (pc' := 3) (la := [some (.ref 55), some (.ref 4), some (.int x2), some (.int x3), some (.int x4), some (.int x5), some (.int (x6 + (1))), none, none, none]) [some (.ref 55), some (.ref 4), some (.int x2), some (.int x3), some (.int x4), some (.int x5), some (.int (x6 + (1))), none, none, none] (st' := []) (σ' := s4) 2 (And.intro rfl (And.intro rfl (And.intro rfl (And.intro rfl (And.intro rfl (And.intro rfl (And.intro rfl (trivial)))))))) (fun _ hh => hh) (ih x2 x3 x4 x5 (x6 + (1)) s4 _ h hk0)
theorem e_XCu_shrinkFrom_4 (d : Nat) {x2 : Int32} {x3 : Int32} {x4 : Int32} {x5 : Int32} {s : ax_S} {r : ax_S} (h : XCu_shrinkFrom_4 x2 x3 x4 x5 s = some r) : ax_ev true (d + 4) 132 [.ref 55, .ref 4, .int x2, .int x3, .int x4, .int x5] s (none, r) := by
  refine ⟨Nat.le_of_ble_eq_true rfl, ?_⟩
  show ax_go true none (ax_ev true (d + 3)) ax_m132 0 [some (.ref 55), some (.ref 4), some (.int x2), some (.int x3), some (.int x4), some (.int x5), none, none, none, none] [] s _
  unfold XCu_shrinkFrom_4 at h
  cases hz1 : XCu_shrinkFrom_4_l3 70000 x2 x3 x4 x5 (1 : Int32) s with
  | none => rw [hz1] at h; cases h
  | some z1 =>
  rw [hz1] at h
  refine ax_cut (pc' := 3) (la := [some (.ref 55), some (.ref 4), some (.int x2), some (.int x3), some (.int x4), some (.int x5), some (.int (1 : Int32)), none, none, none]) [some (.ref 55), some (.ref 4), some (.int x2), some (.int x3), some (.int x4), some (.int x5), some (.int (1 : Int32)), none, none, none] (st' := []) (σ' := s) 2 (And.intro rfl (And.intro rfl (And.intro rfl (And.intro rfl (And.intro rfl (And.intro rfl (And.intro rfl (trivial)))))))) (fun _ hh => hh) (w_XCu_shrinkFrom_4_l3 d 70000 x2 x3 x4 x5 (1 : Int32) s _ hz1 ?_)
  · intro s5 hq
    subst z1
    dsimp only at h
    have h := Option.some.inj h
    subst r
    exact ax_end 1 rfl
def XCu_cutSmallest_4_l58 : Nat → Int32 → Int32 → Int32 → Int32 → Int32 → Int32 → ax_S → Option (ax_S)
  | 0, _, _, _, _, _, _, _ => none
  | n + 1, x2, x3, x5, x6, x7, x8, s =>
    if (16 : Int32) ≤ x8 then (
      some s) else
    if ((x6 >>> (x7 &&& 31)) &&& (1 : Int32)) = (1 : Int32) then (
      if ((x5 >>> (x8 &&& 31)) &&& (1 : Int32)) = (1 : Int32) then (
        match XCu_shrinkFrom_4 x8 x7 x2 x3 s with
        | none => none
        | some s4 =>
          XCu_cutSmallest_4_l58 n x2 x3 x5 x6 x7 (x8 + (1)) s4) else
      XCu_cutSmallest_4_l58 n x2 x3 x5 x6 x7 (x8 + (1)) s) else
    XCu_cutSmallest_4_l58 n x2 x3 x5 x6 x7 (x8 + (1)) s
def XCu_cutSmallest_4_l48 : Nat → Int32 → Int32 → Int32 → Int32 → Int32 → ax_S → Option (ax_S)
  | 0, _, _, _, _, _, _ => none
  | n + 1, x2, x3, x5, x6, x7, s =>
    if (12 : Int32) ≤ x7 then (
      some s) else
    match XCu_cutSmallest_4_l58 70000 x2 x3 x5 x6 x7 (0 : Int32) s with
    | none => none
    | some s5 =>
      XCu_cutSmallest_4_l48 n x2 x3 x5 x6 (x7 + (1)) s5
def XCu_cutSmallest_4 (x2 : Int32) (x3 : Int32)  (s : ax_S) : Option (ax_S) :=
  match XFi_persons_4 (XCu_put (0 : Int32) (0 : Int32) (0 : Int32) (0 : Int32) s) with
  | none => none
  | some v1 =>
    if (J_bitCount v1 (XCu_put (0 : Int32) (0 : Int32) (0 : Int32) (0 : Int32) s)) < x2 then (
      some (XCu_put (0 : Int32) (0 : Int32) (0 : Int32) (0 : Int32) s)) else
    if (x3 &&& (v1 ^^^ (-1 : Int32))) = 0 then (
      match XFi_lefts_4 (XCu_put (0 : Int32) (0 : Int32) (0 : Int32) (0 : Int32) s) with
      | none => none
      | some v2 =>
        match XFi_tops_4 (XCu_put (0 : Int32) (0 : Int32) (0 : Int32) (0 : Int32) s) with
        | none => none
        | some v3 =>
          match XCu_cutSmallest_4_l48 70000 x2 x3 v2 v3 (0 : Int32) (XCu_put (0 : Int32) (0 : Int32) (0 : Int32) (0 : Int32) s) with
          | none => none
          | some s6 =>
            some s6) else
    some (XCu_put (0 : Int32) (0 : Int32) (0 : Int32) (0 : Int32) s)
theorem w_XCu_cutSmallest_4_l58 (d : Nat) {o : ax_O} : ∀ (n : Nat) (x2 : Int32) (x3 : Int32) (x5 : Int32) (x6 : Int32) (x7 : Int32) (x8 : Int32) (s : ax_S) (r : ax_S) (h : XCu_cutSmallest_4_l58 n x2 x3 x5 x6 x7 x8 s = some r) (hk0 : ∀ (t0 : ax_S), r = t0 → ax_go true none (ax_ev true (d + 4)) ax_m129 104 [some (.ref 55), some (.ref 4), some (.int x2), some (.int x3), none, some (.int x5), some (.int x6), some (.int x7), none] [] t0 o), ax_go true none (ax_ev true (d + 4)) ax_m129 58 [some (.ref 55), some (.ref 4), some (.int x2), some (.int x3), none, some (.int x5), some (.int x6), some (.int x7), some (.int x8)] [] s o := by
  intro n
  induction n with
  | zero => intro x2 x3 x5 x6 x7 x8 s r h hk0; cases h
  | succ n ih =>
    intro x2 x3 x5 x6 x7 x8 s r h hk0
    rw [XCu_cutSmallest_4_l58] at h
    by_cases c1 : (16 : Int32) ≤ x8
    · rw [if_pos c1] at h
      have h := Option.some.inj h
      subst r
      exact ax_cut (pc' := 104) (la := [some (.ref 55), some (.ref 4), some (.int x2), some (.int x3), none, some (.int x5), some (.int x6), some (.int x7), some (.int x8)]) [some (.ref 55), some (.ref 4), some (.int x2), some (.int x3), none, some (.int x5), some (.int x6), some (.int x7), none] (st' := []) (σ' := s) 3 (And.intro rfl (And.intro rfl (And.intro rfl (And.intro rfl (And.intro rfl (And.intro rfl (And.intro rfl (trivial)))))))) (fun _ hh => (And.intro (fun _ => hh) (fun q => absurd c1 q))) (hk0 _ rfl)
    · rw [if_neg c1] at h
      by_cases c2 : ((x6 >>> (x7 &&& 31)) &&& (1 : Int32)) = (1 : Int32)
      · rw [if_pos c2] at h
        refine ax_cut (pc' := 84) (la := [some (.ref 55), some (.ref 4), some (.int x2), some (.int x3), none, some (.int x5), some (.int x6), some (.int x7), some (.int x8)]) [some (.ref 55), some (.ref 4), some (.int x2), some (.int x3), none, some (.int x5), some (.int x6), some (.int x7), some (.int x8)] (st' := [.int (1 : Int32), .int ((x5 >>> (x8 &&& 31)) &&& (1 : Int32))]) (σ' := s) 16 (And.intro rfl (And.intro rfl (And.intro rfl (And.intro rfl (And.intro rfl (And.intro rfl (And.intro rfl (And.intro rfl (trivial))))))))) (fun _ hh => (And.intro (fun q => absurd q c1) (fun _ => (And.intro (fun q => absurd c2 q) (fun _ => hh))))) ?_
        by_cases c3 : ((x5 >>> (x8 &&& 31)) &&& (1 : Int32)) = (1 : Int32)
        · rw [if_pos c3] at h
          cases hz4 : XCu_shrinkFrom_4 x8 x7 x2 x3 s with
          | none => rw [hz4] at h; cases h
          | some s4 =>
          rw [hz4] at h
          dsimp only at h
          exact ax_cut (pc' := 58) (la := [some (.ref 55), some (.ref 4), some (.int x2), some (.int x3), none, some (.int x5), some (.int x6), some (.int x7), some (.int (x8 + (1)))]) [some (.ref 55), some (.ref 4), some (.int x2), some (.int x3), none, some (.int x5), some (.int x6), some (.int x7), some (.int (x8 + (1)))] (st' := []) (σ' := s4) 10 (And.intro rfl (And.intro rfl (And.intro rfl (And.intro rfl (And.intro rfl (And.intro rfl (And.intro rfl (And.intro rfl (trivial))))))))) (fun _ hh => (And.intro (fun q => absurd c3 q) (fun _ => (Exists.intro (none, s4) (And.intro (e_XCu_shrinkFrom_4 d hz4) hh))))) (ih x2 x3 x5 x6 x7 (x8 + (1)) s4 _ h hk0)
        · rw [if_neg c3] at h
          exact ax_cut (pc' := 58) (la := [some (.ref 55), some (.ref 4), some (.int x2), some (.int x3), none, some (.int x5), some (.int x6), some (.int x7), some (.int (x8 + (1)))]) [some (.ref 55), some (.ref 4), some (.int x2), some (.int x3), none, some (.int x5), some (.int x6), some (.int x7), some (.int (x8 + (1)))] (st' := []) (σ' := s) 3 (And.intro rfl (And.intro rfl (And.intro rfl (And.intro rfl (And.intro rfl (And.intro rfl (And.intro rfl (And.intro rfl (trivial))))))))) (fun _ hh => (And.intro (fun _ => hh) (fun q => absurd c3 q))) (ih x2 x3 x5 x6 x7 (x8 + (1)) s _ h hk0)
      · rw [if_neg c2] at h
        exact ax_cut (pc' := 58) (la := [some (.ref 55), some (.ref 4), some (.int x2), some (.int x3), none, some (.int x5), some (.int x6), some (.int x7), some (.int (x8 + (1)))]) [some (.ref 55), some (.ref 4), some (.int x2), some (.int x3), none, some (.int x5), some (.int x6), some (.int x7), some (.int (x8 + (1)))] (st' := []) (σ' := s) 12 (And.intro rfl (And.intro rfl (And.intro rfl (And.intro rfl (And.intro rfl (And.intro rfl (And.intro rfl (And.intro rfl (trivial))))))))) (fun _ hh => (And.intro (fun q => absurd q c1) (fun _ => (And.intro (fun _ => hh) (fun q => absurd c2 q))))) (ih x2 x3 x5 x6 x7 (x8 + (1)) s _ h hk0)
theorem w_XCu_cutSmallest_4_l48 (d : Nat) {o : ax_O} : ∀ (n : Nat) (x2 : Int32) (x3 : Int32) (x5 : Int32) (x6 : Int32) (x7 : Int32) (s : ax_S) (r : ax_S) (h : XCu_cutSmallest_4_l48 n x2 x3 x5 x6 x7 s = some r) (hk0 : ∀ (t0 : ax_S), r = t0 → ax_go true none (ax_ev true (d + 4)) ax_m129 110 [none, none, none, none, none, none, none, none, none] [] t0 o), ax_go true none (ax_ev true (d + 4)) ax_m129 48 [some (.ref 55), some (.ref 4), some (.int x2), some (.int x3), none, some (.int x5), some (.int x6), some (.int x7), none] [] s o := by
  intro n
  induction n with
  | zero => intro x2 x3 x5 x6 x7 s r h hk0; cases h
  | succ n ih =>
    intro x2 x3 x5 x6 x7 s r h hk0
    rw [XCu_cutSmallest_4_l48] at h
    by_cases c1 : (12 : Int32) ≤ x7
    · rw [if_pos c1] at h
      have h := Option.some.inj h
      subst r
      exact ax_cut (pc' := 110) (la := [some (.ref 55), some (.ref 4), some (.int x2), some (.int x3), none, some (.int x5), some (.int x6), some (.int x7), none]) [none, none, none, none, none, none, none, none, none] (st' := []) (σ' := s) 3 (trivial) (fun _ hh => (And.intro (fun _ => hh) (fun q => absurd c1 q))) (hk0 _ rfl)
    · rw [if_neg c1] at h
      cases hz2 : XCu_cutSmallest_4_l58 70000 x2 x3 x5 x6 x7 (0 : Int32) s with
      | none => rw [hz2] at h; cases h
      | some z2 =>
      rw [hz2] at h
      refine ax_cut (pc' := 58) (la := [some (.ref 55), some (.ref 4), some (.int x2), some (.int x3), none, some (.int x5), some (.int x6), some (.int x7), some (.int (0 : Int32))]) [some (.ref 55), some (.ref 4), some (.int x2), some (.int x3), none, some (.int x5), some (.int x6), some (.int x7), some (.int (0 : Int32))] (st' := []) (σ' := s) 5 (And.intro rfl (And.intro rfl (And.intro rfl (And.intro rfl (And.intro rfl (And.intro rfl (And.intro rfl (And.intro rfl (trivial))))))))) (fun _ hh => (And.intro (fun q => absurd q c1) (fun _ => hh))) (w_XCu_cutSmallest_4_l58 d 70000 x2 x3 x5 x6 x7 (0 : Int32) s _ hz2 ?_)
      · intro s5 hq
        subst z2
        dsimp only at h
        exact ax_cut (pc' := 48) (la := [some (.ref 55), some (.ref 4), some (.int x2), some (.int x3), none, some (.int x5), some (.int x6), some (.int (x7 + (1))), none]) [some (.ref 55), some (.ref 4), some (.int x2), some (.int x3), none, some (.int x5), some (.int x6), some (.int (x7 + (1))), none] (st' := []) (σ' := s5) 2 (And.intro rfl (And.intro rfl (And.intro rfl (And.intro rfl (And.intro rfl (And.intro rfl (And.intro rfl (trivial)))))))) (fun _ hh => hh) (ih x2 x3 x5 x6 (x7 + (1)) s5 _ h hk0)
theorem e_XCu_cutSmallest_4 (d : Nat) {x2 : Int32} {x3 : Int32} {s : ax_S} {r : ax_S} (h : XCu_cutSmallest_4 x2 x3 s = some r) : ax_ev true (d + 5) 129 [.ref 55, .ref 4, .int x2, .int x3] s (none, r) := by
  refine ⟨Nat.le_of_ble_eq_true rfl, ?_⟩
  show ax_go true none (ax_ev true (d + 4)) ax_m129 0 [some (.ref 55), some (.ref 4), some (.int x2), some (.int x3), none, none, none, none, none] [] s _
  unfold XCu_cutSmallest_4 at h
  cases hz1 : XFi_persons_4 (XCu_put (0 : Int32) (0 : Int32) (0 : Int32) (0 : Int32) s) with
  | none => rw [hz1] at h; cases h
  | some v1 =>
  rw [hz1] at h
  dsimp only at h
  by_cases c2 : (J_bitCount v1 (XCu_put (0 : Int32) (0 : Int32) (0 : Int32) (0 : Int32) s)) < x2
  · rw [if_pos c2] at h
    have h := Option.some.inj h
    subst r
    exact ax_end 14 (Exists.intro (none, (XCu_put (0 : Int32) (0 : Int32) (0 : Int32) (0 : Int32) s)) (And.intro (e_XCu_put (d + 3) (0 : Int32) (0 : Int32) (0 : Int32) (0 : Int32) s) (Exists.intro (some (.int v1), (XCu_put (0 : Int32) (0 : Int32) (0 : Int32) (0 : Int32) s)) (And.intro (e_XFi_persons_4 (d + 1) hz1) (Exists.intro (some (.int (J_bitCount v1 (XCu_put (0 : Int32) (0 : Int32) (0 : Int32) (0 : Int32) s))), (XCu_put (0 : Int32) (0 : Int32) (0 : Int32) (0 : Int32) s)) (And.intro (e_J_bitCount (d + 3) v1 (XCu_put (0 : Int32) (0 : Int32) (0 : Int32) (0 : Int32) s)) (And.intro (fun _ => rfl) (fun q => absurd c2 q))))))))
  · rw [if_neg c2] at h
    refine ax_cut (pc' := 27) (la := [some (.ref 55), some (.ref 4), some (.int x2), some (.int x3), some (.int v1), none, none, none, none]) [some (.ref 55), some (.ref 4), some (.int x2), some (.int x3), none, none, none, none, none] (st' := [.int (-1 : Int32), .int v1, .int x3]) (σ' := (XCu_put (0 : Int32) (0 : Int32) (0 : Int32) (0 : Int32) s)) 16 (And.intro rfl (And.intro rfl (And.intro rfl (And.intro rfl (trivial))))) (fun _ hh => (Exists.intro (none, (XCu_put (0 : Int32) (0 : Int32) (0 : Int32) (0 : Int32) s)) (And.intro (e_XCu_put (d + 3) (0 : Int32) (0 : Int32) (0 : Int32) (0 : Int32) s) (Exists.intro (some (.int v1), (XCu_put (0 : Int32) (0 : Int32) (0 : Int32) (0 : Int32) s)) (And.intro (e_XFi_persons_4 (d + 1) hz1) (Exists.intro (some (.int (J_bitCount v1 (XCu_put (0 : Int32) (0 : Int32) (0 : Int32) (0 : Int32) s))), (XCu_put (0 : Int32) (0 : Int32) (0 : Int32) (0 : Int32) s)) (And.intro (e_J_bitCount (d + 3) v1 (XCu_put (0 : Int32) (0 : Int32) (0 : Int32) (0 : Int32) s)) (And.intro (fun q => absurd q c2) (fun _ => hh))))))))) ?_
    by_cases c3 : (x3 &&& (v1 ^^^ (-1 : Int32))) = 0
    · rw [if_pos c3] at h
      cases hz4 : XFi_lefts_4 (XCu_put (0 : Int32) (0 : Int32) (0 : Int32) (0 : Int32) s) with
      | none => rw [hz4] at h; cases h
      | some v2 =>
      rw [hz4] at h
      dsimp only at h
      cases hz5 : XFi_tops_4 (XCu_put (0 : Int32) (0 : Int32) (0 : Int32) (0 : Int32) s) with
      | none => rw [hz5] at h; cases h
      | some v3 =>
      rw [hz5] at h
      dsimp only at h
      cases hz6 : XCu_cutSmallest_4_l48 70000 x2 x3 v2 v3 (0 : Int32) (XCu_put (0 : Int32) (0 : Int32) (0 : Int32) (0 : Int32) s) with
      | none => rw [hz6] at h; cases h
      | some z6 =>
      rw [hz6] at h
      refine ax_cut (pc' := 48) (la := [some (.ref 55), some (.ref 4), some (.int x2), some (.int x3), none, some (.int v2), some (.int v3), some (.int (0 : Int32)), none]) [some (.ref 55), some (.ref 4), some (.int x2), some (.int x3), none, some (.int v2), some (.int v3), some (.int (0 : Int32)), none] (st' := []) (σ' := (XCu_put (0 : Int32) (0 : Int32) (0 : Int32) (0 : Int32) s)) 11 (And.intro rfl (And.intro rfl (And.intro rfl (And.intro rfl (And.intro rfl (And.intro rfl (And.intro rfl (trivial)))))))) (fun _ hh => (And.intro (fun _ => (Exists.intro (some (.int v2), (XCu_put (0 : Int32) (0 : Int32) (0 : Int32) (0 : Int32) s)) (And.intro (e_XFi_lefts_4 (d + 2) hz4) (Exists.intro (some (.int v3), (XCu_put (0 : Int32) (0 : Int32) (0 : Int32) (0 : Int32) s)) (And.intro (e_XFi_tops_4 (d + 2) hz5) hh))))) (fun q => absurd c3 q))) (w_XCu_cutSmallest_4_l48 d 70000 x2 x3 v2 v3 (0 : Int32) (XCu_put (0 : Int32) (0 : Int32) (0 : Int32) (0 : Int32) s) _ hz6 ?_)
      · intro s6 hq
        subst z6
        dsimp only at h
        have h := Option.some.inj h
        subst r
        exact ax_end 1 rfl
    · rw [if_neg c3] at h
      have h := Option.some.inj h
      subst r
      exact ax_end 4 (And.intro (fun q => absurd q c3) (fun _ => rfl))
def X_smallest (x1 : Int32) (x2 : Int32)  (s : ax_S) : Option (Int32 × ax_S) :=
  if (X_isWithin x1 (1 : Int32) (16 : Int32) s) = 0 then (
    some ((-1 : Int32), s)) else
  if (X_isWithin x2 (0 : Int32) (3 : Int32) s) = 0 then (
    some ((-1 : Int32), s)) else
  match XCu_cutSmallest_4 x1 (0 : Int32) s with
  | none => none
  | some s1 =>
    some ((XCu_part x2 s1), s1)
theorem e_X_smallest (d : Nat) {x1 : Int32} {x2 : Int32} {s : ax_S} {r : Int32 × ax_S} (h : X_smallest x1 x2 s = some r) : ax_ev true (d + 6) 128 [.ref 0, .int x1, .int x2] s (some (.int r.1), r.2) := by
  refine ⟨Nat.le_of_ble_eq_true rfl, ?_⟩
  show ax_go true none (ax_ev true (d + 5)) ax_m128 0 [some (.ref 0), some (.int x1), some (.int x2)] [] s _
  unfold X_smallest at h
  by_cases c1 : (X_isWithin x1 (1 : Int32) (16 : Int32) s) = 0
  · rw [if_pos c1] at h
    have h := Option.some.inj h
    subst r
    exact ax_end 7 (Exists.intro (some (.int (X_isWithin x1 (1 : Int32) (16 : Int32) s)), s) (And.intro (e_X_isWithin (d + 4) x1 (1 : Int32) (16 : Int32) s) (And.intro (fun _ => rfl) (fun q => absurd c1 q))))
  · rw [if_neg c1] at h
    by_cases c2 : (X_isWithin x2 (0 : Int32) (3 : Int32) s) = 0
    · rw [if_pos c2] at h
      have h := Option.some.inj h
      subst r
      exact ax_end 12 (Exists.intro (some (.int (X_isWithin x1 (1 : Int32) (16 : Int32) s)), s) (And.intro (e_X_isWithin (d + 4) x1 (1 : Int32) (16 : Int32) s) (And.intro (fun q => absurd q c1) (fun _ => (Exists.intro (some (.int (X_isWithin x2 (0 : Int32) (3 : Int32) s)), s) (And.intro (e_X_isWithin (d + 4) x2 (0 : Int32) (3 : Int32) s) (And.intro (fun q => absurd c2 q) (fun _ => rfl))))))))
    · rw [if_neg c2] at h
      refine ax_cut (pc' := 33) (la := [some (.ref 0), some (.int x1), some (.int x2)]) [some (.ref 0), none, some (.int x2)] (st' := [.int x1, .ref 4, .ref 55]) (σ' := s) 16 (And.intro rfl (And.intro rfl (trivial))) (fun _ hh => (Exists.intro (some (.int (X_isWithin x1 (1 : Int32) (16 : Int32) s)), s) (And.intro (e_X_isWithin (d + 4) x1 (1 : Int32) (16 : Int32) s) (And.intro (fun q => absurd q c1) (fun _ => (Exists.intro (some (.int (X_isWithin x2 (0 : Int32) (3 : Int32) s)), s) (And.intro (e_X_isWithin (d + 4) x2 (0 : Int32) (3 : Int32) s) (And.intro (fun _ => hh) (fun q => absurd c2 q))))))))) ?_
      cases hz3 : XCu_cutSmallest_4 x1 (0 : Int32) s with
      | none => rw [hz3] at h; cases h
      | some s1 =>
      rw [hz3] at h
      dsimp only at h
      have h := Option.some.inj h
      subst r
      exact ax_end 7 (Exists.intro (none, s1) (And.intro (e_XCu_cutSmallest_4 d hz3) (Exists.intro (some (.int (XCu_part x2 s1)), s1) (And.intro (e_XCu_part (d + 3) x2 s1) rfl))))
def M_bits_l4 : Nat → Int32 → Int32 → Int32 → ax_S → Option (Int32)
  | 0, _, _, _, _ => none
  | n + 1, x0, x1, x2, s =>
    if (16 : Int32) ≤ x2 then (
      some x1) else
    M_bits_l4 n x0 (x1 + ((x0 >>> (x2 &&& 31)) &&& (1 : Int32))) (x2 + (1)) s
def M_bits (x0 : Int32)  (s : ax_S) : Option (Int32) :=
  match M_bits_l4 70000 x0 (0 : Int32) (0 : Int32) s with
  | none => none
  | some v1 =>
    some v1
theorem w_M_bits_l4 (d : Nat) {o : ax_O} : ∀ (n : Nat) (x0 : Int32) (x1 : Int32) (x2 : Int32) (s : ax_S) (r : Int32) (h : M_bits_l4 n x0 x1 x2 s = some r) (hk0 : ∀ (t0 : Int32), r = t0 → ax_go true none (ax_ev true (d + 0)) ax_m257 24 [none, some (.int t0), none] [] s o), ax_go true none (ax_ev true (d + 0)) ax_m257 4 [some (.int x0), some (.int x1), some (.int x2)] [] s o := by
  intro n
  induction n with
  | zero => intro x0 x1 x2 s r h hk0; cases h
  | succ n ih =>
    intro x0 x1 x2 s r h hk0
    rw [M_bits_l4] at h
    by_cases c1 : (16 : Int32) ≤ x2
    · rw [if_pos c1] at h
      have h := Option.some.inj h
      subst r
      exact ax_cut (pc' := 24) (la := [some (.int x0), some (.int x1), some (.int x2)]) [none, some (.int x1), none] (st' := []) (σ' := s) 3 (And.intro rfl (trivial)) (fun _ hh => (And.intro (fun _ => hh) (fun q => absurd c1 q))) (hk0 _ rfl)
    · rw [if_neg c1] at h
      exact ax_cut (pc' := 4) (la := [some (.int x0), some (.int (x1 + ((x0 >>> (x2 &&& 31)) &&& (1 : Int32)))), some (.int (x2 + (1)))]) [some (.int x0), some (.int (x1 + ((x0 >>> (x2 &&& 31)) &&& (1 : Int32)))), some (.int (x2 + (1)))] (st' := []) (σ' := s) 13 (And.intro rfl (And.intro rfl (And.intro rfl (trivial)))) (fun _ hh => (And.intro (fun q => absurd q c1) (fun _ => hh))) (ih x0 (x1 + ((x0 >>> (x2 &&& 31)) &&& (1 : Int32))) (x2 + (1)) s _ h hk0)
theorem e_M_bits (d : Nat) {x0 : Int32} {s : ax_S} {r : Int32} (h : M_bits x0 s = some r) : ax_ev true (d + 1) 257 [.int x0] s (some (.int r), s) := by
  refine ⟨Nat.le_of_ble_eq_true rfl, ?_⟩
  show ax_go true none (ax_ev true (d + 0)) ax_m257 0 [some (.int x0), none, none] [] s _
  unfold M_bits at h
  cases hz1 : M_bits_l4 70000 x0 (0 : Int32) (0 : Int32) s with
  | none => rw [hz1] at h; cases h
  | some z1 =>
  rw [hz1] at h
  refine ax_cut (pc' := 4) (la := [some (.int x0), some (.int (0 : Int32)), some (.int (0 : Int32))]) [some (.int x0), some (.int (0 : Int32)), some (.int (0 : Int32))] (st' := []) (σ' := s) 4 (And.intro rfl (And.intro rfl (And.intro rfl (trivial)))) (fun _ hh => hh) (w_M_bits_l4 d 70000 x0 (0 : Int32) (0 : Int32) s _ hz1 ?_)
  · intro v1 hq
    subst z1
    dsimp only at h
    have h := Option.some.inj h
    subst r
    exact ax_end 2 rfl
def M_cutsSmallest_l41 : Nat → Int32 → Int32 → Int32 → Int32 → Int32 → Int32 → ax_S → Option ((ax_S) ⊕ (ax_S))
  | 0, _, _, _, _, _, _, _ => none
  | n + 1, x1, x2, x3, x4, x5, x6, s =>
    if ((12 : Int32) - x3) < x6 then (
      some (.inr s)) else
    if (s.2.1 63 31) ≤ 0 then (
      match M_wholeIn x4 x3 x5 x6 s with
      | none => none
      | some v1 =>
        match M_bits v1 s with
        | none => none
        | some v2 =>
          if v2 < x1 then (
            M_cutsSmallest_l41 n x1 x2 x3 x4 x5 (x6 + (1)) s) else
          if (x2 &&& (v1 ^^^ (-1 : Int32))) = 0 then (
            M_cutsSmallest_l41 n x1 x2 x3 x4 x5 (x6 + (1)) (M_laysCut x4 x3 x5 x6 s)) else
          M_cutsSmallest_l41 n x1 x2 x3 x4 x5 (x6 + (1)) s) else
    if (x5 * x6) < ((s.2.1 63 31) * (s.2.1 63 32)) then (
      match M_wholeIn x4 x3 x5 x6 s with
      | none => none
      | some v3 =>
        match M_bits v3 s with
        | none => none
        | some v4 =>
          if v4 < x1 then (
            M_cutsSmallest_l41 n x1 x2 x3 x4 x5 (x6 + (1)) s) else
          if (x2 &&& (v3 ^^^ (-1 : Int32))) = 0 then (
            M_cutsSmallest_l41 n x1 x2 x3 x4 x5 (x6 + (1)) (M_laysCut x4 x3 x5 x6 s)) else
          M_cutsSmallest_l41 n x1 x2 x3 x4 x5 (x6 + (1)) s) else
    some (.inl s)
def M_cutsSmallest_l33 : Nat → Int32 → Int32 → Int32 → Int32 → Int32 → ax_S → Option (ax_S)
  | 0, _, _, _, _, _, _ => none
  | n + 1, x1, x2, x3, x4, x5, s =>
    if x5 ≤ 0 then (
      some s) else
    match M_cutsSmallest_l41 70000 x1 x2 x3 x4 x5 (1 : Int32) s with
    | none => none
    | some (.inl s5) =>
      M_cutsSmallest_l33 n x1 x2 x3 x4 (x5 + Int32.ofInt (-1)) s5
    | some (.inr s7) =>
      M_cutsSmallest_l33 n x1 x2 x3 x4 (x5 + Int32.ofInt (-1)) s7
def M_cutsSmallest_l19 : Nat → Int32 → Int32 → Int32 → Int32 → ax_S → Option (ax_S)
  | 0, _, _, _, _, _ => none
  | n + 1, x1, x2, x3, x4, s =>
    if (16 : Int32) ≤ x4 then (
      some s) else
    match M_cutsSmallest_l33 70000 x1 x2 x3 x4 ((16 : Int32) - x4) s with
    | none => none
    | some s9 =>
      M_cutsSmallest_l19 n x1 x2 x3 (x4 + (1)) s9
def M_cutsSmallest_l10 : Nat → Int32 → Int32 → Int32 → ax_S → Option (ax_S)
  | 0, _, _, _, _ => none
  | n + 1, x1, x2, x3, s =>
    if (12 : Int32) ≤ x3 then (
      some s) else
    match M_cutsSmallest_l19 70000 x1 x2 x3 (0 : Int32) s with
    | none => none
    | some s10 =>
      M_cutsSmallest_l10 n x1 x2 (x3 + (1)) s10
def M_cutsSmallest (x1 : Int32) (x2 : Int32)  (s : ax_S) : Option (ax_S) :=
  match M_cutsSmallest_l10 70000 x1 x2 (0 : Int32) (M_laysCut (0 : Int32) (0 : Int32) (0 : Int32) (0 : Int32) s) with
  | none => none
  | some s11 =>
    some s11
theorem w_M_cutsSmallest_l41 (d : Nat) {o : ax_O} : ∀ (n : Nat) (x1 : Int32) (x2 : Int32) (x3 : Int32) (x4 : Int32) (x5 : Int32) (x6 : Int32) (s : ax_S) (r : (ax_S) ⊕ (ax_S)) (h : M_cutsSmallest_l41 n x1 x2 x3 x4 x5 x6 s = some r) (hk0 : ∀ (t0 : ax_S), r = (.inl t0) → ax_go true none (ax_ev true (d + 3)) ax_m256 74 [some (.ref 63), some (.int x1), some (.int x2), some (.int x3), some (.int x4), some (.int x5), none, none] [] t0 o) (hk1 : ∀ (t0 : ax_S), r = (.inr t0) → ax_go true none (ax_ev true (d + 3)) ax_m256 128 [some (.ref 63), some (.int x1), some (.int x2), some (.int x3), some (.int x4), some (.int x5), none, none] [] t0 o), ax_go true none (ax_ev true (d + 3)) ax_m256 41 [some (.ref 63), some (.int x1), some (.int x2), some (.int x3), some (.int x4), some (.int x5), some (.int x6), none] [] s o := by
  intro n
  induction n with
  | zero => intro x1 x2 x3 x4 x5 x6 s r h hk0 hk1; cases h
  | succ n ih =>
    intro x1 x2 x3 x4 x5 x6 s r h hk0 hk1
    rw [M_cutsSmallest_l41] at h
    by_cases c1 : ((12 : Int32) - x3) < x6
    · rw [if_pos c1] at h
      have h := Option.some.inj h
      subst r
      exact ax_cut (pc' := 128) (la := [some (.ref 63), some (.int x1), some (.int x2), some (.int x3), some (.int x4), some (.int x5), some (.int x6), none]) [some (.ref 63), some (.int x1), some (.int x2), some (.int x3), some (.int x4), some (.int x5), none, none] (st' := []) (σ' := s) 5 (And.intro rfl (And.intro rfl (And.intro rfl (And.intro rfl (And.intro rfl (And.intro rfl (trivial))))))) (fun _ hh => (And.intro (fun _ => hh) (fun q => absurd c1 q))) (hk1 _ rfl)
    · rw [if_neg c1] at h
      by_cases c2 : (s.2.1 63 31) ≤ 0
      · rw [if_pos c2] at h
        cases hz3 : M_wholeIn x4 x3 x5 x6 s with
        | none => rw [hz3] at h; cases h
        | some v1 =>
        rw [hz3] at h
        dsimp only at h
        refine ax_cut (pc' := 92) (la := [some (.ref 63), some (.int x1), some (.int x2), some (.int x3), some (.int x4), some (.int x5), some (.int x6), some (.int v1)]) [some (.ref 63), some (.int x1), some (.int x2), some (.int x3), some (.int x4), some (.int x5), some (.int x6), some (.int v1)] (st' := [.int v1]) (σ' := s) 16 (And.intro rfl (And.intro rfl (And.intro rfl (And.intro rfl (And.intro rfl (And.intro rfl (And.intro rfl (And.intro rfl (trivial))))))))) (fun _ hh => (And.intro (fun q => absurd q c1) (fun _ => (And.intro (fun _ => (Exists.intro (some (.int v1), s) (And.intro (e_M_wholeIn d hz3) hh))) (fun q => absurd c2 q))))) ?_
        cases hz4 : M_bits v1 s with
        | none => rw [hz4] at h; cases h
        | some v2 =>
        rw [hz4] at h
        dsimp only at h
        by_cases c5 : v2 < x1
        · rw [if_pos c5] at h
          exact ax_cut (pc' := 41) (la := [some (.ref 63), some (.int x1), some (.int x2), some (.int x3), some (.int x4), some (.int x5), some (.int (x6 + (1))), some (.int v1)]) [some (.ref 63), some (.int x1), some (.int x2), some (.int x3), some (.int x4), some (.int x5), some (.int (x6 + (1))), none] (st' := []) (σ' := s) 5 (And.intro rfl (And.intro rfl (And.intro rfl (And.intro rfl (And.intro rfl (And.intro rfl (And.intro rfl (trivial)))))))) (fun _ hh => (Exists.intro (some (.int v2), s) (And.intro (e_M_bits (d + 2) hz4) (And.intro (fun _ => hh) (fun q => absurd c5 q))))) (ih x1 x2 x3 x4 x5 (x6 + (1)) s _ h hk0 hk1)
        · rw [if_neg c5] at h
          by_cases c6 : (x2 &&& (v1 ^^^ (-1 : Int32))) = 0
          · rw [if_pos c6] at h
            refine ax_cut (pc' := 125) (la := [some (.ref 63), some (.int x1), some (.int x2), some (.int x3), some (.int x4), some (.int x5), some (.int (x6 + (1))), some (.int v1)]) [some (.ref 63), some (.int x1), some (.int x2), some (.int x3), some (.int x4), some (.int x5), some (.int (x6 + (1))), none] (st' := []) (σ' := (M_laysCut x4 x3 x5 x6 s)) 16 (And.intro rfl (And.intro rfl (And.intro rfl (And.intro rfl (And.intro rfl (And.intro rfl (And.intro rfl (trivial)))))))) (fun _ hh => (Exists.intro (some (.int v2), s) (And.intro (e_M_bits (d + 2) hz4) (And.intro (fun q => absurd q c5) (fun _ => (And.intro (fun _ => (Exists.intro (none, (M_laysCut x4 x3 x5 x6 s)) (And.intro (e_M_laysCut (d + 2) x4 x3 x5 x6 s) hh))) (fun q => absurd c6 q))))))) ?_
            exact ax_cut (pc' := 41) (la := [some (.ref 63), some (.int x1), some (.int x2), some (.int x3), some (.int x4), some (.int x5), some (.int (x6 + (1))), none]) [some (.ref 63), some (.int x1), some (.int x2), some (.int x3), some (.int x4), some (.int x5), some (.int (x6 + (1))), none] (st' := []) (σ' := (M_laysCut x4 x3 x5 x6 s)) 1 (And.intro rfl (And.intro rfl (And.intro rfl (And.intro rfl (And.intro rfl (And.intro rfl (And.intro rfl (trivial)))))))) (fun _ hh => hh) (ih x1 x2 x3 x4 x5 (x6 + (1)) (M_laysCut x4 x3 x5 x6 s) _ h hk0 hk1)
          · rw [if_neg c6] at h
            exact ax_cut (pc' := 41) (la := [some (.ref 63), some (.int x1), some (.int x2), some (.int x3), some (.int x4), some (.int x5), some (.int (x6 + (1))), some (.int v1)]) [some (.ref 63), some (.int x1), some (.int x2), some (.int x3), some (.int x4), some (.int x5), some (.int (x6 + (1))), none] (st' := []) (σ' := s) 12 (And.intro rfl (And.intro rfl (And.intro rfl (And.intro rfl (And.intro rfl (And.intro rfl (And.intro rfl (trivial)))))))) (fun _ hh => (Exists.intro (some (.int v2), s) (And.intro (e_M_bits (d + 2) hz4) (And.intro (fun q => absurd q c5) (fun _ => (And.intro (fun q => absurd q c6) (fun _ => hh))))))) (ih x1 x2 x3 x4 x5 (x6 + (1)) s _ h hk0 hk1)
      · rw [if_neg c2] at h
        refine ax_cut (pc' := 71) (la := [some (.ref 63), some (.int x1), some (.int x2), some (.int x3), some (.int x4), some (.int x5), some (.int x6), none]) [some (.ref 63), some (.int x1), some (.int x2), some (.int x3), some (.int x4), some (.int x5), some (.int x6), none] (st' := [.int ((s.2.1 63 31) * (s.2.1 63 32)), .int (x5 * x6)]) (σ' := s) 16 (And.intro rfl (And.intro rfl (And.intro rfl (And.intro rfl (And.intro rfl (And.intro rfl (And.intro rfl (trivial)))))))) (fun _ hh => (And.intro (fun q => absurd q c1) (fun _ => (And.intro (fun q => absurd q c2) (fun _ => hh))))) ?_
        by_cases c7 : (x5 * x6) < ((s.2.1 63 31) * (s.2.1 63 32))
        · rw [if_pos c7] at h
          cases hz8 : M_wholeIn x4 x3 x5 x6 s with
          | none => rw [hz8] at h; cases h
          | some v3 =>
          rw [hz8] at h
          dsimp only at h
          cases hz9 : M_bits v3 s with
          | none => rw [hz9] at h; cases h
          | some v4 =>
          rw [hz9] at h
          dsimp only at h
          by_cases c10 : v4 < x1
          · rw [if_pos c10] at h
            exact ax_cut (pc' := 41) (la := [some (.ref 63), some (.int x1), some (.int x2), some (.int x3), some (.int x4), some (.int x5), some (.int (x6 + (1))), some (.int v3)]) [some (.ref 63), some (.int x1), some (.int x2), some (.int x3), some (.int x4), some (.int x5), some (.int (x6 + (1))), none] (st' := []) (σ' := s) 14 (And.intro rfl (And.intro rfl (And.intro rfl (And.intro rfl (And.intro rfl (And.intro rfl (And.intro rfl (trivial)))))))) (fun _ hh => (And.intro (fun _ => (Exists.intro (some (.int v3), s) (And.intro (e_M_wholeIn d hz8) (Exists.intro (some (.int v4), s) (And.intro (e_M_bits (d + 2) hz9) (And.intro (fun _ => hh) (fun q => absurd c10 q))))))) (fun q => absurd c7 q))) (ih x1 x2 x3 x4 x5 (x6 + (1)) s _ h hk0 hk1)
          · rw [if_neg c10] at h
            refine ax_cut (pc' := 104) (la := [some (.ref 63), some (.int x1), some (.int x2), some (.int x3), some (.int x4), some (.int x5), some (.int x6), some (.int v3)]) [some (.ref 63), some (.int x1), some (.int x2), some (.int x3), some (.int x4), some (.int x5), some (.int x6), none] (st' := [.int (v3 ^^^ (-1 : Int32)), .int x2]) (σ' := s) 16 (And.intro rfl (And.intro rfl (And.intro rfl (And.intro rfl (And.intro rfl (And.intro rfl (And.intro rfl (trivial)))))))) (fun _ hh => (And.intro (fun _ => (Exists.intro (some (.int v3), s) (And.intro (e_M_wholeIn d hz8) (Exists.intro (some (.int v4), s) (And.intro (e_M_bits (d + 2) hz9) (And.intro (fun q => absurd q c10) (fun _ => hh))))))) (fun q => absurd c7 q))) ?_
            by_cases c11 : (x2 &&& (v3 ^^^ (-1 : Int32))) = 0
            · rw [if_pos c11] at h
              exact ax_cut (pc' := 41) (la := [some (.ref 63), some (.int x1), some (.int x2), some (.int x3), some (.int x4), some (.int x5), some (.int (x6 + (1))), none]) [some (.ref 63), some (.int x1), some (.int x2), some (.int x3), some (.int x4), some (.int x5), some (.int (x6 + (1))), none] (st' := []) (σ' := (M_laysCut x4 x3 x5 x6 s)) 10 (And.intro rfl (And.intro rfl (And.intro rfl (And.intro rfl (And.intro rfl (And.intro rfl (And.intro rfl (trivial)))))))) (fun _ hh => (And.intro (fun _ => (Exists.intro (none, (M_laysCut x4 x3 x5 x6 s)) (And.intro (e_M_laysCut (d + 2) x4 x3 x5 x6 s) hh))) (fun q => absurd c11 q))) (ih x1 x2 x3 x4 x5 (x6 + (1)) (M_laysCut x4 x3 x5 x6 s) _ h hk0 hk1)
            · rw [if_neg c11] at h
              exact ax_cut (pc' := 41) (la := [some (.ref 63), some (.int x1), some (.int x2), some (.int x3), some (.int x4), some (.int x5), some (.int (x6 + (1))), none]) [some (.ref 63), some (.int x1), some (.int x2), some (.int x3), some (.int x4), some (.int x5), some (.int (x6 + (1))), none] (st' := []) (σ' := s) 5 (And.intro rfl (And.intro rfl (And.intro rfl (And.intro rfl (And.intro rfl (And.intro rfl (And.intro rfl (trivial)))))))) (fun _ hh => (And.intro (fun q => absurd q c11) (fun _ => hh))) (ih x1 x2 x3 x4 x5 (x6 + (1)) s _ h hk0 hk1)
        · rw [if_neg c7] at h
          have h := Option.some.inj h
          subst r
          exact ax_cut (pc' := 74) (la := [some (.ref 63), some (.int x1), some (.int x2), some (.int x3), some (.int x4), some (.int x5), some (.int x6), none]) [some (.ref 63), some (.int x1), some (.int x2), some (.int x3), some (.int x4), some (.int x5), none, none] (st' := []) (σ' := s) 1 (And.intro rfl (And.intro rfl (And.intro rfl (And.intro rfl (And.intro rfl (And.intro rfl (trivial))))))) (fun _ hh => (And.intro (fun q => absurd q c7) (fun _ => hh))) (hk0 _ rfl)
theorem w_M_cutsSmallest_l33 (d : Nat) {o : ax_O} : ∀ (n : Nat) (x1 : Int32) (x2 : Int32) (x3 : Int32) (x4 : Int32) (x5 : Int32) (s : ax_S) (r : ax_S) (h : M_cutsSmallest_l33 n x1 x2 x3 x4 x5 s = some r) (hk0 : ∀ (t0 : ax_S), r = t0 → ax_go true none (ax_ev true (d + 3)) ax_m256 134 [some (.ref 63), some (.int x1), some (.int x2), some (.int x3), some (.int x4), none, none, none] [] t0 o), ax_go true none (ax_ev true (d + 3)) ax_m256 33 [some (.ref 63), some (.int x1), some (.int x2), some (.int x3), some (.int x4), some (.int x5), none, none] [] s o := by
  intro n
  induction n with
  | zero => intro x1 x2 x3 x4 x5 s r h hk0; cases h
  | succ n ih =>
    intro x1 x2 x3 x4 x5 s r h hk0
    rw [M_cutsSmallest_l33] at h
    by_cases c1 : x5 ≤ 0
    · rw [if_pos c1] at h
      have h := Option.some.inj h
      subst r
      exact ax_cut (pc' := 134) (la := [some (.ref 63), some (.int x1), some (.int x2), some (.int x3), some (.int x4), some (.int x5), none, none]) [some (.ref 63), some (.int x1), some (.int x2), some (.int x3), some (.int x4), none, none, none] (st' := []) (σ' := s) 2 (And.intro rfl (And.intro rfl (And.intro rfl (And.intro rfl (And.intro rfl (trivial)))))) (fun _ hh => (And.intro (fun _ => hh) (fun q => absurd c1 q))) (hk0 _ rfl)
    · rw [if_neg c1] at h
      cases hz2 : M_cutsSmallest_l41 70000 x1 x2 x3 x4 x5 (1 : Int32) s with
      | none => rw [hz2] at h; cases h
      | some z2 =>
      rw [hz2] at h
      refine ax_cut (pc' := 41) (la := [some (.ref 63), some (.int x1), some (.int x2), some (.int x3), some (.int x4), some (.int x5), some (.int (1 : Int32)), none]) [some (.ref 63), some (.int x1), some (.int x2), some (.int x3), some (.int x4), some (.int x5), some (.int (1 : Int32)), none] (st' := []) (σ' := s) 4 (And.intro rfl (And.intro rfl (And.intro rfl (And.intro rfl (And.intro rfl (And.intro rfl (And.intro rfl (trivial)))))))) (fun _ hh => (And.intro (fun q => absurd q c1) (fun _ => hh))) (w_M_cutsSmallest_l41 d 70000 x1 x2 x3 x4 x5 (1 : Int32) s _ hz2 ?_ ?_)
      · intro s5 hq
        subst z2
        dsimp only at h
        refine ax_cut (pc' := 128) (la := [some (.ref 63), some (.int x1), some (.int x2), some (.int x3), some (.int x4), some (.int x5), none, none]) [some (.ref 63), some (.int x1), some (.int x2), some (.int x3), some (.int x4), some (.int x5), none, none] (st' := []) (σ' := s5) 1 (And.intro rfl (And.intro rfl (And.intro rfl (And.intro rfl (And.intro rfl (And.intro rfl (trivial))))))) (fun _ hh => hh) ?_
        obtain ⟨w6, hw6⟩ : ∃ w, w = x5 + Int32.ofInt (-1) := ⟨_, rfl⟩
        refine ax_iincK (ls' := [some (.ref 63), some (.int x1), some (.int x2), some (.int x3), some (.int x4), some (.int w6), none, none]) (w := w6) rfl rfl hw6 rfl ?_
        subst hw6
        exact ax_cut (pc' := 33) (la := [some (.ref 63), some (.int x1), some (.int x2), some (.int x3), some (.int x4), some (.int (x5 + Int32.ofInt (-1))), none, none]) [some (.ref 63), some (.int x1), some (.int x2), some (.int x3), some (.int x4), some (.int (x5 + Int32.ofInt (-1))), none, none] (st' := []) (σ' := s5) 1 (And.intro rfl (And.intro rfl (And.intro rfl (And.intro rfl (And.intro rfl (And.intro rfl (trivial))))))) (fun _ hh => hh) (ih x1 x2 x3 x4 (x5 + Int32.ofInt (-1)) s5 _ h hk0)
      · intro s7 hq
        subst z2
        dsimp only at h
        obtain ⟨w8, hw8⟩ : ∃ w, w = x5 + Int32.ofInt (-1) := ⟨_, rfl⟩
        refine ax_iincK (ls' := [some (.ref 63), some (.int x1), some (.int x2), some (.int x3), some (.int x4), some (.int w8), none, none]) (w := w8) rfl rfl hw8 rfl ?_
        subst hw8
        exact ax_cut (pc' := 33) (la := [some (.ref 63), some (.int x1), some (.int x2), some (.int x3), some (.int x4), some (.int (x5 + Int32.ofInt (-1))), none, none]) [some (.ref 63), some (.int x1), some (.int x2), some (.int x3), some (.int x4), some (.int (x5 + Int32.ofInt (-1))), none, none] (st' := []) (σ' := s7) 1 (And.intro rfl (And.intro rfl (And.intro rfl (And.intro rfl (And.intro rfl (And.intro rfl (trivial))))))) (fun _ hh => hh) (ih x1 x2 x3 x4 (x5 + Int32.ofInt (-1)) s7 _ h hk0)
theorem w_M_cutsSmallest_l19 (d : Nat) {o : ax_O} : ∀ (n : Nat) (x1 : Int32) (x2 : Int32) (x3 : Int32) (x4 : Int32) (s : ax_S) (r : ax_S) (h : M_cutsSmallest_l19 n x1 x2 x3 x4 s = some r) (hk0 : ∀ (t0 : ax_S), r = t0 → ax_go true none (ax_ev true (d + 3)) ax_m256 140 [some (.ref 63), some (.int x1), some (.int x2), some (.int x3), none, none, none, none] [] t0 o), ax_go true none (ax_ev true (d + 3)) ax_m256 19 [some (.ref 63), some (.int x1), some (.int x2), some (.int x3), some (.int x4), none, none, none] [] s o := by
  intro n
  induction n with
  | zero => intro x1 x2 x3 x4 s r h hk0; cases h
  | succ n ih =>
    intro x1 x2 x3 x4 s r h hk0
    rw [M_cutsSmallest_l19] at h
    by_cases c1 : (16 : Int32) ≤ x4
    · rw [if_pos c1] at h
      have h := Option.some.inj h
      subst r
      exact ax_cut (pc' := 140) (la := [some (.ref 63), some (.int x1), some (.int x2), some (.int x3), some (.int x4), none, none, none]) [some (.ref 63), some (.int x1), some (.int x2), some (.int x3), none, none, none, none] (st' := []) (σ' := s) 3 (And.intro rfl (And.intro rfl (And.intro rfl (And.intro rfl (trivial))))) (fun _ hh => (And.intro (fun _ => hh) (fun q => absurd c1 q))) (hk0 _ rfl)
    · rw [if_neg c1] at h
      cases hz2 : M_cutsSmallest_l33 70000 x1 x2 x3 x4 ((16 : Int32) - x4) s with
      | none => rw [hz2] at h; cases h
      | some z2 =>
      rw [hz2] at h
      refine ax_cut (pc' := 33) (la := [some (.ref 63), some (.int x1), some (.int x2), some (.int x3), some (.int x4), some (.int ((16 : Int32) - x4)), none, none]) [some (.ref 63), some (.int x1), some (.int x2), some (.int x3), some (.int x4), some (.int ((16 : Int32) - x4)), none, none] (st' := []) (σ' := s) 7 (And.intro rfl (And.intro rfl (And.intro rfl (And.intro rfl (And.intro rfl (And.intro rfl (trivial))))))) (fun _ hh => (And.intro (fun q => absurd q c1) (fun _ => hh))) (w_M_cutsSmallest_l33 d 70000 x1 x2 x3 x4 ((16 : Int32) - x4) s _ hz2 ?_)
      · intro s9 hq
        subst z2
        dsimp only at h
        exact ax_cut (pc' := 19) (la := [some (.ref 63), some (.int x1), some (.int x2), some (.int x3), some (.int (x4 + (1))), none, none, none]) [some (.ref 63), some (.int x1), some (.int x2), some (.int x3), some (.int (x4 + (1))), none, none, none] (st' := []) (σ' := s9) 2 (And.intro rfl (And.intro rfl (And.intro rfl (And.intro rfl (And.intro rfl (trivial)))))) (fun _ hh => hh) (ih x1 x2 x3 (x4 + (1)) s9 _ h hk0)
theorem w_M_cutsSmallest_l10 (d : Nat) {o : ax_O} : ∀ (n : Nat) (x1 : Int32) (x2 : Int32) (x3 : Int32) (s : ax_S) (r : ax_S) (h : M_cutsSmallest_l10 n x1 x2 x3 s = some r) (hk0 : ∀ (t0 : ax_S), r = t0 → ax_go true none (ax_ev true (d + 3)) ax_m256 146 [none, none, none, none, none, none, none, none] [] t0 o), ax_go true none (ax_ev true (d + 3)) ax_m256 10 [some (.ref 63), some (.int x1), some (.int x2), some (.int x3), none, none, none, none] [] s o := by
  intro n
  induction n with
  | zero => intro x1 x2 x3 s r h hk0; cases h
  | succ n ih =>
    intro x1 x2 x3 s r h hk0
    rw [M_cutsSmallest_l10] at h
    by_cases c1 : (12 : Int32) ≤ x3
    · rw [if_pos c1] at h
      have h := Option.some.inj h
      subst r
      exact ax_cut (pc' := 146) (la := [some (.ref 63), some (.int x1), some (.int x2), some (.int x3), none, none, none, none]) [none, none, none, none, none, none, none, none] (st' := []) (σ' := s) 3 (trivial) (fun _ hh => (And.intro (fun _ => hh) (fun q => absurd c1 q))) (hk0 _ rfl)
    · rw [if_neg c1] at h
      cases hz2 : M_cutsSmallest_l19 70000 x1 x2 x3 (0 : Int32) s with
      | none => rw [hz2] at h; cases h
      | some z2 =>
      rw [hz2] at h
      refine ax_cut (pc' := 19) (la := [some (.ref 63), some (.int x1), some (.int x2), some (.int x3), some (.int (0 : Int32)), none, none, none]) [some (.ref 63), some (.int x1), some (.int x2), some (.int x3), some (.int (0 : Int32)), none, none, none] (st' := []) (σ' := s) 5 (And.intro rfl (And.intro rfl (And.intro rfl (And.intro rfl (And.intro rfl (trivial)))))) (fun _ hh => (And.intro (fun q => absurd q c1) (fun _ => hh))) (w_M_cutsSmallest_l19 d 70000 x1 x2 x3 (0 : Int32) s _ hz2 ?_)
      · intro s10 hq
        subst z2
        dsimp only at h
        exact ax_cut (pc' := 10) (la := [some (.ref 63), some (.int x1), some (.int x2), some (.int (x3 + (1))), none, none, none, none]) [some (.ref 63), some (.int x1), some (.int x2), some (.int (x3 + (1))), none, none, none, none] (st' := []) (σ' := s10) 2 (And.intro rfl (And.intro rfl (And.intro rfl (And.intro rfl (trivial))))) (fun _ hh => hh) (ih x1 x2 (x3 + (1)) s10 _ h hk0)
theorem e_M_cutsSmallest (d : Nat) {x1 : Int32} {x2 : Int32} {s : ax_S} {r : ax_S} (h : M_cutsSmallest x1 x2 s = some r) : ax_ev true (d + 4) 256 [.ref 63, .int x1, .int x2] s (none, r) := by
  refine ⟨Nat.le_of_ble_eq_true rfl, ?_⟩
  show ax_go true none (ax_ev true (d + 3)) ax_m256 0 [some (.ref 63), some (.int x1), some (.int x2), none, none, none, none, none] [] s _
  unfold M_cutsSmallest at h
  cases hz1 : M_cutsSmallest_l10 70000 x1 x2 (0 : Int32) (M_laysCut (0 : Int32) (0 : Int32) (0 : Int32) (0 : Int32) s) with
  | none => rw [hz1] at h; cases h
  | some z1 =>
  rw [hz1] at h
  refine ax_cut (pc' := 10) (la := [some (.ref 63), some (.int x1), some (.int x2), some (.int (0 : Int32)), none, none, none, none]) [some (.ref 63), some (.int x1), some (.int x2), some (.int (0 : Int32)), none, none, none, none] (st' := []) (σ' := (M_laysCut (0 : Int32) (0 : Int32) (0 : Int32) (0 : Int32) s)) 8 (And.intro rfl (And.intro rfl (And.intro rfl (And.intro rfl (trivial))))) (fun _ hh => (Exists.intro (none, (M_laysCut (0 : Int32) (0 : Int32) (0 : Int32) (0 : Int32) s)) (And.intro (e_M_laysCut (d + 2) (0 : Int32) (0 : Int32) (0 : Int32) (0 : Int32) s) hh))) (w_M_cutsSmallest_l10 d 70000 x1 x2 (0 : Int32) (M_laysCut (0 : Int32) (0 : Int32) (0 : Int32) (0 : Int32) s) _ hz1 ?_)
  · intro s11 hq
    subst z1
    dsimp only at h
    have h := Option.some.inj h
    subst r
    exact ax_end 1 rfl
def M_smallest (x1 : Int32) (x2 : Int32)  (s : ax_S) : Option (Int32 × ax_S) :=
  if (M_in x1 (1 : Int32) (16 : Int32) s) = 0 then (
    some ((-1 : Int32), s)) else
  if (M_in x2 (0 : Int32) (3 : Int32) s) = 0 then (
    some ((-1 : Int32), s)) else
  match M_cutsSmallest x1 (0 : Int32) s with
  | none => none
  | some s1 =>
    some ((M_cutIs x2 s1), s1)
theorem e_M_smallest (d : Nat) {x1 : Int32} {x2 : Int32} {s : ax_S} {r : Int32 × ax_S} (h : M_smallest x1 x2 s = some r) : ax_ev true (d + 5) 255 [.ref 63, .int x1, .int x2] s (some (.int r.1), r.2) := by
  refine ⟨Nat.le_of_ble_eq_true rfl, ?_⟩
  show ax_go true none (ax_ev true (d + 4)) ax_m255 0 [some (.ref 63), some (.int x1), some (.int x2)] [] s _
  unfold M_smallest at h
  by_cases c1 : (M_in x1 (1 : Int32) (16 : Int32) s) = 0
  · rw [if_pos c1] at h
    have h := Option.some.inj h
    subst r
    exact ax_end 7 (Exists.intro (some (.int (M_in x1 (1 : Int32) (16 : Int32) s)), s) (And.intro (e_M_in (d + 3) x1 (1 : Int32) (16 : Int32) s) (And.intro (fun _ => rfl) (fun q => absurd c1 q))))
  · rw [if_neg c1] at h
    by_cases c2 : (M_in x2 (0 : Int32) (3 : Int32) s) = 0
    · rw [if_pos c2] at h
      have h := Option.some.inj h
      subst r
      exact ax_end 12 (Exists.intro (some (.int (M_in x1 (1 : Int32) (16 : Int32) s)), s) (And.intro (e_M_in (d + 3) x1 (1 : Int32) (16 : Int32) s) (And.intro (fun q => absurd q c1) (fun _ => (Exists.intro (some (.int (M_in x2 (0 : Int32) (3 : Int32) s)), s) (And.intro (e_M_in (d + 3) x2 (0 : Int32) (3 : Int32) s) (And.intro (fun q => absurd c2 q) (fun _ => rfl))))))))
    · rw [if_neg c2] at h
      cases hz3 : M_cutsSmallest x1 (0 : Int32) s with
      | none => rw [hz3] at h; cases h
      | some s1 =>
      rw [hz3] at h
      dsimp only at h
      refine ax_cut (pc' := 29) (la := [some (.ref 63), some (.int x1), some (.int x2)]) [none, none, none] (st' := [.int x2, .ref 63]) (σ' := s1) 16 (trivial) (fun _ hh => (Exists.intro (some (.int (M_in x1 (1 : Int32) (16 : Int32) s)), s) (And.intro (e_M_in (d + 3) x1 (1 : Int32) (16 : Int32) s) (And.intro (fun q => absurd q c1) (fun _ => (Exists.intro (some (.int (M_in x2 (0 : Int32) (3 : Int32) s)), s) (And.intro (e_M_in (d + 3) x2 (0 : Int32) (3 : Int32) s) (And.intro (fun _ => (Exists.intro (none, s1) (And.intro (e_M_cutsSmallest d hz3) hh))) (fun q => absurd c2 q))))))))) ?_
      have h := Option.some.inj h
      subst r
      exact ax_end 2 (Exists.intro (some (.int (M_cutIs x2 s1)), s1) (And.intro (e_M_cutIs (d + 3) x2 s1) rfl))
def X_smallestOf (x1 : Int32) (x2 : Int32)  (s : ax_S) : Option (Int32 × ax_S) :=
  if (X_arePersons x1 s) = 0 then (
    some ((-1 : Int32), s)) else
  if x1 = 0 then (
    some ((-1 : Int32), s)) else
  if (X_isWithin x2 (0 : Int32) (3 : Int32) s) = 0 then (
    some ((-1 : Int32), s)) else
  match XCu_cutSmallest_4 (0 : Int32) x1 s with
  | none => none
  | some s1 =>
    some ((XCu_part x2 s1), s1)
theorem e_X_smallestOf (d : Nat) {x1 : Int32} {x2 : Int32} {s : ax_S} {r : Int32 × ax_S} (h : X_smallestOf x1 x2 s = some r) : ax_ev true (d + 6) 133 [.ref 0, .int x1, .int x2] s (some (.int r.1), r.2) := by
  refine ⟨Nat.le_of_ble_eq_true rfl, ?_⟩
  show ax_go true none (ax_ev true (d + 5)) ax_m133 0 [some (.ref 0), some (.int x1), some (.int x2)] [] s _
  unfold X_smallestOf at h
  by_cases c1 : (X_arePersons x1 s) = 0
  · rw [if_pos c1] at h
    have h := Option.some.inj h
    subst r
    exact ax_end 5 (Exists.intro (some (.int (X_arePersons x1 s)), s) (And.intro (e_X_arePersons (d + 3) x1 s) (And.intro (fun _ => rfl) (fun q => absurd c1 q))))
  · rw [if_neg c1] at h
    by_cases c2 : x1 = 0
    · rw [if_pos c2] at h
      have h := Option.some.inj h
      subst r
      exact ax_end 7 (Exists.intro (some (.int (X_arePersons x1 s)), s) (And.intro (e_X_arePersons (d + 3) x1 s) (And.intro (fun q => absurd q c1) (fun _ => (And.intro (fun _ => rfl) (fun q => absurd c2 q))))))
    · rw [if_neg c2] at h
      by_cases c3 : (X_isWithin x2 (0 : Int32) (3 : Int32) s) = 0
      · rw [if_pos c3] at h
        have h := Option.some.inj h
        subst r
        exact ax_end 12 (Exists.intro (some (.int (X_arePersons x1 s)), s) (And.intro (e_X_arePersons (d + 3) x1 s) (And.intro (fun q => absurd q c1) (fun _ => (And.intro (fun q => absurd q c2) (fun _ => (Exists.intro (some (.int (X_isWithin x2 (0 : Int32) (3 : Int32) s)), s) (And.intro (e_X_isWithin (d + 4) x2 (0 : Int32) (3 : Int32) s) (And.intro (fun q => absurd c3 q) (fun _ => rfl))))))))))
      · rw [if_neg c3] at h
        refine ax_cut (pc' := 34) (la := [some (.ref 0), some (.int x1), some (.int x2)]) [some (.ref 0), some (.int x1), some (.int x2)] (st' := [.int (0 : Int32), .ref 4, .ref 55]) (σ' := s) 16 (And.intro rfl (And.intro rfl (And.intro rfl (trivial)))) (fun _ hh => (Exists.intro (some (.int (X_arePersons x1 s)), s) (And.intro (e_X_arePersons (d + 3) x1 s) (And.intro (fun q => absurd q c1) (fun _ => (And.intro (fun q => absurd q c2) (fun _ => (Exists.intro (some (.int (X_isWithin x2 (0 : Int32) (3 : Int32) s)), s) (And.intro (e_X_isWithin (d + 4) x2 (0 : Int32) (3 : Int32) s) (And.intro (fun _ => hh) (fun q => absurd c3 q))))))))))) ?_
        cases hz4 : XCu_cutSmallest_4 (0 : Int32) x1 s with
        | none => rw [hz4] at h; cases h
        | some s1 =>
        rw [hz4] at h
        dsimp only at h
        have h := Option.some.inj h
        subst r
        exact ax_end 7 (Exists.intro (none, s1) (And.intro (e_XCu_cutSmallest_4 d hz4) (Exists.intro (some (.int (XCu_part x2 s1)), s1) (And.intro (e_XCu_part (d + 3) x2 s1) rfl))))
def M_smallestOf (x1 : Int32) (x2 : Int32)  (s : ax_S) : Option (Int32 × ax_S) :=
  if (M_in x1 (1 : Int32) (65535 : Int32) s) = 0 then (
    some ((-1 : Int32), s)) else
  if (M_in x2 (0 : Int32) (3 : Int32) s) = 0 then (
    some ((-1 : Int32), s)) else
  match M_cutsSmallest (0 : Int32) x1 s with
  | none => none
  | some s1 =>
    some ((M_cutIs x2 s1), s1)
theorem e_M_smallestOf (d : Nat) {x1 : Int32} {x2 : Int32} {s : ax_S} {r : Int32 × ax_S} (h : M_smallestOf x1 x2 s = some r) : ax_ev true (d + 5) 258 [.ref 63, .int x1, .int x2] s (some (.int r.1), r.2) := by
  refine ⟨Nat.le_of_ble_eq_true rfl, ?_⟩
  show ax_go true none (ax_ev true (d + 4)) ax_m258 0 [some (.ref 63), some (.int x1), some (.int x2)] [] s _
  unfold M_smallestOf at h
  by_cases c1 : (M_in x1 (1 : Int32) (65535 : Int32) s) = 0
  · rw [if_pos c1] at h
    have h := Option.some.inj h
    subst r
    exact ax_end 7 (Exists.intro (some (.int (M_in x1 (1 : Int32) (65535 : Int32) s)), s) (And.intro (e_M_in (d + 3) x1 (1 : Int32) (65535 : Int32) s) (And.intro (fun _ => rfl) (fun q => absurd c1 q))))
  · rw [if_neg c1] at h
    by_cases c2 : (M_in x2 (0 : Int32) (3 : Int32) s) = 0
    · rw [if_pos c2] at h
      have h := Option.some.inj h
      subst r
      exact ax_end 12 (Exists.intro (some (.int (M_in x1 (1 : Int32) (65535 : Int32) s)), s) (And.intro (e_M_in (d + 3) x1 (1 : Int32) (65535 : Int32) s) (And.intro (fun q => absurd q c1) (fun _ => (Exists.intro (some (.int (M_in x2 (0 : Int32) (3 : Int32) s)), s) (And.intro (e_M_in (d + 3) x2 (0 : Int32) (3 : Int32) s) (And.intro (fun q => absurd c2 q) (fun _ => rfl))))))))
    · rw [if_neg c2] at h
      cases hz3 : M_cutsSmallest (0 : Int32) x1 s with
      | none => rw [hz3] at h; cases h
      | some s1 =>
      rw [hz3] at h
      dsimp only at h
      refine ax_cut (pc' := 30) (la := [some (.ref 63), some (.int x1), some (.int x2)]) [none, none, none] (st' := [.int x2, .ref 63]) (σ' := s1) 16 (trivial) (fun _ hh => (Exists.intro (some (.int (M_in x1 (1 : Int32) (65535 : Int32) s)), s) (And.intro (e_M_in (d + 3) x1 (1 : Int32) (65535 : Int32) s) (And.intro (fun q => absurd q c1) (fun _ => (Exists.intro (some (.int (M_in x2 (0 : Int32) (3 : Int32) s)), s) (And.intro (e_M_in (d + 3) x2 (0 : Int32) (3 : Int32) s) (And.intro (fun _ => (Exists.intro (none, s1) (And.intro (e_M_cutsSmallest d hz3) hh))) (fun q => absurd c2 q))))))))) ?_
      have h := Option.some.inj h
      subst r
      exact ax_end 2 (Exists.intro (some (.int (M_cutIs x2 s1)), s1) (And.intro (e_M_cutIs (d + 3) x2 s1) rfl))
def XCu_covered_4_l12 : Nat → Int32 → Int32 → ax_S → Option (Int32)
  | 0, _, _, _ => none
  | n + 1, x2, x3, s =>
    if (12 : Int32) ≤ x3 then (
      some x2) else
    if (x3 < 0 ∨ 12 ≤ (x3).toNatClampNeg) then none else
    XCu_covered_4_l12 n (x2 + (J_bitCount (s.2.1 56 (x3).toNatClampNeg) s)) (x3 + (1)) s
def XCu_covered_4  (s : ax_S) : Option (Int32 × ax_S) :=
  match XCu_layOut_4 (65535 : Int32) (0 : Int32) s with
  | none => none
  | some s1 =>
    match XCu_covered_4_l12 70000 (0 : Int32) (0 : Int32) s1 with
    | none => none
    | some v2 =>
      some (v2, s1)
theorem w_XCu_covered_4_l12 (d : Nat) {o : ax_O} : ∀ (n : Nat) (x2 : Int32) (x3 : Int32) (s : ax_S) (r : Int32) (h : XCu_covered_4_l12 n x2 x3 s = some r) (hk0 : ∀ (t0 : Int32), r = t0 → ax_go true none (ax_ev true (d + 3)) ax_m135 36 [none, none, some (.int t0), none] [] s o), ax_go true none (ax_ev true (d + 3)) ax_m135 12 [some (.ref 55), none, some (.int x2), some (.int x3)] [] s o := by
  intro n
  induction n with
  | zero => intro x2 x3 s r h hk0; cases h
  | succ n ih =>
    intro x2 x3 s r h hk0
    rw [XCu_covered_4_l12] at h
    by_cases c1 : (12 : Int32) ≤ x3
    · rw [if_pos c1] at h
      have h := Option.some.inj h
      subst r
      exact ax_cut (pc' := 36) (la := [some (.ref 55), none, some (.int x2), some (.int x3)]) [none, none, some (.int x2), none] (st' := []) (σ' := s) 3 (And.intro rfl (trivial)) (fun _ hh => (And.intro (fun _ => hh) (fun q => absurd c1 q))) (hk0 _ rfl)
    · rw [if_neg c1] at h
      by_cases c2 : (x3 < 0 ∨ 12 ≤ (x3).toNatClampNeg)
      · rw [if_pos c2] at h; cases h
      · rw [if_neg c2] at h
        exact ax_cut (pc' := 12) (la := [some (.ref 55), none, some (.int (x2 + (J_bitCount (s.2.1 56 (x3).toNatClampNeg) s))), some (.int (x3 + (1)))]) [some (.ref 55), none, some (.int (x2 + (J_bitCount (s.2.1 56 (x3).toNatClampNeg) s))), some (.int (x3 + (1)))] (st' := []) (σ' := s) 13 (And.intro rfl (And.intro rfl (And.intro rfl (trivial)))) (fun _ hh => (And.intro (fun q => absurd q c1) (fun _ => (And.intro c2 (Exists.intro (some (.int (J_bitCount (s.2.1 56 (x3).toNatClampNeg) s)), s) (And.intro (e_J_bitCount (d + 2) (s.2.1 56 (x3).toNatClampNeg) s) hh)))))) (ih (x2 + (J_bitCount (s.2.1 56 (x3).toNatClampNeg) s)) (x3 + (1)) s _ h hk0)
theorem e_XCu_covered_4 (d : Nat)  {s : ax_S} {r : Int32 × ax_S} (h : XCu_covered_4 s = some r) : ax_ev true (d + 4) 135 [.ref 55, .ref 4] s (some (.int r.1), r.2) := by
  refine ⟨Nat.le_of_ble_eq_true rfl, ?_⟩
  show ax_go true none (ax_ev true (d + 3)) ax_m135 0 [some (.ref 55), some (.ref 4), none, none] [] s _
  unfold XCu_covered_4 at h
  cases hz1 : XCu_layOut_4 (65535 : Int32) (0 : Int32) s with
  | none => rw [hz1] at h; cases h
  | some s1 =>
  rw [hz1] at h
  dsimp only at h
  cases hz2 : XCu_covered_4_l12 70000 (0 : Int32) (0 : Int32) s1 with
  | none => rw [hz2] at h; cases h
  | some z2 =>
  rw [hz2] at h
  refine ax_cut (pc' := 12) (la := [some (.ref 55), some (.ref 4), some (.int (0 : Int32)), some (.int (0 : Int32))]) [some (.ref 55), none, some (.int (0 : Int32)), some (.int (0 : Int32))] (st' := []) (σ' := s1) 9 (And.intro rfl (And.intro rfl (And.intro rfl (trivial)))) (fun _ hh => (Exists.intro (none, s1) (And.intro (e_XCu_layOut_4 d hz1) hh))) (w_XCu_covered_4_l12 d 70000 (0 : Int32) (0 : Int32) s1 _ hz2 ?_)
  · intro v2 hq
    subst z2
    dsimp only at h
    have h := Option.some.inj h
    subst r
    exact ax_end 2 rfl
def XKi_groups_l7 : Nat → Int32 → Int32 → Int32 → Int32 → ax_S → Option (Int32)
  | 0, _, _, _, _, _ => none
  | n + 1, x1, x2, x3, x4, s =>
    if (16 : Int32) ≤ x4 then (
      some x2) else
    if ((x3 >>> (x4 &&& 31)) &&& (1 : Int32)) = (1 : Int32) then (
      match XKi_groupOf x4 x1 s with
      | none => none
      | some v1 =>
        XKi_groups_l7 n x1 (x2 + (1)) (x3 &&& (v1 ^^^ (-1 : Int32))) (x4 + (1)) s) else
    XKi_groups_l7 n x1 x2 x3 (x4 + (1)) s
def XKi_groups (x1 : Int32)  (s : ax_S) : Option (Int32) :=
  match XKi_groups_l7 70000 x1 (0 : Int32) x1 (0 : Int32) s with
  | none => none
  | some v2 =>
    some v2
theorem w_XKi_groups_l7 (d : Nat) {o : ax_O} : ∀ (n : Nat) (x1 : Int32) (x2 : Int32) (x3 : Int32) (x4 : Int32) (s : ax_S) (r : Int32) (h : XKi_groups_l7 n x1 x2 x3 x4 s = some r) (hk0 : ∀ (t0 : Int32), r = t0 → ax_go true none (ax_ev true (d + 3)) ax_m136 45 [none, none, some (.int t0), none, none] [] s o), ax_go true none (ax_ev true (d + 3)) ax_m136 7 [some (.ref 57), some (.int x1), some (.int x2), some (.int x3), some (.int x4)] [] s o := by
  intro n
  induction n with
  | zero => intro x1 x2 x3 x4 s r h hk0; cases h
  | succ n ih =>
    intro x1 x2 x3 x4 s r h hk0
    rw [XKi_groups_l7] at h
    by_cases c1 : (16 : Int32) ≤ x4
    · rw [if_pos c1] at h
      have h := Option.some.inj h
      subst r
      exact ax_cut (pc' := 45) (la := [some (.ref 57), some (.int x1), some (.int x2), some (.int x3), some (.int x4)]) [none, none, some (.int x2), none, none] (st' := []) (σ' := s) 3 (And.intro rfl (trivial)) (fun _ hh => (And.intro (fun _ => hh) (fun q => absurd c1 q))) (hk0 _ rfl)
    · rw [if_neg c1] at h
      by_cases c2 : ((x3 >>> (x4 &&& 31)) &&& (1 : Int32)) = (1 : Int32)
      · rw [if_pos c2] at h
        cases hz3 : XKi_groupOf x4 x1 s with
        | none => rw [hz3] at h; cases h
        | some v1 =>
        rw [hz3] at h
        dsimp only at h
        refine ax_cut (pc' := 33) (la := [some (.ref 57), some (.int x1), some (.int x2), some (.int x3), some (.int x4)]) [some (.ref 57), some (.int x1), some (.int x2), none, some (.int x4)] (st' := [.int (-1 : Int32), .int v1, .int x3]) (σ' := s) 16 (And.intro rfl (And.intro rfl (And.intro rfl (And.intro rfl (trivial))))) (fun _ hh => (And.intro (fun q => absurd q c1) (fun _ => (And.intro (fun q => absurd c2 q) (fun _ => (Exists.intro (some (.int v1), s) (And.intro (e_XKi_groupOf d hz3) hh))))))) ?_
        exact ax_cut (pc' := 7) (la := [some (.ref 57), some (.int x1), some (.int (x2 + (1))), some (.int (x3 &&& (v1 ^^^ (-1 : Int32)))), some (.int (x4 + (1)))]) [some (.ref 57), some (.int x1), some (.int (x2 + (1))), some (.int (x3 &&& (v1 ^^^ (-1 : Int32)))), some (.int (x4 + (1)))] (st' := []) (σ' := s) 6 (And.intro rfl (And.intro rfl (And.intro rfl (And.intro rfl (And.intro rfl (trivial)))))) (fun _ hh => hh) (ih x1 (x2 + (1)) (x3 &&& (v1 ^^^ (-1 : Int32))) (x4 + (1)) s _ h hk0)
      · rw [if_neg c2] at h
        exact ax_cut (pc' := 7) (la := [some (.ref 57), some (.int x1), some (.int x2), some (.int x3), some (.int (x4 + (1)))]) [some (.ref 57), some (.int x1), some (.int x2), some (.int x3), some (.int (x4 + (1)))] (st' := []) (σ' := s) 12 (And.intro rfl (And.intro rfl (And.intro rfl (And.intro rfl (And.intro rfl (trivial)))))) (fun _ hh => (And.intro (fun q => absurd q c1) (fun _ => (And.intro (fun _ => hh) (fun q => absurd c2 q))))) (ih x1 x2 x3 (x4 + (1)) s _ h hk0)
theorem e_XKi_groups (d : Nat) {x1 : Int32} {s : ax_S} {r : Int32} (h : XKi_groups x1 s = some r) : ax_ev true (d + 4) 136 [.ref 57, .int x1] s (some (.int r), s) := by
  refine ⟨Nat.le_of_ble_eq_true rfl, ?_⟩
  show ax_go true none (ax_ev true (d + 3)) ax_m136 0 [some (.ref 57), some (.int x1), none, none, none] [] s _
  unfold XKi_groups at h
  cases hz1 : XKi_groups_l7 70000 x1 (0 : Int32) x1 (0 : Int32) s with
  | none => rw [hz1] at h; cases h
  | some z1 =>
  rw [hz1] at h
  refine ax_cut (pc' := 7) (la := [some (.ref 57), some (.int x1), some (.int (0 : Int32)), some (.int x1), some (.int (0 : Int32))]) [some (.ref 57), some (.int x1), some (.int (0 : Int32)), some (.int x1), some (.int (0 : Int32))] (st' := []) (σ' := s) 6 (And.intro rfl (And.intro rfl (And.intro rfl (And.intro rfl (And.intro rfl (trivial)))))) (fun _ hh => hh) (w_XKi_groups_l7 d 70000 x1 (0 : Int32) x1 (0 : Int32) s _ hz1 ?_)
  · intro v2 hq
    subst z1
    dsimp only at h
    have h := Option.some.inj h
    subst r
    exact ax_end 2 rfl
