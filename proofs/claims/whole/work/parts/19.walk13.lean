def XKi_holding_l11 : Nat → Int32 → Int32 → Int32 → Int32 → ax_S → Option (Int32)
  | 0, _, _, _, _, _ => none
  | n + 1, x1, x2, x3, x4, s =>
    if (16 : Int32) ≤ x4 then (
      some x3) else
    match XKi_groups (x1 &&& (((1 : Int32) <<< (x4 &&& 31)) ^^^ (-1 : Int32))) s with
    | none => none
    | some v2 =>
      if v2 ≤ x2 then (
        XKi_holding_l11 n x1 x2 x3 (x4 + (1)) s) else
      XKi_holding_l11 n x1 x2 (x3 ||| ((1 : Int32) <<< (x4 &&& 31))) (x4 + (1)) s
def XKi_holding (x1 : Int32)  (s : ax_S) : Option (Int32) :=
  match XKi_groups x1 s with
  | none => none
  | some v1 =>
    match XKi_holding_l11 70000 x1 v1 (0 : Int32) (0 : Int32) s with
    | none => none
    | some v3 =>
      some v3
theorem w_XKi_holding_l11 (d : Nat) {o : ax_O} : ∀ (n : Nat) (x1 : Int32) (x2 : Int32) (x3 : Int32) (x4 : Int32) (s : ax_S) (r : Int32) (h : XKi_holding_l11 n x1 x2 x3 x4 s = some r) (hk0 : ∀ (t0 : Int32), r = t0 → ax_go true none (ax_ev true (d + 4)) ax_m137 47 [none, none, none, some (.int t0), none] [] s o), ax_go true none (ax_ev true (d + 4)) ax_m137 11 [some (.ref 57), some (.int x1), some (.int x2), some (.int x3), some (.int x4)] [] s o := by
  intro n
  induction n with
  | zero => intro x1 x2 x3 x4 s r h hk0; cases h
  | succ n ih =>
    intro x1 x2 x3 x4 s r h hk0
    rw [XKi_holding_l11] at h
    by_cases c1 : (16 : Int32) ≤ x4
    · rw [if_pos c1] at h
      have h := Option.some.inj h
      subst r
      exact ax_cut (pc' := 47) (la := [some (.ref 57), some (.int x1), some (.int x2), some (.int x3), some (.int x4)]) [none, none, none, some (.int x3), none] (st' := []) (σ' := s) 3 (And.intro rfl (trivial)) (fun _ hh => (And.intro (fun _ => hh) (fun q => absurd c1 q))) (hk0 _ rfl)
    · rw [if_neg c1] at h
      cases hz2 : XKi_groups (x1 &&& (((1 : Int32) <<< (x4 &&& 31)) ^^^ (-1 : Int32))) s with
      | none => rw [hz2] at h; cases h
      | some v2 =>
      rw [hz2] at h
      dsimp only at h
      by_cases c3 : v2 ≤ x2
      · rw [if_pos c3] at h
        exact ax_cut (pc' := 11) (la := [some (.ref 57), some (.int x1), some (.int x2), some (.int x3), some (.int (x4 + (1)))]) [some (.ref 57), some (.int x1), some (.int x2), some (.int x3), some (.int (x4 + (1)))] (st' := []) (σ' := s) 16 (And.intro rfl (And.intro rfl (And.intro rfl (And.intro rfl (And.intro rfl (trivial)))))) (fun _ hh => (And.intro (fun q => absurd q c1) (fun _ => (Exists.intro (some (.int v2), s) (And.intro (e_XKi_groups d hz2) (And.intro (fun _ => hh) (fun q => absurd c3 q))))))) (ih x1 x2 x3 (x4 + (1)) s _ h hk0)
      · rw [if_neg c3] at h
        refine ax_cut (pc' := 36) (la := [some (.ref 57), some (.int x1), some (.int x2), some (.int x3), some (.int x4)]) [some (.ref 57), some (.int x1), some (.int x2), none, some (.int x4)] (st' := [.int (1 : Int32), .int x3]) (σ' := s) 16 (And.intro rfl (And.intro rfl (And.intro rfl (And.intro rfl (trivial))))) (fun _ hh => (And.intro (fun q => absurd q c1) (fun _ => (Exists.intro (some (.int v2), s) (And.intro (e_XKi_groups d hz2) (And.intro (fun q => absurd q c3) (fun _ => hh))))))) ?_
        exact ax_cut (pc' := 11) (la := [some (.ref 57), some (.int x1), some (.int x2), some (.int (x3 ||| ((1 : Int32) <<< (x4 &&& 31)))), some (.int (x4 + (1)))]) [some (.ref 57), some (.int x1), some (.int x2), some (.int (x3 ||| ((1 : Int32) <<< (x4 &&& 31)))), some (.int (x4 + (1)))] (st' := []) (σ' := s) 6 (And.intro rfl (And.intro rfl (And.intro rfl (And.intro rfl (And.intro rfl (trivial)))))) (fun _ hh => hh) (ih x1 x2 (x3 ||| ((1 : Int32) <<< (x4 &&& 31))) (x4 + (1)) s _ h hk0)
theorem e_XKi_holding (d : Nat) {x1 : Int32} {s : ax_S} {r : Int32} (h : XKi_holding x1 s = some r) : ax_ev true (d + 5) 137 [.ref 57, .int x1] s (some (.int r), s) := by
  refine ⟨Nat.le_of_ble_eq_true rfl, ?_⟩
  show ax_go true none (ax_ev true (d + 4)) ax_m137 0 [some (.ref 57), some (.int x1), none, none, none] [] s _
  unfold XKi_holding at h
  cases hz1 : XKi_groups x1 s with
  | none => rw [hz1] at h; cases h
  | some v1 =>
  rw [hz1] at h
  dsimp only at h
  cases hz2 : XKi_holding_l11 70000 x1 v1 (0 : Int32) (0 : Int32) s with
  | none => rw [hz2] at h; cases h
  | some z2 =>
  rw [hz2] at h
  refine ax_cut (pc' := 11) (la := [some (.ref 57), some (.int x1), some (.int v1), some (.int (0 : Int32)), some (.int (0 : Int32))]) [some (.ref 57), some (.int x1), some (.int v1), some (.int (0 : Int32)), some (.int (0 : Int32))] (st' := []) (σ' := s) 8 (And.intro rfl (And.intro rfl (And.intro rfl (And.intro rfl (And.intro rfl (trivial)))))) (fun _ hh => (Exists.intro (some (.int v1), s) (And.intro (e_XKi_groups d hz1) hh))) (w_XKi_holding_l11 d 70000 x1 v1 (0 : Int32) (0 : Int32) s _ hz2 ?_)
  · intro v3 hq
    subst z2
    dsimp only at h
    have h := Option.some.inj h
    subst r
    exact ax_end 2 rfl
def X_printIs (x1 : Int32)  (s : ax_S) : Option (Int32 × ax_S) :=
  match XFi_persons_4 s with
  | none => none
  | some v1 =>
    if x1 = (0) then (
      match XCu_covered_4 s with
      | none => none
      | some (v2, s3) =>
        some (v2, s3)) else
    if x1 = (1) then (
      match XFi_bits_4 s with
      | none => none
      | some v4 =>
        some (v4, s)) else
    if x1 = (2) then (
      some (v1, s)) else
    if x1 = (3) then (
      match XKi_meet_4 s with
      | none => none
      | some s5 =>
        match XKi_groups v1 s5 with
        | none => none
        | some v6 =>
          some (v6, s5)) else
    if x1 = (4) then (
      match XKi_meet_4 s with
      | none => none
      | some s7 =>
        match XKi_holding v1 s7 with
        | none => none
        | some v8 =>
          some (v8, s7)) else
    if x1 = (5) then (
      match XSt_painfulAbove_3 (s.2.1 0 12) s with
      | none => none
      | some v9 =>
        some (v9, s)) else
    some ((-1 : Int32), s)
theorem e_X_printIs (d : Nat) {x1 : Int32} {s : ax_S} {r : Int32 × ax_S} (h : X_printIs x1 s = some r) : ax_ev true (d + 6) 134 [.ref 0, .int x1] s (some (.int r.1), r.2) := by
  refine ⟨Nat.le_of_ble_eq_true rfl, ?_⟩
  show ax_go true none (ax_ev true (d + 5)) ax_m134 0 [some (.ref 0), some (.int x1), none] [] s _
  unfold X_printIs at h
  cases hz1 : XFi_persons_4 s with
  | none => rw [hz1] at h; cases h
  | some v1 =>
  rw [hz1] at h
  dsimp only at h
  by_cases c2_0 : x1 = (0)
  · rw [if_pos c2_0] at h
    cases hz3 : XCu_covered_4 s with
    | none => rw [hz3] at h; cases h
    | some z3 =>
    rw [hz3] at h
    obtain ⟨v2, s3⟩ := z3
    dsimp only at h
    have h := Option.some.inj h
    subst r
    exact ax_end 14 (Exists.intro (some (.int v1), s) (And.intro (e_XFi_persons_4 (d + 2) hz1) (ax_tabT (lo := 0) (hg := 5) (j0 := 0) (congrArg Int32.toInt c2_0) (by rw [c2_0]; decide) (Exists.intro (some (.int v2), s3) (And.intro (e_XCu_covered_4 (d + 1) hz3) rfl)))))
  rw [if_neg c2_0] at h
  by_cases c2_1 : x1 = (1)
  · rw [if_pos c2_1] at h
    cases hz4 : XFi_bits_4 s with
    | none => rw [hz4] at h; cases h
    | some v4 =>
    rw [hz4] at h
    dsimp only at h
    have h := Option.some.inj h
    subst r
    exact ax_end 12 (Exists.intro (some (.int v1), s) (And.intro (e_XFi_persons_4 (d + 2) hz1) (ax_tabT (lo := 0) (hg := 5) (j0 := 1) (congrArg Int32.toInt c2_1) (by rw [c2_1]; decide) (Exists.intro (some (.int v4), s) (And.intro (e_XFi_bits_4 (d + 4) hz4) rfl)))))
  rw [if_neg c2_1] at h
  by_cases c2_2 : x1 = (2)
  · rw [if_pos c2_2] at h
    have h := Option.some.inj h
    subst r
    exact ax_end 9 (Exists.intro (some (.int v1), s) (And.intro (e_XFi_persons_4 (d + 2) hz1) (ax_tabT (lo := 0) (hg := 5) (j0 := 2) (congrArg Int32.toInt c2_2) (by rw [c2_2]; decide) rfl)))
  rw [if_neg c2_2] at h
  by_cases c2_3 : x1 = (3)
  · rw [if_pos c2_3] at h
    cases hz5 : XKi_meet_4 s with
    | none => rw [hz5] at h; cases h
    | some s5 =>
    rw [hz5] at h
    dsimp only at h
    refine ax_cut (pc' := 99) (la := [some (.ref 0), some (.int x1), some (.int v1)]) [none, none, none] (st' := [.int v1, .ref 57]) (σ' := s5) 16 (trivial) (fun _ hh => (Exists.intro (some (.int v1), s) (And.intro (e_XFi_persons_4 (d + 2) hz1) (ax_tabT (lo := 0) (hg := 5) (j0 := 3) (congrArg Int32.toInt c2_3) (by rw [c2_3]; decide) (Exists.intro (none, s5) (And.intro (e_XKi_meet_4 (d + 1) hz5) hh)))))) ?_
    cases hz6 : XKi_groups v1 s5 with
    | none => rw [hz6] at h; cases h
    | some v6 =>
    rw [hz6] at h
    dsimp only at h
    have h := Option.some.inj h
    subst r
    exact ax_end 2 (Exists.intro (some (.int v6), s5) (And.intro (e_XKi_groups (d + 1) hz6) rfl))
  rw [if_neg c2_3] at h
  by_cases c2_4 : x1 = (4)
  · rw [if_pos c2_4] at h
    cases hz7 : XKi_meet_4 s with
    | none => rw [hz7] at h; cases h
    | some s7 =>
    rw [hz7] at h
    dsimp only at h
    refine ax_cut (pc' := 122) (la := [some (.ref 0), some (.int x1), some (.int v1)]) [none, none, none] (st' := [.int v1, .ref 57]) (σ' := s7) 16 (trivial) (fun _ hh => (Exists.intro (some (.int v1), s) (And.intro (e_XFi_persons_4 (d + 2) hz1) (ax_tabT (lo := 0) (hg := 5) (j0 := 4) (congrArg Int32.toInt c2_4) (by rw [c2_4]; decide) (Exists.intro (none, s7) (And.intro (e_XKi_meet_4 (d + 1) hz7) hh)))))) ?_
    cases hz8 : XKi_holding v1 s7 with
    | none => rw [hz8] at h; cases h
    | some v8 =>
    rw [hz8] at h
    dsimp only at h
    have h := Option.some.inj h
    subst r
    exact ax_end 2 (Exists.intro (some (.int v8), s7) (And.intro (e_XKi_holding d hz8) rfl))
  rw [if_neg c2_4] at h
  by_cases c2_5 : x1 = (5)
  · rw [if_pos c2_5] at h
    cases hz9 : XSt_painfulAbove_3 (s.2.1 0 12) s with
    | none => rw [hz9] at h; cases h
    | some v9 =>
    rw [hz9] at h
    dsimp only at h
    have h := Option.some.inj h
    subst r
    exact ax_end 13 (Exists.intro (some (.int v1), s) (And.intro (e_XFi_persons_4 (d + 2) hz1) (ax_tabT (lo := 0) (hg := 5) (j0 := 5) (congrArg Int32.toInt c2_5) (by rw [c2_5]; decide) (Exists.intro (some (.int v9), s) (And.intro (e_XSt_painfulAbove_3 (d + 4) hz9) rfl)))))
  rw [if_neg c2_5] at h
  have c2_r : (x1).toInt < 0 ∨ 5 < (x1).toInt := by
    have := ax_ne_toInt c2_0
    have := ax_ne_toInt c2_1
    have := ax_ne_toInt c2_2
    have := ax_ne_toInt c2_3
    have := ax_ne_toInt c2_4
    have := ax_ne_toInt c2_5
    simp only [show ∀ y : Int32, y.toInt = y.toInt from fun _ => rfl, show ((0) : Int32).toInt = 0 by decide, show ((1) : Int32).toInt = 1 by decide, show ((2) : Int32).toInt = 2 by decide, show ((3) : Int32).toInt = 3 by decide, show ((4) : Int32).toInt = 4 by decide, show ((5) : Int32).toInt = 5 by decide] at *
    omega
  have h := Option.some.inj h
  subst r
  exact ax_end 9 (Exists.intro (some (.int v1), s) (And.intro (e_XFi_persons_4 (d + 2) hz1) (ax_tabF (lo := 0) (hg := 5) rfl c2_r rfl)))
def M_coveredCells_l4 : Nat → Int32 → Int32 → ax_S → Option (Int32)
  | 0, _, _, _ => none
  | n + 1, x1, x2, s =>
    if (12 : Int32) ≤ x2 then (
      some x1) else
    match M_isFigure x2 s with
    | none => none
    | some v1 =>
      if v1 = 0 then (
        M_coveredCells_l4 n x1 (x2 + (1)) s) else
      match M_seenOf x2 (x2 + (1 : Int32)) s with
      | none => none
      | some v2 =>
        M_coveredCells_l4 n (x1 + v2) (x2 + (1)) s
def M_coveredCells  (s : ax_S) : Option (Int32) :=
  match M_coveredCells_l4 70000 (0 : Int32) (0 : Int32) s with
  | none => none
  | some v3 =>
    some v3
theorem w_M_coveredCells_l4 (d : Nat) {o : ax_O} : ∀ (n : Nat) (x1 : Int32) (x2 : Int32) (s : ax_S) (r : Int32) (h : M_coveredCells_l4 n x1 x2 s = some r) (hk0 : ∀ (t0 : Int32), r = t0 → ax_go true none (ax_ev true (d + 4)) ax_m260 35 [none, some (.int t0), none] [] s o), ax_go true none (ax_ev true (d + 4)) ax_m260 4 [some (.ref 63), some (.int x1), some (.int x2)] [] s o := by
  intro n
  induction n with
  | zero => intro x1 x2 s r h hk0; cases h
  | succ n ih =>
    intro x1 x2 s r h hk0
    rw [M_coveredCells_l4] at h
    by_cases c1 : (12 : Int32) ≤ x2
    · rw [if_pos c1] at h
      have h := Option.some.inj h
      subst r
      exact ax_cut (pc' := 35) (la := [some (.ref 63), some (.int x1), some (.int x2)]) [none, some (.int x1), none] (st' := []) (σ' := s) 3 (And.intro rfl (trivial)) (fun _ hh => (And.intro (fun _ => hh) (fun q => absurd c1 q))) (hk0 _ rfl)
    · rw [if_neg c1] at h
      cases hz2 : M_isFigure x2 s with
      | none => rw [hz2] at h; cases h
      | some v1 =>
      rw [hz2] at h
      dsimp only at h
      by_cases c3 : v1 = 0
      · rw [if_pos c3] at h
        exact ax_cut (pc' := 4) (la := [some (.ref 63), some (.int x1), some (.int (x2 + (1)))]) [some (.ref 63), some (.int x1), some (.int (x2 + (1)))] (st' := []) (σ' := s) 9 (And.intro rfl (And.intro rfl (And.intro rfl (trivial)))) (fun _ hh => (And.intro (fun q => absurd q c1) (fun _ => (Exists.intro (some (.int v1), s) (And.intro (e_M_isFigure (d + 2) hz2) (And.intro (fun _ => hh) (fun q => absurd c3 q))))))) (ih x1 (x2 + (1)) s _ h hk0)
      · rw [if_neg c3] at h
        cases hz4 : M_seenOf x2 (x2 + (1 : Int32)) s with
        | none => rw [hz4] at h; cases h
        | some v2 =>
        rw [hz4] at h
        dsimp only at h
        refine ax_cut (pc' := 29) (la := [some (.ref 63), some (.int (x1 + v2)), some (.int x2)]) [some (.ref 63), some (.int (x1 + v2)), some (.int x2)] (st' := []) (σ' := s) 16 (And.intro rfl (And.intro rfl (And.intro rfl (trivial)))) (fun _ hh => (And.intro (fun q => absurd q c1) (fun _ => (Exists.intro (some (.int v1), s) (And.intro (e_M_isFigure (d + 2) hz2) (And.intro (fun q => absurd q c3) (fun _ => (Exists.intro (some (.int v2), s) (And.intro (e_M_seenOf d hz4) hh))))))))) ?_
        exact ax_cut (pc' := 4) (la := [some (.ref 63), some (.int (x1 + v2)), some (.int (x2 + (1)))]) [some (.ref 63), some (.int (x1 + v2)), some (.int (x2 + (1)))] (st' := []) (σ' := s) 2 (And.intro rfl (And.intro rfl (And.intro rfl (trivial)))) (fun _ hh => hh) (ih (x1 + v2) (x2 + (1)) s _ h hk0)
theorem e_M_coveredCells (d : Nat)  {s : ax_S} {r : Int32} (h : M_coveredCells s = some r) : ax_ev true (d + 5) 260 [.ref 63] s (some (.int r), s) := by
  refine ⟨Nat.le_of_ble_eq_true rfl, ?_⟩
  show ax_go true none (ax_ev true (d + 4)) ax_m260 0 [some (.ref 63), none, none] [] s _
  unfold M_coveredCells at h
  cases hz1 : M_coveredCells_l4 70000 (0 : Int32) (0 : Int32) s with
  | none => rw [hz1] at h; cases h
  | some z1 =>
  rw [hz1] at h
  refine ax_cut (pc' := 4) (la := [some (.ref 63), some (.int (0 : Int32)), some (.int (0 : Int32))]) [some (.ref 63), some (.int (0 : Int32)), some (.int (0 : Int32))] (st' := []) (σ' := s) 4 (And.intro rfl (And.intro rfl (And.intro rfl (trivial)))) (fun _ hh => hh) (w_M_coveredCells_l4 d 70000 (0 : Int32) (0 : Int32) s _ hz1 ?_)
  · intro v3 hq
    subst z1
    dsimp only at h
    have h := Option.some.inj h
    subst r
    exact ax_end 2 rfl
def M_figureSet_l4 : Nat → Int32 → Int32 → ax_S → Option (Int32)
  | 0, _, _, _ => none
  | n + 1, x1, x2, s =>
    if (12 : Int32) ≤ x2 then (
      some x1) else
    match M_isFigure x2 s with
    | none => none
    | some v1 =>
      if v1 = 0 then (
        M_figureSet_l4 n x1 (x2 + (1)) s) else
      M_figureSet_l4 n (x1 ||| ((1 : Int32) <<< (x2 &&& 31))) (x2 + (1)) s
def M_figureSet  (s : ax_S) : Option (Int32) :=
  match M_figureSet_l4 70000 (0 : Int32) (0 : Int32) s with
  | none => none
  | some v2 =>
    some v2
theorem w_M_figureSet_l4 (d : Nat) {o : ax_O} : ∀ (n : Nat) (x1 : Int32) (x2 : Int32) (s : ax_S) (r : Int32) (h : M_figureSet_l4 n x1 x2 s = some r) (hk0 : ∀ (t0 : Int32), r = t0 → ax_go true none (ax_ev true (d + 2)) ax_m261 30 [none, some (.int t0), none] [] s o), ax_go true none (ax_ev true (d + 2)) ax_m261 4 [some (.ref 63), some (.int x1), some (.int x2)] [] s o := by
  intro n
  induction n with
  | zero => intro x1 x2 s r h hk0; cases h
  | succ n ih =>
    intro x1 x2 s r h hk0
    rw [M_figureSet_l4] at h
    by_cases c1 : (12 : Int32) ≤ x2
    · rw [if_pos c1] at h
      have h := Option.some.inj h
      subst r
      exact ax_cut (pc' := 30) (la := [some (.ref 63), some (.int x1), some (.int x2)]) [none, some (.int x1), none] (st' := []) (σ' := s) 3 (And.intro rfl (trivial)) (fun _ hh => (And.intro (fun _ => hh) (fun q => absurd c1 q))) (hk0 _ rfl)
    · rw [if_neg c1] at h
      cases hz2 : M_isFigure x2 s with
      | none => rw [hz2] at h; cases h
      | some v1 =>
      rw [hz2] at h
      dsimp only at h
      by_cases c3 : v1 = 0
      · rw [if_pos c3] at h
        exact ax_cut (pc' := 4) (la := [some (.ref 63), some (.int x1), some (.int (x2 + (1)))]) [some (.ref 63), some (.int x1), some (.int (x2 + (1)))] (st' := []) (σ' := s) 9 (And.intro rfl (And.intro rfl (And.intro rfl (trivial)))) (fun _ hh => (And.intro (fun q => absurd q c1) (fun _ => (Exists.intro (some (.int v1), s) (And.intro (e_M_isFigure d hz2) (And.intro (fun _ => hh) (fun q => absurd c3 q))))))) (ih x1 (x2 + (1)) s _ h hk0)
      · rw [if_neg c3] at h
        exact ax_cut (pc' := 4) (la := [some (.ref 63), some (.int (x1 ||| ((1 : Int32) <<< (x2 &&& 31)))), some (.int (x2 + (1)))]) [some (.ref 63), some (.int (x1 ||| ((1 : Int32) <<< (x2 &&& 31)))), some (.int (x2 + (1)))] (st' := []) (σ' := s) 15 (And.intro rfl (And.intro rfl (And.intro rfl (trivial)))) (fun _ hh => (And.intro (fun q => absurd q c1) (fun _ => (Exists.intro (some (.int v1), s) (And.intro (e_M_isFigure d hz2) (And.intro (fun q => absurd q c3) (fun _ => hh))))))) (ih (x1 ||| ((1 : Int32) <<< (x2 &&& 31))) (x2 + (1)) s _ h hk0)
theorem e_M_figureSet (d : Nat)  {s : ax_S} {r : Int32} (h : M_figureSet s = some r) : ax_ev true (d + 3) 261 [.ref 63] s (some (.int r), s) := by
  refine ⟨Nat.le_of_ble_eq_true rfl, ?_⟩
  show ax_go true none (ax_ev true (d + 2)) ax_m261 0 [some (.ref 63), none, none] [] s _
  unfold M_figureSet at h
  cases hz1 : M_figureSet_l4 70000 (0 : Int32) (0 : Int32) s with
  | none => rw [hz1] at h; cases h
  | some z1 =>
  rw [hz1] at h
  refine ax_cut (pc' := 4) (la := [some (.ref 63), some (.int (0 : Int32)), some (.int (0 : Int32))]) [some (.ref 63), some (.int (0 : Int32)), some (.int (0 : Int32))] (st' := []) (σ' := s) 4 (And.intro rfl (And.intro rfl (And.intro rfl (trivial)))) (fun _ hh => hh) (w_M_figureSet_l4 d 70000 (0 : Int32) (0 : Int32) s _ hz1 ?_)
  · intro v2 hq
    subst z1
    dsimp only at h
    have h := Option.some.inj h
    subst r
    exact ax_end 2 rfl
def M_groupsOf_l7 : Nat → Int32 → Int32 → Int32 → Int32 → ax_S → Option (Int32)
  | 0, _, _, _, _, _ => none
  | n + 1, x1, x2, x3, x4, s =>
    if (16 : Int32) ≤ x4 then (
      some x3) else
    if (M_has x2 x4 s) = 0 then (
      M_groupsOf_l7 n x1 x2 x3 (x4 + (1)) s) else
    match M_kinOf x4 x1 s with
    | none => none
    | some v1 =>
      M_groupsOf_l7 n x1 (x2 &&& (v1 ^^^ (-1 : Int32))) (x3 + (1 : Int32)) (x4 + (1)) s
def M_groupsOf (x1 : Int32)  (s : ax_S) : Option (Int32) :=
  match M_groupsOf_l7 70000 x1 x1 (0 : Int32) (0 : Int32) s with
  | none => none
  | some v2 =>
    some v2
theorem w_M_groupsOf_l7 (d : Nat) {o : ax_O} : ∀ (n : Nat) (x1 : Int32) (x2 : Int32) (x3 : Int32) (x4 : Int32) (s : ax_S) (r : Int32) (h : M_groupsOf_l7 n x1 x2 x3 x4 s = some r) (hk0 : ∀ (t0 : Int32), r = t0 → ax_go true none (ax_ev true (d + 4)) ax_m262 48 [none, none, none, some (.int t0), none] [] s o), ax_go true none (ax_ev true (d + 4)) ax_m262 7 [some (.ref 63), some (.int x1), some (.int x2), some (.int x3), some (.int x4)] [] s o := by
  intro n
  induction n with
  | zero => intro x1 x2 x3 x4 s r h hk0; cases h
  | succ n ih =>
    intro x1 x2 x3 x4 s r h hk0
    rw [M_groupsOf_l7] at h
    by_cases c1 : (16 : Int32) ≤ x4
    · rw [if_pos c1] at h
      have h := Option.some.inj h
      subst r
      exact ax_cut (pc' := 48) (la := [some (.ref 63), some (.int x1), some (.int x2), some (.int x3), some (.int x4)]) [none, none, none, some (.int x3), none] (st' := []) (σ' := s) 3 (And.intro rfl (trivial)) (fun _ hh => (And.intro (fun _ => hh) (fun q => absurd c1 q))) (hk0 _ rfl)
    · rw [if_neg c1] at h
      by_cases c2 : (M_has x2 x4 s) = 0
      · rw [if_pos c2] at h
        exact ax_cut (pc' := 7) (la := [some (.ref 63), some (.int x1), some (.int x2), some (.int x3), some (.int (x4 + (1)))]) [some (.ref 63), some (.int x1), some (.int x2), some (.int x3), some (.int (x4 + (1)))] (st' := []) (σ' := s) 10 (And.intro rfl (And.intro rfl (And.intro rfl (And.intro rfl (And.intro rfl (trivial)))))) (fun _ hh => (And.intro (fun q => absurd q c1) (fun _ => (Exists.intro (some (.int (M_has x2 x4 s)), s) (And.intro (e_M_has (d + 3) x2 x4 s) (And.intro (fun q => absurd c2 q) (fun _ => hh))))))) (ih x1 x2 x3 (x4 + (1)) s _ h hk0)
      · rw [if_neg c2] at h
        cases hz3 : M_kinOf x4 x1 s with
        | none => rw [hz3] at h; cases h
        | some v1 =>
        rw [hz3] at h
        dsimp only at h
        refine ax_cut (pc' := 38) (la := [some (.ref 63), some (.int x1), some (.int (x2 &&& (v1 ^^^ (-1 : Int32)))), some (.int x3), some (.int x4)]) [some (.ref 63), some (.int x1), some (.int (x2 &&& (v1 ^^^ (-1 : Int32)))), some (.int x3), some (.int x4)] (st' := []) (σ' := s) 16 (And.intro rfl (And.intro rfl (And.intro rfl (And.intro rfl (And.intro rfl (trivial)))))) (fun _ hh => (And.intro (fun q => absurd q c1) (fun _ => (Exists.intro (some (.int (M_has x2 x4 s)), s) (And.intro (e_M_has (d + 3) x2 x4 s) (And.intro (fun _ => (Exists.intro (some (.int v1), s) (And.intro (e_M_kinOf d hz3) hh))) (fun q => absurd c2 q))))))) ?_
        exact ax_cut (pc' := 7) (la := [some (.ref 63), some (.int x1), some (.int (x2 &&& (v1 ^^^ (-1 : Int32)))), some (.int (x3 + (1 : Int32))), some (.int (x4 + (1)))]) [some (.ref 63), some (.int x1), some (.int (x2 &&& (v1 ^^^ (-1 : Int32)))), some (.int (x3 + (1 : Int32))), some (.int (x4 + (1)))] (st' := []) (σ' := s) 6 (And.intro rfl (And.intro rfl (And.intro rfl (And.intro rfl (And.intro rfl (trivial)))))) (fun _ hh => hh) (ih x1 (x2 &&& (v1 ^^^ (-1 : Int32))) (x3 + (1 : Int32)) (x4 + (1)) s _ h hk0)
theorem e_M_groupsOf (d : Nat) {x1 : Int32} {s : ax_S} {r : Int32} (h : M_groupsOf x1 s = some r) : ax_ev true (d + 5) 262 [.ref 63, .int x1] s (some (.int r), s) := by
  refine ⟨Nat.le_of_ble_eq_true rfl, ?_⟩
  show ax_go true none (ax_ev true (d + 4)) ax_m262 0 [some (.ref 63), some (.int x1), none, none, none] [] s _
  unfold M_groupsOf at h
  cases hz1 : M_groupsOf_l7 70000 x1 x1 (0 : Int32) (0 : Int32) s with
  | none => rw [hz1] at h; cases h
  | some z1 =>
  rw [hz1] at h
  refine ax_cut (pc' := 7) (la := [some (.ref 63), some (.int x1), some (.int x1), some (.int (0 : Int32)), some (.int (0 : Int32))]) [some (.ref 63), some (.int x1), some (.int x1), some (.int (0 : Int32)), some (.int (0 : Int32))] (st' := []) (σ' := s) 6 (And.intro rfl (And.intro rfl (And.intro rfl (And.intro rfl (And.intro rfl (trivial)))))) (fun _ hh => hh) (w_M_groupsOf_l7 d 70000 x1 x1 (0 : Int32) (0 : Int32) s _ hz1 ?_)
  · intro v2 hq
    subst z1
    dsimp only at h
    have h := Option.some.inj h
    subst r
    exact ax_end 2 rfl
def M_holders_l16 : Nat → Int32 → Int32 → Int32 → Int32 → ax_S → Option (Int32)
  | 0, _, _, _, _, _ => none
  | n + 1, x1, x2, x3, x4, s =>
    if (16 : Int32) ≤ x4 then (
      some x3) else
    if (M_has x1 x4 s) = 0 then (
      M_holders_l16 n x1 x2 x3 (x4 + (1)) s) else
    match M_groupsOf (x1 &&& (((1 : Int32) <<< (x4 &&& 31)) ^^^ (-1 : Int32))) s with
    | none => none
    | some v3 =>
      if v3 ≤ x2 then (
        M_holders_l16 n x1 x2 x3 (x4 + (1)) s) else
      M_holders_l16 n x1 x2 (x3 ||| ((1 : Int32) <<< (x4 &&& 31))) (x4 + (1)) s
def M_holders  (s : ax_S) : Option (Int32) :=
  match M_onPrint s with
  | none => none
  | some v1 =>
    match M_groupsOf v1 s with
    | none => none
    | some v2 =>
      match M_holders_l16 70000 v1 v2 (0 : Int32) (0 : Int32) s with
      | none => none
      | some v4 =>
        some v4
theorem w_M_holders_l16 (d : Nat) {o : ax_O} : ∀ (n : Nat) (x1 : Int32) (x2 : Int32) (x3 : Int32) (x4 : Int32) (s : ax_S) (r : Int32) (h : M_holders_l16 n x1 x2 x3 x4 s = some r) (hk0 : ∀ (t0 : Int32), r = t0 → ax_go true none (ax_ev true (d + 5)) ax_m263 61 [none, none, none, some (.int t0), none] [] s o), ax_go true none (ax_ev true (d + 5)) ax_m263 16 [some (.ref 63), some (.int x1), some (.int x2), some (.int x3), some (.int x4)] [] s o := by
  intro n
  induction n with
  | zero => intro x1 x2 x3 x4 s r h hk0; cases h
  | succ n ih =>
    intro x1 x2 x3 x4 s r h hk0
    rw [M_holders_l16] at h
    by_cases c1 : (16 : Int32) ≤ x4
    · rw [if_pos c1] at h
      have h := Option.some.inj h
      subst r
      exact ax_cut (pc' := 61) (la := [some (.ref 63), some (.int x1), some (.int x2), some (.int x3), some (.int x4)]) [none, none, none, some (.int x3), none] (st' := []) (σ' := s) 3 (And.intro rfl (trivial)) (fun _ hh => (And.intro (fun _ => hh) (fun q => absurd c1 q))) (hk0 _ rfl)
    · rw [if_neg c1] at h
      by_cases c2 : (M_has x1 x4 s) = 0
      · rw [if_pos c2] at h
        exact ax_cut (pc' := 16) (la := [some (.ref 63), some (.int x1), some (.int x2), some (.int x3), some (.int (x4 + (1)))]) [some (.ref 63), some (.int x1), some (.int x2), some (.int x3), some (.int (x4 + (1)))] (st' := []) (σ' := s) 9 (And.intro rfl (And.intro rfl (And.intro rfl (And.intro rfl (And.intro rfl (trivial)))))) (fun _ hh => (And.intro (fun q => absurd q c1) (fun _ => (Exists.intro (some (.int (M_has x1 x4 s)), s) (And.intro (e_M_has (d + 4) x1 x4 s) (And.intro (fun _ => hh) (fun q => absurd c2 q))))))) (ih x1 x2 x3 (x4 + (1)) s _ h hk0)
      · rw [if_neg c2] at h
        cases hz3 : M_groupsOf (x1 &&& (((1 : Int32) <<< (x4 &&& 31)) ^^^ (-1 : Int32))) s with
        | none => rw [hz3] at h; cases h
        | some v3 =>
        rw [hz3] at h
        dsimp only at h
        refine ax_cut (pc' := 44) (la := [some (.ref 63), some (.int x1), some (.int x2), some (.int x3), some (.int x4)]) [some (.ref 63), some (.int x1), some (.int x2), some (.int x3), some (.int x4)] (st' := [.int v3]) (σ' := s) 16 (And.intro rfl (And.intro rfl (And.intro rfl (And.intro rfl (And.intro rfl (trivial)))))) (fun _ hh => (And.intro (fun q => absurd q c1) (fun _ => (Exists.intro (some (.int (M_has x1 x4 s)), s) (And.intro (e_M_has (d + 4) x1 x4 s) (And.intro (fun q => absurd q c2) (fun _ => (Exists.intro (some (.int v3), s) (And.intro (e_M_groupsOf d hz3) hh))))))))) ?_
        by_cases c4 : v3 ≤ x2
        · rw [if_pos c4] at h
          exact ax_cut (pc' := 16) (la := [some (.ref 63), some (.int x1), some (.int x2), some (.int x3), some (.int (x4 + (1)))]) [some (.ref 63), some (.int x1), some (.int x2), some (.int x3), some (.int (x4 + (1)))] (st' := []) (σ' := s) 4 (And.intro rfl (And.intro rfl (And.intro rfl (And.intro rfl (And.intro rfl (trivial)))))) (fun _ hh => (And.intro (fun _ => hh) (fun q => absurd c4 q))) (ih x1 x2 x3 (x4 + (1)) s _ h hk0)
        · rw [if_neg c4] at h
          exact ax_cut (pc' := 16) (la := [some (.ref 63), some (.int x1), some (.int x2), some (.int (x3 ||| ((1 : Int32) <<< (x4 &&& 31)))), some (.int (x4 + (1)))]) [some (.ref 63), some (.int x1), some (.int x2), some (.int (x3 ||| ((1 : Int32) <<< (x4 &&& 31)))), some (.int (x4 + (1)))] (st' := []) (σ' := s) 10 (And.intro rfl (And.intro rfl (And.intro rfl (And.intro rfl (And.intro rfl (trivial)))))) (fun _ hh => (And.intro (fun q => absurd q c4) (fun _ => hh))) (ih x1 x2 (x3 ||| ((1 : Int32) <<< (x4 &&& 31))) (x4 + (1)) s _ h hk0)
theorem e_M_holders (d : Nat)  {s : ax_S} {r : Int32} (h : M_holders s = some r) : ax_ev true (d + 6) 263 [.ref 63] s (some (.int r), s) := by
  refine ⟨Nat.le_of_ble_eq_true rfl, ?_⟩
  show ax_go true none (ax_ev true (d + 5)) ax_m263 0 [some (.ref 63), none, none, none, none] [] s _
  unfold M_holders at h
  cases hz1 : M_onPrint s with
  | none => rw [hz1] at h; cases h
  | some v1 =>
  rw [hz1] at h
  dsimp only at h
  cases hz2 : M_groupsOf v1 s with
  | none => rw [hz2] at h; cases h
  | some v2 =>
  rw [hz2] at h
  dsimp only at h
  cases hz3 : M_holders_l16 70000 v1 v2 (0 : Int32) (0 : Int32) s with
  | none => rw [hz3] at h; cases h
  | some z3 =>
  rw [hz3] at h
  refine ax_cut (pc' := 16) (la := [some (.ref 63), some (.int v1), some (.int v2), some (.int (0 : Int32)), some (.int (0 : Int32))]) [some (.ref 63), some (.int v1), some (.int v2), some (.int (0 : Int32)), some (.int (0 : Int32))] (st' := []) (σ' := s) 11 (And.intro rfl (And.intro rfl (And.intro rfl (And.intro rfl (And.intro rfl (trivial)))))) (fun _ hh => (Exists.intro (some (.int v1), s) (And.intro (e_M_onPrint (d + 2) hz1) (Exists.intro (some (.int v2), s) (And.intro (e_M_groupsOf d hz2) hh))))) (w_M_holders_l16 d 70000 v1 v2 (0 : Int32) (0 : Int32) s _ hz3 ?_)
  · intro v4 hq
    subst z3
    dsimp only at h
    have h := Option.some.inj h
    subst r
    exact ax_end 2 rfl
def M_printIs (x1 : Int32)  (s : ax_S) : Option (Int32) :=
  if x1 = (0) then (
    match M_coveredCells s with
    | none => none
    | some v1 =>
      some v1) else
  if x1 = (1) then (
    match M_figureSet s with
    | none => none
    | some v2 =>
      some v2) else
  if x1 = (2) then (
    match M_onPrint s with
    | none => none
    | some v3 =>
      some v3) else
  if x1 = (3) then (
    match M_onPrint s with
    | none => none
    | some v4 =>
      match M_groupsOf v4 s with
      | none => none
      | some v5 =>
        some v5) else
  if x1 = (4) then (
    match M_holders s with
    | none => none
    | some v6 =>
      some v6) else
  if x1 = (5) then (
    match M_painfulSet s with
    | none => none
    | some v7 =>
      some v7) else
  some (-1 : Int32)
theorem e_M_printIs (d : Nat) {x1 : Int32} {s : ax_S} {r : Int32} (h : M_printIs x1 s = some r) : ax_ev true (d + 7) 259 [.ref 63, .int x1] s (some (.int r), s) := by
  refine ⟨Nat.le_of_ble_eq_true rfl, ?_⟩
  show ax_go true none (ax_ev true (d + 6)) ax_m259 0 [some (.ref 63), some (.int x1)] [] s _
  unfold M_printIs at h
  by_cases c1_0 : x1 = (0)
  · rw [if_pos c1_0] at h
    cases hz2 : M_coveredCells s with
    | none => rw [hz2] at h; cases h
    | some v1 =>
    rw [hz2] at h
    dsimp only at h
    have h := Option.some.inj h
    subst r
    exact ax_end 5 (ax_tabT (lo := 0) (hg := 5) (j0 := 0) (congrArg Int32.toInt c1_0) (by rw [c1_0]; decide) (Exists.intro (some (.int v1), s) (And.intro (e_M_coveredCells (d + 1) hz2) rfl)))
  rw [if_neg c1_0] at h
  by_cases c1_1 : x1 = (1)
  · rw [if_pos c1_1] at h
    cases hz3 : M_figureSet s with
    | none => rw [hz3] at h; cases h
    | some v2 =>
    rw [hz3] at h
    dsimp only at h
    have h := Option.some.inj h
    subst r
    exact ax_end 5 (ax_tabT (lo := 0) (hg := 5) (j0 := 1) (congrArg Int32.toInt c1_1) (by rw [c1_1]; decide) (Exists.intro (some (.int v2), s) (And.intro (e_M_figureSet (d + 3) hz3) rfl)))
  rw [if_neg c1_1] at h
  by_cases c1_2 : x1 = (2)
  · rw [if_pos c1_2] at h
    cases hz4 : M_onPrint s with
    | none => rw [hz4] at h; cases h
    | some v3 =>
    rw [hz4] at h
    dsimp only at h
    have h := Option.some.inj h
    subst r
    exact ax_end 5 (ax_tabT (lo := 0) (hg := 5) (j0 := 2) (congrArg Int32.toInt c1_2) (by rw [c1_2]; decide) (Exists.intro (some (.int v3), s) (And.intro (e_M_onPrint (d + 3) hz4) rfl)))
  rw [if_neg c1_2] at h
  by_cases c1_3 : x1 = (3)
  · rw [if_pos c1_3] at h
    cases hz5 : M_onPrint s with
    | none => rw [hz5] at h; cases h
    | some v4 =>
    rw [hz5] at h
    dsimp only at h
    cases hz6 : M_groupsOf v4 s with
    | none => rw [hz6] at h; cases h
    | some v5 =>
    rw [hz6] at h
    dsimp only at h
    have h := Option.some.inj h
    subst r
    exact ax_end 7 (ax_tabT (lo := 0) (hg := 5) (j0 := 3) (congrArg Int32.toInt c1_3) (by rw [c1_3]; decide) (Exists.intro (some (.int v4), s) (And.intro (e_M_onPrint (d + 3) hz5) (Exists.intro (some (.int v5), s) (And.intro (e_M_groupsOf (d + 1) hz6) rfl)))))
  rw [if_neg c1_3] at h
  by_cases c1_4 : x1 = (4)
  · rw [if_pos c1_4] at h
    cases hz7 : M_holders s with
    | none => rw [hz7] at h; cases h
    | some v6 =>
    rw [hz7] at h
    dsimp only at h
    have h := Option.some.inj h
    subst r
    exact ax_end 5 (ax_tabT (lo := 0) (hg := 5) (j0 := 4) (congrArg Int32.toInt c1_4) (by rw [c1_4]; decide) (Exists.intro (some (.int v6), s) (And.intro (e_M_holders d hz7) rfl)))
  rw [if_neg c1_4] at h
  by_cases c1_5 : x1 = (5)
  · rw [if_pos c1_5] at h
    cases hz8 : M_painfulSet s with
    | none => rw [hz8] at h; cases h
    | some v7 =>
    rw [hz8] at h
    dsimp only at h
    have h := Option.some.inj h
    subst r
    exact ax_end 5 (ax_tabT (lo := 0) (hg := 5) (j0 := 5) (congrArg Int32.toInt c1_5) (by rw [c1_5]; decide) (Exists.intro (some (.int v7), s) (And.intro (e_M_painfulSet (d + 5) hz8) rfl)))
  rw [if_neg c1_5] at h
  have c1_r : (x1).toInt < 0 ∨ 5 < (x1).toInt := by
    have := ax_ne_toInt c1_0
    have := ax_ne_toInt c1_1
    have := ax_ne_toInt c1_2
    have := ax_ne_toInt c1_3
    have := ax_ne_toInt c1_4
    have := ax_ne_toInt c1_5
    simp only [show ∀ y : Int32, y.toInt = y.toInt from fun _ => rfl, show ((0) : Int32).toInt = 0 by decide, show ((1) : Int32).toInt = 1 by decide, show ((2) : Int32).toInt = 2 by decide, show ((3) : Int32).toInt = 3 by decide, show ((4) : Int32).toInt = 4 by decide, show ((5) : Int32).toInt = 5 by decide] at *
    omega
  have h := Option.some.inj h
  subst r
  exact ax_end 4 (ax_tabF (lo := 0) (hg := 5) rfl c1_r rfl)
def XKi_alone_l4 : Nat → Int32 → Int32 → Int32 → ax_S → Option (Int32)
  | 0, _, _, _, _ => none
  | n + 1, x1, x2, x3, s =>
    if (16 : Int32) ≤ x3 then (
      some x2) else
    if ((x1 >>> (x3 &&& 31)) &&& (1 : Int32)) = (1 : Int32) then (
      if (x3 < 0 ∨ 16 ≤ (x3).toNatClampNeg) then none else
      if (s.2.1 58 (x3).toNatClampNeg) = 0 then (
        XKi_alone_l4 n x1 (x2 ||| ((1 : Int32) <<< (x3 &&& 31))) (x3 + (1)) s) else
      XKi_alone_l4 n x1 x2 (x3 + (1)) s) else
    XKi_alone_l4 n x1 x2 (x3 + (1)) s
def XKi_alone (x1 : Int32)  (s : ax_S) : Option (Int32) :=
  match XKi_alone_l4 70000 x1 (0 : Int32) (0 : Int32) s with
  | none => none
  | some v1 =>
    some v1
theorem w_XKi_alone_l4 (d : Nat) {o : ax_O} : ∀ (n : Nat) (x1 : Int32) (x2 : Int32) (x3 : Int32) (s : ax_S) (r : Int32) (h : XKi_alone_l4 n x1 x2 x3 s = some r) (hk0 : ∀ (t0 : Int32), r = t0 → ax_go true none (ax_ev true (d + 0)) ax_m139 40 [none, none, some (.int t0), none] [] s o), ax_go true none (ax_ev true (d + 0)) ax_m139 4 [some (.ref 57), some (.int x1), some (.int x2), some (.int x3)] [] s o := by
  intro n
  induction n with
  | zero => intro x1 x2 x3 s r h hk0; cases h
  | succ n ih =>
    intro x1 x2 x3 s r h hk0
    rw [XKi_alone_l4] at h
    by_cases c1 : (16 : Int32) ≤ x3
    · rw [if_pos c1] at h
      have h := Option.some.inj h
      subst r
      exact ax_cut (pc' := 40) (la := [some (.ref 57), some (.int x1), some (.int x2), some (.int x3)]) [none, none, some (.int x2), none] (st' := []) (σ' := s) 3 (And.intro rfl (trivial)) (fun _ hh => (And.intro (fun _ => hh) (fun q => absurd c1 q))) (hk0 _ rfl)
    · rw [if_neg c1] at h
      by_cases c2 : ((x1 >>> (x3 &&& 31)) &&& (1 : Int32)) = (1 : Int32)
      · rw [if_pos c2] at h
        by_cases c3 : (x3 < 0 ∨ 16 ≤ (x3).toNatClampNeg)
        · rw [if_pos c3] at h; cases h
        · rw [if_neg c3] at h
          by_cases c4 : (s.2.1 58 (x3).toNatClampNeg) = 0
          · rw [if_pos c4] at h
            refine ax_cut (pc' := 29) (la := [some (.ref 57), some (.int x1), some (.int x2), some (.int x3)]) [some (.ref 57), some (.int x1), none, some (.int x3)] (st' := [.int x2]) (σ' := s) 16 (And.intro rfl (And.intro rfl (And.intro rfl (trivial)))) (fun _ hh => (And.intro (fun q => absurd q c1) (fun _ => (And.intro (fun q => absurd c2 q) (fun _ => (And.intro c3 (And.intro (fun q => absurd c4 q) (fun _ => hh)))))))) ?_
            exact ax_cut (pc' := 4) (la := [some (.ref 57), some (.int x1), some (.int (x2 ||| ((1 : Int32) <<< (x3 &&& 31)))), some (.int (x3 + (1)))]) [some (.ref 57), some (.int x1), some (.int (x2 ||| ((1 : Int32) <<< (x3 &&& 31)))), some (.int (x3 + (1)))] (st' := []) (σ' := s) 7 (And.intro rfl (And.intro rfl (And.intro rfl (And.intro rfl (trivial))))) (fun _ hh => hh) (ih x1 (x2 ||| ((1 : Int32) <<< (x3 &&& 31))) (x3 + (1)) s _ h hk0)
          · rw [if_neg c4] at h
            refine ax_cut (pc' := 37) (la := [some (.ref 57), some (.int x1), some (.int x2), some (.int (x3 + (1)))]) [some (.ref 57), some (.int x1), some (.int x2), some (.int (x3 + (1)))] (st' := []) (σ' := s) 16 (And.intro rfl (And.intro rfl (And.intro rfl (And.intro rfl (trivial))))) (fun _ hh => (And.intro (fun q => absurd q c1) (fun _ => (And.intro (fun q => absurd c2 q) (fun _ => (And.intro c3 (And.intro (fun _ => hh) (fun q => absurd c4 q)))))))) ?_
            exact ax_cut (pc' := 4) (la := [some (.ref 57), some (.int x1), some (.int x2), some (.int (x3 + (1)))]) [some (.ref 57), some (.int x1), some (.int x2), some (.int (x3 + (1)))] (st' := []) (σ' := s) 1 (And.intro rfl (And.intro rfl (And.intro rfl (And.intro rfl (trivial))))) (fun _ hh => hh) (ih x1 x2 (x3 + (1)) s _ h hk0)
      · rw [if_neg c2] at h
        exact ax_cut (pc' := 4) (la := [some (.ref 57), some (.int x1), some (.int x2), some (.int (x3 + (1)))]) [some (.ref 57), some (.int x1), some (.int x2), some (.int (x3 + (1)))] (st' := []) (σ' := s) 12 (And.intro rfl (And.intro rfl (And.intro rfl (And.intro rfl (trivial))))) (fun _ hh => (And.intro (fun q => absurd q c1) (fun _ => (And.intro (fun _ => hh) (fun q => absurd c2 q))))) (ih x1 x2 (x3 + (1)) s _ h hk0)
theorem e_XKi_alone (d : Nat) {x1 : Int32} {s : ax_S} {r : Int32} (h : XKi_alone x1 s = some r) : ax_ev true (d + 1) 139 [.ref 57, .int x1] s (some (.int r), s) := by
  refine ⟨Nat.le_of_ble_eq_true rfl, ?_⟩
  show ax_go true none (ax_ev true (d + 0)) ax_m139 0 [some (.ref 57), some (.int x1), none, none] [] s _
  unfold XKi_alone at h
  cases hz1 : XKi_alone_l4 70000 x1 (0 : Int32) (0 : Int32) s with
  | none => rw [hz1] at h; cases h
  | some z1 =>
  rw [hz1] at h
  refine ax_cut (pc' := 4) (la := [some (.ref 57), some (.int x1), some (.int (0 : Int32)), some (.int (0 : Int32))]) [some (.ref 57), some (.int x1), some (.int (0 : Int32)), some (.int (0 : Int32))] (st' := []) (σ' := s) 4 (And.intro rfl (And.intro rfl (And.intro rfl (And.intro rfl (trivial))))) (fun _ hh => hh) (w_XKi_alone_l4 d 70000 x1 (0 : Int32) (0 : Int32) s _ hz1 ?_)
  · intro v1 hq
    subst z1
    dsimp only at h
    have h := Option.some.inj h
    subst r
    exact ax_end 2 rfl
def XFi_middlePerson_4_l8 : Nat → Int32 → Int32 → Int32 → ax_S → Option (Int32)
  | 0, _, _, _, _ => none
  | n + 1, x1, x2, x3, s =>
    if (12 : Int32) ≤ x3 then (
      some x1) else
    if (x3 < 0 ∨ 12 ≤ (x3).toNatClampNeg) then none else
    if (x3 < 0 ∨ 12 ≤ (x3).toNatClampNeg) then none else
    if (x3 < 0 ∨ 12 ≤ (x3).toNatClampNeg) then none else
    if (x3 < 0 ∨ 12 ≤ (x3).toNatClampNeg) then none else
    if (x3 < 0 ∨ 12 ≤ (x3).toNatClampNeg) then none else
    if (s.2.1 5 (x3).toNatClampNeg) = (-1 : Int32) then (
      XFi_middlePerson_4_l8 n x1 x2 (x3 + (1)) s) else
    if x2 ≤ ((if 0 ≤ ((((2 : Int32) * (s.2.1 6 (x3).toNatClampNeg)) + (s.2.1 8 (x3).toNatClampNeg)) - (16 : Int32)) then ((((2 : Int32) * (s.2.1 6 (x3).toNatClampNeg)) + (s.2.1 8 (x3).toNatClampNeg)) - (16 : Int32)) else 0 - ((((2 : Int32) * (s.2.1 6 (x3).toNatClampNeg)) + (s.2.1 8 (x3).toNatClampNeg)) - (16 : Int32))) + (if 0 ≤ ((((2 : Int32) * (s.2.1 7 (x3).toNatClampNeg)) + (s.2.1 9 (x3).toNatClampNeg)) - (12 : Int32)) then ((((2 : Int32) * (s.2.1 7 (x3).toNatClampNeg)) + (s.2.1 9 (x3).toNatClampNeg)) - (12 : Int32)) else 0 - ((((2 : Int32) * (s.2.1 7 (x3).toNatClampNeg)) + (s.2.1 9 (x3).toNatClampNeg)) - (12 : Int32)))) then (
      XFi_middlePerson_4_l8 n x1 x2 (x3 + (1)) s) else
    if (x3 < 0 ∨ 12 ≤ (x3).toNatClampNeg) then none else
    XFi_middlePerson_4_l8 n (s.2.1 5 (x3).toNatClampNeg) ((if 0 ≤ ((((2 : Int32) * (s.2.1 6 (x3).toNatClampNeg)) + (s.2.1 8 (x3).toNatClampNeg)) - (16 : Int32)) then ((((2 : Int32) * (s.2.1 6 (x3).toNatClampNeg)) + (s.2.1 8 (x3).toNatClampNeg)) - (16 : Int32)) else 0 - ((((2 : Int32) * (s.2.1 6 (x3).toNatClampNeg)) + (s.2.1 8 (x3).toNatClampNeg)) - (16 : Int32))) + (if 0 ≤ ((((2 : Int32) * (s.2.1 7 (x3).toNatClampNeg)) + (s.2.1 9 (x3).toNatClampNeg)) - (12 : Int32)) then ((((2 : Int32) * (s.2.1 7 (x3).toNatClampNeg)) + (s.2.1 9 (x3).toNatClampNeg)) - (12 : Int32)) else 0 - ((((2 : Int32) * (s.2.1 7 (x3).toNatClampNeg)) + (s.2.1 9 (x3).toNatClampNeg)) - (12 : Int32)))) (x3 + (1)) s
def XFi_middlePerson_4  (s : ax_S) : Option (Int32) :=
  match XFi_middlePerson_4_l8 70000 (-2 : Int32) (56 : Int32) (0 : Int32) s with
  | none => none
  | some v1 =>
    some v1
theorem w_XFi_middlePerson_4_l8 (d : Nat) {o : ax_O} : ∀ (n : Nat) (x1 : Int32) (x2 : Int32) (x3 : Int32) (s : ax_S) (r : Int32) (h : XFi_middlePerson_4_l8 n x1 x2 x3 s = some r) (hk0 : ∀ (t0 : Int32), r = t0 → ax_go true none (ax_ev true (d + 0)) ax_m140 91 [none, some (.int t0), none, none, none] [] s o), ax_go true none (ax_ev true (d + 0)) ax_m140 8 [some (.ref 4), some (.int x1), some (.int x2), some (.int x3), none] [] s o := by
  intro n
  induction n with
  | zero => intro x1 x2 x3 s r h hk0; cases h
  | succ n ih =>
    intro x1 x2 x3 s r h hk0
    rw [XFi_middlePerson_4_l8] at h
    by_cases c1 : (12 : Int32) ≤ x3
    · rw [if_pos c1] at h
      have h := Option.some.inj h
      subst r
      exact ax_cut (pc' := 91) (la := [some (.ref 4), some (.int x1), some (.int x2), some (.int x3), none]) [none, some (.int x1), none, none, none] (st' := []) (σ' := s) 3 (And.intro rfl (trivial)) (fun _ hh => (And.intro (fun _ => hh) (fun q => absurd c1 q))) (hk0 _ rfl)
    · rw [if_neg c1] at h
      by_cases c2 : (x3 < 0 ∨ 12 ≤ (x3).toNatClampNeg)
      · rw [if_pos c2] at h; cases h
      · rw [if_neg c2] at h
        by_cases c3 : (x3 < 0 ∨ 12 ≤ (x3).toNatClampNeg)
        · rw [if_pos c3] at h; cases h
        · rw [if_neg c3] at h
          refine ax_cut (pc' := 32) (la := [some (.ref 4), some (.int x1), some (.int x2), some (.int x3), none]) [some (.ref 4), some (.int x1), some (.int x2), some (.int x3), none] (st' := [.int ((((2 : Int32) * (s.2.1 6 (x3).toNatClampNeg)) + (s.2.1 8 (x3).toNatClampNeg)) - (16 : Int32))]) (σ' := s) 16 (And.intro rfl (And.intro rfl (And.intro rfl (And.intro rfl (trivial))))) (fun _ hh => (And.intro (fun q => absurd q c1) (fun _ => (And.intro c2 (And.intro c3 hh))))) ?_
          by_cases c4 : (x3 < 0 ∨ 12 ≤ (x3).toNatClampNeg)
          · rw [if_pos c4] at h; cases h
          · rw [if_neg c4] at h
            by_cases c5 : (x3 < 0 ∨ 12 ≤ (x3).toNatClampNeg)
            · rw [if_pos c5] at h; cases h
            · rw [if_neg c5] at h
              refine ax_cut (pc' := 57) (la := [some (.ref 4), some (.int x1), some (.int x2), some (.int x3), none]) [some (.ref 4), some (.int x1), some (.int x2), some (.int x3), none] (st' := [.int ((if 0 ≤ ((((2 : Int32) * (s.2.1 6 (x3).toNatClampNeg)) + (s.2.1 8 (x3).toNatClampNeg)) - (16 : Int32)) then ((((2 : Int32) * (s.2.1 6 (x3).toNatClampNeg)) + (s.2.1 8 (x3).toNatClampNeg)) - (16 : Int32)) else 0 - ((((2 : Int32) * (s.2.1 6 (x3).toNatClampNeg)) + (s.2.1 8 (x3).toNatClampNeg)) - (16 : Int32))) + (if 0 ≤ ((((2 : Int32) * (s.2.1 7 (x3).toNatClampNeg)) + (s.2.1 9 (x3).toNatClampNeg)) - (12 : Int32)) then ((((2 : Int32) * (s.2.1 7 (x3).toNatClampNeg)) + (s.2.1 9 (x3).toNatClampNeg)) - (12 : Int32)) else 0 - ((((2 : Int32) * (s.2.1 7 (x3).toNatClampNeg)) + (s.2.1 9 (x3).toNatClampNeg)) - (12 : Int32))))]) (σ' := s) 16 (And.intro rfl (And.intro rfl (And.intro rfl (And.intro rfl (trivial))))) (fun _ hh => (And.intro c4 (And.intro c5 hh))) ?_
              by_cases c6 : (x3 < 0 ∨ 12 ≤ (x3).toNatClampNeg)
              · rw [if_pos c6] at h; cases h
              · rw [if_neg c6] at h
                by_cases c7 : (s.2.1 5 (x3).toNatClampNeg) = (-1 : Int32)
                · rw [if_pos c7] at h
                  exact ax_cut (pc' := 8) (la := [some (.ref 4), some (.int x1), some (.int x2), some (.int (x3 + (1))), some (.int ((if 0 ≤ ((((2 : Int32) * (s.2.1 6 (x3).toNatClampNeg)) + (s.2.1 8 (x3).toNatClampNeg)) - (16 : Int32)) then ((((2 : Int32) * (s.2.1 6 (x3).toNatClampNeg)) + (s.2.1 8 (x3).toNatClampNeg)) - (16 : Int32)) else 0 - ((((2 : Int32) * (s.2.1 6 (x3).toNatClampNeg)) + (s.2.1 8 (x3).toNatClampNeg)) - (16 : Int32))) + (if 0 ≤ ((((2 : Int32) * (s.2.1 7 (x3).toNatClampNeg)) + (s.2.1 9 (x3).toNatClampNeg)) - (12 : Int32)) then ((((2 : Int32) * (s.2.1 7 (x3).toNatClampNeg)) + (s.2.1 9 (x3).toNatClampNeg)) - (12 : Int32)) else 0 - ((((2 : Int32) * (s.2.1 7 (x3).toNatClampNeg)) + (s.2.1 9 (x3).toNatClampNeg)) - (12 : Int32)))))]) [some (.ref 4), some (.int x1), some (.int x2), some (.int (x3 + (1))), none] (st' := []) (σ' := s) 9 (And.intro rfl (And.intro rfl (And.intro rfl (And.intro rfl (trivial))))) (fun _ hh => (And.intro c6 (And.intro (fun _ => hh) (fun q => absurd c7 q)))) (ih x1 x2 (x3 + (1)) s _ h hk0)
                · rw [if_neg c7] at h
                  by_cases c8 : x2 ≤ ((if 0 ≤ ((((2 : Int32) * (s.2.1 6 (x3).toNatClampNeg)) + (s.2.1 8 (x3).toNatClampNeg)) - (16 : Int32)) then ((((2 : Int32) * (s.2.1 6 (x3).toNatClampNeg)) + (s.2.1 8 (x3).toNatClampNeg)) - (16 : Int32)) else 0 - ((((2 : Int32) * (s.2.1 6 (x3).toNatClampNeg)) + (s.2.1 8 (x3).toNatClampNeg)) - (16 : Int32))) + (if 0 ≤ ((((2 : Int32) * (s.2.1 7 (x3).toNatClampNeg)) + (s.2.1 9 (x3).toNatClampNeg)) - (12 : Int32)) then ((((2 : Int32) * (s.2.1 7 (x3).toNatClampNeg)) + (s.2.1 9 (x3).toNatClampNeg)) - (12 : Int32)) else 0 - ((((2 : Int32) * (s.2.1 7 (x3).toNatClampNeg)) + (s.2.1 9 (x3).toNatClampNeg)) - (12 : Int32))))
                  · rw [if_pos c8] at h
                    exact ax_cut (pc' := 8) (la := [some (.ref 4), some (.int x1), some (.int x2), some (.int (x3 + (1))), some (.int ((if 0 ≤ ((((2 : Int32) * (s.2.1 6 (x3).toNatClampNeg)) + (s.2.1 8 (x3).toNatClampNeg)) - (16 : Int32)) then ((((2 : Int32) * (s.2.1 6 (x3).toNatClampNeg)) + (s.2.1 8 (x3).toNatClampNeg)) - (16 : Int32)) else 0 - ((((2 : Int32) * (s.2.1 6 (x3).toNatClampNeg)) + (s.2.1 8 (x3).toNatClampNeg)) - (16 : Int32))) + (if 0 ≤ ((((2 : Int32) * (s.2.1 7 (x3).toNatClampNeg)) + (s.2.1 9 (x3).toNatClampNeg)) - (12 : Int32)) then ((((2 : Int32) * (s.2.1 7 (x3).toNatClampNeg)) + (s.2.1 9 (x3).toNatClampNeg)) - (12 : Int32)) else 0 - ((((2 : Int32) * (s.2.1 7 (x3).toNatClampNeg)) + (s.2.1 9 (x3).toNatClampNeg)) - (12 : Int32)))))]) [some (.ref 4), some (.int x1), some (.int x2), some (.int (x3 + (1))), none] (st' := []) (σ' := s) 12 (And.intro rfl (And.intro rfl (And.intro rfl (And.intro rfl (trivial))))) (fun _ hh => (And.intro c6 (And.intro (fun q => absurd q c7) (fun _ => (And.intro (fun _ => hh) (fun q => absurd c8 q)))))) (ih x1 x2 (x3 + (1)) s _ h hk0)
                  · rw [if_neg c8] at h
                    by_cases c9 : (x3 < 0 ∨ 12 ≤ (x3).toNatClampNeg)
                    · rw [if_pos c9] at h; cases h
                    · rw [if_neg c9] at h
                      refine ax_cut (pc' := 84) (la := [some (.ref 4), some (.int x1), some (.int ((if 0 ≤ ((((2 : Int32) * (s.2.1 6 (x3).toNatClampNeg)) + (s.2.1 8 (x3).toNatClampNeg)) - (16 : Int32)) then ((((2 : Int32) * (s.2.1 6 (x3).toNatClampNeg)) + (s.2.1 8 (x3).toNatClampNeg)) - (16 : Int32)) else 0 - ((((2 : Int32) * (s.2.1 6 (x3).toNatClampNeg)) + (s.2.1 8 (x3).toNatClampNeg)) - (16 : Int32))) + (if 0 ≤ ((((2 : Int32) * (s.2.1 7 (x3).toNatClampNeg)) + (s.2.1 9 (x3).toNatClampNeg)) - (12 : Int32)) then ((((2 : Int32) * (s.2.1 7 (x3).toNatClampNeg)) + (s.2.1 9 (x3).toNatClampNeg)) - (12 : Int32)) else 0 - ((((2 : Int32) * (s.2.1 7 (x3).toNatClampNeg)) + (s.2.1 9 (x3).toNatClampNeg)) - (12 : Int32))))), some (.int x3), some (.int ((if 0 ≤ ((((2 : Int32) * (s.2.1 6 (x3).toNatClampNeg)) + (s.2.1 8 (x3).toNatClampNeg)) - (16 : Int32)) then ((((2 : Int32) * (s.2.1 6 (x3).toNatClampNeg)) + (s.2.1 8 (x3).toNatClampNeg)) - (16 : Int32)) else 0 - ((((2 : Int32) * (s.2.1 6 (x3).toNatClampNeg)) + (s.2.1 8 (x3).toNatClampNeg)) - (16 : Int32))) + (if 0 ≤ ((((2 : Int32) * (s.2.1 7 (x3).toNatClampNeg)) + (s.2.1 9 (x3).toNatClampNeg)) - (12 : Int32)) then ((((2 : Int32) * (s.2.1 7 (x3).toNatClampNeg)) + (s.2.1 9 (x3).toNatClampNeg)) - (12 : Int32)) else 0 - ((((2 : Int32) * (s.2.1 7 (x3).toNatClampNeg)) + (s.2.1 9 (x3).toNatClampNeg)) - (12 : Int32)))))]) [some (.ref 4), none, some (.int ((if 0 ≤ ((((2 : Int32) * (s.2.1 6 (x3).toNatClampNeg)) + (s.2.1 8 (x3).toNatClampNeg)) - (16 : Int32)) then ((((2 : Int32) * (s.2.1 6 (x3).toNatClampNeg)) + (s.2.1 8 (x3).toNatClampNeg)) - (16 : Int32)) else 0 - ((((2 : Int32) * (s.2.1 6 (x3).toNatClampNeg)) + (s.2.1 8 (x3).toNatClampNeg)) - (16 : Int32))) + (if 0 ≤ ((((2 : Int32) * (s.2.1 7 (x3).toNatClampNeg)) + (s.2.1 9 (x3).toNatClampNeg)) - (12 : Int32)) then ((((2 : Int32) * (s.2.1 7 (x3).toNatClampNeg)) + (s.2.1 9 (x3).toNatClampNeg)) - (12 : Int32)) else 0 - ((((2 : Int32) * (s.2.1 7 (x3).toNatClampNeg)) + (s.2.1 9 (x3).toNatClampNeg)) - (12 : Int32))))), some (.int x3), none] (st' := [.int (s.2.1 5 (x3).toNatClampNeg)]) (σ' := s) 16 (And.intro rfl (And.intro rfl (And.intro rfl (trivial)))) (fun _ hh => (And.intro c6 (And.intro (fun q => absurd q c7) (fun _ => (And.intro (fun q => absurd q c8) (fun _ => (And.intro c9 hh))))))) ?_
                      exact ax_cut (pc' := 8) (la := [some (.ref 4), some (.int (s.2.1 5 (x3).toNatClampNeg)), some (.int ((if 0 ≤ ((((2 : Int32) * (s.2.1 6 (x3).toNatClampNeg)) + (s.2.1 8 (x3).toNatClampNeg)) - (16 : Int32)) then ((((2 : Int32) * (s.2.1 6 (x3).toNatClampNeg)) + (s.2.1 8 (x3).toNatClampNeg)) - (16 : Int32)) else 0 - ((((2 : Int32) * (s.2.1 6 (x3).toNatClampNeg)) + (s.2.1 8 (x3).toNatClampNeg)) - (16 : Int32))) + (if 0 ≤ ((((2 : Int32) * (s.2.1 7 (x3).toNatClampNeg)) + (s.2.1 9 (x3).toNatClampNeg)) - (12 : Int32)) then ((((2 : Int32) * (s.2.1 7 (x3).toNatClampNeg)) + (s.2.1 9 (x3).toNatClampNeg)) - (12 : Int32)) else 0 - ((((2 : Int32) * (s.2.1 7 (x3).toNatClampNeg)) + (s.2.1 9 (x3).toNatClampNeg)) - (12 : Int32))))), some (.int (x3 + (1))), none]) [some (.ref 4), some (.int (s.2.1 5 (x3).toNatClampNeg)), some (.int ((if 0 ≤ ((((2 : Int32) * (s.2.1 6 (x3).toNatClampNeg)) + (s.2.1 8 (x3).toNatClampNeg)) - (16 : Int32)) then ((((2 : Int32) * (s.2.1 6 (x3).toNatClampNeg)) + (s.2.1 8 (x3).toNatClampNeg)) - (16 : Int32)) else 0 - ((((2 : Int32) * (s.2.1 6 (x3).toNatClampNeg)) + (s.2.1 8 (x3).toNatClampNeg)) - (16 : Int32))) + (if 0 ≤ ((((2 : Int32) * (s.2.1 7 (x3).toNatClampNeg)) + (s.2.1 9 (x3).toNatClampNeg)) - (12 : Int32)) then ((((2 : Int32) * (s.2.1 7 (x3).toNatClampNeg)) + (s.2.1 9 (x3).toNatClampNeg)) - (12 : Int32)) else 0 - ((((2 : Int32) * (s.2.1 7 (x3).toNatClampNeg)) + (s.2.1 9 (x3).toNatClampNeg)) - (12 : Int32))))), some (.int (x3 + (1))), none] (st' := []) (σ' := s) 3 (And.intro rfl (And.intro rfl (And.intro rfl (And.intro rfl (trivial))))) (fun _ hh => hh) (ih (s.2.1 5 (x3).toNatClampNeg) ((if 0 ≤ ((((2 : Int32) * (s.2.1 6 (x3).toNatClampNeg)) + (s.2.1 8 (x3).toNatClampNeg)) - (16 : Int32)) then ((((2 : Int32) * (s.2.1 6 (x3).toNatClampNeg)) + (s.2.1 8 (x3).toNatClampNeg)) - (16 : Int32)) else 0 - ((((2 : Int32) * (s.2.1 6 (x3).toNatClampNeg)) + (s.2.1 8 (x3).toNatClampNeg)) - (16 : Int32))) + (if 0 ≤ ((((2 : Int32) * (s.2.1 7 (x3).toNatClampNeg)) + (s.2.1 9 (x3).toNatClampNeg)) - (12 : Int32)) then ((((2 : Int32) * (s.2.1 7 (x3).toNatClampNeg)) + (s.2.1 9 (x3).toNatClampNeg)) - (12 : Int32)) else 0 - ((((2 : Int32) * (s.2.1 7 (x3).toNatClampNeg)) + (s.2.1 9 (x3).toNatClampNeg)) - (12 : Int32)))) (x3 + (1)) s _ h hk0)
theorem e_XFi_middlePerson_4 (d : Nat)  {s : ax_S} {r : Int32} (h : XFi_middlePerson_4 s = some r) : ax_ev true (d + 1) 140 [.ref 4] s (some (.int r), s) := by
  refine ⟨Nat.le_of_ble_eq_true rfl, ?_⟩
  show ax_go true none (ax_ev true (d + 0)) ax_m140 0 [some (.ref 4), none, none, none, none] [] s _
  unfold XFi_middlePerson_4 at h
  cases hz1 : XFi_middlePerson_4_l8 70000 (-2 : Int32) (56 : Int32) (0 : Int32) s with
  | none => rw [hz1] at h; cases h
  | some z1 =>
  rw [hz1] at h
  refine ax_cut (pc' := 8) (la := [some (.ref 4), some (.int (-2 : Int32)), some (.int (56 : Int32)), some (.int (0 : Int32)), none]) [some (.ref 4), some (.int (-2 : Int32)), some (.int (56 : Int32)), some (.int (0 : Int32)), none] (st' := []) (σ' := s) 6 (And.intro rfl (And.intro rfl (And.intro rfl (And.intro rfl (trivial))))) (fun _ hh => hh) (w_XFi_middlePerson_4_l8 d 70000 (-2 : Int32) (56 : Int32) (0 : Int32) s _ hz1 ?_)
  · intro v1 hq
    subst z1
    dsimp only at h
    have h := Option.some.inj h
    subst r
    exact ax_end 2 rfl
def XFi_insideLines (x0 : Int32) (x1 : Int32)  (s : ax_S) : Int32 :=
  ((((1 : Int32) <<< ((x1 - (1 : Int32)) &&& 31)) - (1 : Int32)) <<< ((x0 + (1 : Int32)) &&& 31))
theorem e_XFi_insideLines (d : Nat) (x0 : Int32) (x1 : Int32) (s : ax_S) : ax_ev true (d + 1) 142 [.int x0, .int x1] s (some (.int (XFi_insideLines x0 x1 s)), s) := by
  refine ⟨Nat.le_of_ble_eq_true rfl, ?_⟩
  generalize h : XFi_insideLines x0 x1 s = r
  show ax_go true none (ax_ev true (d + 0)) ax_m142 0 [some (.int x0), some (.int x1)] [] s _
  unfold XFi_insideLines at h
  have h := h
  subst r
  exact ax_end 12 rfl
def XFi_straightColumns_4_l5 : Nat → Int32 → Int32 → ax_S → Option (Int32)
  | 0, _, _, _ => none
  | n + 1, x1, x2, s =>
    if (12 : Int32) ≤ x2 then (
      some x1) else
    if (x2 < 0 ∨ 12 ≤ (x2).toNatClampNeg) then none else
    if (s.2.1 5 (x2).toNatClampNeg) = (-1 : Int32) then (
      XFi_straightColumns_4_l5 n x1 (x2 + (1)) s) else
    if (x2 < 0 ∨ 12 ≤ (x2).toNatClampNeg) then none else
    if (x2 < 0 ∨ 12 ≤ (x2).toNatClampNeg) then none else
    XFi_straightColumns_4_l5 n (x1 &&& ((XFi_insideLines (s.2.1 6 (x2).toNatClampNeg) (s.2.1 8 (x2).toNatClampNeg) s) ^^^ (-1 : Int32))) (x2 + (1)) s
def XFi_straightColumns_4  (s : ax_S) : Option (Int32) :=
  match XFi_straightColumns_4_l5 70000 (65534 : Int32) (0 : Int32) s with
  | none => none
  | some v1 =>
    some v1
theorem w_XFi_straightColumns_4_l5 (d : Nat) {o : ax_O} : ∀ (n : Nat) (x1 : Int32) (x2 : Int32) (s : ax_S) (r : Int32) (h : XFi_straightColumns_4_l5 n x1 x2 s = some r) (hk0 : ∀ (t0 : Int32), r = t0 → ax_go true none (ax_ev true (d + 1)) ax_m141 47 [none, some (.int t0), none] [] s o), ax_go true none (ax_ev true (d + 1)) ax_m141 5 [some (.ref 4), some (.int x1), some (.int x2)] [] s o := by
  intro n
  induction n with
  | zero => intro x1 x2 s r h hk0; cases h
  | succ n ih =>
    intro x1 x2 s r h hk0
    rw [XFi_straightColumns_4_l5] at h
    by_cases c1 : (12 : Int32) ≤ x2
    · rw [if_pos c1] at h
      have h := Option.some.inj h
      subst r
      exact ax_cut (pc' := 47) (la := [some (.ref 4), some (.int x1), some (.int x2)]) [none, some (.int x1), none] (st' := []) (σ' := s) 3 (And.intro rfl (trivial)) (fun _ hh => (And.intro (fun _ => hh) (fun q => absurd c1 q))) (hk0 _ rfl)
    · rw [if_neg c1] at h
      by_cases c2 : (x2 < 0 ∨ 12 ≤ (x2).toNatClampNeg)
      · rw [if_pos c2] at h; cases h
      · rw [if_neg c2] at h
        by_cases c3 : (s.2.1 5 (x2).toNatClampNeg) = (-1 : Int32)
        · rw [if_pos c3] at h
          exact ax_cut (pc' := 5) (la := [some (.ref 4), some (.int x1), some (.int (x2 + (1)))]) [some (.ref 4), some (.int x1), some (.int (x2 + (1)))] (st' := []) (σ' := s) 11 (And.intro rfl (And.intro rfl (And.intro rfl (trivial)))) (fun _ hh => (And.intro (fun q => absurd q c1) (fun _ => (And.intro c2 (And.intro (fun _ => hh) (fun q => absurd c3 q)))))) (ih x1 (x2 + (1)) s _ h hk0)
        · rw [if_neg c3] at h
          by_cases c4 : (x2 < 0 ∨ 12 ≤ (x2).toNatClampNeg)
          · rw [if_pos c4] at h; cases h
          · rw [if_neg c4] at h
            refine ax_cut (pc' := 32) (la := [some (.ref 4), some (.int x1), some (.int x2)]) [some (.ref 4), none, some (.int x2)] (st' := [.ref 8, .int (s.2.1 6 (x2).toNatClampNeg), .int x1]) (σ' := s) 16 (And.intro rfl (And.intro rfl (trivial))) (fun _ hh => (And.intro (fun q => absurd q c1) (fun _ => (And.intro c2 (And.intro (fun q => absurd q c3) (fun _ => (And.intro c4 hh))))))) ?_
            by_cases c5 : (x2 < 0 ∨ 12 ≤ (x2).toNatClampNeg)
            · rw [if_pos c5] at h; cases h
            · rw [if_neg c5] at h
              exact ax_cut (pc' := 5) (la := [some (.ref 4), some (.int (x1 &&& ((XFi_insideLines (s.2.1 6 (x2).toNatClampNeg) (s.2.1 8 (x2).toNatClampNeg) s) ^^^ (-1 : Int32)))), some (.int (x2 + (1)))]) [some (.ref 4), some (.int (x1 &&& ((XFi_insideLines (s.2.1 6 (x2).toNatClampNeg) (s.2.1 8 (x2).toNatClampNeg) s) ^^^ (-1 : Int32)))), some (.int (x2 + (1)))] (st' := []) (σ' := s) 9 (And.intro rfl (And.intro rfl (And.intro rfl (trivial)))) (fun _ hh => (And.intro c5 (Exists.intro (some (.int (XFi_insideLines (s.2.1 6 (x2).toNatClampNeg) (s.2.1 8 (x2).toNatClampNeg) s)), s) (And.intro (e_XFi_insideLines d (s.2.1 6 (x2).toNatClampNeg) (s.2.1 8 (x2).toNatClampNeg) s) hh)))) (ih (x1 &&& ((XFi_insideLines (s.2.1 6 (x2).toNatClampNeg) (s.2.1 8 (x2).toNatClampNeg) s) ^^^ (-1 : Int32))) (x2 + (1)) s _ h hk0)
theorem e_XFi_straightColumns_4 (d : Nat)  {s : ax_S} {r : Int32} (h : XFi_straightColumns_4 s = some r) : ax_ev true (d + 2) 141 [.ref 4] s (some (.int r), s) := by
  refine ⟨Nat.le_of_ble_eq_true rfl, ?_⟩
  show ax_go true none (ax_ev true (d + 1)) ax_m141 0 [some (.ref 4), none, none] [] s _
  unfold XFi_straightColumns_4 at h
  cases hz1 : XFi_straightColumns_4_l5 70000 (65534 : Int32) (0 : Int32) s with
  | none => rw [hz1] at h; cases h
  | some z1 =>
  rw [hz1] at h
  refine ax_cut (pc' := 5) (la := [some (.ref 4), some (.int (65534 : Int32)), some (.int (0 : Int32))]) [some (.ref 4), some (.int (65534 : Int32)), some (.int (0 : Int32))] (st' := []) (σ' := s) 4 (And.intro rfl (And.intro rfl (And.intro rfl (trivial)))) (fun _ hh => hh) (w_XFi_straightColumns_4_l5 d 70000 (65534 : Int32) (0 : Int32) s _ hz1 ?_)
  · intro v1 hq
    subst z1
    dsimp only at h
    have h := Option.some.inj h
    subst r
    exact ax_end 2 rfl
def XFi_straightRows_4_l6 : Nat → Int32 → Int32 → ax_S → Option (Int32)
  | 0, _, _, _ => none
  | n + 1, x1, x2, s =>
    if (12 : Int32) ≤ x2 then (
      some x1) else
    if (x2 < 0 ∨ 12 ≤ (x2).toNatClampNeg) then none else
    if (s.2.1 5 (x2).toNatClampNeg) = (-1 : Int32) then (
      XFi_straightRows_4_l6 n x1 (x2 + (1)) s) else
    if (x2 < 0 ∨ 12 ≤ (x2).toNatClampNeg) then none else
    if (x2 < 0 ∨ 12 ≤ (x2).toNatClampNeg) then none else
    XFi_straightRows_4_l6 n (x1 &&& ((XFi_insideLines (s.2.1 7 (x2).toNatClampNeg) (s.2.1 9 (x2).toNatClampNeg) s) ^^^ (-1 : Int32))) (x2 + (1)) s
def XFi_straightRows_4  (s : ax_S) : Option (Int32) :=
  match XFi_straightRows_4_l6 70000 (4094 : Int32) (0 : Int32) s with
  | none => none
  | some v1 =>
    some v1
theorem w_XFi_straightRows_4_l6 (d : Nat) {o : ax_O} : ∀ (n : Nat) (x1 : Int32) (x2 : Int32) (s : ax_S) (r : Int32) (h : XFi_straightRows_4_l6 n x1 x2 s = some r) (hk0 : ∀ (t0 : Int32), r = t0 → ax_go true none (ax_ev true (d + 1)) ax_m143 48 [none, some (.int t0), none] [] s o), ax_go true none (ax_ev true (d + 1)) ax_m143 6 [some (.ref 4), some (.int x1), some (.int x2)] [] s o := by
  intro n
  induction n with
  | zero => intro x1 x2 s r h hk0; cases h
  | succ n ih =>
    intro x1 x2 s r h hk0
    rw [XFi_straightRows_4_l6] at h
    by_cases c1 : (12 : Int32) ≤ x2
    · rw [if_pos c1] at h
      have h := Option.some.inj h
      subst r
      exact ax_cut (pc' := 48) (la := [some (.ref 4), some (.int x1), some (.int x2)]) [none, some (.int x1), none] (st' := []) (σ' := s) 3 (And.intro rfl (trivial)) (fun _ hh => (And.intro (fun _ => hh) (fun q => absurd c1 q))) (hk0 _ rfl)
    · rw [if_neg c1] at h
      by_cases c2 : (x2 < 0 ∨ 12 ≤ (x2).toNatClampNeg)
      · rw [if_pos c2] at h; cases h
      · rw [if_neg c2] at h
        by_cases c3 : (s.2.1 5 (x2).toNatClampNeg) = (-1 : Int32)
        · rw [if_pos c3] at h
          exact ax_cut (pc' := 6) (la := [some (.ref 4), some (.int x1), some (.int (x2 + (1)))]) [some (.ref 4), some (.int x1), some (.int (x2 + (1)))] (st' := []) (σ' := s) 11 (And.intro rfl (And.intro rfl (And.intro rfl (trivial)))) (fun _ hh => (And.intro (fun q => absurd q c1) (fun _ => (And.intro c2 (And.intro (fun _ => hh) (fun q => absurd c3 q)))))) (ih x1 (x2 + (1)) s _ h hk0)
        · rw [if_neg c3] at h
          by_cases c4 : (x2 < 0 ∨ 12 ≤ (x2).toNatClampNeg)
          · rw [if_pos c4] at h; cases h
          · rw [if_neg c4] at h
            refine ax_cut (pc' := 33) (la := [some (.ref 4), some (.int x1), some (.int x2)]) [some (.ref 4), none, some (.int x2)] (st' := [.ref 9, .int (s.2.1 7 (x2).toNatClampNeg), .int x1]) (σ' := s) 16 (And.intro rfl (And.intro rfl (trivial))) (fun _ hh => (And.intro (fun q => absurd q c1) (fun _ => (And.intro c2 (And.intro (fun q => absurd q c3) (fun _ => (And.intro c4 hh))))))) ?_
            by_cases c5 : (x2 < 0 ∨ 12 ≤ (x2).toNatClampNeg)
            · rw [if_pos c5] at h; cases h
            · rw [if_neg c5] at h
              exact ax_cut (pc' := 6) (la := [some (.ref 4), some (.int (x1 &&& ((XFi_insideLines (s.2.1 7 (x2).toNatClampNeg) (s.2.1 9 (x2).toNatClampNeg) s) ^^^ (-1 : Int32)))), some (.int (x2 + (1)))]) [some (.ref 4), some (.int (x1 &&& ((XFi_insideLines (s.2.1 7 (x2).toNatClampNeg) (s.2.1 9 (x2).toNatClampNeg) s) ^^^ (-1 : Int32)))), some (.int (x2 + (1)))] (st' := []) (σ' := s) 9 (And.intro rfl (And.intro rfl (And.intro rfl (trivial)))) (fun _ hh => (And.intro c5 (Exists.intro (some (.int (XFi_insideLines (s.2.1 7 (x2).toNatClampNeg) (s.2.1 9 (x2).toNatClampNeg) s)), s) (And.intro (e_XFi_insideLines d (s.2.1 7 (x2).toNatClampNeg) (s.2.1 9 (x2).toNatClampNeg) s) hh)))) (ih (x1 &&& ((XFi_insideLines (s.2.1 7 (x2).toNatClampNeg) (s.2.1 9 (x2).toNatClampNeg) s) ^^^ (-1 : Int32))) (x2 + (1)) s _ h hk0)
theorem e_XFi_straightRows_4 (d : Nat)  {s : ax_S} {r : Int32} (h : XFi_straightRows_4 s = some r) : ax_ev true (d + 2) 143 [.ref 4] s (some (.int r), s) := by
  refine ⟨Nat.le_of_ble_eq_true rfl, ?_⟩
  show ax_go true none (ax_ev true (d + 1)) ax_m143 0 [some (.ref 4), none, none] [] s _
  unfold XFi_straightRows_4 at h
  cases hz1 : XFi_straightRows_4_l6 70000 (4094 : Int32) (0 : Int32) s with
  | none => rw [hz1] at h; cases h
  | some z1 =>
  rw [hz1] at h
  refine ax_cut (pc' := 6) (la := [some (.ref 4), some (.int (4094 : Int32)), some (.int (0 : Int32))]) [some (.ref 4), some (.int (4094 : Int32)), some (.int (0 : Int32))] (st' := []) (σ' := s) 4 (And.intro rfl (And.intro rfl (And.intro rfl (trivial)))) (fun _ hh => hh) (w_XFi_straightRows_4_l6 d 70000 (4094 : Int32) (0 : Int32) s _ hz1 ?_)
  · intro v1 hq
    subst z1
    dsimp only at h
    have h := Option.some.inj h
    subst r
    exact ax_end 2 rfl
def X_family (x1 : Int32)  (s : ax_S) : Option (Int32 × ax_S) :=
  if x1 = (0) then (
    match XKi_meet_4 s with
    | none => none
    | some s1 =>
      match XFi_persons_4 s1 with
      | none => none
      | some v2 =>
        match XKi_alone v2 s1 with
        | none => none
        | some v3 =>
          some (v3, s1)) else
  if x1 = (1) then (
    match XFi_middlePerson_4 s with
    | none => none
    | some v4 =>
      some (v4, s)) else
  if x1 = (2) then (
    match XFi_straightColumns_4 s with
    | none => none
    | some v5 =>
      some (v5, s)) else
  if x1 = (3) then (
    match XFi_straightRows_4 s with
    | none => none
    | some v6 =>
      some (v6, s)) else
  some ((-1 : Int32), s)
theorem e_X_family (d : Nat) {x1 : Int32} {s : ax_S} {r : Int32 × ax_S} (h : X_family x1 s = some r) : ax_ev true (d + 5) 138 [.ref 0, .int x1] s (some (.int r.1), r.2) := by
  refine ⟨Nat.le_of_ble_eq_true rfl, ?_⟩
  show ax_go true none (ax_ev true (d + 4)) ax_m138 0 [some (.ref 0), some (.int x1)] [] s _
  unfold X_family at h
  by_cases c1_0 : x1 = (0)
  · rw [if_pos c1_0] at h
    cases hz2 : XKi_meet_4 s with
    | none => rw [hz2] at h; cases h
    | some s1 =>
    rw [hz2] at h
    dsimp only at h
    cases hz3 : XFi_persons_4 s1 with
    | none => rw [hz3] at h; cases h
    | some v2 =>
    rw [hz3] at h
    dsimp only at h
    cases hz4 : XKi_alone v2 s1 with
    | none => rw [hz4] at h; cases h
    | some v3 =>
    rw [hz4] at h
    dsimp only at h
    have h := Option.some.inj h
    subst r
    exact ax_end 16 (ax_tabT (lo := 0) (hg := 3) (j0 := 0) (congrArg Int32.toInt c1_0) (by rw [c1_0]; decide) (Exists.intro (none, s1) (And.intro (e_XKi_meet_4 d hz2) (Exists.intro (some (.int v2), s1) (And.intro (e_XFi_persons_4 (d + 1) hz3) (Exists.intro (some (.int v3), s1) (And.intro (e_XKi_alone (d + 3) hz4) rfl)))))))
  rw [if_neg c1_0] at h
  by_cases c1_1 : x1 = (1)
  · rw [if_pos c1_1] at h
    cases hz5 : XFi_middlePerson_4 s with
    | none => rw [hz5] at h; cases h
    | some v4 =>
    rw [hz5] at h
    dsimp only at h
    have h := Option.some.inj h
    subst r
    exact ax_end 7 (ax_tabT (lo := 0) (hg := 3) (j0 := 1) (congrArg Int32.toInt c1_1) (by rw [c1_1]; decide) (Exists.intro (some (.int v4), s) (And.intro (e_XFi_middlePerson_4 (d + 3) hz5) rfl)))
  rw [if_neg c1_1] at h
  by_cases c1_2 : x1 = (2)
  · rw [if_pos c1_2] at h
    cases hz6 : XFi_straightColumns_4 s with
    | none => rw [hz6] at h; cases h
    | some v5 =>
    rw [hz6] at h
    dsimp only at h
    have h := Option.some.inj h
    subst r
    exact ax_end 7 (ax_tabT (lo := 0) (hg := 3) (j0 := 2) (congrArg Int32.toInt c1_2) (by rw [c1_2]; decide) (Exists.intro (some (.int v5), s) (And.intro (e_XFi_straightColumns_4 (d + 2) hz6) rfl)))
  rw [if_neg c1_2] at h
  by_cases c1_3 : x1 = (3)
  · rw [if_pos c1_3] at h
    cases hz7 : XFi_straightRows_4 s with
    | none => rw [hz7] at h; cases h
    | some v6 =>
    rw [hz7] at h
    dsimp only at h
    have h := Option.some.inj h
    subst r
    exact ax_end 7 (ax_tabT (lo := 0) (hg := 3) (j0 := 3) (congrArg Int32.toInt c1_3) (by rw [c1_3]; decide) (Exists.intro (some (.int v6), s) (And.intro (e_XFi_straightRows_4 (d + 2) hz7) rfl)))
  rw [if_neg c1_3] at h
  have c1_r : (x1).toInt < 0 ∨ 3 < (x1).toInt := by
    have := ax_ne_toInt c1_0
    have := ax_ne_toInt c1_1
    have := ax_ne_toInt c1_2
    have := ax_ne_toInt c1_3
    simp only [show ∀ y : Int32, y.toInt = y.toInt from fun _ => rfl, show ((0) : Int32).toInt = 0 by decide, show ((1) : Int32).toInt = 1 by decide, show ((2) : Int32).toInt = 2 by decide, show ((3) : Int32).toInt = 3 by decide] at *
    omega
  have h := Option.some.inj h
  subst r
  exact ax_end 4 (ax_tabF (lo := 0) (hg := 3) rfl c1_r rfl)
def M_aloneSet_l4 : Nat → Int32 → Int32 → ax_S → Option (Int32)
  | 0, _, _, _ => none
  | n + 1, x1, x2, s =>
    if (16 : Int32) ≤ x2 then (
      some x1) else
    match M_onPrint s with
    | none => none
    | some v1 =>
      if (M_has v1 x2 s) = 0 then (
        M_aloneSet_l4 n x1 (x2 + (1)) s) else
      match M_touchedBy x2 s with
      | none => none
      | some v2 =>
        if v2 = 0 then (
          M_aloneSet_l4 n (x1 ||| ((1 : Int32) <<< (x2 &&& 31))) (x2 + (1)) s) else
        M_aloneSet_l4 n x1 (x2 + (1)) s
def M_aloneSet  (s : ax_S) : Option (Int32) :=
  match M_aloneSet_l4 70000 (0 : Int32) (0 : Int32) s with
  | none => none
  | some v3 =>
    some v3
theorem w_M_aloneSet_l4 (d : Nat) {o : ax_O} : ∀ (n : Nat) (x1 : Int32) (x2 : Int32) (s : ax_S) (r : Int32) (h : M_aloneSet_l4 n x1 x2 s = some r) (hk0 : ∀ (t0 : Int32), r = t0 → ax_go true none (ax_ev true (d + 3)) ax_m265 41 [none, some (.int t0), none] [] s o), ax_go true none (ax_ev true (d + 3)) ax_m265 4 [some (.ref 63), some (.int x1), some (.int x2)] [] s o := by
  intro n
  induction n with
  | zero => intro x1 x2 s r h hk0; cases h
  | succ n ih =>
    intro x1 x2 s r h hk0
    rw [M_aloneSet_l4] at h
    by_cases c1 : (16 : Int32) ≤ x2
    · rw [if_pos c1] at h
      have h := Option.some.inj h
      subst r
      exact ax_cut (pc' := 41) (la := [some (.ref 63), some (.int x1), some (.int x2)]) [none, some (.int x1), none] (st' := []) (σ' := s) 3 (And.intro rfl (trivial)) (fun _ hh => (And.intro (fun _ => hh) (fun q => absurd c1 q))) (hk0 _ rfl)
    · rw [if_neg c1] at h
      cases hz2 : M_onPrint s with
      | none => rw [hz2] at h; cases h
      | some v1 =>
      rw [hz2] at h
      dsimp only at h
      by_cases c3 : (M_has v1 x2 s) = 0
      · rw [if_pos c3] at h
        exact ax_cut (pc' := 4) (la := [some (.ref 63), some (.int x1), some (.int (x2 + (1)))]) [some (.ref 63), some (.int x1), some (.int (x2 + (1)))] (st' := []) (σ' := s) 10 (And.intro rfl (And.intro rfl (And.intro rfl (trivial)))) (fun _ hh => (And.intro (fun q => absurd q c1) (fun _ => (Exists.intro (some (.int v1), s) (And.intro (e_M_onPrint d hz2) (Exists.intro (some (.int (M_has v1 x2 s)), s) (And.intro (e_M_has (d + 2) v1 x2 s) (And.intro (fun _ => hh) (fun q => absurd c3 q))))))))) (ih x1 (x2 + (1)) s _ h hk0)
      · rw [if_neg c3] at h
        cases hz4 : M_touchedBy x2 s with
        | none => rw [hz4] at h; cases h
        | some v2 =>
        rw [hz4] at h
        dsimp only at h
        by_cases c5 : v2 = 0
        · rw [if_pos c5] at h
          refine ax_cut (pc' := 33) (la := [some (.ref 63), some (.int x1), some (.int x2)]) [some (.ref 63), none, some (.int x2)] (st' := [.int ((1 : Int32) <<< (x2 &&& 31)), .int x1]) (σ' := s) 16 (And.intro rfl (And.intro rfl (trivial))) (fun _ hh => (And.intro (fun q => absurd q c1) (fun _ => (Exists.intro (some (.int v1), s) (And.intro (e_M_onPrint d hz2) (Exists.intro (some (.int (M_has v1 x2 s)), s) (And.intro (e_M_has (d + 2) v1 x2 s) (And.intro (fun q => absurd q c3) (fun _ => (Exists.intro (some (.int v2), s) (And.intro (e_M_touchedBy d hz4) (And.intro (fun q => absurd c5 q) (fun _ => hh))))))))))))) ?_
          exact ax_cut (pc' := 4) (la := [some (.ref 63), some (.int (x1 ||| ((1 : Int32) <<< (x2 &&& 31)))), some (.int (x2 + (1)))]) [some (.ref 63), some (.int (x1 ||| ((1 : Int32) <<< (x2 &&& 31)))), some (.int (x2 + (1)))] (st' := []) (σ' := s) 4 (And.intro rfl (And.intro rfl (And.intro rfl (trivial)))) (fun _ hh => hh) (ih (x1 ||| ((1 : Int32) <<< (x2 &&& 31))) (x2 + (1)) s _ h hk0)
        · rw [if_neg c5] at h
          exact ax_cut (pc' := 4) (la := [some (.ref 63), some (.int x1), some (.int (x2 + (1)))]) [some (.ref 63), some (.int x1), some (.int (x2 + (1)))] (st' := []) (σ' := s) 14 (And.intro rfl (And.intro rfl (And.intro rfl (trivial)))) (fun _ hh => (And.intro (fun q => absurd q c1) (fun _ => (Exists.intro (some (.int v1), s) (And.intro (e_M_onPrint d hz2) (Exists.intro (some (.int (M_has v1 x2 s)), s) (And.intro (e_M_has (d + 2) v1 x2 s) (And.intro (fun q => absurd q c3) (fun _ => (Exists.intro (some (.int v2), s) (And.intro (e_M_touchedBy d hz4) (And.intro (fun _ => hh) (fun q => absurd c5 q))))))))))))) (ih x1 (x2 + (1)) s _ h hk0)
theorem e_M_aloneSet (d : Nat)  {s : ax_S} {r : Int32} (h : M_aloneSet s = some r) : ax_ev true (d + 4) 265 [.ref 63] s (some (.int r), s) := by
  refine ⟨Nat.le_of_ble_eq_true rfl, ?_⟩
  show ax_go true none (ax_ev true (d + 3)) ax_m265 0 [some (.ref 63), none, none] [] s _
  unfold M_aloneSet at h
  cases hz1 : M_aloneSet_l4 70000 (0 : Int32) (0 : Int32) s with
  | none => rw [hz1] at h; cases h
  | some z1 =>
  rw [hz1] at h
  refine ax_cut (pc' := 4) (la := [some (.ref 63), some (.int (0 : Int32)), some (.int (0 : Int32))]) [some (.ref 63), some (.int (0 : Int32)), some (.int (0 : Int32))] (st' := []) (σ' := s) 4 (And.intro rfl (And.intro rfl (And.intro rfl (trivial)))) (fun _ hh => hh) (w_M_aloneSet_l4 d 70000 (0 : Int32) (0 : Int32) s _ hz1 ?_)
  · intro v3 hq
    subst z1
    dsimp only at h
    have h := Option.some.inj h
    subst r
    exact ax_end 2 rfl
def M_size (x0 : Int32)  (s : ax_S) : Int32 :=
  if 0 ≤ x0 then (
    x0) else
  (-x0)
theorem e_M_size (d : Nat) (x0 : Int32) (s : ax_S) : ax_ev true (d + 1) 267 [.int x0] s (some (.int (M_size x0 s)), s) := by
  refine ⟨Nat.le_of_ble_eq_true rfl, ?_⟩
  generalize h : M_size x0 s = r
  show ax_go true none (ax_ev true (d + 0)) ax_m267 0 [some (.int x0)] [] s _
  unfold M_size at h
  by_cases c1 : 0 ≤ x0
  · rw [if_pos c1] at h
    have h := h
    subst r
    exact ax_end 4 (And.intro (fun _ => rfl) (fun q => absurd c1 q))
  · rw [if_neg c1] at h
    have h := h
    subst r
    exact ax_end 6 (And.intro (fun q => absurd q c1) (fun _ => rfl))
def M_middleOne_l9 : Nat → Int32 → Int32 → Int32 → ax_S → Option (Int32)
  | 0, _, _, _, _ => none
  | n + 1, x1, x2, x3, s =>
    if (12 : Int32) ≤ x3 then (
      some x1) else
    if (((12 : Int32) + x3) < 0 ∨ 291 ≤ (((12 : Int32) + x3)).toNatClampNeg) then none else
    match M_right x3 s with
    | none => none
    | some v1 =>
      if (((24 : Int32) + x3) < 0 ∨ 291 ≤ (((24 : Int32) + x3)).toNatClampNeg) then none else
      match M_below x3 s with
      | none => none
      | some v2 =>
        match M_isFigure x3 s with
        | none => none
        | some v3 =>
          if v3 = 0 then (
            M_middleOne_l9 n x1 x2 (x3 + (1)) s) else
          if ((M_size (((s.2.1 64 (((12 : Int32) + x3)).toNatClampNeg) + v1) - (16 : Int32)) s) + (M_size (((s.2.1 64 (((24 : Int32) + x3)).toNatClampNeg) + v2) - (12 : Int32)) s)) < x2 then (
            if (((0 : Int32) + x3) < 0 ∨ 291 ≤ (((0 : Int32) + x3)).toNatClampNeg) then none else
            M_middleOne_l9 n (s.2.1 64 (((0 : Int32) + x3)).toNatClampNeg) ((M_size (((s.2.1 64 (((12 : Int32) + x3)).toNatClampNeg) + v1) - (16 : Int32)) s) + (M_size (((s.2.1 64 (((24 : Int32) + x3)).toNatClampNeg) + v2) - (12 : Int32)) s)) (x3 + (1)) s) else
          M_middleOne_l9 n x1 x2 (x3 + (1)) s
def M_middleOne  (s : ax_S) : Option (Int32) :=
  match M_middleOne_l9 70000 (-2 : Int32) (1000000 : Int32) (0 : Int32) s with
  | none => none
  | some v4 =>
    some v4
theorem w_M_middleOne_l9 (d : Nat) {o : ax_O} : ∀ (n : Nat) (x1 : Int32) (x2 : Int32) (x3 : Int32) (s : ax_S) (r : Int32) (h : M_middleOne_l9 n x1 x2 x3 s = some r) (hk0 : ∀ (t0 : Int32), r = t0 → ax_go true none (ax_ev true (d + 2)) ax_m266 95 [none, some (.int t0), none, none, none] [] s o), ax_go true none (ax_ev true (d + 2)) ax_m266 9 [some (.ref 63), some (.int x1), some (.int x2), some (.int x3), none] [] s o := by
  intro n
  induction n with
  | zero => intro x1 x2 x3 s r h hk0; cases h
  | succ n ih =>
    intro x1 x2 x3 s r h hk0
    rw [M_middleOne_l9] at h
    by_cases c1 : (12 : Int32) ≤ x3
    · rw [if_pos c1] at h
      have h := Option.some.inj h
      subst r
      exact ax_cut (pc' := 95) (la := [some (.ref 63), some (.int x1), some (.int x2), some (.int x3), none]) [none, some (.int x1), none, none, none] (st' := []) (σ' := s) 3 (And.intro rfl (trivial)) (fun _ hh => (And.intro (fun _ => hh) (fun q => absurd c1 q))) (hk0 _ rfl)
    · rw [if_neg c1] at h
      by_cases c2 : (((12 : Int32) + x3) < 0 ∨ 291 ≤ (((12 : Int32) + x3)).toNatClampNeg)
      · rw [if_pos c2] at h; cases h
      · rw [if_neg c2] at h
        cases hz3 : M_right x3 s with
        | none => rw [hz3] at h; cases h
        | some v1 =>
        rw [hz3] at h
        dsimp only at h
        refine ax_cut (pc' := 36) (la := [some (.ref 63), some (.int x1), some (.int x2), some (.int x3), none]) [some (.ref 63), some (.int x1), some (.int x2), some (.int x3), none] (st' := [.int (M_size (((s.2.1 64 (((12 : Int32) + x3)).toNatClampNeg) + v1) - (16 : Int32)) s)]) (σ' := s) 16 (And.intro rfl (And.intro rfl (And.intro rfl (And.intro rfl (trivial))))) (fun _ hh => (And.intro (fun q => absurd q c1) (fun _ => (And.intro c2 (Exists.intro (some (.int v1), s) (And.intro (e_M_right (d + 1) hz3) (Exists.intro (some (.int (M_size (((s.2.1 64 (((12 : Int32) + x3)).toNatClampNeg) + v1) - (16 : Int32)) s)), s) (And.intro (e_M_size (d + 1) (((s.2.1 64 (((12 : Int32) + x3)).toNatClampNeg) + v1) - (16 : Int32)) s) hh)))))))) ?_
        by_cases c4 : (((24 : Int32) + x3) < 0 ∨ 291 ≤ (((24 : Int32) + x3)).toNatClampNeg)
        · rw [if_pos c4] at h; cases h
        · rw [if_neg c4] at h
          cases hz5 : M_below x3 s with
          | none => rw [hz5] at h; cases h
          | some v2 =>
          rw [hz5] at h
          dsimp only at h
          refine ax_cut (pc' := 61) (la := [some (.ref 63), some (.int x1), some (.int x2), some (.int x3), some (.int ((M_size (((s.2.1 64 (((12 : Int32) + x3)).toNatClampNeg) + v1) - (16 : Int32)) s) + (M_size (((s.2.1 64 (((24 : Int32) + x3)).toNatClampNeg) + v2) - (12 : Int32)) s)))]) [some (.ref 63), some (.int x1), some (.int x2), some (.int x3), some (.int ((M_size (((s.2.1 64 (((12 : Int32) + x3)).toNatClampNeg) + v1) - (16 : Int32)) s) + (M_size (((s.2.1 64 (((24 : Int32) + x3)).toNatClampNeg) + v2) - (12 : Int32)) s)))] (st' := [.ref 63]) (σ' := s) 16 (And.intro rfl (And.intro rfl (And.intro rfl (And.intro rfl (And.intro rfl (trivial)))))) (fun _ hh => (And.intro c4 (Exists.intro (some (.int v2), s) (And.intro (e_M_below (d + 1) hz5) (Exists.intro (some (.int (M_size (((s.2.1 64 (((24 : Int32) + x3)).toNatClampNeg) + v2) - (12 : Int32)) s)), s) (And.intro (e_M_size (d + 1) (((s.2.1 64 (((24 : Int32) + x3)).toNatClampNeg) + v2) - (12 : Int32)) s) hh)))))) ?_
          cases hz6 : M_isFigure x3 s with
          | none => rw [hz6] at h; cases h
          | some v3 =>
          rw [hz6] at h
          dsimp only at h
          by_cases c7 : v3 = 0
          · rw [if_pos c7] at h
            exact ax_cut (pc' := 9) (la := [some (.ref 63), some (.int x1), some (.int x2), some (.int (x3 + (1))), some (.int ((M_size (((s.2.1 64 (((12 : Int32) + x3)).toNatClampNeg) + v1) - (16 : Int32)) s) + (M_size (((s.2.1 64 (((24 : Int32) + x3)).toNatClampNeg) + v2) - (12 : Int32)) s)))]) [some (.ref 63), some (.int x1), some (.int x2), some (.int (x3 + (1))), none] (st' := []) (σ' := s) 5 (And.intro rfl (And.intro rfl (And.intro rfl (And.intro rfl (trivial))))) (fun _ hh => (Exists.intro (some (.int v3), s) (And.intro (e_M_isFigure d hz6) (And.intro (fun _ => hh) (fun q => absurd c7 q))))) (ih x1 x2 (x3 + (1)) s _ h hk0)
          · rw [if_neg c7] at h
            by_cases c8 : ((M_size (((s.2.1 64 (((12 : Int32) + x3)).toNatClampNeg) + v1) - (16 : Int32)) s) + (M_size (((s.2.1 64 (((24 : Int32) + x3)).toNatClampNeg) + v2) - (12 : Int32)) s)) < x2
            · rw [if_pos c8] at h
              by_cases c9 : (((0 : Int32) + x3) < 0 ∨ 291 ≤ (((0 : Int32) + x3)).toNatClampNeg)
              · rw [if_pos c9] at h; cases h
              · rw [if_neg c9] at h
                refine ax_cut (pc' := 92) (la := [some (.ref 63), some (.int (s.2.1 64 (((0 : Int32) + x3)).toNatClampNeg)), some (.int ((M_size (((s.2.1 64 (((12 : Int32) + x3)).toNatClampNeg) + v1) - (16 : Int32)) s) + (M_size (((s.2.1 64 (((24 : Int32) + x3)).toNatClampNeg) + v2) - (12 : Int32)) s))), some (.int (x3 + (1))), some (.int ((M_size (((s.2.1 64 (((12 : Int32) + x3)).toNatClampNeg) + v1) - (16 : Int32)) s) + (M_size (((s.2.1 64 (((24 : Int32) + x3)).toNatClampNeg) + v2) - (12 : Int32)) s)))]) [some (.ref 63), some (.int (s.2.1 64 (((0 : Int32) + x3)).toNatClampNeg)), some (.int ((M_size (((s.2.1 64 (((12 : Int32) + x3)).toNatClampNeg) + v1) - (16 : Int32)) s) + (M_size (((s.2.1 64 (((24 : Int32) + x3)).toNatClampNeg) + v2) - (12 : Int32)) s))), some (.int (x3 + (1))), none] (st' := []) (σ' := s) 16 (And.intro rfl (And.intro rfl (And.intro rfl (And.intro rfl (trivial))))) (fun _ hh => (Exists.intro (some (.int v3), s) (And.intro (e_M_isFigure d hz6) (And.intro (fun q => absurd q c7) (fun _ => (And.intro (fun _ => (And.intro c9 hh)) (fun q => absurd c8 q))))))) ?_
                exact ax_cut (pc' := 9) (la := [some (.ref 63), some (.int (s.2.1 64 (((0 : Int32) + x3)).toNatClampNeg)), some (.int ((M_size (((s.2.1 64 (((12 : Int32) + x3)).toNatClampNeg) + v1) - (16 : Int32)) s) + (M_size (((s.2.1 64 (((24 : Int32) + x3)).toNatClampNeg) + v2) - (12 : Int32)) s))), some (.int (x3 + (1))), none]) [some (.ref 63), some (.int (s.2.1 64 (((0 : Int32) + x3)).toNatClampNeg)), some (.int ((M_size (((s.2.1 64 (((12 : Int32) + x3)).toNatClampNeg) + v1) - (16 : Int32)) s) + (M_size (((s.2.1 64 (((24 : Int32) + x3)).toNatClampNeg) + v2) - (12 : Int32)) s))), some (.int (x3 + (1))), none] (st' := []) (σ' := s) 1 (And.intro rfl (And.intro rfl (And.intro rfl (And.intro rfl (trivial))))) (fun _ hh => hh) (ih (s.2.1 64 (((0 : Int32) + x3)).toNatClampNeg) ((M_size (((s.2.1 64 (((12 : Int32) + x3)).toNatClampNeg) + v1) - (16 : Int32)) s) + (M_size (((s.2.1 64 (((24 : Int32) + x3)).toNatClampNeg) + v2) - (12 : Int32)) s)) (x3 + (1)) s _ h hk0)
            · rw [if_neg c8] at h
              exact ax_cut (pc' := 9) (la := [some (.ref 63), some (.int x1), some (.int x2), some (.int (x3 + (1))), some (.int ((M_size (((s.2.1 64 (((12 : Int32) + x3)).toNatClampNeg) + v1) - (16 : Int32)) s) + (M_size (((s.2.1 64 (((24 : Int32) + x3)).toNatClampNeg) + v2) - (12 : Int32)) s)))]) [some (.ref 63), some (.int x1), some (.int x2), some (.int (x3 + (1))), none] (st' := []) (σ' := s) 9 (And.intro rfl (And.intro rfl (And.intro rfl (And.intro rfl (trivial))))) (fun _ hh => (Exists.intro (some (.int v3), s) (And.intro (e_M_isFigure d hz6) (And.intro (fun q => absurd q c7) (fun _ => (And.intro (fun q => absurd q c8) (fun _ => hh))))))) (ih x1 x2 (x3 + (1)) s _ h hk0)
theorem e_M_middleOne (d : Nat)  {s : ax_S} {r : Int32} (h : M_middleOne s = some r) : ax_ev true (d + 3) 266 [.ref 63] s (some (.int r), s) := by
  refine ⟨Nat.le_of_ble_eq_true rfl, ?_⟩
  show ax_go true none (ax_ev true (d + 2)) ax_m266 0 [some (.ref 63), none, none, none, none] [] s _
  unfold M_middleOne at h
  cases hz1 : M_middleOne_l9 70000 (-2 : Int32) (1000000 : Int32) (0 : Int32) s with
  | none => rw [hz1] at h; cases h
  | some z1 =>
  rw [hz1] at h
  refine ax_cut (pc' := 9) (la := [some (.ref 63), some (.int (-2 : Int32)), some (.int (1000000 : Int32)), some (.int (0 : Int32)), none]) [some (.ref 63), some (.int (-2 : Int32)), some (.int (1000000 : Int32)), some (.int (0 : Int32)), none] (st' := []) (σ' := s) 6 (And.intro rfl (And.intro rfl (And.intro rfl (And.intro rfl (trivial))))) (fun _ hh => hh) (w_M_middleOne_l9 d 70000 (-2 : Int32) (1000000 : Int32) (0 : Int32) s _ hz1 ?_)
  · intro v4 hq
    subst z1
    dsimp only at h
    have h := Option.some.inj h
    subst r
    exact ax_end 2 rfl
def M_straight_j25 (x1 : Int32) (x2 : Int32) (x3 : Int32) (x4 : Int32) (x5 : Int32) (x6 : Int32) (y0 : Int32)  (s : ax_S) : Option (Int32) :=
  if y0 = 0 then (
    if (((12 : Int32) + x6) < 0 ∨ 291 ≤ (((12 : Int32) + x6)).toNatClampNeg) then none else
    some (s.2.1 64 (((12 : Int32) + x6)).toNatClampNeg)) else
  if (((24 : Int32) + x6) < 0 ∨ 291 ≤ (((24 : Int32) + x6)).toNatClampNeg) then none else
  some (s.2.1 64 (((24 : Int32) + x6)).toNatClampNeg)
def M_straight_j54 (x1 : Int32) (x2 : Int32) (x3 : Int32) (x4 : Int32) (x5 : Int32) (x6 : Int32) (x7 : Int32) (y0 : Int32)  (s : ax_S) : Option (Int32) :=
  if y0 = 0 then (
    match M_right x6 s with
    | none => none
    | some v2 =>
      some v2) else
  match M_below x6 s with
  | none => none
  | some v3 =>
    some v3
def M_straight_l17 : Nat → Int32 → Int32 → Int32 → Int32 → Int32 → Int32 → ax_S → Option (Int32)
  | 0, _, _, _, _, _, _, _ => none
  | n + 1, x1, x2, x3, x4, x5, x6, s =>
    if (12 : Int32) ≤ x6 then (
      some x5) else
    match M_straight_j25 x1 x2 x3 x4 x5 x6 x2 s with
    | none => none
    | some v1 =>
      match M_straight_j54 x1 x2 x3 x4 x5 x6 v1 x2 s with
      | none => none
      | some v4 =>
        match M_isFigure x6 s with
        | none => none
        | some v5 =>
          if v5 = 0 then (
            M_straight_l17 n x1 x2 x3 x4 x5 (x6 + (1)) s) else
          if x4 ≤ v1 then (
            M_straight_l17 n x1 x2 x3 x4 x5 (x6 + (1)) s) else
          if v4 ≤ x4 then (
            M_straight_l17 n x1 x2 x3 x4 x5 (x6 + (1)) s) else
          M_straight_l17 n x1 x2 x3 x4 (1 : Int32) (x6 + (1)) s
def M_straight_l5 : Nat → Int32 → Int32 → Int32 → Int32 → ax_S → Option (Int32)
  | 0, _, _, _, _, _ => none
  | n + 1, x1, x2, x3, x4, s =>
    if x1 ≤ x4 then (
      some x3) else
    match M_straight_l17 70000 x1 x2 x3 x4 (0 : Int32) (0 : Int32) s with
    | none => none
    | some v6 =>
      if v6 = 0 then (
        M_straight_l5 n x1 x2 (x3 ||| ((1 : Int32) <<< (x4 &&& 31))) (x4 + (1)) s) else
      M_straight_l5 n x1 x2 x3 (x4 + (1)) s
def M_straight (x1 : Int32) (x2 : Int32)  (s : ax_S) : Option (Int32) :=
  match M_straight_l5 70000 x1 x2 (0 : Int32) (1 : Int32) s with
  | none => none
  | some v7 =>
    some v7
theorem w_M_straight_j25 (d : Nat) {o : ax_O} (x1 : Int32) (x2 : Int32) (x3 : Int32) (x4 : Int32) (x5 : Int32) (x6 : Int32) (y0 : Int32) (s : ax_S) (r : Int32) (h : M_straight_j25 x1 x2 x3 x4 x5 x6 y0 s = some r) (hk0 : ∀ (t0 : Int32), r = t0 → ax_go true none (ax_ev true (d + 2)) ax_m268 51 [some (.ref 63), some (.int x1), some (.int x2), some (.int x3), some (.int x4), some (.int x5), some (.int x6), none, none] [.int t0] s o) : ax_go true none (ax_ev true (d + 2)) ax_m268 25 [some (.ref 63), some (.int x1), some (.int x2), some (.int x3), some (.int x4), some (.int x5), some (.int x6), none, none] [.int y0] s o := by
  unfold M_straight_j25 at h
  by_cases c1 : y0 = 0
  · rw [if_pos c1] at h
    by_cases c2 : (((12 : Int32) + x6) < 0 ∨ 291 ≤ (((12 : Int32) + x6)).toNatClampNeg)
    · rw [if_pos c2] at h; cases h
    · rw [if_neg c2] at h
      have h := Option.some.inj h
      subst r
      exact ax_cut (pc' := 51) (la := [some (.ref 63), some (.int x1), some (.int x2), some (.int x3), some (.int x4), some (.int x5), some (.int x6), none, none]) [some (.ref 63), some (.int x1), some (.int x2), some (.int x3), some (.int x4), some (.int x5), some (.int x6), none, none] (st' := [.int (s.2.1 64 (((12 : Int32) + x6)).toNatClampNeg)]) (σ' := s) 7 (And.intro rfl (And.intro rfl (And.intro rfl (And.intro rfl (And.intro rfl (And.intro rfl (And.intro rfl (trivial)))))))) (fun _ hh => (And.intro (fun _ => (And.intro c2 hh)) (fun q => absurd c1 q))) (hk0 _ rfl)
  · rw [if_neg c1] at h
    by_cases c3 : (((24 : Int32) + x6) < 0 ∨ 291 ≤ (((24 : Int32) + x6)).toNatClampNeg)
    · rw [if_pos c3] at h; cases h
    · rw [if_neg c3] at h
      have h := Option.some.inj h
      subst r
      exact ax_cut (pc' := 51) (la := [some (.ref 63), some (.int x1), some (.int x2), some (.int x3), some (.int x4), some (.int x5), some (.int x6), none, none]) [some (.ref 63), some (.int x1), some (.int x2), some (.int x3), some (.int x4), some (.int x5), some (.int x6), none, none] (st' := [.int (s.2.1 64 (((24 : Int32) + x6)).toNatClampNeg)]) (σ' := s) 8 (And.intro rfl (And.intro rfl (And.intro rfl (And.intro rfl (And.intro rfl (And.intro rfl (And.intro rfl (trivial)))))))) (fun _ hh => (And.intro (fun q => absurd q c1) (fun _ => (And.intro c3 hh)))) (hk0 _ rfl)
theorem w_M_straight_j54 (d : Nat) {o : ax_O} (x1 : Int32) (x2 : Int32) (x3 : Int32) (x4 : Int32) (x5 : Int32) (x6 : Int32) (x7 : Int32) (y0 : Int32) (s : ax_S) (r : Int32) (h : M_straight_j54 x1 x2 x3 x4 x5 x6 x7 y0 s = some r) (hk0 : ∀ (t0 : Int32), r = t0 → ax_go true none (ax_ev true (d + 2)) ax_m268 72 [some (.ref 63), some (.int x1), some (.int x2), some (.int x3), some (.int x4), some (.int x5), some (.int x6), some (.int x7), none] [.int t0] s o) : ax_go true none (ax_ev true (d + 2)) ax_m268 54 [some (.ref 63), some (.int x1), some (.int x2), some (.int x3), some (.int x4), some (.int x5), some (.int x6), some (.int x7), none] [.int y0] s o := by
  unfold M_straight_j54 at h
  by_cases c1 : y0 = 0
  · rw [if_pos c1] at h
    cases hz2 : M_right x6 s with
    | none => rw [hz2] at h; cases h
    | some v2 =>
    rw [hz2] at h
    dsimp only at h
    have h := Option.some.inj h
    subst r
    exact ax_cut (pc' := 72) (la := [some (.ref 63), some (.int x1), some (.int x2), some (.int x3), some (.int x4), some (.int x5), some (.int x6), some (.int x7), none]) [some (.ref 63), some (.int x1), some (.int x2), some (.int x3), some (.int x4), some (.int x5), some (.int x6), some (.int x7), none] (st' := [.int v2]) (σ' := s) 4 (And.intro rfl (And.intro rfl (And.intro rfl (And.intro rfl (And.intro rfl (And.intro rfl (And.intro rfl (And.intro rfl (trivial))))))))) (fun _ hh => (And.intro (fun _ => (Exists.intro (some (.int v2), s) (And.intro (e_M_right (d + 1) hz2) hh))) (fun q => absurd c1 q))) (hk0 _ rfl)
  · rw [if_neg c1] at h
    cases hz3 : M_below x6 s with
    | none => rw [hz3] at h; cases h
    | some v3 =>
    rw [hz3] at h
    dsimp only at h
    have h := Option.some.inj h
    subst r
    exact ax_cut (pc' := 72) (la := [some (.ref 63), some (.int x1), some (.int x2), some (.int x3), some (.int x4), some (.int x5), some (.int x6), some (.int x7), none]) [some (.ref 63), some (.int x1), some (.int x2), some (.int x3), some (.int x4), some (.int x5), some (.int x6), some (.int x7), none] (st' := [.int v3]) (σ' := s) 5 (And.intro rfl (And.intro rfl (And.intro rfl (And.intro rfl (And.intro rfl (And.intro rfl (And.intro rfl (And.intro rfl (trivial))))))))) (fun _ hh => (And.intro (fun q => absurd q c1) (fun _ => (Exists.intro (some (.int v3), s) (And.intro (e_M_below (d + 1) hz3) hh))))) (hk0 _ rfl)
theorem w_M_straight_l17 (d : Nat) {o : ax_O} : ∀ (n : Nat) (x1 : Int32) (x2 : Int32) (x3 : Int32) (x4 : Int32) (x5 : Int32) (x6 : Int32) (s : ax_S) (r : Int32) (h : M_straight_l17 n x1 x2 x3 x4 x5 x6 s = some r) (hk0 : ∀ (t0 : Int32), r = t0 → ax_go true none (ax_ev true (d + 2)) ax_m268 106 [some (.ref 63), some (.int x1), some (.int x2), some (.int x3), some (.int x4), some (.int t0), none, none, none] [] s o), ax_go true none (ax_ev true (d + 2)) ax_m268 17 [some (.ref 63), some (.int x1), some (.int x2), some (.int x3), some (.int x4), some (.int x5), some (.int x6), none, none] [] s o := by
  intro n
  induction n with
  | zero => intro x1 x2 x3 x4 x5 x6 s r h hk0; cases h
  | succ n ih =>
    intro x1 x2 x3 x4 x5 x6 s r h hk0
    rw [M_straight_l17] at h
    by_cases c1 : (12 : Int32) ≤ x6
    · rw [if_pos c1] at h
      have h := Option.some.inj h
      subst r
      exact ax_cut (pc' := 106) (la := [some (.ref 63), some (.int x1), some (.int x2), some (.int x3), some (.int x4), some (.int x5), some (.int x6), none, none]) [some (.ref 63), some (.int x1), some (.int x2), some (.int x3), some (.int x4), some (.int x5), none, none, none] (st' := []) (σ' := s) 3 (And.intro rfl (And.intro rfl (And.intro rfl (And.intro rfl (And.intro rfl (And.intro rfl (trivial))))))) (fun _ hh => (And.intro (fun _ => hh) (fun q => absurd c1 q))) (hk0 _ rfl)
    · rw [if_neg c1] at h
      cases hz2 : M_straight_j25 x1 x2 x3 x4 x5 x6 x2 s with
      | none => rw [hz2] at h; cases h
      | some z2 =>
      rw [hz2] at h
      refine ax_cut (pc' := 25) (la := [some (.ref 63), some (.int x1), some (.int x2), some (.int x3), some (.int x4), some (.int x5), some (.int x6), none, none]) [some (.ref 63), some (.int x1), some (.int x2), some (.int x3), some (.int x4), some (.int x5), some (.int x6), none, none] (st' := [.int x2]) (σ' := s) 4 (And.intro rfl (And.intro rfl (And.intro rfl (And.intro rfl (And.intro rfl (And.intro rfl (And.intro rfl (trivial)))))))) (fun _ hh => (And.intro (fun q => absurd q c1) (fun _ => hh))) (w_M_straight_j25 d x1 x2 x3 x4 x5 x6 x2 s _ hz2 ?_)
      · intro v1 hq
        subst z2
        dsimp only at h
        cases hz3 : M_straight_j54 x1 x2 x3 x4 x5 x6 v1 x2 s with
        | none => rw [hz3] at h; cases h
        | some z3 =>
        rw [hz3] at h
        refine ax_cut (pc' := 54) (la := [some (.ref 63), some (.int x1), some (.int x2), some (.int x3), some (.int x4), some (.int x5), some (.int x6), some (.int v1), none]) [some (.ref 63), some (.int x1), some (.int x2), some (.int x3), some (.int x4), some (.int x5), some (.int x6), some (.int v1), none] (st' := [.int x2]) (σ' := s) 2 (And.intro rfl (And.intro rfl (And.intro rfl (And.intro rfl (And.intro rfl (And.intro rfl (And.intro rfl (And.intro rfl (trivial))))))))) (fun _ hh => hh) (w_M_straight_j54 d x1 x2 x3 x4 x5 x6 v1 x2 s _ hz3 ?_)
        · intro v4 hq
          subst z3
          dsimp only at h
          cases hz4 : M_isFigure x6 s with
          | none => rw [hz4] at h; cases h
          | some v5 =>
          rw [hz4] at h
          dsimp only at h
          by_cases c5 : v5 = 0
          · rw [if_pos c5] at h
            exact ax_cut (pc' := 17) (la := [some (.ref 63), some (.int x1), some (.int x2), some (.int x3), some (.int x4), some (.int x5), some (.int (x6 + (1))), some (.int v1), some (.int v4)]) [some (.ref 63), some (.int x1), some (.int x2), some (.int x3), some (.int x4), some (.int x5), some (.int (x6 + (1))), none, none] (st' := []) (σ' := s) 7 (And.intro rfl (And.intro rfl (And.intro rfl (And.intro rfl (And.intro rfl (And.intro rfl (And.intro rfl (trivial)))))))) (fun _ hh => (Exists.intro (some (.int v5), s) (And.intro (e_M_isFigure d hz4) (And.intro (fun _ => hh) (fun q => absurd c5 q))))) (ih x1 x2 x3 x4 x5 (x6 + (1)) s _ h hk0)
          · rw [if_neg c5] at h
            by_cases c6 : x4 ≤ v1
            · rw [if_pos c6] at h
              exact ax_cut (pc' := 17) (la := [some (.ref 63), some (.int x1), some (.int x2), some (.int x3), some (.int x4), some (.int x5), some (.int (x6 + (1))), some (.int v1), some (.int v4)]) [some (.ref 63), some (.int x1), some (.int x2), some (.int x3), some (.int x4), some (.int x5), some (.int (x6 + (1))), none, none] (st' := []) (σ' := s) 10 (And.intro rfl (And.intro rfl (And.intro rfl (And.intro rfl (And.intro rfl (And.intro rfl (And.intro rfl (trivial)))))))) (fun _ hh => (Exists.intro (some (.int v5), s) (And.intro (e_M_isFigure d hz4) (And.intro (fun q => absurd q c5) (fun _ => (And.intro (fun _ => hh) (fun q => absurd c6 q))))))) (ih x1 x2 x3 x4 x5 (x6 + (1)) s _ h hk0)
            · rw [if_neg c6] at h
              by_cases c7 : v4 ≤ x4
              · rw [if_pos c7] at h
                exact ax_cut (pc' := 17) (la := [some (.ref 63), some (.int x1), some (.int x2), some (.int x3), some (.int x4), some (.int x5), some (.int (x6 + (1))), some (.int v1), some (.int v4)]) [some (.ref 63), some (.int x1), some (.int x2), some (.int x3), some (.int x4), some (.int x5), some (.int (x6 + (1))), none, none] (st' := []) (σ' := s) 13 (And.intro rfl (And.intro rfl (And.intro rfl (And.intro rfl (And.intro rfl (And.intro rfl (And.intro rfl (trivial)))))))) (fun _ hh => (Exists.intro (some (.int v5), s) (And.intro (e_M_isFigure d hz4) (And.intro (fun q => absurd q c5) (fun _ => (And.intro (fun q => absurd q c6) (fun _ => (And.intro (fun _ => hh) (fun q => absurd c7 q))))))))) (ih x1 x2 x3 x4 x5 (x6 + (1)) s _ h hk0)
              · rw [if_neg c7] at h
                exact ax_cut (pc' := 17) (la := [some (.ref 63), some (.int x1), some (.int x2), some (.int x3), some (.int x4), some (.int (1 : Int32)), some (.int (x6 + (1))), some (.int v1), some (.int v4)]) [some (.ref 63), some (.int x1), some (.int x2), some (.int x3), some (.int x4), some (.int (1 : Int32)), some (.int (x6 + (1))), none, none] (st' := []) (σ' := s) 15 (And.intro rfl (And.intro rfl (And.intro rfl (And.intro rfl (And.intro rfl (And.intro rfl (And.intro rfl (trivial)))))))) (fun _ hh => (Exists.intro (some (.int v5), s) (And.intro (e_M_isFigure d hz4) (And.intro (fun q => absurd q c5) (fun _ => (And.intro (fun q => absurd q c6) (fun _ => (And.intro (fun q => absurd q c7) (fun _ => hh))))))))) (ih x1 x2 x3 x4 (1 : Int32) (x6 + (1)) s _ h hk0)
theorem w_M_straight_l5 (d : Nat) {o : ax_O} : ∀ (n : Nat) (x1 : Int32) (x2 : Int32) (x3 : Int32) (x4 : Int32) (s : ax_S) (r : Int32) (h : M_straight_l5 n x1 x2 x3 x4 s = some r) (hk0 : ∀ (t0 : Int32), r = t0 → ax_go true none (ax_ev true (d + 2)) ax_m268 124 [none, none, none, some (.int t0), none, none, none, none, none] [] s o), ax_go true none (ax_ev true (d + 2)) ax_m268 5 [some (.ref 63), some (.int x1), some (.int x2), some (.int x3), some (.int x4), none, none, none, none] [] s o := by
  intro n
  induction n with
  | zero => intro x1 x2 x3 x4 s r h hk0; cases h
  | succ n ih =>
    intro x1 x2 x3 x4 s r h hk0
    rw [M_straight_l5] at h
    by_cases c1 : x1 ≤ x4
    · rw [if_pos c1] at h
      have h := Option.some.inj h
      subst r
      exact ax_cut (pc' := 124) (la := [some (.ref 63), some (.int x1), some (.int x2), some (.int x3), some (.int x4), none, none, none, none]) [none, none, none, some (.int x3), none, none, none, none, none] (st' := []) (σ' := s) 3 (And.intro rfl (trivial)) (fun _ hh => (And.intro (fun _ => hh) (fun q => absurd c1 q))) (hk0 _ rfl)
    · rw [if_neg c1] at h
      cases hz2 : M_straight_l17 70000 x1 x2 x3 x4 (0 : Int32) (0 : Int32) s with
      | none => rw [hz2] at h; cases h
      | some z2 =>
      rw [hz2] at h
      refine ax_cut (pc' := 17) (la := [some (.ref 63), some (.int x1), some (.int x2), some (.int x3), some (.int x4), some (.int (0 : Int32)), some (.int (0 : Int32)), none, none]) [some (.ref 63), some (.int x1), some (.int x2), some (.int x3), some (.int x4), some (.int (0 : Int32)), some (.int (0 : Int32)), none, none] (st' := []) (σ' := s) 7 (And.intro rfl (And.intro rfl (And.intro rfl (And.intro rfl (And.intro rfl (And.intro rfl (And.intro rfl (trivial)))))))) (fun _ hh => (And.intro (fun q => absurd q c1) (fun _ => hh))) (w_M_straight_l17 d 70000 x1 x2 x3 x4 (0 : Int32) (0 : Int32) s _ hz2 ?_)
      · intro v6 hq
        subst z2
        dsimp only at h
        by_cases c3 : v6 = 0
        · rw [if_pos c3] at h
          exact ax_cut (pc' := 5) (la := [some (.ref 63), some (.int x1), some (.int x2), some (.int (x3 ||| ((1 : Int32) <<< (x4 &&& 31)))), some (.int (x4 + (1))), some (.int v6), none, none, none]) [some (.ref 63), some (.int x1), some (.int x2), some (.int (x3 ||| ((1 : Int32) <<< (x4 &&& 31)))), some (.int (x4 + (1))), none, none, none, none] (st' := []) (σ' := s) 10 (And.intro rfl (And.intro rfl (And.intro rfl (And.intro rfl (And.intro rfl (trivial)))))) (fun _ hh => (And.intro (fun q => absurd c3 q) (fun _ => hh))) (ih x1 x2 (x3 ||| ((1 : Int32) <<< (x4 &&& 31))) (x4 + (1)) s _ h hk0)
        · rw [if_neg c3] at h
          exact ax_cut (pc' := 5) (la := [some (.ref 63), some (.int x1), some (.int x2), some (.int x3), some (.int (x4 + (1))), some (.int v6), none, none, none]) [some (.ref 63), some (.int x1), some (.int x2), some (.int x3), some (.int (x4 + (1))), none, none, none, none] (st' := []) (σ' := s) 4 (And.intro rfl (And.intro rfl (And.intro rfl (And.intro rfl (And.intro rfl (trivial)))))) (fun _ hh => (And.intro (fun _ => hh) (fun q => absurd c3 q))) (ih x1 x2 x3 (x4 + (1)) s _ h hk0)
theorem e_M_straight (d : Nat) {x1 : Int32} {x2 : Int32} {s : ax_S} {r : Int32} (h : M_straight x1 x2 s = some r) : ax_ev true (d + 3) 268 [.ref 63, .int x1, .int x2] s (some (.int r), s) := by
  refine ⟨Nat.le_of_ble_eq_true rfl, ?_⟩
  show ax_go true none (ax_ev true (d + 2)) ax_m268 0 [some (.ref 63), some (.int x1), some (.int x2), none, none, none, none, none, none] [] s _
  unfold M_straight at h
  cases hz1 : M_straight_l5 70000 x1 x2 (0 : Int32) (1 : Int32) s with
  | none => rw [hz1] at h; cases h
  | some z1 =>
  rw [hz1] at h
  refine ax_cut (pc' := 5) (la := [some (.ref 63), some (.int x1), some (.int x2), some (.int (0 : Int32)), some (.int (1 : Int32)), none, none, none, none]) [some (.ref 63), some (.int x1), some (.int x2), some (.int (0 : Int32)), some (.int (1 : Int32)), none, none, none, none] (st' := []) (σ' := s) 4 (And.intro rfl (And.intro rfl (And.intro rfl (And.intro rfl (And.intro rfl (trivial)))))) (fun _ hh => hh) (w_M_straight_l5 d 70000 x1 x2 (0 : Int32) (1 : Int32) s _ hz1 ?_)
  · intro v7 hq
    subst z1
    dsimp only at h
    have h := Option.some.inj h
    subst r
    exact ax_end 2 rfl
