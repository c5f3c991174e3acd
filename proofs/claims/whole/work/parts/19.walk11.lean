def M_onPrint_l4 : Nat → Int32 → Int32 → ax_S → Option (Int32)
  | 0, _, _, _ => none
  | n + 1, x1, x2, s =>
    if (12 : Int32) ≤ x2 then (
      some x1) else
    match M_isFigure x2 s with
    | none => none
    | some v1 =>
      if v1 = 0 then (
        M_onPrint_l4 n x1 (x2 + (1)) s) else
      if (((0 : Int32) + x2) < 0 ∨ 291 ≤ (((0 : Int32) + x2)).toNatClampNeg) then none else
      M_onPrint_l4 n (x1 ||| ((1 : Int32) <<< ((s.2.1 64 (((0 : Int32) + x2)).toNatClampNeg) &&& 31))) (x2 + (1)) s
def M_onPrint  (s : ax_S) : Option (Int32) :=
  match M_onPrint_l4 70000 (0 : Int32) (0 : Int32) s with
  | none => none
  | some v2 =>
    some v2
theorem w_M_onPrint_l4 (d : Nat) {o : ax_O} : ∀ (n : Nat) (x1 : Int32) (x2 : Int32) (s : ax_S) (r : Int32) (h : M_onPrint_l4 n x1 x2 s = some r) (hk0 : ∀ (t0 : Int32), r = t0 → ax_go true none (ax_ev true (d + 2)) ax_m245 37 [none, some (.int t0), none] [] s o), ax_go true none (ax_ev true (d + 2)) ax_m245 4 [some (.ref 63), some (.int x1), some (.int x2)] [] s o := by
  intro n
  induction n with
  | zero => intro x1 x2 s r h hk0; cases h
  | succ n ih =>
    intro x1 x2 s r h hk0
    rw [M_onPrint_l4] at h
    by_cases c1 : (12 : Int32) ≤ x2
    · rw [if_pos c1] at h
      have h := Option.some.inj h
      subst r
      exact ax_cut (pc' := 37) (la := [some (.ref 63), some (.int x1), some (.int x2)]) [none, some (.int x1), none] (st' := []) (σ' := s) 3 (And.intro rfl (trivial)) (fun _ hh => (And.intro (fun _ => hh) (fun q => absurd c1 q))) (hk0 _ rfl)
    · rw [if_neg c1] at h
      cases hz2 : M_isFigure x2 s with
      | none => rw [hz2] at h; cases h
      | some v1 =>
      rw [hz2] at h
      dsimp only at h
      by_cases c3 : v1 = 0
      · rw [if_pos c3] at h
        exact ax_cut (pc' := 4) (la := [some (.ref 63), some (.int x1), some (.int (x2 + (1)))]) [some (.ref 63), some (.int x1), some (.int (x2 + (1)))] (st' := []) (σ' := s) 9 (And.intro rfl (And.intro rfl (And.intro rfl (trivial)))) (fun _ hh => (And.intro (fun q => absurd q c1) (fun _ => (Exists.intro (some (.int v1), s) (And.intro (e_M_isFigure d hz2) (And.intro (fun _ => hh) (fun q => absurd c3 q))))))) (ih x1 (x2 + (1)) s _ h hk0)
      · rw [if_neg c3] at h
        by_cases c4 : (((0 : Int32) + x2) < 0 ∨ 291 ≤ (((0 : Int32) + x2)).toNatClampNeg)
        · rw [if_pos c4] at h; cases h
        · rw [if_neg c4] at h
          refine ax_cut (pc' := 29) (la := [some (.ref 63), some (.int x1), some (.int x2)]) [some (.ref 63), none, some (.int x2)] (st' := [.int ((1 : Int32) <<< ((s.2.1 64 (((0 : Int32) + x2)).toNatClampNeg) &&& 31)), .int x1]) (σ' := s) 16 (And.intro rfl (And.intro rfl (trivial))) (fun _ hh => (And.intro (fun q => absurd q c1) (fun _ => (Exists.intro (some (.int v1), s) (And.intro (e_M_isFigure d hz2) (And.intro (fun q => absurd q c3) (fun _ => (And.intro c4 hh)))))))) ?_
          exact ax_cut (pc' := 4) (la := [some (.ref 63), some (.int (x1 ||| ((1 : Int32) <<< ((s.2.1 64 (((0 : Int32) + x2)).toNatClampNeg) &&& 31)))), some (.int (x2 + (1)))]) [some (.ref 63), some (.int (x1 ||| ((1 : Int32) <<< ((s.2.1 64 (((0 : Int32) + x2)).toNatClampNeg) &&& 31)))), some (.int (x2 + (1)))] (st' := []) (σ' := s) 4 (And.intro rfl (And.intro rfl (And.intro rfl (trivial)))) (fun _ hh => hh) (ih (x1 ||| ((1 : Int32) <<< ((s.2.1 64 (((0 : Int32) + x2)).toNatClampNeg) &&& 31))) (x2 + (1)) s _ h hk0)
theorem e_M_onPrint (d : Nat)  {s : ax_S} {r : Int32} (h : M_onPrint s = some r) : ax_ev true (d + 3) 245 [.ref 63] s (some (.int r), s) := by
  refine ⟨Nat.le_of_ble_eq_true rfl, ?_⟩
  show ax_go true none (ax_ev true (d + 2)) ax_m245 0 [some (.ref 63), none, none] [] s _
  unfold M_onPrint at h
  cases hz1 : M_onPrint_l4 70000 (0 : Int32) (0 : Int32) s with
  | none => rw [hz1] at h; cases h
  | some z1 =>
  rw [hz1] at h
  refine ax_cut (pc' := 4) (la := [some (.ref 63), some (.int (0 : Int32)), some (.int (0 : Int32))]) [some (.ref 63), some (.int (0 : Int32)), some (.int (0 : Int32))] (st' := []) (σ' := s) 4 (And.intro rfl (And.intro rfl (And.intro rfl (trivial)))) (fun _ hh => hh) (w_M_onPrint_l4 d 70000 (0 : Int32) (0 : Int32) s _ hz1 ?_)
  · intro v2 hq
    subst z1
    dsimp only at h
    have h := Option.some.inj h
    subst r
    exact ax_end 2 rfl
def M_kinOf_l19 : Nat → Int32 → Int32 → Int32 → Int32 → ax_S → Option (Int32)
  | 0, _, _, _, _, _ => none
  | n + 1, x2, x3, x4, x5, s =>
    if (16 : Int32) ≤ x5 then (
      some x3) else
    if (M_has x4 x5 s) = 0 then (
      M_kinOf_l19 n x2 x3 x4 (x5 + (1)) s) else
    match M_touchedBy x5 s with
    | none => none
    | some v1 =>
      M_kinOf_l19 n x2 (x3 ||| (v1 &&& x2)) x4 (x5 + (1)) s
def M_kinOf_l7 : Nat → Int32 → Int32 → Int32 → ax_S → Option (Int32)
  | 0, _, _, _, _ => none
  | n + 1, x2, x3, x4, s =>
    if x3 = x4 then (
      some x3) else
    match M_kinOf_l19 70000 x2 x3 x3 (0 : Int32) s with
    | none => none
    | some v2 =>
      M_kinOf_l7 n x2 v2 x3 s
def M_kinOf (x1 : Int32) (x2 : Int32)  (s : ax_S) : Option (Int32) :=
  match M_kinOf_l7 70000 x2 ((1 : Int32) <<< (x1 &&& 31)) (0 : Int32) s with
  | none => none
  | some v3 =>
    some v3
theorem w_M_kinOf_l19 (d : Nat) {o : ax_O} : ∀ (n : Nat) (x2 : Int32) (x3 : Int32) (x4 : Int32) (x5 : Int32) (s : ax_S) (r : Int32) (h : M_kinOf_l19 n x2 x3 x4 x5 s = some r) (hk0 : ∀ (t0 : Int32), r = t0 → ax_go true none (ax_ev true (d + 3)) ax_m246 53 [some (.ref 63), none, some (.int x2), some (.int t0), some (.int x4), none] [] s o), ax_go true none (ax_ev true (d + 3)) ax_m246 19 [some (.ref 63), none, some (.int x2), some (.int x3), some (.int x4), some (.int x5)] [] s o := by
  intro n
  induction n with
  | zero => intro x2 x3 x4 x5 s r h hk0; cases h
  | succ n ih =>
    intro x2 x3 x4 x5 s r h hk0
    rw [M_kinOf_l19] at h
    by_cases c1 : (16 : Int32) ≤ x5
    · rw [if_pos c1] at h
      have h := Option.some.inj h
      subst r
      exact ax_cut (pc' := 53) (la := [some (.ref 63), none, some (.int x2), some (.int x3), some (.int x4), some (.int x5)]) [some (.ref 63), none, some (.int x2), some (.int x3), some (.int x4), none] (st' := []) (σ' := s) 3 (And.intro rfl (And.intro rfl (And.intro rfl (And.intro rfl (trivial))))) (fun _ hh => (And.intro (fun _ => hh) (fun q => absurd c1 q))) (hk0 _ rfl)
    · rw [if_neg c1] at h
      by_cases c2 : (M_has x4 x5 s) = 0
      · rw [if_pos c2] at h
        exact ax_cut (pc' := 19) (la := [some (.ref 63), none, some (.int x2), some (.int x3), some (.int x4), some (.int (x5 + (1)))]) [some (.ref 63), none, some (.int x2), some (.int x3), some (.int x4), some (.int (x5 + (1)))] (st' := []) (σ' := s) 9 (And.intro rfl (And.intro rfl (And.intro rfl (And.intro rfl (And.intro rfl (trivial)))))) (fun _ hh => (And.intro (fun q => absurd q c1) (fun _ => (Exists.intro (some (.int (M_has x4 x5 s)), s) (And.intro (e_M_has (d + 2) x4 x5 s) (And.intro (fun _ => hh) (fun q => absurd c2 q))))))) (ih x2 x3 x4 (x5 + (1)) s _ h hk0)
      · rw [if_neg c2] at h
        cases hz3 : M_touchedBy x5 s with
        | none => rw [hz3] at h; cases h
        | some v1 =>
        rw [hz3] at h
        dsimp only at h
        refine ax_cut (pc' := 50) (la := [some (.ref 63), none, some (.int x2), some (.int (x3 ||| (v1 &&& x2))), some (.int x4), some (.int (x5 + (1)))]) [some (.ref 63), none, some (.int x2), some (.int (x3 ||| (v1 &&& x2))), some (.int x4), some (.int (x5 + (1)))] (st' := []) (σ' := s) 16 (And.intro rfl (And.intro rfl (And.intro rfl (And.intro rfl (And.intro rfl (trivial)))))) (fun _ hh => (And.intro (fun q => absurd q c1) (fun _ => (Exists.intro (some (.int (M_has x4 x5 s)), s) (And.intro (e_M_has (d + 2) x4 x5 s) (And.intro (fun q => absurd q c2) (fun _ => (Exists.intro (some (.int v1), s) (And.intro (e_M_touchedBy d hz3) hh))))))))) ?_
        exact ax_cut (pc' := 19) (la := [some (.ref 63), none, some (.int x2), some (.int (x3 ||| (v1 &&& x2))), some (.int x4), some (.int (x5 + (1)))]) [some (.ref 63), none, some (.int x2), some (.int (x3 ||| (v1 &&& x2))), some (.int x4), some (.int (x5 + (1)))] (st' := []) (σ' := s) 1 (And.intro rfl (And.intro rfl (And.intro rfl (And.intro rfl (And.intro rfl (trivial)))))) (fun _ hh => hh) (ih x2 (x3 ||| (v1 &&& x2)) x4 (x5 + (1)) s _ h hk0)
theorem w_M_kinOf_l7 (d : Nat) {o : ax_O} : ∀ (n : Nat) (x2 : Int32) (x3 : Int32) (x4 : Int32) (s : ax_S) (r : Int32) (h : M_kinOf_l7 n x2 x3 x4 s = some r) (hk0 : ∀ (t0 : Int32), r = t0 → ax_go true none (ax_ev true (d + 3)) ax_m246 56 [none, none, none, some (.int t0), none, none] [] s o), ax_go true none (ax_ev true (d + 3)) ax_m246 7 [some (.ref 63), none, some (.int x2), some (.int x3), some (.int x4), none] [] s o := by
  intro n
  induction n with
  | zero => intro x2 x3 x4 s r h hk0; cases h
  | succ n ih =>
    intro x2 x3 x4 s r h hk0
    rw [M_kinOf_l7] at h
    by_cases c1 : x3 = x4
    · rw [if_pos c1] at h
      have h := Option.some.inj h
      subst r
      exact ax_cut (pc' := 56) (la := [some (.ref 63), none, some (.int x2), some (.int x3), some (.int x4), none]) [none, none, none, some (.int x3), none, none] (st' := []) (σ' := s) 3 (And.intro rfl (trivial)) (fun _ hh => (And.intro (fun _ => hh) (fun q => absurd c1 q))) (hk0 _ rfl)
    · rw [if_neg c1] at h
      cases hz2 : M_kinOf_l19 70000 x2 x3 x3 (0 : Int32) s with
      | none => rw [hz2] at h; cases h
      | some z2 =>
      rw [hz2] at h
      refine ax_cut (pc' := 19) (la := [some (.ref 63), none, some (.int x2), some (.int x3), some (.int x3), some (.int (0 : Int32))]) [some (.ref 63), none, some (.int x2), some (.int x3), some (.int x3), some (.int (0 : Int32))] (st' := []) (σ' := s) 7 (And.intro rfl (And.intro rfl (And.intro rfl (And.intro rfl (And.intro rfl (trivial)))))) (fun _ hh => (And.intro (fun q => absurd q c1) (fun _ => hh))) (w_M_kinOf_l19 d 70000 x2 x3 x3 (0 : Int32) s _ hz2 ?_)
      · intro v2 hq
        subst z2
        dsimp only at h
        exact ax_cut (pc' := 7) (la := [some (.ref 63), none, some (.int x2), some (.int v2), some (.int x3), none]) [some (.ref 63), none, some (.int x2), some (.int v2), some (.int x3), none] (st' := []) (σ' := s) 1 (And.intro rfl (And.intro rfl (And.intro rfl (And.intro rfl (trivial))))) (fun _ hh => hh) (ih x2 v2 x3 s _ h hk0)
theorem e_M_kinOf (d : Nat) {x1 : Int32} {x2 : Int32} {s : ax_S} {r : Int32} (h : M_kinOf x1 x2 s = some r) : ax_ev true (d + 4) 246 [.ref 63, .int x1, .int x2] s (some (.int r), s) := by
  refine ⟨Nat.le_of_ble_eq_true rfl, ?_⟩
  show ax_go true none (ax_ev true (d + 3)) ax_m246 0 [some (.ref 63), some (.int x1), some (.int x2), none, none, none] [] s _
  unfold M_kinOf at h
  cases hz1 : M_kinOf_l7 70000 x2 ((1 : Int32) <<< (x1 &&& 31)) (0 : Int32) s with
  | none => rw [hz1] at h; cases h
  | some z1 =>
  rw [hz1] at h
  refine ax_cut (pc' := 7) (la := [some (.ref 63), some (.int x1), some (.int x2), some (.int ((1 : Int32) <<< (x1 &&& 31))), some (.int (0 : Int32)), none]) [some (.ref 63), none, some (.int x2), some (.int ((1 : Int32) <<< (x1 &&& 31))), some (.int (0 : Int32)), none] (st' := []) (σ' := s) 6 (And.intro rfl (And.intro rfl (And.intro rfl (And.intro rfl (trivial))))) (fun _ hh => hh) (w_M_kinOf_l7 d 70000 x2 ((1 : Int32) <<< (x1 &&& 31)) (0 : Int32) s _ hz1 ?_)
  · intro v3 hq
    subst z1
    dsimp only at h
    have h := Option.some.inj h
    subst r
    exact ax_end 2 rfl
def M_personIs (x1 : Int32) (x2 : Int32)  (s : ax_S) : Option (Int32) :=
  if (M_isPerson x1 s) = 0 then (
    some (-1 : Int32)) else
  if x2 = (0) then (
    if (((60 : Int32) + x1) < 0 ∨ 291 ≤ (((60 : Int32) + x1)).toNatClampNeg) then none else
    some (s.2.1 64 (((60 : Int32) + x1)).toNatClampNeg)) else
  if x2 = (1) then (
    if (((60 : Int32) + x1) < 0 ∨ 291 ≤ (((60 : Int32) + x1)).toNatClampNeg) then none else
    if (s.2.1 64 (((60 : Int32) + x1)).toNatClampNeg) ≤ (s.2.1 63 3) then (
      some (0 : Int32)) else
    some (1 : Int32)) else
  if x2 = (2) then (
    match M_figuresOf x1 s with
    | none => none
    | some v1 =>
      some v1) else
  if x2 = (3) then (
    if (((76 : Int32) + x1) < 0 ∨ 291 ≤ (((76 : Int32) + x1)).toNatClampNeg) then none else
    some (s.2.1 64 (((76 : Int32) + x1)).toNatClampNeg)) else
  if x2 = (4) then (
    match M_daysSince x1 s with
    | none => none
    | some v2 =>
      some v2) else
  if x2 = (5) then (
    match M_touchedBy x1 s with
    | none => none
    | some v3 =>
      some v3) else
  if x2 = (6) then (
    match M_figuresOf x1 s with
    | none => none
    | some v4 =>
      if v4 = 0 then (
        some (0 : Int32)) else
      match M_onPrint s with
      | none => none
      | some v5 =>
        match M_kinOf x1 v5 s with
        | none => none
        | some v6 =>
          some v6) else
  some (-1 : Int32)
theorem e_M_personIs (d : Nat) {x1 : Int32} {x2 : Int32} {s : ax_S} {r : Int32} (h : M_personIs x1 x2 s = some r) : ax_ev true (d + 5) 242 [.ref 63, .int x1, .int x2] s (some (.int r), s) := by
  refine ⟨Nat.le_of_ble_eq_true rfl, ?_⟩
  show ax_go true none (ax_ev true (d + 4)) ax_m242 0 [some (.ref 63), some (.int x1), some (.int x2)] [] s _
  unfold M_personIs at h
  by_cases c1 : (M_isPerson x1 s) = 0
  · rw [if_pos c1] at h
    have h := Option.some.inj h
    subst r
    exact ax_end 5 (Exists.intro (some (.int (M_isPerson x1 s)), s) (And.intro (e_M_isPerson (d + 2) x1 s) (And.intro (fun q => absurd c1 q) (fun _ => rfl))))
  · rw [if_neg c1] at h
    by_cases c2_0 : x2 = (0)
    · rw [if_pos c2_0] at h
      by_cases c3 : (((60 : Int32) + x1) < 0 ∨ 291 ≤ (((60 : Int32) + x1)).toNatClampNeg)
      · rw [if_pos c3] at h; cases h
      · rw [if_neg c3] at h
        have h := Option.some.inj h
        subst r
        exact ax_end 12 (Exists.intro (some (.int (M_isPerson x1 s)), s) (And.intro (e_M_isPerson (d + 2) x1 s) (And.intro (fun _ => (ax_tabT (lo := 0) (hg := 6) (j0 := 0) (congrArg Int32.toInt c2_0) (by rw [c2_0]; decide) (And.intro c3 rfl))) (fun q => absurd c1 q))))
    rw [if_neg c2_0] at h
    by_cases c2_1 : x2 = (1)
    · rw [if_pos c2_1] at h
      by_cases c4 : (((60 : Int32) + x1) < 0 ∨ 291 ≤ (((60 : Int32) + x1)).toNatClampNeg)
      · rw [if_pos c4] at h; cases h
      · rw [if_neg c4] at h
        by_cases c5 : (s.2.1 64 (((60 : Int32) + x1)).toNatClampNeg) ≤ (s.2.1 63 3)
        · rw [if_pos c5] at h
          have h := Option.some.inj h
          subst r
          exact ax_end 16 (Exists.intro (some (.int (M_isPerson x1 s)), s) (And.intro (e_M_isPerson (d + 2) x1 s) (And.intro (fun _ => (ax_tabT (lo := 0) (hg := 6) (j0 := 1) (congrArg Int32.toInt c2_1) (by rw [c2_1]; decide) (And.intro c4 (And.intro (fun _ => rfl) (fun q => absurd c5 q))))) (fun q => absurd c1 q))))
        · rw [if_neg c5] at h
          refine ax_cut (pc' := 83) (la := [some (.ref 63), some (.int x1), some (.int x2)]) [none, none, none] (st' := [.int (1 : Int32)]) (σ' := s) 16 (trivial) (fun _ hh => (Exists.intro (some (.int (M_isPerson x1 s)), s) (And.intro (e_M_isPerson (d + 2) x1 s) (And.intro (fun _ => (ax_tabT (lo := 0) (hg := 6) (j0 := 1) (congrArg Int32.toInt c2_1) (by rw [c2_1]; decide) (And.intro c4 (And.intro (fun q => absurd q c5) (fun _ => hh))))) (fun q => absurd c1 q))))) ?_
          have h := Option.some.inj h
          subst r
          exact ax_end 1 rfl
    rw [if_neg c2_1] at h
    by_cases c2_2 : x2 = (2)
    · rw [if_pos c2_2] at h
      cases hz6 : M_figuresOf x1 s with
      | none => rw [hz6] at h; cases h
      | some v1 =>
      rw [hz6] at h
      dsimp only at h
      have h := Option.some.inj h
      subst r
      exact ax_end 9 (Exists.intro (some (.int (M_isPerson x1 s)), s) (And.intro (e_M_isPerson (d + 2) x1 s) (And.intro (fun _ => (ax_tabT (lo := 0) (hg := 6) (j0 := 2) (congrArg Int32.toInt c2_2) (by rw [c2_2]; decide) (Exists.intro (some (.int v1), s) (And.intro (e_M_figuresOf (d + 3) hz6) rfl)))) (fun q => absurd c1 q))))
    rw [if_neg c2_2] at h
    by_cases c2_3 : x2 = (3)
    · rw [if_pos c2_3] at h
      by_cases c7 : (((76 : Int32) + x1) < 0 ∨ 291 ≤ (((76 : Int32) + x1)).toNatClampNeg)
      · rw [if_pos c7] at h; cases h
      · rw [if_neg c7] at h
        have h := Option.some.inj h
        subst r
        exact ax_end 12 (Exists.intro (some (.int (M_isPerson x1 s)), s) (And.intro (e_M_isPerson (d + 2) x1 s) (And.intro (fun _ => (ax_tabT (lo := 0) (hg := 6) (j0 := 3) (congrArg Int32.toInt c2_3) (by rw [c2_3]; decide) (And.intro c7 rfl))) (fun q => absurd c1 q))))
    rw [if_neg c2_3] at h
    by_cases c2_4 : x2 = (4)
    · rw [if_pos c2_4] at h
      cases hz8 : M_daysSince x1 s with
      | none => rw [hz8] at h; cases h
      | some v2 =>
      rw [hz8] at h
      dsimp only at h
      have h := Option.some.inj h
      subst r
      exact ax_end 9 (Exists.intro (some (.int (M_isPerson x1 s)), s) (And.intro (e_M_isPerson (d + 2) x1 s) (And.intro (fun _ => (ax_tabT (lo := 0) (hg := 6) (j0 := 4) (congrArg Int32.toInt c2_4) (by rw [c2_4]; decide) (Exists.intro (some (.int v2), s) (And.intro (e_M_daysSince (d + 2) hz8) rfl)))) (fun q => absurd c1 q))))
    rw [if_neg c2_4] at h
    by_cases c2_5 : x2 = (5)
    · rw [if_pos c2_5] at h
      cases hz9 : M_touchedBy x1 s with
      | none => rw [hz9] at h; cases h
      | some v3 =>
      rw [hz9] at h
      dsimp only at h
      have h := Option.some.inj h
      subst r
      exact ax_end 9 (Exists.intro (some (.int (M_isPerson x1 s)), s) (And.intro (e_M_isPerson (d + 2) x1 s) (And.intro (fun _ => (ax_tabT (lo := 0) (hg := 6) (j0 := 5) (congrArg Int32.toInt c2_5) (by rw [c2_5]; decide) (Exists.intro (some (.int v3), s) (And.intro (e_M_touchedBy (d + 1) hz9) rfl)))) (fun q => absurd c1 q))))
    rw [if_neg c2_5] at h
    by_cases c2_6 : x2 = (6)
    · rw [if_pos c2_6] at h
      cases hz10 : M_figuresOf x1 s with
      | none => rw [hz10] at h; cases h
      | some v4 =>
      rw [hz10] at h
      dsimp only at h
      by_cases c11 : v4 = 0
      · rw [if_pos c11] at h
        have h := Option.some.inj h
        subst r
        exact ax_end 12 (Exists.intro (some (.int (M_isPerson x1 s)), s) (And.intro (e_M_isPerson (d + 2) x1 s) (And.intro (fun _ => (ax_tabT (lo := 0) (hg := 6) (j0 := 6) (congrArg Int32.toInt c2_6) (by rw [c2_6]; decide) (Exists.intro (some (.int v4), s) (And.intro (e_M_figuresOf (d + 3) hz10) (And.intro (fun q => absurd c11 q) (fun _ => rfl)))))) (fun q => absurd c1 q))))
      · rw [if_neg c11] at h
        cases hz12 : M_onPrint s with
        | none => rw [hz12] at h; cases h
        | some v5 =>
        rw [hz12] at h
        dsimp only at h
        cases hz13 : M_kinOf x1 v5 s with
        | none => rw [hz13] at h; cases h
        | some v6 =>
        rw [hz13] at h
        dsimp only at h
        have h := Option.some.inj h
        subst r
        exact ax_end 15 (Exists.intro (some (.int (M_isPerson x1 s)), s) (And.intro (e_M_isPerson (d + 2) x1 s) (And.intro (fun _ => (ax_tabT (lo := 0) (hg := 6) (j0 := 6) (congrArg Int32.toInt c2_6) (by rw [c2_6]; decide) (Exists.intro (some (.int v4), s) (And.intro (e_M_figuresOf (d + 3) hz10) (And.intro (fun _ => (Exists.intro (some (.int v5), s) (And.intro (e_M_onPrint (d + 1) hz12) (Exists.intro (some (.int v6), s) (And.intro (e_M_kinOf d hz13) rfl))))) (fun q => absurd c11 q)))))) (fun q => absurd c1 q))))
    rw [if_neg c2_6] at h
    have c2_r : (x2).toInt < 0 ∨ 6 < (x2).toInt := by
      have := ax_ne_toInt c2_0
      have := ax_ne_toInt c2_1
      have := ax_ne_toInt c2_2
      have := ax_ne_toInt c2_3
      have := ax_ne_toInt c2_4
      have := ax_ne_toInt c2_5
      have := ax_ne_toInt c2_6
      simp only [show ∀ y : Int32, y.toInt = y.toInt from fun _ => rfl, show ((0) : Int32).toInt = 0 by decide, show ((1) : Int32).toInt = 1 by decide, show ((2) : Int32).toInt = 2 by decide, show ((3) : Int32).toInt = 3 by decide, show ((4) : Int32).toInt = 4 by decide, show ((5) : Int32).toInt = 5 by decide, show ((6) : Int32).toInt = 6 by decide] at *
      omega
    have h := Option.some.inj h
    subst r
    exact ax_end 7 (Exists.intro (some (.int (M_isPerson x1 s)), s) (And.intro (e_M_isPerson (d + 2) x1 s) (And.intro (fun _ => (ax_tabF (lo := 0) (hg := 6) rfl c2_r rfl)) (fun q => absurd c1 q))))
def X_arePersons (x0 : Int32)  (s : ax_S) : Int32 :=
  (X_isWithin x0 (0 : Int32) (65535 : Int32) s)
theorem e_X_arePersons (d : Nat) (x0 : Int32) (s : ax_S) : ax_ev true (d + 2) 122 [.int x0] s (some (.int (X_arePersons x0 s)), s) := by
  refine ⟨Nat.le_of_ble_eq_true rfl, ?_⟩
  generalize h : X_arePersons x0 s = r
  show ax_go true none (ax_ev true (d + 1)) ax_m122 0 [some (.int x0)] [] s _
  unfold X_arePersons at h
  have h := h
  subst r
  exact ax_end 5 (Exists.intro (some (.int (X_isWithin x0 (0 : Int32) (65535 : Int32) s)), s) (And.intro (e_X_isWithin d x0 (0 : Int32) (65535 : Int32) s) (And.intro (ax_ev_bool rfl (e_X_isWithin d x0 (0 : Int32) (65535 : Int32) s)) rfl)))
def X_without (x1 : Int32) (x2 : Int32)  (s : ax_S) : Option (Int32 × ax_S) :=
  if (X_arePersons x1 s) = 0 then (
    some ((-1 : Int32), s)) else
  if (X_isWithin x2 (0 : Int32) (3 : Int32) s) = 0 then (
    some ((-1 : Int32), s)) else
  match XCu_cutWithout_4 x1 s with
  | none => none
  | some s1 =>
    some ((XCu_part x2 s1), s1)
theorem e_X_without (d : Nat) {x1 : Int32} {x2 : Int32} {s : ax_S} {r : Int32 × ax_S} (h : X_without x1 x2 s = some r) : ax_ev true (d + 5) 121 [.ref 0, .int x1, .int x2] s (some (.int r.1), r.2) := by
  refine ⟨Nat.le_of_ble_eq_true rfl, ?_⟩
  show ax_go true none (ax_ev true (d + 4)) ax_m121 0 [some (.ref 0), some (.int x1), some (.int x2)] [] s _
  unfold X_without at h
  by_cases c1 : (X_arePersons x1 s) = 0
  · rw [if_pos c1] at h
    have h := Option.some.inj h
    subst r
    exact ax_end 5 (Exists.intro (some (.int (X_arePersons x1 s)), s) (And.intro (e_X_arePersons (d + 2) x1 s) (And.intro (fun _ => rfl) (fun q => absurd c1 q))))
  · rw [if_neg c1] at h
    by_cases c2 : (X_isWithin x2 (0 : Int32) (3 : Int32) s) = 0
    · rw [if_pos c2] at h
      have h := Option.some.inj h
      subst r
      exact ax_end 10 (Exists.intro (some (.int (X_arePersons x1 s)), s) (And.intro (e_X_arePersons (d + 2) x1 s) (And.intro (fun q => absurd q c1) (fun _ => (Exists.intro (some (.int (X_isWithin x2 (0 : Int32) (3 : Int32) s)), s) (And.intro (e_X_isWithin (d + 3) x2 (0 : Int32) (3 : Int32) s) (And.intro (fun q => absurd c2 q) (fun _ => rfl))))))))
    · rw [if_neg c2] at h
      cases hz3 : XCu_cutWithout_4 x1 s with
      | none => rw [hz3] at h; cases h
      | some s1 =>
      rw [hz3] at h
      dsimp only at h
      refine ax_cut (pc' := 34) (la := [some (.ref 0), some (.int x1), some (.int x2)]) [none, none, some (.int x2)] (st' := [.ref 0]) (σ' := s1) 16 (And.intro rfl (trivial)) (fun _ hh => (Exists.intro (some (.int (X_arePersons x1 s)), s) (And.intro (e_X_arePersons (d + 2) x1 s) (And.intro (fun q => absurd q c1) (fun _ => (Exists.intro (some (.int (X_isWithin x2 (0 : Int32) (3 : Int32) s)), s) (And.intro (e_X_isWithin (d + 3) x2 (0 : Int32) (3 : Int32) s) (And.intro (fun _ => (Exists.intro (none, s1) (And.intro (e_XCu_cutWithout_4 d hz3) hh))) (fun q => absurd c2 q))))))))) ?_
      have h := Option.some.inj h
      subst r
      exact ax_end 4 (Exists.intro (some (.int (XCu_part x2 s1)), s1) (And.intro (e_XCu_part (d + 2) x2 s1) rfl))
def M_cutIs (x1 : Int32)  (s : ax_S) : Int32 :=
  if (s.2.1 63 31) = 0 then (
    (-2 : Int32)) else
  if x1 = 0 then (
    (s.2.1 63 29)) else
  if x1 = (1 : Int32) then (
    (s.2.1 63 30)) else
  if x1 = (2 : Int32) then (
    (s.2.1 63 31)) else
  (s.2.1 63 32)
theorem e_M_cutIs (d : Nat) (x1 : Int32) (s : ax_S) : ax_ev true (d + 1) 248 [.ref 63, .int x1] s (some (.int (M_cutIs x1 s)), s) := by
  refine ⟨Nat.le_of_ble_eq_true rfl, ?_⟩
  generalize h : M_cutIs x1 s = r
  show ax_go true none (ax_ev true (d + 0)) ax_m248 0 [some (.ref 63), some (.int x1)] [] s _
  unfold M_cutIs at h
  by_cases c1 : (s.2.1 63 31) = 0
  · rw [if_pos c1] at h
    have h := h
    subst r
    exact ax_end 5 (And.intro (fun q => absurd c1 q) (fun _ => rfl))
  · rw [if_neg c1] at h
    by_cases c2 : x1 = 0
    · rw [if_pos c2] at h
      have h := h
      subst r
      exact ax_end 9 (And.intro (fun _ => (And.intro (fun q => absurd c2 q) (fun _ => rfl))) (fun q => absurd c1 q))
    · rw [if_neg c2] at h
      by_cases c3 : x1 = (1 : Int32)
      · rw [if_pos c3] at h
        have h := h
        subst r
        exact ax_end 12 (And.intro (fun _ => (And.intro (fun _ => (And.intro (fun q => absurd c3 q) (fun _ => rfl))) (fun q => absurd c2 q))) (fun q => absurd c1 q))
      · rw [if_neg c3] at h
        by_cases c4 : x1 = (2 : Int32)
        · rw [if_pos c4] at h
          have h := h
          subst r
          exact ax_end 15 (And.intro (fun _ => (And.intro (fun _ => (And.intro (fun _ => (And.intro (fun q => absurd c4 q) (fun _ => rfl))) (fun q => absurd c3 q))) (fun q => absurd c2 q))) (fun q => absurd c1 q))
        · rw [if_neg c4] at h
          have h := h
          subst r
          exact ax_end 14 (And.intro (fun _ => (And.intro (fun _ => (And.intro (fun _ => (And.intro (fun _ => rfl) (fun q => absurd c4 q))) (fun q => absurd c3 q))) (fun q => absurd c2 q))) (fun q => absurd c1 q))
def M_without (x1 : Int32) (x2 : Int32)  (s : ax_S) : Option (Int32 × ax_S) :=
  if (M_in x1 (0 : Int32) (65535 : Int32) s) = 0 then (
    some ((-1 : Int32), s)) else
  if (M_in x2 (0 : Int32) (3 : Int32) s) = 0 then (
    some ((-1 : Int32), s)) else
  match M_cutsWithout x1 s with
  | none => none
  | some s1 =>
    some ((M_cutIs x2 s1), s1)
theorem e_M_without (d : Nat) {x1 : Int32} {x2 : Int32} {s : ax_S} {r : Int32 × ax_S} (h : M_without x1 x2 s = some r) : ax_ev true (d + 5) 247 [.ref 63, .int x1, .int x2] s (some (.int r.1), r.2) := by
  refine ⟨Nat.le_of_ble_eq_true rfl, ?_⟩
  show ax_go true none (ax_ev true (d + 4)) ax_m247 0 [some (.ref 63), some (.int x1), some (.int x2)] [] s _
  unfold M_without at h
  by_cases c1 : (M_in x1 (0 : Int32) (65535 : Int32) s) = 0
  · rw [if_pos c1] at h
    have h := Option.some.inj h
    subst r
    exact ax_end 7 (Exists.intro (some (.int (M_in x1 (0 : Int32) (65535 : Int32) s)), s) (And.intro (e_M_in (d + 3) x1 (0 : Int32) (65535 : Int32) s) (And.intro (fun _ => rfl) (fun q => absurd c1 q))))
  · rw [if_neg c1] at h
    by_cases c2 : (M_in x2 (0 : Int32) (3 : Int32) s) = 0
    · rw [if_pos c2] at h
      have h := Option.some.inj h
      subst r
      exact ax_end 12 (Exists.intro (some (.int (M_in x1 (0 : Int32) (65535 : Int32) s)), s) (And.intro (e_M_in (d + 3) x1 (0 : Int32) (65535 : Int32) s) (And.intro (fun q => absurd q c1) (fun _ => (Exists.intro (some (.int (M_in x2 (0 : Int32) (3 : Int32) s)), s) (And.intro (e_M_in (d + 3) x2 (0 : Int32) (3 : Int32) s) (And.intro (fun q => absurd c2 q) (fun _ => rfl))))))))
    · rw [if_neg c2] at h
      cases hz3 : M_cutsWithout x1 s with
      | none => rw [hz3] at h; cases h
      | some s1 =>
      rw [hz3] at h
      dsimp only at h
      refine ax_cut (pc' := 32) (la := [some (.ref 63), some (.int x1), some (.int x2)]) [none, none, none] (st' := [.int (M_cutIs x2 s1)]) (σ' := s1) 16 (trivial) (fun _ hh => (Exists.intro (some (.int (M_in x1 (0 : Int32) (65535 : Int32) s)), s) (And.intro (e_M_in (d + 3) x1 (0 : Int32) (65535 : Int32) s) (And.intro (fun q => absurd q c1) (fun _ => (Exists.intro (some (.int (M_in x2 (0 : Int32) (3 : Int32) s)), s) (And.intro (e_M_in (d + 3) x2 (0 : Int32) (3 : Int32) s) (And.intro (fun _ => (Exists.intro (none, s1) (And.intro (e_M_cutsWithout d hz3) (Exists.intro (some (.int (M_cutIs x2 s1)), s1) (And.intro (e_M_cutIs (d + 3) x2 s1) hh))))) (fun q => absurd c2 q))))))))) ?_
      have h := Option.some.inj h
      subst r
      exact ax_end 1 rfl
def X_today (x1 : Int32)  (s : ax_S) : Option (Int32 × ax_S) :=
  if (X_isWithin x1 (0 : Int32) (3 : Int32) s) = 0 then (
    some ((-1 : Int32), s)) else
  match XSt_painfulAbove_3 (s.2.1 0 12) s with
  | none => none
  | some v1 =>
    match XCu_cutWithout_4 v1 s with
    | none => none
    | some s2 =>
      some ((XCu_part x1 s2), s2)
theorem e_X_today (d : Nat) {x1 : Int32} {s : ax_S} {r : Int32 × ax_S} (h : X_today x1 s = some r) : ax_ev true (d + 5) 123 [.ref 0, .int x1] s (some (.int r.1), r.2) := by
  refine ⟨Nat.le_of_ble_eq_true rfl, ?_⟩
  show ax_go true none (ax_ev true (d + 4)) ax_m123 0 [some (.ref 0), some (.int x1)] [] s _
  unfold X_today at h
  by_cases c1 : (X_isWithin x1 (0 : Int32) (3 : Int32) s) = 0
  · rw [if_pos c1] at h
    have h := Option.some.inj h
    subst r
    exact ax_end 7 (Exists.intro (some (.int (X_isWithin x1 (0 : Int32) (3 : Int32) s)), s) (And.intro (e_X_isWithin (d + 3) x1 (0 : Int32) (3 : Int32) s) (And.intro (fun q => absurd c1 q) (fun _ => rfl))))
  · rw [if_neg c1] at h
    cases hz2 : XSt_painfulAbove_3 (s.2.1 0 12) s with
    | none => rw [hz2] at h; cases h
    | some v1 =>
    rw [hz2] at h
    dsimp only at h
    cases hz3 : XCu_cutWithout_4 v1 s with
    | none => rw [hz3] at h; cases h
    | some s2 =>
    rw [hz3] at h
    dsimp only at h
    refine ax_cut (pc' := 36) (la := [some (.ref 0), some (.int x1)]) [some (.ref 0), some (.int x1)] (st' := []) (σ' := s2) 16 (And.intro rfl (And.intro rfl (trivial))) (fun _ hh => (Exists.intro (some (.int (X_isWithin x1 (0 : Int32) (3 : Int32) s)), s) (And.intro (e_X_isWithin (d + 3) x1 (0 : Int32) (3 : Int32) s) (And.intro (fun _ => (Exists.intro (some (.int v1), s) (And.intro (e_XSt_painfulAbove_3 (d + 3) hz2) (Exists.intro (none, s2) (And.intro (e_XCu_cutWithout_4 d hz3) hh))))) (fun q => absurd c1 q))))) ?_
    have h := Option.some.inj h
    subst r
    exact ax_end 5 (Exists.intro (some (.int (XCu_part x1 s2)), s2) (And.intro (e_XCu_part (d + 2) x1 s2) rfl))
def M_painfulSet_l4 : Nat → Int32 → Int32 → ax_S → Option (Int32)
  | 0, _, _, _ => none
  | n + 1, x1, x2, s =>
    if (16 : Int32) ≤ x2 then (
      some x1) else
    if (((60 : Int32) + x2) < 0 ∨ 291 ≤ (((60 : Int32) + x2)).toNatClampNeg) then none else
    if (s.2.1 64 (((60 : Int32) + x2)).toNatClampNeg) ≤ (s.2.1 63 3) then (
      M_painfulSet_l4 n x1 (x2 + (1)) s) else
    M_painfulSet_l4 n (x1 ||| ((1 : Int32) <<< (x2 &&& 31))) (x2 + (1)) s
def M_painfulSet  (s : ax_S) : Option (Int32) :=
  match M_painfulSet_l4 70000 (0 : Int32) (0 : Int32) s with
  | none => none
  | some v1 =>
    some v1
theorem w_M_painfulSet_l4 (d : Nat) {o : ax_O} : ∀ (n : Nat) (x1 : Int32) (x2 : Int32) (s : ax_S) (r : Int32) (h : M_painfulSet_l4 n x1 x2 s = some r) (hk0 : ∀ (t0 : Int32), r = t0 → ax_go true none (ax_ev true (d + 0)) ax_m250 38 [none, some (.int t0), none] [] s o), ax_go true none (ax_ev true (d + 0)) ax_m250 4 [some (.ref 63), some (.int x1), some (.int x2)] [] s o := by
  intro n
  induction n with
  | zero => intro x1 x2 s r h hk0; cases h
  | succ n ih =>
    intro x1 x2 s r h hk0
    rw [M_painfulSet_l4] at h
    by_cases c1 : (16 : Int32) ≤ x2
    · rw [if_pos c1] at h
      have h := Option.some.inj h
      subst r
      exact ax_cut (pc' := 38) (la := [some (.ref 63), some (.int x1), some (.int x2)]) [none, some (.int x1), none] (st' := []) (σ' := s) 3 (And.intro rfl (trivial)) (fun _ hh => (And.intro (fun _ => hh) (fun q => absurd c1 q))) (hk0 _ rfl)
    · rw [if_neg c1] at h
      by_cases c2 : (((60 : Int32) + x2) < 0 ∨ 291 ≤ (((60 : Int32) + x2)).toNatClampNeg)
      · rw [if_pos c2] at h; cases h
      · rw [if_neg c2] at h
        by_cases c3 : (s.2.1 64 (((60 : Int32) + x2)).toNatClampNeg) ≤ (s.2.1 63 3)
        · rw [if_pos c3] at h
          exact ax_cut (pc' := 4) (la := [some (.ref 63), some (.int x1), some (.int (x2 + (1)))]) [some (.ref 63), some (.int x1), some (.int (x2 + (1)))] (st' := []) (σ' := s) 14 (And.intro rfl (And.intro rfl (And.intro rfl (trivial)))) (fun _ hh => (And.intro (fun q => absurd q c1) (fun _ => (And.intro c2 (And.intro (fun _ => hh) (fun q => absurd c3 q)))))) (ih x1 (x2 + (1)) s _ h hk0)
        · rw [if_neg c3] at h
          refine ax_cut (pc' := 30) (la := [some (.ref 63), some (.int x1), some (.int x2)]) [some (.ref 63), none, some (.int x2)] (st' := [.int ((1 : Int32) <<< (x2 &&& 31)), .int x1]) (σ' := s) 16 (And.intro rfl (And.intro rfl (trivial))) (fun _ hh => (And.intro (fun q => absurd q c1) (fun _ => (And.intro c2 (And.intro (fun q => absurd q c3) (fun _ => hh)))))) ?_
          exact ax_cut (pc' := 4) (la := [some (.ref 63), some (.int (x1 ||| ((1 : Int32) <<< (x2 &&& 31)))), some (.int (x2 + (1)))]) [some (.ref 63), some (.int (x1 ||| ((1 : Int32) <<< (x2 &&& 31)))), some (.int (x2 + (1)))] (st' := []) (σ' := s) 4 (And.intro rfl (And.intro rfl (And.intro rfl (trivial)))) (fun _ hh => hh) (ih (x1 ||| ((1 : Int32) <<< (x2 &&& 31))) (x2 + (1)) s _ h hk0)
theorem e_M_painfulSet (d : Nat)  {s : ax_S} {r : Int32} (h : M_painfulSet s = some r) : ax_ev true (d + 1) 250 [.ref 63] s (some (.int r), s) := by
  refine ⟨Nat.le_of_ble_eq_true rfl, ?_⟩
  show ax_go true none (ax_ev true (d + 0)) ax_m250 0 [some (.ref 63), none, none] [] s _
  unfold M_painfulSet at h
  cases hz1 : M_painfulSet_l4 70000 (0 : Int32) (0 : Int32) s with
  | none => rw [hz1] at h; cases h
  | some z1 =>
  rw [hz1] at h
  refine ax_cut (pc' := 4) (la := [some (.ref 63), some (.int (0 : Int32)), some (.int (0 : Int32))]) [some (.ref 63), some (.int (0 : Int32)), some (.int (0 : Int32))] (st' := []) (σ' := s) 4 (And.intro rfl (And.intro rfl (And.intro rfl (trivial)))) (fun _ hh => hh) (w_M_painfulSet_l4 d 70000 (0 : Int32) (0 : Int32) s _ hz1 ?_)
  · intro v1 hq
    subst z1
    dsimp only at h
    have h := Option.some.inj h
    subst r
    exact ax_end 2 rfl
def M_today (x1 : Int32)  (s : ax_S) : Option (Int32 × ax_S) :=
  match M_painfulSet s with
  | none => none
  | some v1 =>
    match M_without v1 x1 s with
    | none => none
    | some (v2, s3) =>
      some (v2, s3)
theorem e_M_today (d : Nat) {x1 : Int32} {s : ax_S} {r : Int32 × ax_S} (h : M_today x1 s = some r) : ax_ev true (d + 6) 249 [.ref 63, .int x1] s (some (.int r.1), r.2) := by
  refine ⟨Nat.le_of_ble_eq_true rfl, ?_⟩
  show ax_go true none (ax_ev true (d + 5)) ax_m249 0 [some (.ref 63), some (.int x1)] [] s _
  unfold M_today at h
  cases hz1 : M_painfulSet s with
  | none => rw [hz1] at h; cases h
  | some v1 =>
  rw [hz1] at h
  dsimp only at h
  cases hz2 : M_without v1 x1 s with
  | none => rw [hz2] at h; cases h
  | some z2 =>
  rw [hz2] at h
  obtain ⟨v2, s3⟩ := z2
  dsimp only at h
  have h := Option.some.inj h
  subst r
  exact ax_end 6 (Exists.intro (some (.int v1), s) (And.intro (e_M_painfulSet (d + 4) hz1) (Exists.intro (some (.int v2), s3) (And.intro (e_M_without d hz2) rfl))))
def XFi_meeting_4_l6 : Nat → Int32 → Int32 → Int32 → Int32 → Int32 → Int32 → ax_S → Option (Int32)
  | 0, _, _, _, _, _, _, _ => none
  | n + 1, x1, x2, x3, x4, x5, x6, s =>
    if (12 : Int32) ≤ x6 then (
      some x5) else
    match XFi_meets_4 x6 x1 x2 x3 x4 s with
    | none => none
    | some v1 =>
      if v1 = 0 then (
        XFi_meeting_4_l6 n x1 x2 x3 x4 x5 (x6 + (1)) s) else
      match XFi_personBit_4 x6 s with
      | none => none
      | some v2 =>
        XFi_meeting_4_l6 n x1 x2 x3 x4 (x5 ||| v2) (x6 + (1)) s
def XFi_meeting_4 (x1 : Int32) (x2 : Int32) (x3 : Int32) (x4 : Int32)  (s : ax_S) : Option (Int32) :=
  match XFi_meeting_4_l6 70000 x1 x2 x3 x4 (0 : Int32) (0 : Int32) s with
  | none => none
  | some v3 =>
    some v3
theorem w_XFi_meeting_4_l6 (d : Nat) {o : ax_O} : ∀ (n : Nat) (x1 : Int32) (x2 : Int32) (x3 : Int32) (x4 : Int32) (x5 : Int32) (x6 : Int32) (s : ax_S) (r : Int32) (h : XFi_meeting_4_l6 n x1 x2 x3 x4 x5 x6 s = some r) (hk0 : ∀ (t0 : Int32), r = t0 → ax_go true none (ax_ev true (d + 2)) ax_m125 44 [none, none, none, none, none, some (.int t0), none] [] s o), ax_go true none (ax_ev true (d + 2)) ax_m125 6 [some (.ref 4), some (.int x1), some (.int x2), some (.int x3), some (.int x4), some (.int x5), some (.int x6)] [] s o := by
  intro n
  induction n with
  | zero => intro x1 x2 x3 x4 x5 x6 s r h hk0; cases h
  | succ n ih =>
    intro x1 x2 x3 x4 x5 x6 s r h hk0
    rw [XFi_meeting_4_l6] at h
    by_cases c1 : (12 : Int32) ≤ x6
    · rw [if_pos c1] at h
      have h := Option.some.inj h
      subst r
      exact ax_cut (pc' := 44) (la := [some (.ref 4), some (.int x1), some (.int x2), some (.int x3), some (.int x4), some (.int x5), some (.int x6)]) [none, none, none, none, none, some (.int x5), none] (st' := []) (σ' := s) 3 (And.intro rfl (trivial)) (fun _ hh => (And.intro (fun _ => hh) (fun q => absurd c1 q))) (hk0 _ rfl)
    · rw [if_neg c1] at h
      cases hz2 : XFi_meets_4 x6 x1 x2 x3 x4 s with
      | none => rw [hz2] at h; cases h
      | some v1 =>
      rw [hz2] at h
      dsimp only at h
      by_cases c3 : v1 = 0
      · rw [if_pos c3] at h
        exact ax_cut (pc' := 6) (la := [some (.ref 4), some (.int x1), some (.int x2), some (.int x3), some (.int x4), some (.int x5), some (.int (x6 + (1)))]) [some (.ref 4), some (.int x1), some (.int x2), some (.int x3), some (.int x4), some (.int x5), some (.int (x6 + (1)))] (st' := []) (σ' := s) 13 (And.intro rfl (And.intro rfl (And.intro rfl (And.intro rfl (And.intro rfl (And.intro rfl (And.intro rfl (trivial)))))))) (fun _ hh => (And.intro (fun q => absurd q c1) (fun _ => (Exists.intro (some (.int v1), s) (And.intro (e_XFi_meets_4 d hz2) (And.intro (fun _ => hh) (fun q => absurd c3 q))))))) (ih x1 x2 x3 x4 x5 (x6 + (1)) s _ h hk0)
      · rw [if_neg c3] at h
        cases hz4 : XFi_personBit_4 x6 s with
        | none => rw [hz4] at h; cases h
        | some v2 =>
        rw [hz4] at h
        dsimp only at h
        refine ax_cut (pc' := 36) (la := [some (.ref 4), some (.int x1), some (.int x2), some (.int x3), some (.int x4), some (.int x5), some (.int x6)]) [some (.ref 4), some (.int x1), some (.int x2), some (.int x3), some (.int x4), none, some (.int x6)] (st' := [.int (x5 ||| v2)]) (σ' := s) 16 (And.intro rfl (And.intro rfl (And.intro rfl (And.intro rfl (And.intro rfl (And.intro rfl (trivial))))))) (fun _ hh => (And.intro (fun q => absurd q c1) (fun _ => (Exists.intro (some (.int v1), s) (And.intro (e_XFi_meets_4 d hz2) (And.intro (fun q => absurd q c3) (fun _ => (Exists.intro (some (.int v2), s) (And.intro (e_XFi_personBit_4 d hz4) hh))))))))) ?_
        exact ax_cut (pc' := 6) (la := [some (.ref 4), some (.int x1), some (.int x2), some (.int x3), some (.int x4), some (.int (x5 ||| v2)), some (.int (x6 + (1)))]) [some (.ref 4), some (.int x1), some (.int x2), some (.int x3), some (.int x4), some (.int (x5 ||| v2)), some (.int (x6 + (1)))] (st' := []) (σ' := s) 3 (And.intro rfl (And.intro rfl (And.intro rfl (And.intro rfl (And.intro rfl (And.intro rfl (And.intro rfl (trivial)))))))) (fun _ hh => hh) (ih x1 x2 x3 x4 (x5 ||| v2) (x6 + (1)) s _ h hk0)
theorem e_XFi_meeting_4 (d : Nat) {x1 : Int32} {x2 : Int32} {x3 : Int32} {x4 : Int32} {s : ax_S} {r : Int32} (h : XFi_meeting_4 x1 x2 x3 x4 s = some r) : ax_ev true (d + 3) 125 [.ref 4, .int x1, .int x2, .int x3, .int x4] s (some (.int r), s) := by
  refine ⟨Nat.le_of_ble_eq_true rfl, ?_⟩
  show ax_go true none (ax_ev true (d + 2)) ax_m125 0 [some (.ref 4), some (.int x1), some (.int x2), some (.int x3), some (.int x4), none, none] [] s _
  unfold XFi_meeting_4 at h
  cases hz1 : XFi_meeting_4_l6 70000 x1 x2 x3 x4 (0 : Int32) (0 : Int32) s with
  | none => rw [hz1] at h; cases h
  | some z1 =>
  rw [hz1] at h
  refine ax_cut (pc' := 6) (la := [some (.ref 4), some (.int x1), some (.int x2), some (.int x3), some (.int x4), some (.int (0 : Int32)), some (.int (0 : Int32))]) [some (.ref 4), some (.int x1), some (.int x2), some (.int x3), some (.int x4), some (.int (0 : Int32)), some (.int (0 : Int32))] (st' := []) (σ' := s) 4 (And.intro rfl (And.intro rfl (And.intro rfl (And.intro rfl (And.intro rfl (And.intro rfl (And.intro rfl (trivial)))))))) (fun _ hh => hh) (w_XFi_meeting_4_l6 d 70000 x1 x2 x3 x4 (0 : Int32) (0 : Int32) s _ hz1 ?_)
  · intro v3 hq
    subst z1
    dsimp only at h
    have h := Option.some.inj h
    subst r
    exact ax_end 2 rfl
def XFi_headlessIn_4_l6 : Nat → Int32 → Int32 → Int32 → Int32 → Int32 → Int32 → ax_S → Option (Int32)
  | 0, _, _, _, _, _, _, _ => none
  | n + 1, x1, x2, x3, x4, x5, x6, s =>
    if (12 : Int32) ≤ x6 then (
      some x5) else
    match XFi_meets_4 x6 x1 x2 x3 x4 s with
    | none => none
    | some v1 =>
      if v1 = 0 then (
        XFi_headlessIn_4_l6 n x1 x2 x3 x4 x5 (x6 + (1)) s) else
      if (x6 < 0 ∨ 12 ≤ (x6).toNatClampNeg) then none else
      if x2 ≤ (s.2.1 7 (x6).toNatClampNeg) then (
        XFi_headlessIn_4_l6 n x1 x2 x3 x4 x5 (x6 + (1)) s) else
      match XFi_personBit_4 x6 s with
      | none => none
      | some v2 =>
        XFi_headlessIn_4_l6 n x1 x2 x3 x4 (x5 ||| v2) (x6 + (1)) s
def XFi_headlessIn_4 (x1 : Int32) (x2 : Int32) (x3 : Int32) (x4 : Int32)  (s : ax_S) : Option (Int32) :=
  match XFi_headlessIn_4_l6 70000 x1 x2 x3 x4 (0 : Int32) (0 : Int32) s with
  | none => none
  | some v3 =>
    some v3
theorem w_XFi_headlessIn_4_l6 (d : Nat) {o : ax_O} : ∀ (n : Nat) (x1 : Int32) (x2 : Int32) (x3 : Int32) (x4 : Int32) (x5 : Int32) (x6 : Int32) (s : ax_S) (r : Int32) (h : XFi_headlessIn_4_l6 n x1 x2 x3 x4 x5 x6 s = some r) (hk0 : ∀ (t0 : Int32), r = t0 → ax_go true none (ax_ev true (d + 2)) ax_m126 55 [none, none, none, none, none, some (.int t0), none] [] s o), ax_go true none (ax_ev true (d + 2)) ax_m126 6 [some (.ref 4), some (.int x1), some (.int x2), some (.int x3), some (.int x4), some (.int x5), some (.int x6)] [] s o := by
  intro n
  induction n with
  | zero => intro x1 x2 x3 x4 x5 x6 s r h hk0; cases h
  | succ n ih =>
    intro x1 x2 x3 x4 x5 x6 s r h hk0
    rw [XFi_headlessIn_4_l6] at h
    by_cases c1 : (12 : Int32) ≤ x6
    · rw [if_pos c1] at h
      have h := Option.some.inj h
      subst r
      exact ax_cut (pc' := 55) (la := [some (.ref 4), some (.int x1), some (.int x2), some (.int x3), some (.int x4), some (.int x5), some (.int x6)]) [none, none, none, none, none, some (.int x5), none] (st' := []) (σ' := s) 3 (And.intro rfl (trivial)) (fun _ hh => (And.intro (fun _ => hh) (fun q => absurd c1 q))) (hk0 _ rfl)
    · rw [if_neg c1] at h
      cases hz2 : XFi_meets_4 x6 x1 x2 x3 x4 s with
      | none => rw [hz2] at h; cases h
      | some v1 =>
      rw [hz2] at h
      dsimp only at h
      by_cases c3 : v1 = 0
      · rw [if_pos c3] at h
        exact ax_cut (pc' := 6) (la := [some (.ref 4), some (.int x1), some (.int x2), some (.int x3), some (.int x4), some (.int x5), some (.int (x6 + (1)))]) [some (.ref 4), some (.int x1), some (.int x2), some (.int x3), some (.int x4), some (.int x5), some (.int (x6 + (1)))] (st' := []) (σ' := s) 13 (And.intro rfl (And.intro rfl (And.intro rfl (And.intro rfl (And.intro rfl (And.intro rfl (And.intro rfl (trivial)))))))) (fun _ hh => (And.intro (fun q => absurd q c1) (fun _ => (Exists.intro (some (.int v1), s) (And.intro (e_XFi_meets_4 d hz2) (And.intro (fun _ => hh) (fun q => absurd c3 q))))))) (ih x1 x2 x3 x4 x5 (x6 + (1)) s _ h hk0)
      · rw [if_neg c3] at h
        by_cases c4 : (x6 < 0 ∨ 12 ≤ (x6).toNatClampNeg)
        · rw [if_pos c4] at h; cases h
        · rw [if_neg c4] at h
          refine ax_cut (pc' := 35) (la := [some (.ref 4), some (.int x1), some (.int x2), some (.int x3), some (.int x4), some (.int x5), some (.int x6)]) [some (.ref 4), some (.int x1), some (.int x2), some (.int x3), some (.int x4), some (.int x5), some (.int x6)] (st' := [.int x2, .int (s.2.1 7 (x6).toNatClampNeg)]) (σ' := s) 16 (And.intro rfl (And.intro rfl (And.intro rfl (And.intro rfl (And.intro rfl (And.intro rfl (And.intro rfl (trivial)))))))) (fun _ hh => (And.intro (fun q => absurd q c1) (fun _ => (Exists.intro (some (.int v1), s) (And.intro (e_XFi_meets_4 d hz2) (And.intro (fun q => absurd q c3) (fun _ => (And.intro c4 hh)))))))) ?_
          by_cases c5 : x2 ≤ (s.2.1 7 (x6).toNatClampNeg)
          · rw [if_pos c5] at h
            exact ax_cut (pc' := 6) (la := [some (.ref 4), some (.int x1), some (.int x2), some (.int x3), some (.int x4), some (.int x5), some (.int (x6 + (1)))]) [some (.ref 4), some (.int x1), some (.int x2), some (.int x3), some (.int x4), some (.int x5), some (.int (x6 + (1)))] (st' := []) (σ' := s) 3 (And.intro rfl (And.intro rfl (And.intro rfl (And.intro rfl (And.intro rfl (And.intro rfl (And.intro rfl (trivial)))))))) (fun _ hh => (And.intro (fun _ => hh) (fun q => absurd c5 q))) (ih x1 x2 x3 x4 x5 (x6 + (1)) s _ h hk0)
          · rw [if_neg c5] at h
            cases hz6 : XFi_personBit_4 x6 s with
            | none => rw [hz6] at h; cases h
            | some v2 =>
            rw [hz6] at h
            dsimp only at h
            exact ax_cut (pc' := 6) (la := [some (.ref 4), some (.int x1), some (.int x2), some (.int x3), some (.int x4), some (.int (x5 ||| v2)), some (.int (x6 + (1)))]) [some (.ref 4), some (.int x1), some (.int x2), some (.int x3), some (.int x4), some (.int (x5 ||| v2)), some (.int (x6 + (1)))] (st' := []) (σ' := s) 9 (And.intro rfl (And.intro rfl (And.intro rfl (And.intro rfl (And.intro rfl (And.intro rfl (And.intro rfl (trivial)))))))) (fun _ hh => (And.intro (fun q => absurd q c5) (fun _ => (Exists.intro (some (.int v2), s) (And.intro (e_XFi_personBit_4 d hz6) hh))))) (ih x1 x2 x3 x4 (x5 ||| v2) (x6 + (1)) s _ h hk0)
theorem e_XFi_headlessIn_4 (d : Nat) {x1 : Int32} {x2 : Int32} {x3 : Int32} {x4 : Int32} {s : ax_S} {r : Int32} (h : XFi_headlessIn_4 x1 x2 x3 x4 s = some r) : ax_ev true (d + 3) 126 [.ref 4, .int x1, .int x2, .int x3, .int x4] s (some (.int r), s) := by
  refine ⟨Nat.le_of_ble_eq_true rfl, ?_⟩
  show ax_go true none (ax_ev true (d + 2)) ax_m126 0 [some (.ref 4), some (.int x1), some (.int x2), some (.int x3), some (.int x4), none, none] [] s _
  unfold XFi_headlessIn_4 at h
  cases hz1 : XFi_headlessIn_4_l6 70000 x1 x2 x3 x4 (0 : Int32) (0 : Int32) s with
  | none => rw [hz1] at h; cases h
  | some z1 =>
  rw [hz1] at h
  refine ax_cut (pc' := 6) (la := [some (.ref 4), some (.int x1), some (.int x2), some (.int x3), some (.int x4), some (.int (0 : Int32)), some (.int (0 : Int32))]) [some (.ref 4), some (.int x1), some (.int x2), some (.int x3), some (.int x4), some (.int (0 : Int32)), some (.int (0 : Int32))] (st' := []) (σ' := s) 4 (And.intro rfl (And.intro rfl (And.intro rfl (And.intro rfl (And.intro rfl (And.intro rfl (And.intro rfl (trivial)))))))) (fun _ hh => hh) (w_XFi_headlessIn_4_l6 d 70000 x1 x2 x3 x4 (0 : Int32) (0 : Int32) s _ hz1 ?_)
  · intro v3 hq
    subst z1
    dsimp only at h
    have h := Option.some.inj h
    subst r
    exact ax_end 2 rfl
def X_shows_j131 (x1 : Int32) (x2 : Int32) (x3 : Int32) (x4 : Int32) (y0 : Int32)  (s : ax_S) : Int32 :=
  if y0 ≤ 0 then (
    (0 : Int32)) else
  (1 : Int32)
def X_shows_j140 (x1 : Int32) (x2 : Int32) (x3 : Int32) (x4 : Int32) (y0 : Int32) (y1 : Int32)  (s : ax_S) : Int32 :=
  if y1 ≤ 0 then (
    (0 : Int32)) else
  (1 : Int32)
def X_shows_j154 (x2 : Int32) (x4 : Int32) (y0 : Int32) (y1 : Int32)  (s : ax_S) : Int32 :=
  if (16 : Int32) ≤ y1 then (
    (0 : Int32)) else
  (1 : Int32)
def X_shows (x1 : Int32) (x2 : Int32) (x3 : Int32) (x4 : Int32) (x5 : Int32)  (s : ax_S) : Option (Int32) :=
  if (X_isOnPrint x1 x2 x3 x4 s) = 0 then (
    some (-1 : Int32)) else
  match XFi_wholeIn_4 x1 x2 x3 x4 s with
  | none => none
  | some v1 =>
    match XFi_meeting_4 x1 x2 x3 x4 s with
    | none => none
    | some v2 =>
      if x5 = (0) then (
        some v1) else
      if x5 = (1) then (
        some (v2 &&& (v1 ^^^ (-1 : Int32)))) else
      if x5 = (2) then (
        match XFi_headlessIn_4 x1 x2 x3 x4 s with
        | none => none
        | some v3 =>
          some v3) else
      if x5 = (3) then (
        match XFi_meeting_4 (x1 - (1 : Int32)) (x2 - (1 : Int32)) (x3 + (2 : Int32)) (x4 + (2 : Int32)) s with
        | none => none
        | some v4 =>
          some (v4 &&& (v2 ^^^ (-1 : Int32)))) else
      if x5 = (4) then (
        if (12 : Int32) ≤ (x2 + x4) then (
          some ((((X_shows_j131 x1 x2 x3 x4 x1 s) + (X_shows_j140 x1 x2 x3 x4 (X_shows_j131 x1 x2 x3 x4 x1 s) x2 s)) + (X_shows_j154 x2 x4 ((X_shows_j131 x1 x2 x3 x4 x1 s) + (X_shows_j140 x1 x2 x3 x4 (X_shows_j131 x1 x2 x3 x4 x1 s) x2 s)) (x1 + x3) s)) + (0 : Int32))) else
        some ((((X_shows_j131 x1 x2 x3 x4 x1 s) + (X_shows_j140 x1 x2 x3 x4 (X_shows_j131 x1 x2 x3 x4 x1 s) x2 s)) + (X_shows_j154 x2 x4 ((X_shows_j131 x1 x2 x3 x4 x1 s) + (X_shows_j140 x1 x2 x3 x4 (X_shows_j131 x1 x2 x3 x4 x1 s) x2 s)) (x1 + x3) s)) + (1 : Int32))) else
      some (-1 : Int32)
theorem w_X_shows_j131 (d : Nat) {o : ax_O} (x1 : Int32) (x2 : Int32) (x3 : Int32) (x4 : Int32) (y0 : Int32) (s : ax_S) (r : Int32) (h : X_shows_j131 x1 x2 x3 x4 y0 s = r) (hk0 : ∀ (t0 : Int32), r = t0 → ax_go true none (ax_ev true (d + 3)) ax_m124 139 [none, some (.int x1), some (.int x2), some (.int x3), some (.int x4), none, none, none, none] [.int t0] s o) : ax_go true none (ax_ev true (d + 3)) ax_m124 131 [none, some (.int x1), some (.int x2), some (.int x3), some (.int x4), none, none, none, none] [.int y0] s o := by
  unfold X_shows_j131 at h
  by_cases c1 : y0 ≤ 0
  · rw [if_pos c1] at h
    have h := h
    subst r
    exact ax_cut (pc' := 139) (la := [none, some (.int x1), some (.int x2), some (.int x3), some (.int x4), none, none, none, none]) [none, some (.int x1), some (.int x2), some (.int x3), some (.int x4), none, none, none, none] (st' := [.int (0 : Int32)]) (σ' := s) 2 (And.intro rfl (And.intro rfl (And.intro rfl (And.intro rfl (trivial))))) (fun _ hh => (And.intro (fun _ => hh) (fun q => absurd c1 q))) (hk0 _ rfl)
  · rw [if_neg c1] at h
    have h := h
    subst r
    exact ax_cut (pc' := 139) (la := [none, some (.int x1), some (.int x2), some (.int x3), some (.int x4), none, none, none, none]) [none, some (.int x1), some (.int x2), some (.int x3), some (.int x4), none, none, none, none] (st' := [.int (1 : Int32)]) (σ' := s) 3 (And.intro rfl (And.intro rfl (And.intro rfl (And.intro rfl (trivial))))) (fun _ hh => (And.intro (fun q => absurd q c1) (fun _ => hh))) (hk0 _ rfl)
theorem w_X_shows_j140 (d : Nat) {o : ax_O} (x1 : Int32) (x2 : Int32) (x3 : Int32) (x4 : Int32) (y0 : Int32) (y1 : Int32) (s : ax_S) (r : Int32) (h : X_shows_j140 x1 x2 x3 x4 y0 y1 s = r) (hk0 : ∀ (t0 : Int32), r = t0 → ax_go true none (ax_ev true (d + 3)) ax_m124 148 [none, some (.int x1), some (.int x2), some (.int x3), some (.int x4), none, none, none, none] [.int t0, .int y0] s o) : ax_go true none (ax_ev true (d + 3)) ax_m124 140 [none, some (.int x1), some (.int x2), some (.int x3), some (.int x4), none, none, none, none] [.int y1, .int y0] s o := by
  unfold X_shows_j140 at h
  by_cases c1 : y1 ≤ 0
  · rw [if_pos c1] at h
    have h := h
    subst r
    exact ax_cut (pc' := 148) (la := [none, some (.int x1), some (.int x2), some (.int x3), some (.int x4), none, none, none, none]) [none, some (.int x1), some (.int x2), some (.int x3), some (.int x4), none, none, none, none] (st' := [.int (0 : Int32), .int y0]) (σ' := s) 2 (And.intro rfl (And.intro rfl (And.intro rfl (And.intro rfl (trivial))))) (fun _ hh => (And.intro (fun _ => hh) (fun q => absurd c1 q))) (hk0 _ rfl)
  · rw [if_neg c1] at h
    have h := h
    subst r
    exact ax_cut (pc' := 148) (la := [none, some (.int x1), some (.int x2), some (.int x3), some (.int x4), none, none, none, none]) [none, some (.int x1), some (.int x2), some (.int x3), some (.int x4), none, none, none, none] (st' := [.int (1 : Int32), .int y0]) (σ' := s) 3 (And.intro rfl (And.intro rfl (And.intro rfl (And.intro rfl (trivial))))) (fun _ hh => (And.intro (fun q => absurd q c1) (fun _ => hh))) (hk0 _ rfl)
theorem w_X_shows_j154 (d : Nat) {o : ax_O} (x2 : Int32) (x4 : Int32) (y0 : Int32) (y1 : Int32) (s : ax_S) (r : Int32) (h : X_shows_j154 x2 x4 y0 y1 s = r) (hk0 : ∀ (t0 : Int32), r = t0 → ax_go true none (ax_ev true (d + 3)) ax_m124 162 [none, none, some (.int x2), none, some (.int x4), none, none, none, none] [.int t0, .int y0] s o) : ax_go true none (ax_ev true (d + 3)) ax_m124 154 [none, none, some (.int x2), none, some (.int x4), none, none, none, none] [.int (16 : Int32), .int y1, .int y0] s o := by
  unfold X_shows_j154 at h
  by_cases c1 : (16 : Int32) ≤ y1
  · rw [if_pos c1] at h
    have h := h
    subst r
    exact ax_cut (pc' := 162) (la := [none, none, some (.int x2), none, some (.int x4), none, none, none, none]) [none, none, some (.int x2), none, some (.int x4), none, none, none, none] (st' := [.int (0 : Int32), .int y0]) (σ' := s) 2 (And.intro rfl (And.intro rfl (trivial))) (fun _ hh => (And.intro (fun _ => hh) (fun q => absurd c1 q))) (hk0 _ rfl)
  · rw [if_neg c1] at h
    have h := h
    subst r
    exact ax_cut (pc' := 162) (la := [none, none, some (.int x2), none, some (.int x4), none, none, none, none]) [none, none, some (.int x2), none, some (.int x4), none, none, none, none] (st' := [.int (1 : Int32), .int y0]) (σ' := s) 3 (And.intro rfl (And.intro rfl (trivial))) (fun _ hh => (And.intro (fun q => absurd q c1) (fun _ => hh))) (hk0 _ rfl)
theorem e_X_shows (d : Nat) {x1 : Int32} {x2 : Int32} {x3 : Int32} {x4 : Int32} {x5 : Int32} {s : ax_S} {r : Int32} (h : X_shows x1 x2 x3 x4 x5 s = some r) : ax_ev true (d + 4) 124 [.ref 0, .int x1, .int x2, .int x3, .int x4, .int x5] s (some (.int r), s) := by
  refine ⟨Nat.le_of_ble_eq_true rfl, ?_⟩
  show ax_go true none (ax_ev true (d + 3)) ax_m124 0 [some (.ref 0), some (.int x1), some (.int x2), some (.int x3), some (.int x4), some (.int x5), none, none, none] [] s _
  unfold X_shows at h
  by_cases c1 : (X_isOnPrint x1 x2 x3 x4 s) = 0
  · rw [if_pos c1] at h
    have h := Option.some.inj h
    subst r
    exact ax_end 8 (Exists.intro (some (.int (X_isOnPrint x1 x2 x3 x4 s)), s) (And.intro (e_X_isOnPrint (d + 1) x1 x2 x3 x4 s) (And.intro (fun q => absurd c1 q) (fun _ => rfl))))
  · rw [if_neg c1] at h
    cases hz2 : XFi_wholeIn_4 x1 x2 x3 x4 s with
    | none => rw [hz2] at h; cases h
    | some v1 =>
    rw [hz2] at h
    dsimp only at h
    refine ax_cut (pc' := 32) (la := [some (.ref 0), some (.int x1), some (.int x2), some (.int x3), some (.int x4), some (.int x5), some (.ref 4), none, none]) [none, some (.int x1), some (.int x2), some (.int x3), some (.int x4), some (.int x5), some (.ref 4), none, none] (st' := [.int v1]) (σ' := s) 16 (And.intro rfl (And.intro rfl (And.intro rfl (And.intro rfl (And.intro rfl (And.intro rfl (trivial))))))) (fun _ hh => (Exists.intro (some (.int (X_isOnPrint x1 x2 x3 x4 s)), s) (And.intro (e_X_isOnPrint (d + 1) x1 x2 x3 x4 s) (And.intro (fun _ => (Exists.intro (some (.int v1), s) (And.intro (e_XFi_wholeIn_4 d hz2) hh))) (fun q => absurd c1 q))))) ?_
    cases hz3 : XFi_meeting_4 x1 x2 x3 x4 s with
    | none => rw [hz3] at h; cases h
    | some v2 =>
    rw [hz3] at h
    dsimp only at h
    by_cases c4_0 : x5 = (0)
    · rw [if_pos c4_0] at h
      have h := Option.some.inj h
      subst r
      exact ax_end 12 (Exists.intro (some (.int v2), s) (And.intro (e_XFi_meeting_4 d hz3) (ax_tabT (lo := 0) (hg := 4) (j0 := 0) (congrArg Int32.toInt c4_0) (by rw [c4_0]; decide) rfl)))
    rw [if_neg c4_0] at h
    by_cases c4_1 : x5 = (1)
    · rw [if_pos c4_1] at h
      have h := Option.some.inj h
      subst r
      exact ax_end 16 (Exists.intro (some (.int v2), s) (And.intro (e_XFi_meeting_4 d hz3) (ax_tabT (lo := 0) (hg := 4) (j0 := 1) (congrArg Int32.toInt c4_1) (by rw [c4_1]; decide) rfl)))
    rw [if_neg c4_1] at h
    by_cases c4_2 : x5 = (2)
    · rw [if_pos c4_2] at h
      cases hz5 : XFi_headlessIn_4 x1 x2 x3 x4 s with
      | none => rw [hz5] at h; cases h
      | some v3 =>
      rw [hz5] at h
      dsimp only at h
      refine ax_cut (pc' := 105) (la := [none, some (.int x1), some (.int x2), some (.int x3), some (.int x4), some (.int x5), some (.ref 4), some (.int v1), some (.int v2)]) [none, none, none, none, none, none, none, none, none] (st' := [.int v3]) (σ' := s) 16 (trivial) (fun _ hh => (Exists.intro (some (.int v2), s) (And.intro (e_XFi_meeting_4 d hz3) (ax_tabT (lo := 0) (hg := 4) (j0 := 2) (congrArg Int32.toInt c4_2) (by rw [c4_2]; decide) (Exists.intro (some (.int v3), s) (And.intro (e_XFi_headlessIn_4 d hz5) hh)))))) ?_
      have h := Option.some.inj h
      subst r
      exact ax_end 1 rfl
    rw [if_neg c4_2] at h
    by_cases c4_3 : x5 = (3)
    · rw [if_pos c4_3] at h
      refine ax_cut (pc' := 113) (la := [none, some (.int x1), some (.int x2), some (.int x3), some (.int x4), some (.int x5), some (.ref 4), some (.int v1), some (.int v2)]) [none, none, none, some (.int x3), some (.int x4), none, none, none, some (.int v2)] (st' := [.int (1 : Int32), .int x2, .int (x1 - (1 : Int32)), .ref 4]) (σ' := s) 16 (And.intro rfl (And.intro rfl (And.intro rfl (trivial)))) (fun _ hh => (Exists.intro (some (.int v2), s) (And.intro (e_XFi_meeting_4 d hz3) (ax_tabT (lo := 0) (hg := 4) (j0 := 3) (congrArg Int32.toInt c4_3) (by rw [c4_3]; decide) hh)))) ?_
      cases hz6 : XFi_meeting_4 (x1 - (1 : Int32)) (x2 - (1 : Int32)) (x3 + (2 : Int32)) (x4 + (2 : Int32)) s with
      | none => rw [hz6] at h; cases h
      | some v4 =>
      rw [hz6] at h
      dsimp only at h
      have h := Option.some.inj h
      subst r
      exact ax_end 13 (Exists.intro (some (.int v4), s) (And.intro (e_XFi_meeting_4 d hz6) rfl))
    rw [if_neg c4_3] at h
    by_cases c4_4 : x5 = (4)
    · rw [if_pos c4_4] at h
      refine ax_cut (pc' := 131) (la := [none, some (.int x1), some (.int x2), some (.int x3), some (.int x4), some (.int x5), some (.ref 4), some (.int v1), some (.int v2)]) [none, some (.int x1), some (.int x2), some (.int x3), some (.int x4), none, none, none, none] (st' := [.int x1]) (σ' := s) 11 (And.intro rfl (And.intro rfl (And.intro rfl (And.intro rfl (trivial))))) (fun _ hh => (Exists.intro (some (.int v2), s) (And.intro (e_XFi_meeting_4 d hz3) (ax_tabT (lo := 0) (hg := 4) (j0 := 4) (congrArg Int32.toInt c4_4) (by rw [c4_4]; decide) hh)))) (w_X_shows_j131 d x1 x2 x3 x4 x1 s _ rfl (fun v5 hq => ?_))
      obtain rfl : v5 = (X_shows_j131 x1 x2 x3 x4 x1 s) := hq.symm
      refine ax_cut (pc' := 140) (la := [none, some (.int x1), some (.int x2), some (.int x3), some (.int x4), none, none, none, none]) [none, some (.int x1), some (.int x2), some (.int x3), some (.int x4), none, none, none, none] (st' := [.int x2, .int (X_shows_j131 x1 x2 x3 x4 x1 s)]) (σ' := s) 1 (And.intro rfl (And.intro rfl (And.intro rfl (And.intro rfl (trivial))))) (fun _ hh => hh) (w_X_shows_j140 d x1 x2 x3 x4 (X_shows_j131 x1 x2 x3 x4 x1 s) x2 s _ rfl (fun v6 hq => ?_))
      obtain rfl : v6 = (X_shows_j140 x1 x2 x3 x4 (X_shows_j131 x1 x2 x3 x4 x1 s) x2 s) := hq.symm
      refine ax_cut (pc' := 154) (la := [none, some (.int x1), some (.int x2), some (.int x3), some (.int x4), none, none, none, none]) [none, none, some (.int x2), none, some (.int x4), none, none, none, none] (st' := [.int (16 : Int32), .int (x1 + x3), .int ((X_shows_j131 x1 x2 x3 x4 x1 s) + (X_shows_j140 x1 x2 x3 x4 (X_shows_j131 x1 x2 x3 x4 x1 s) x2 s))]) (σ' := s) 5 (And.intro rfl (And.intro rfl (trivial))) (fun _ hh => hh) (w_X_shows_j154 d x2 x4 ((X_shows_j131 x1 x2 x3 x4 x1 s) + (X_shows_j140 x1 x2 x3 x4 (X_shows_j131 x1 x2 x3 x4 x1 s) x2 s)) (x1 + x3) s _ rfl (fun v7 hq => ?_))
      obtain rfl : v7 = (X_shows_j154 x2 x4 ((X_shows_j131 x1 x2 x3 x4 x1 s) + (X_shows_j140 x1 x2 x3 x4 (X_shows_j131 x1 x2 x3 x4 x1 s) x2 s)) (x1 + x3) s) := hq.symm
      by_cases c7 : (12 : Int32) ≤ (x2 + x4)
      · rw [if_pos c7] at h
        have h := Option.some.inj h
        subst r
        exact ax_end 9 (And.intro (fun _ => rfl) (fun q => absurd c7 q))
      · rw [if_neg c7] at h
        have h := Option.some.inj h
        subst r
        exact ax_end 10 (And.intro (fun q => absurd q c7) (fun _ => rfl))
    rw [if_neg c4_4] at h
    have c4_r : (x5).toInt < 0 ∨ 4 < (x5).toInt := by
      have := ax_ne_toInt c4_0
      have := ax_ne_toInt c4_1
      have := ax_ne_toInt c4_2
      have := ax_ne_toInt c4_3
      have := ax_ne_toInt c4_4
      simp only [show ∀ y : Int32, y.toInt = y.toInt from fun _ => rfl, show ((0) : Int32).toInt = 0 by decide, show ((1) : Int32).toInt = 1 by decide, show ((2) : Int32).toInt = 2 by decide, show ((3) : Int32).toInt = 3 by decide, show ((4) : Int32).toInt = 4 by decide] at *
      omega
    have h := Option.some.inj h
    subst r
    exact ax_end 12 (Exists.intro (some (.int v2), s) (And.intro (e_XFi_meeting_4 d hz3) (ax_tabF (lo := 0) (hg := 4) rfl c4_r rfl)))
def M_partlyIn_l6 : Nat → Int32 → Int32 → Int32 → Int32 → Int32 → Int32 → ax_S → Option (Int32)
  | 0, _, _, _, _, _, _, _ => none
  | n + 1, x1, x2, x3, x4, x5, x6, s =>
    if (12 : Int32) ≤ x6 then (
      some x5) else
    match M_isFigure x6 s with
    | none => none
    | some v1 =>
      if v1 = 0 then (
        M_partlyIn_l6 n x1 x2 x3 x4 x5 (x6 + (1)) s) else
      match M_isIn x6 x1 x2 x3 x4 s with
      | none => none
      | some v2 =>
        if v2 = 0 then (
          M_partlyIn_l6 n x1 x2 x3 x4 x5 (x6 + (1)) s) else
        if (((0 : Int32) + x6) < 0 ∨ 291 ≤ (((0 : Int32) + x6)).toNatClampNeg) then none else
        M_partlyIn_l6 n x1 x2 x3 x4 (x5 ||| ((1 : Int32) <<< ((s.2.1 64 (((0 : Int32) + x6)).toNatClampNeg) &&& 31))) (x6 + (1)) s
def M_partlyIn (x1 : Int32) (x2 : Int32) (x3 : Int32) (x4 : Int32)  (s : ax_S) : Option (Int32) :=
  match M_partlyIn_l6 70000 x1 x2 x3 x4 (0 : Int32) (0 : Int32) s with
  | none => none
  | some v3 =>
    some v3
theorem w_M_partlyIn_l6 (d : Nat) {o : ax_O} : ∀ (n : Nat) (x1 : Int32) (x2 : Int32) (x3 : Int32) (x4 : Int32) (x5 : Int32) (x6 : Int32) (s : ax_S) (r : Int32) (h : M_partlyIn_l6 n x1 x2 x3 x4 x5 x6 s = some r) (hk0 : ∀ (t0 : Int32), r = t0 → ax_go true none (ax_ev true (d + 2)) ax_m253 58 [none, none, none, none, none, some (.int t0), none] [] s o), ax_go true none (ax_ev true (d + 2)) ax_m253 6 [some (.ref 63), some (.int x1), some (.int x2), some (.int x3), some (.int x4), some (.int x5), some (.int x6)] [] s o := by
  intro n
  induction n with
  | zero => intro x1 x2 x3 x4 x5 x6 s r h hk0; cases h
  | succ n ih =>
    intro x1 x2 x3 x4 x5 x6 s r h hk0
    rw [M_partlyIn_l6] at h
    by_cases c1 : (12 : Int32) ≤ x6
    · rw [if_pos c1] at h
      have h := Option.some.inj h
      subst r
      exact ax_cut (pc' := 58) (la := [some (.ref 63), some (.int x1), some (.int x2), some (.int x3), some (.int x4), some (.int x5), some (.int x6)]) [none, none, none, none, none, some (.int x5), none] (st' := []) (σ' := s) 3 (And.intro rfl (trivial)) (fun _ hh => (And.intro (fun _ => hh) (fun q => absurd c1 q))) (hk0 _ rfl)
    · rw [if_neg c1] at h
      cases hz2 : M_isFigure x6 s with
      | none => rw [hz2] at h; cases h
      | some v1 =>
      rw [hz2] at h
      dsimp only at h
      by_cases c3 : v1 = 0
      · rw [if_pos c3] at h
        exact ax_cut (pc' := 6) (la := [some (.ref 63), some (.int x1), some (.int x2), some (.int x3), some (.int x4), some (.int x5), some (.int (x6 + (1)))]) [some (.ref 63), some (.int x1), some (.int x2), some (.int x3), some (.int x4), some (.int x5), some (.int (x6 + (1)))] (st' := []) (σ' := s) 9 (And.intro rfl (And.intro rfl (And.intro rfl (And.intro rfl (And.intro rfl (And.intro rfl (And.intro rfl (trivial)))))))) (fun _ hh => (And.intro (fun q => absurd q c1) (fun _ => (Exists.intro (some (.int v1), s) (And.intro (e_M_isFigure d hz2) (And.intro (fun _ => hh) (fun q => absurd c3 q))))))) (ih x1 x2 x3 x4 x5 (x6 + (1)) s _ h hk0)
      · rw [if_neg c3] at h
        cases hz4 : M_isIn x6 x1 x2 x3 x4 s with
        | none => rw [hz4] at h; cases h
        | some v2 =>
        rw [hz4] at h
        dsimp only at h
        by_cases c5 : v2 = 0
        · rw [if_pos c5] at h
          refine ax_cut (pc' := 55) (la := [some (.ref 63), some (.int x1), some (.int x2), some (.int x3), some (.int x4), some (.int x5), some (.int (x6 + (1)))]) [some (.ref 63), some (.int x1), some (.int x2), some (.int x3), some (.int x4), some (.int x5), some (.int (x6 + (1)))] (st' := []) (σ' := s) 16 (And.intro rfl (And.intro rfl (And.intro rfl (And.intro rfl (And.intro rfl (And.intro rfl (And.intro rfl (trivial)))))))) (fun _ hh => (And.intro (fun q => absurd q c1) (fun _ => (Exists.intro (some (.int v1), s) (And.intro (e_M_isFigure d hz2) (And.intro (fun q => absurd q c3) (fun _ => (Exists.intro (some (.int v2), s) (And.intro (e_M_isIn d hz4) (And.intro (fun _ => hh) (fun q => absurd c5 q))))))))))) ?_
          exact ax_cut (pc' := 6) (la := [some (.ref 63), some (.int x1), some (.int x2), some (.int x3), some (.int x4), some (.int x5), some (.int (x6 + (1)))]) [some (.ref 63), some (.int x1), some (.int x2), some (.int x3), some (.int x4), some (.int x5), some (.int (x6 + (1)))] (st' := []) (σ' := s) 1 (And.intro rfl (And.intro rfl (And.intro rfl (And.intro rfl (And.intro rfl (And.intro rfl (And.intro rfl (trivial)))))))) (fun _ hh => hh) (ih x1 x2 x3 x4 x5 (x6 + (1)) s _ h hk0)
        · rw [if_neg c5] at h
          refine ax_cut (pc' := 38) (la := [some (.ref 63), some (.int x1), some (.int x2), some (.int x3), some (.int x4), some (.int x5), some (.int x6)]) [some (.ref 63), some (.int x1), some (.int x2), some (.int x3), some (.int x4), none, some (.int x6)] (st' := [.int x5]) (σ' := s) 16 (And.intro rfl (And.intro rfl (And.intro rfl (And.intro rfl (And.intro rfl (And.intro rfl (trivial))))))) (fun _ hh => (And.intro (fun q => absurd q c1) (fun _ => (Exists.intro (some (.int v1), s) (And.intro (e_M_isFigure d hz2) (And.intro (fun q => absurd q c3) (fun _ => (Exists.intro (some (.int v2), s) (And.intro (e_M_isIn d hz4) (And.intro (fun q => absurd q c5) (fun _ => hh))))))))))) ?_
          by_cases c6 : (((0 : Int32) + x6) < 0 ∨ 291 ≤ (((0 : Int32) + x6)).toNatClampNeg)
          · rw [if_pos c6] at h; cases h
          · rw [if_neg c6] at h
            exact ax_cut (pc' := 6) (la := [some (.ref 63), some (.int x1), some (.int x2), some (.int x3), some (.int x4), some (.int (x5 ||| ((1 : Int32) <<< ((s.2.1 64 (((0 : Int32) + x6)).toNatClampNeg) &&& 31)))), some (.int (x6 + (1)))]) [some (.ref 63), some (.int x1), some (.int x2), some (.int x3), some (.int x4), some (.int (x5 ||| ((1 : Int32) <<< ((s.2.1 64 (((0 : Int32) + x6)).toNatClampNeg) &&& 31)))), some (.int (x6 + (1)))] (st' := []) (σ' := s) 12 (And.intro rfl (And.intro rfl (And.intro rfl (And.intro rfl (And.intro rfl (And.intro rfl (And.intro rfl (trivial)))))))) (fun _ hh => (And.intro c6 hh)) (ih x1 x2 x3 x4 (x5 ||| ((1 : Int32) <<< ((s.2.1 64 (((0 : Int32) + x6)).toNatClampNeg) &&& 31))) (x6 + (1)) s _ h hk0)
theorem e_M_partlyIn (d : Nat) {x1 : Int32} {x2 : Int32} {x3 : Int32} {x4 : Int32} {s : ax_S} {r : Int32} (h : M_partlyIn x1 x2 x3 x4 s = some r) : ax_ev true (d + 3) 253 [.ref 63, .int x1, .int x2, .int x3, .int x4] s (some (.int r), s) := by
  refine ⟨Nat.le_of_ble_eq_true rfl, ?_⟩
  show ax_go true none (ax_ev true (d + 2)) ax_m253 0 [some (.ref 63), some (.int x1), some (.int x2), some (.int x3), some (.int x4), none, none] [] s _
  unfold M_partlyIn at h
  cases hz1 : M_partlyIn_l6 70000 x1 x2 x3 x4 (0 : Int32) (0 : Int32) s with
  | none => rw [hz1] at h; cases h
  | some z1 =>
  rw [hz1] at h
  refine ax_cut (pc' := 6) (la := [some (.ref 63), some (.int x1), some (.int x2), some (.int x3), some (.int x4), some (.int (0 : Int32)), some (.int (0 : Int32))]) [some (.ref 63), some (.int x1), some (.int x2), some (.int x3), some (.int x4), some (.int (0 : Int32)), some (.int (0 : Int32))] (st' := []) (σ' := s) 4 (And.intro rfl (And.intro rfl (And.intro rfl (And.intro rfl (And.intro rfl (And.intro rfl (And.intro rfl (trivial)))))))) (fun _ hh => hh) (w_M_partlyIn_l6 d 70000 x1 x2 x3 x4 (0 : Int32) (0 : Int32) s _ hz1 ?_)
  · intro v3 hq
    subst z1
    dsimp only at h
    have h := Option.some.inj h
    subst r
    exact ax_end 2 rfl
def M_headless_l6 : Nat → Int32 → Int32 → Int32 → Int32 → Int32 → Int32 → ax_S → Option (Int32)
  | 0, _, _, _, _, _, _, _ => none
  | n + 1, x1, x2, x3, x4, x5, x6, s =>
    if (12 : Int32) ≤ x6 then (
      some x5) else
    match M_isFigure x6 s with
    | none => none
    | some v1 =>
      if v1 = 0 then (
        M_headless_l6 n x1 x2 x3 x4 x5 (x6 + (1)) s) else
      match M_isIn x6 x1 x2 x3 x4 s with
      | none => none
      | some v2 =>
        if v2 = 0 then (
          M_headless_l6 n x1 x2 x3 x4 x5 (x6 + (1)) s) else
        if (((24 : Int32) + x6) < 0 ∨ 291 ≤ (((24 : Int32) + x6)).toNatClampNeg) then none else
        if x2 ≤ (s.2.1 64 (((24 : Int32) + x6)).toNatClampNeg) then (
          M_headless_l6 n x1 x2 x3 x4 x5 (x6 + (1)) s) else
        if (((0 : Int32) + x6) < 0 ∨ 291 ≤ (((0 : Int32) + x6)).toNatClampNeg) then none else
        M_headless_l6 n x1 x2 x3 x4 (x5 ||| ((1 : Int32) <<< ((s.2.1 64 (((0 : Int32) + x6)).toNatClampNeg) &&& 31))) (x6 + (1)) s
def M_headless (x1 : Int32) (x2 : Int32) (x3 : Int32) (x4 : Int32)  (s : ax_S) : Option (Int32) :=
  match M_headless_l6 70000 x1 x2 x3 x4 (0 : Int32) (0 : Int32) s with
  | none => none
  | some v3 =>
    some v3
theorem w_M_headless_l6 (d : Nat) {o : ax_O} : ∀ (n : Nat) (x1 : Int32) (x2 : Int32) (x3 : Int32) (x4 : Int32) (x5 : Int32) (x6 : Int32) (s : ax_S) (r : Int32) (h : M_headless_l6 n x1 x2 x3 x4 x5 x6 s = some r) (hk0 : ∀ (t0 : Int32), r = t0 → ax_go true none (ax_ev true (d + 2)) ax_m254 72 [none, none, none, none, none, some (.int t0), none] [] s o), ax_go true none (ax_ev true (d + 2)) ax_m254 6 [some (.ref 63), some (.int x1), some (.int x2), some (.int x3), some (.int x4), some (.int x5), some (.int x6)] [] s o := by
  intro n
  induction n with
  | zero => intro x1 x2 x3 x4 x5 x6 s r h hk0; cases h
  | succ n ih =>
    intro x1 x2 x3 x4 x5 x6 s r h hk0
    rw [M_headless_l6] at h
    by_cases c1 : (12 : Int32) ≤ x6
    · rw [if_pos c1] at h
      have h := Option.some.inj h
      subst r
      exact ax_cut (pc' := 72) (la := [some (.ref 63), some (.int x1), some (.int x2), some (.int x3), some (.int x4), some (.int x5), some (.int x6)]) [none, none, none, none, none, some (.int x5), none] (st' := []) (σ' := s) 3 (And.intro rfl (trivial)) (fun _ hh => (And.intro (fun _ => hh) (fun q => absurd c1 q))) (hk0 _ rfl)
    · rw [if_neg c1] at h
      cases hz2 : M_isFigure x6 s with
      | none => rw [hz2] at h; cases h
      | some v1 =>
      rw [hz2] at h
      dsimp only at h
      by_cases c3 : v1 = 0
      · rw [if_pos c3] at h
        exact ax_cut (pc' := 6) (la := [some (.ref 63), some (.int x1), some (.int x2), some (.int x3), some (.int x4), some (.int x5), some (.int (x6 + (1)))]) [some (.ref 63), some (.int x1), some (.int x2), some (.int x3), some (.int x4), some (.int x5), some (.int (x6 + (1)))] (st' := []) (σ' := s) 9 (And.intro rfl (And.intro rfl (And.intro rfl (And.intro rfl (And.intro rfl (And.intro rfl (And.intro rfl (trivial)))))))) (fun _ hh => (And.intro (fun q => absurd q c1) (fun _ => (Exists.intro (some (.int v1), s) (And.intro (e_M_isFigure d hz2) (And.intro (fun _ => hh) (fun q => absurd c3 q))))))) (ih x1 x2 x3 x4 x5 (x6 + (1)) s _ h hk0)
      · rw [if_neg c3] at h
        cases hz4 : M_isIn x6 x1 x2 x3 x4 s with
        | none => rw [hz4] at h; cases h
        | some v2 =>
        rw [hz4] at h
        dsimp only at h
        by_cases c5 : v2 = 0
        · rw [if_pos c5] at h
          refine ax_cut (pc' := 69) (la := [some (.ref 63), some (.int x1), some (.int x2), some (.int x3), some (.int x4), some (.int x5), some (.int (x6 + (1)))]) [some (.ref 63), some (.int x1), some (.int x2), some (.int x3), some (.int x4), some (.int x5), some (.int (x6 + (1)))] (st' := []) (σ' := s) 16 (And.intro rfl (And.intro rfl (And.intro rfl (And.intro rfl (And.intro rfl (And.intro rfl (And.intro rfl (trivial)))))))) (fun _ hh => (And.intro (fun q => absurd q c1) (fun _ => (Exists.intro (some (.int v1), s) (And.intro (e_M_isFigure d hz2) (And.intro (fun q => absurd q c3) (fun _ => (Exists.intro (some (.int v2), s) (And.intro (e_M_isIn d hz4) (And.intro (fun _ => hh) (fun q => absurd c5 q))))))))))) ?_
          exact ax_cut (pc' := 6) (la := [some (.ref 63), some (.int x1), some (.int x2), some (.int x3), some (.int x4), some (.int x5), some (.int (x6 + (1)))]) [some (.ref 63), some (.int x1), some (.int x2), some (.int x3), some (.int x4), some (.int x5), some (.int (x6 + (1)))] (st' := []) (σ' := s) 1 (And.intro rfl (And.intro rfl (And.intro rfl (And.intro rfl (And.intro rfl (And.intro rfl (And.intro rfl (trivial)))))))) (fun _ hh => hh) (ih x1 x2 x3 x4 x5 (x6 + (1)) s _ h hk0)
        · rw [if_neg c5] at h
          refine ax_cut (pc' := 37) (la := [some (.ref 63), some (.int x1), some (.int x2), some (.int x3), some (.int x4), some (.int x5), some (.int x6)]) [some (.ref 63), some (.int x1), some (.int x2), some (.int x3), some (.int x4), some (.int x5), some (.int x6)] (st' := [.ref 63]) (σ' := s) 16 (And.intro rfl (And.intro rfl (And.intro rfl (And.intro rfl (And.intro rfl (And.intro rfl (And.intro rfl (trivial)))))))) (fun _ hh => (And.intro (fun q => absurd q c1) (fun _ => (Exists.intro (some (.int v1), s) (And.intro (e_M_isFigure d hz2) (And.intro (fun q => absurd q c3) (fun _ => (Exists.intro (some (.int v2), s) (And.intro (e_M_isIn d hz4) (And.intro (fun q => absurd q c5) (fun _ => hh))))))))))) ?_
          by_cases c6 : (((24 : Int32) + x6) < 0 ∨ 291 ≤ (((24 : Int32) + x6)).toNatClampNeg)
          · rw [if_pos c6] at h; cases h
          · rw [if_neg c6] at h
            by_cases c7 : x2 ≤ (s.2.1 64 (((24 : Int32) + x6)).toNatClampNeg)
            · rw [if_pos c7] at h
              exact ax_cut (pc' := 6) (la := [some (.ref 63), some (.int x1), some (.int x2), some (.int x3), some (.int x4), some (.int x5), some (.int (x6 + (1)))]) [some (.ref 63), some (.int x1), some (.int x2), some (.int x3), some (.int x4), some (.int x5), some (.int (x6 + (1)))] (st' := []) (σ' := s) 9 (And.intro rfl (And.intro rfl (And.intro rfl (And.intro rfl (And.intro rfl (And.intro rfl (And.intro rfl (trivial)))))))) (fun _ hh => (And.intro c6 (And.intro (fun _ => hh) (fun q => absurd c7 q)))) (ih x1 x2 x3 x4 x5 (x6 + (1)) s _ h hk0)
            · rw [if_neg c7] at h
              by_cases c8 : (((0 : Int32) + x6) < 0 ∨ 291 ≤ (((0 : Int32) + x6)).toNatClampNeg)
              · rw [if_pos c8] at h; cases h
              · rw [if_neg c8] at h
                refine ax_cut (pc' := 63) (la := [some (.ref 63), some (.int x1), some (.int x2), some (.int x3), some (.int x4), some (.int x5), some (.int x6)]) [some (.ref 63), some (.int x1), some (.int x2), some (.int x3), some (.int x4), none, some (.int x6)] (st' := [.int ((1 : Int32) <<< ((s.2.1 64 (((0 : Int32) + x6)).toNatClampNeg) &&& 31)), .int x5]) (σ' := s) 16 (And.intro rfl (And.intro rfl (And.intro rfl (And.intro rfl (And.intro rfl (And.intro rfl (trivial))))))) (fun _ hh => (And.intro c6 (And.intro (fun q => absurd q c7) (fun _ => (And.intro c8 hh))))) ?_
                exact ax_cut (pc' := 6) (la := [some (.ref 63), some (.int x1), some (.int x2), some (.int x3), some (.int x4), some (.int (x5 ||| ((1 : Int32) <<< ((s.2.1 64 (((0 : Int32) + x6)).toNatClampNeg) &&& 31)))), some (.int (x6 + (1)))]) [some (.ref 63), some (.int x1), some (.int x2), some (.int x3), some (.int x4), some (.int (x5 ||| ((1 : Int32) <<< ((s.2.1 64 (((0 : Int32) + x6)).toNatClampNeg) &&& 31)))), some (.int (x6 + (1)))] (st' := []) (σ' := s) 4 (And.intro rfl (And.intro rfl (And.intro rfl (And.intro rfl (And.intro rfl (And.intro rfl (And.intro rfl (trivial)))))))) (fun _ hh => hh) (ih x1 x2 x3 x4 (x5 ||| ((1 : Int32) <<< ((s.2.1 64 (((0 : Int32) + x6)).toNatClampNeg) &&& 31))) (x6 + (1)) s _ h hk0)
theorem e_M_headless (d : Nat) {x1 : Int32} {x2 : Int32} {x3 : Int32} {x4 : Int32} {s : ax_S} {r : Int32} (h : M_headless x1 x2 x3 x4 s = some r) : ax_ev true (d + 3) 254 [.ref 63, .int x1, .int x2, .int x3, .int x4] s (some (.int r), s) := by
  refine ⟨Nat.le_of_ble_eq_true rfl, ?_⟩
  show ax_go true none (ax_ev true (d + 2)) ax_m254 0 [some (.ref 63), some (.int x1), some (.int x2), some (.int x3), some (.int x4), none, none] [] s _
  unfold M_headless at h
  cases hz1 : M_headless_l6 70000 x1 x2 x3 x4 (0 : Int32) (0 : Int32) s with
  | none => rw [hz1] at h; cases h
  | some z1 =>
  rw [hz1] at h
  refine ax_cut (pc' := 6) (la := [some (.ref 63), some (.int x1), some (.int x2), some (.int x3), some (.int x4), some (.int (0 : Int32)), some (.int (0 : Int32))]) [some (.ref 63), some (.int x1), some (.int x2), some (.int x3), some (.int x4), some (.int (0 : Int32)), some (.int (0 : Int32))] (st' := []) (σ' := s) 4 (And.intro rfl (And.intro rfl (And.intro rfl (And.intro rfl (And.intro rfl (And.intro rfl (And.intro rfl (trivial)))))))) (fun _ hh => hh) (w_M_headless_l6 d 70000 x1 x2 x3 x4 (0 : Int32) (0 : Int32) s _ hz1 ?_)
  · intro v3 hq
    subst z1
    dsimp only at h
    have h := Option.some.inj h
    subst r
    exact ax_end 2 rfl
def M_shows_j149 (x1 : Int32) (x2 : Int32) (x3 : Int32) (x4 : Int32) (y0 : Int32)  (s : ax_S) : Int32 :=
  if y0 ≤ 0 then (
    (0 : Int32)) else
  (1 : Int32)
def M_shows_j158 (x1 : Int32) (x2 : Int32) (x3 : Int32) (x4 : Int32) (y0 : Int32) (y1 : Int32)  (s : ax_S) : Int32 :=
  if y1 ≤ 0 then (
    (0 : Int32)) else
  (1 : Int32)
def M_shows_j172 (x2 : Int32) (x4 : Int32) (y0 : Int32) (y1 : Int32)  (s : ax_S) : Int32 :=
  if (16 : Int32) ≤ y1 then (
    (0 : Int32)) else
  (1 : Int32)
def M_shows (x1 : Int32) (x2 : Int32) (x3 : Int32) (x4 : Int32) (x5 : Int32)  (s : ax_S) : Option (Int32) :=
  if (M_in x1 (0 : Int32) (15 : Int32) s) = 0 then (
    some (-1 : Int32)) else
  if (M_in x2 (0 : Int32) (11 : Int32) s) = 0 then (
    some (-1 : Int32)) else
  if (M_in x3 (1 : Int32) ((16 : Int32) - x1) s) = 0 then (
    some (-1 : Int32)) else
  if (M_in x4 (1 : Int32) ((12 : Int32) - x2) s) = 0 then (
    some (-1 : Int32)) else
  match M_wholeIn x1 x2 x3 x4 s with
  | none => none
  | some v1 =>
    match M_partlyIn x1 x2 x3 x4 s with
    | none => none
    | some v2 =>
      if x5 = (0) then (
        some v1) else
      if x5 = (1) then (
        some (v2 &&& (v1 ^^^ (-1 : Int32)))) else
      if x5 = (2) then (
        match M_headless x1 x2 x3 x4 s with
        | none => none
        | some v3 =>
          some v3) else
      if x5 = (3) then (
        match M_partlyIn (x1 - (1 : Int32)) (x2 - (1 : Int32)) (x3 + (2 : Int32)) (x4 + (2 : Int32)) s with
        | none => none
        | some v4 =>
          some (v4 &&& (v2 ^^^ (-1 : Int32)))) else
      if x5 = (4) then (
        if (12 : Int32) ≤ (x2 + x4) then (
          some ((((M_shows_j149 x1 x2 x3 x4 x1 s) + (M_shows_j158 x1 x2 x3 x4 (M_shows_j149 x1 x2 x3 x4 x1 s) x2 s)) + (M_shows_j172 x2 x4 ((M_shows_j149 x1 x2 x3 x4 x1 s) + (M_shows_j158 x1 x2 x3 x4 (M_shows_j149 x1 x2 x3 x4 x1 s) x2 s)) (x1 + x3) s)) + (0 : Int32))) else
        some ((((M_shows_j149 x1 x2 x3 x4 x1 s) + (M_shows_j158 x1 x2 x3 x4 (M_shows_j149 x1 x2 x3 x4 x1 s) x2 s)) + (M_shows_j172 x2 x4 ((M_shows_j149 x1 x2 x3 x4 x1 s) + (M_shows_j158 x1 x2 x3 x4 (M_shows_j149 x1 x2 x3 x4 x1 s) x2 s)) (x1 + x3) s)) + (1 : Int32))) else
      some (-1 : Int32)
theorem w_M_shows_j149 (d : Nat) {o : ax_O} (x1 : Int32) (x2 : Int32) (x3 : Int32) (x4 : Int32) (y0 : Int32) (s : ax_S) (r : Int32) (h : M_shows_j149 x1 x2 x3 x4 y0 s = r) (hk0 : ∀ (t0 : Int32), r = t0 → ax_go true none (ax_ev true (d + 3)) ax_m252 157 [none, some (.int x1), some (.int x2), some (.int x3), some (.int x4), none, none, none] [.int t0] s o) : ax_go true none (ax_ev true (d + 3)) ax_m252 149 [none, some (.int x1), some (.int x2), some (.int x3), some (.int x4), none, none, none] [.int y0] s o := by
  unfold M_shows_j149 at h
  by_cases c1 : y0 ≤ 0
  · rw [if_pos c1] at h
    have h := h
    subst r
    exact ax_cut (pc' := 157) (la := [none, some (.int x1), some (.int x2), some (.int x3), some (.int x4), none, none, none]) [none, some (.int x1), some (.int x2), some (.int x3), some (.int x4), none, none, none] (st' := [.int (0 : Int32)]) (σ' := s) 2 (And.intro rfl (And.intro rfl (And.intro rfl (And.intro rfl (trivial))))) (fun _ hh => (And.intro (fun _ => hh) (fun q => absurd c1 q))) (hk0 _ rfl)
  · rw [if_neg c1] at h
    have h := h
    subst r
    exact ax_cut (pc' := 157) (la := [none, some (.int x1), some (.int x2), some (.int x3), some (.int x4), none, none, none]) [none, some (.int x1), some (.int x2), some (.int x3), some (.int x4), none, none, none] (st' := [.int (1 : Int32)]) (σ' := s) 3 (And.intro rfl (And.intro rfl (And.intro rfl (And.intro rfl (trivial))))) (fun _ hh => (And.intro (fun q => absurd q c1) (fun _ => hh))) (hk0 _ rfl)
theorem w_M_shows_j158 (d : Nat) {o : ax_O} (x1 : Int32) (x2 : Int32) (x3 : Int32) (x4 : Int32) (y0 : Int32) (y1 : Int32) (s : ax_S) (r : Int32) (h : M_shows_j158 x1 x2 x3 x4 y0 y1 s = r) (hk0 : ∀ (t0 : Int32), r = t0 → ax_go true none (ax_ev true (d + 3)) ax_m252 166 [none, some (.int x1), some (.int x2), some (.int x3), some (.int x4), none, none, none] [.int t0, .int y0] s o) : ax_go true none (ax_ev true (d + 3)) ax_m252 158 [none, some (.int x1), some (.int x2), some (.int x3), some (.int x4), none, none, none] [.int y1, .int y0] s o := by
  unfold M_shows_j158 at h
  by_cases c1 : y1 ≤ 0
  · rw [if_pos c1] at h
    have h := h
    subst r
    exact ax_cut (pc' := 166) (la := [none, some (.int x1), some (.int x2), some (.int x3), some (.int x4), none, none, none]) [none, some (.int x1), some (.int x2), some (.int x3), some (.int x4), none, none, none] (st' := [.int (0 : Int32), .int y0]) (σ' := s) 2 (And.intro rfl (And.intro rfl (And.intro rfl (And.intro rfl (trivial))))) (fun _ hh => (And.intro (fun _ => hh) (fun q => absurd c1 q))) (hk0 _ rfl)
  · rw [if_neg c1] at h
    have h := h
    subst r
    exact ax_cut (pc' := 166) (la := [none, some (.int x1), some (.int x2), some (.int x3), some (.int x4), none, none, none]) [none, some (.int x1), some (.int x2), some (.int x3), some (.int x4), none, none, none] (st' := [.int (1 : Int32), .int y0]) (σ' := s) 3 (And.intro rfl (And.intro rfl (And.intro rfl (And.intro rfl (trivial))))) (fun _ hh => (And.intro (fun q => absurd q c1) (fun _ => hh))) (hk0 _ rfl)
theorem w_M_shows_j172 (d : Nat) {o : ax_O} (x2 : Int32) (x4 : Int32) (y0 : Int32) (y1 : Int32) (s : ax_S) (r : Int32) (h : M_shows_j172 x2 x4 y0 y1 s = r) (hk0 : ∀ (t0 : Int32), r = t0 → ax_go true none (ax_ev true (d + 3)) ax_m252 180 [none, none, some (.int x2), none, some (.int x4), none, none, none] [.int t0, .int y0] s o) : ax_go true none (ax_ev true (d + 3)) ax_m252 172 [none, none, some (.int x2), none, some (.int x4), none, none, none] [.int (16 : Int32), .int y1, .int y0] s o := by
  unfold M_shows_j172 at h
  by_cases c1 : (16 : Int32) ≤ y1
  · rw [if_pos c1] at h
    have h := h
    subst r
    exact ax_cut (pc' := 180) (la := [none, none, some (.int x2), none, some (.int x4), none, none, none]) [none, none, some (.int x2), none, some (.int x4), none, none, none] (st' := [.int (0 : Int32), .int y0]) (σ' := s) 2 (And.intro rfl (And.intro rfl (trivial))) (fun _ hh => (And.intro (fun _ => hh) (fun q => absurd c1 q))) (hk0 _ rfl)
  · rw [if_neg c1] at h
    have h := h
    subst r
    exact ax_cut (pc' := 180) (la := [none, none, some (.int x2), none, some (.int x4), none, none, none]) [none, none, some (.int x2), none, some (.int x4), none, none, none] (st' := [.int (1 : Int32), .int y0]) (σ' := s) 3 (And.intro rfl (And.intro rfl (trivial))) (fun _ hh => (And.intro (fun q => absurd q c1) (fun _ => hh))) (hk0 _ rfl)
theorem e_M_shows (d : Nat) {x1 : Int32} {x2 : Int32} {x3 : Int32} {x4 : Int32} {x5 : Int32} {s : ax_S} {r : Int32} (h : M_shows x1 x2 x3 x4 x5 s = some r) : ax_ev true (d + 4) 252 [.ref 63, .int x1, .int x2, .int x3, .int x4, .int x5] s (some (.int r), s) := by
  refine ⟨Nat.le_of_ble_eq_true rfl, ?_⟩
  show ax_go true none (ax_ev true (d + 3)) ax_m252 0 [some (.ref 63), some (.int x1), some (.int x2), some (.int x3), some (.int x4), some (.int x5), none, none] [] s _
  unfold M_shows at h
  by_cases c1 : (M_in x1 (0 : Int32) (15 : Int32) s) = 0
  · rw [if_pos c1] at h
    have h := Option.some.inj h
    subst r
    exact ax_end 7 (Exists.intro (some (.int (M_in x1 (0 : Int32) (15 : Int32) s)), s) (And.intro (e_M_in (d + 2) x1 (0 : Int32) (15 : Int32) s) (And.intro (fun _ => rfl) (fun q => absurd c1 q))))
  · rw [if_neg c1] at h
    by_cases c2 : (M_in x2 (0 : Int32) (11 : Int32) s) = 0
    · rw [if_pos c2] at h
      have h := Option.some.inj h
      subst r
      exact ax_end 12 (Exists.intro (some (.int (M_in x1 (0 : Int32) (15 : Int32) s)), s) (And.intro (e_M_in (d + 2) x1 (0 : Int32) (15 : Int32) s) (And.intro (fun q => absurd q c1) (fun _ => (Exists.intro (some (.int (M_in x2 (0 : Int32) (11 : Int32) s)), s) (And.intro (e_M_in (d + 2) x2 (0 : Int32) (11 : Int32) s) (And.intro (fun _ => rfl) (fun q => absurd c2 q))))))))
    · rw [if_neg c2] at h
      refine ax_cut (pc' := 29) (la := [some (.ref 63), some (.int x1), some (.int x2), some (.int x3), some (.int x4), some (.int x5), none, none]) [some (.ref 63), some (.int x1), some (.int x2), some (.int x3), some (.int x4), some (.int x5), none, none] (st' := [.int (M_in x3 (1 : Int32) ((16 : Int32) - x1) s)]) (σ' := s) 16 (And.intro rfl (And.intro rfl (And.intro rfl (And.intro rfl (And.intro rfl (And.intro rfl (trivial))))))) (fun _ hh => (Exists.intro (some (.int (M_in x1 (0 : Int32) (15 : Int32) s)), s) (And.intro (e_M_in (d + 2) x1 (0 : Int32) (15 : Int32) s) (And.intro (fun q => absurd q c1) (fun _ => (Exists.intro (some (.int (M_in x2 (0 : Int32) (11 : Int32) s)), s) (And.intro (e_M_in (d + 2) x2 (0 : Int32) (11 : Int32) s) (And.intro (fun q => absurd q c2) (fun _ => (Exists.intro (some (.int (M_in x3 (1 : Int32) ((16 : Int32) - x1) s)), s) (And.intro (e_M_in (d + 2) x3 (1 : Int32) ((16 : Int32) - x1) s) hh))))))))))) ?_
      by_cases c3 : (M_in x3 (1 : Int32) ((16 : Int32) - x1) s) = 0
      · rw [if_pos c3] at h
        have h := Option.some.inj h
        subst r
        exact ax_end 3 (And.intro (fun _ => rfl) (fun q => absurd c3 q))
      · rw [if_neg c3] at h
        by_cases c4 : (M_in x4 (1 : Int32) ((12 : Int32) - x2) s) = 0
        · rw [if_pos c4] at h
          have h := Option.some.inj h
          subst r
          exact ax_end 10 (And.intro (fun q => absurd q c3) (fun _ => (Exists.intro (some (.int (M_in x4 (1 : Int32) ((12 : Int32) - x2) s)), s) (And.intro (e_M_in (d + 2) x4 (1 : Int32) ((12 : Int32) - x2) s) (And.intro (fun q => absurd c4 q) (fun _ => rfl))))))
        · rw [if_neg c4] at h
          cases hz5 : M_wholeIn x1 x2 x3 x4 s with
          | none => rw [hz5] at h; cases h
          | some v1 =>
          rw [hz5] at h
          dsimp only at h
          refine ax_cut (pc' := 59) (la := [some (.ref 63), some (.int x1), some (.int x2), some (.int x3), some (.int x4), some (.int x5), some (.int v1), none]) [some (.ref 63), some (.int x1), some (.int x2), some (.int x3), some (.int x4), some (.int x5), some (.int v1), none] (st' := [.ref 63]) (σ' := s) 16 (And.intro rfl (And.intro rfl (And.intro rfl (And.intro rfl (And.intro rfl (And.intro rfl (And.intro rfl (trivial)))))))) (fun _ hh => (And.intro (fun q => absurd q c3) (fun _ => (Exists.intro (some (.int (M_in x4 (1 : Int32) ((12 : Int32) - x2) s)), s) (And.intro (e_M_in (d + 2) x4 (1 : Int32) ((12 : Int32) - x2) s) (And.intro (fun _ => (Exists.intro (some (.int v1), s) (And.intro (e_M_wholeIn d hz5) hh))) (fun q => absurd c4 q))))))) ?_
          cases hz6 : M_partlyIn x1 x2 x3 x4 s with
          | none => rw [hz6] at h; cases h
          | some v2 =>
          rw [hz6] at h
          dsimp only at h
          by_cases c7_0 : x5 = (0)
          · rw [if_pos c7_0] at h
            have h := Option.some.inj h
            subst r
            exact ax_end 10 (Exists.intro (some (.int v2), s) (And.intro (e_M_partlyIn d hz6) (ax_tabT (lo := 0) (hg := 4) (j0 := 0) (congrArg Int32.toInt c7_0) (by rw [c7_0]; decide) rfl)))
          rw [if_neg c7_0] at h
          by_cases c7_1 : x5 = (1)
          · rw [if_pos c7_1] at h
            have h := Option.some.inj h
            subst r
            exact ax_end 14 (Exists.intro (some (.int v2), s) (And.intro (e_M_partlyIn d hz6) (ax_tabT (lo := 0) (hg := 4) (j0 := 1) (congrArg Int32.toInt c7_1) (by rw [c7_1]; decide) rfl)))
          rw [if_neg c7_1] at h
          by_cases c7_2 : x5 = (2)
          · rw [if_pos c7_2] at h
            cases hz8 : M_headless x1 x2 x3 x4 s with
            | none => rw [hz8] at h; cases h
            | some v3 =>
            rw [hz8] at h
            dsimp only at h
            have h := Option.some.inj h
            subst r
            exact ax_end 15 (Exists.intro (some (.int v2), s) (And.intro (e_M_partlyIn d hz6) (ax_tabT (lo := 0) (hg := 4) (j0 := 2) (congrArg Int32.toInt c7_2) (by rw [c7_2]; decide) (Exists.intro (some (.int v3), s) (And.intro (e_M_headless d hz8) rfl)))))
          rw [if_neg c7_2] at h
          by_cases c7_3 : x5 = (3)
          · rw [if_pos c7_3] at h
            refine ax_cut (pc' := 133) (la := [some (.ref 63), some (.int x1), some (.int x2), some (.int x3), some (.int x4), some (.int x5), some (.int v1), some (.int v2)]) [none, none, none, none, some (.int x4), none, none, some (.int v2)] (st' := [.int x3, .int (x2 - (1 : Int32)), .int (x1 - (1 : Int32)), .ref 63]) (σ' := s) 16 (And.intro rfl (And.intro rfl (trivial))) (fun _ hh => (Exists.intro (some (.int v2), s) (And.intro (e_M_partlyIn d hz6) (ax_tabT (lo := 0) (hg := 4) (j0 := 3) (congrArg Int32.toInt c7_3) (by rw [c7_3]; decide) hh)))) ?_
            cases hz9 : M_partlyIn (x1 - (1 : Int32)) (x2 - (1 : Int32)) (x3 + (2 : Int32)) (x4 + (2 : Int32)) s with
            | none => rw [hz9] at h; cases h
            | some v4 =>
            rw [hz9] at h
            dsimp only at h
            have h := Option.some.inj h
            subst r
            exact ax_end 11 (Exists.intro (some (.int v4), s) (And.intro (e_M_partlyIn d hz9) rfl))
          rw [if_neg c7_3] at h
          by_cases c7_4 : x5 = (4)
          · rw [if_pos c7_4] at h
            refine ax_cut (pc' := 149) (la := [some (.ref 63), some (.int x1), some (.int x2), some (.int x3), some (.int x4), some (.int x5), some (.int v1), some (.int v2)]) [none, some (.int x1), some (.int x2), some (.int x3), some (.int x4), none, none, none] (st' := [.int x1]) (σ' := s) 9 (And.intro rfl (And.intro rfl (And.intro rfl (And.intro rfl (trivial))))) (fun _ hh => (Exists.intro (some (.int v2), s) (And.intro (e_M_partlyIn d hz6) (ax_tabT (lo := 0) (hg := 4) (j0 := 4) (congrArg Int32.toInt c7_4) (by rw [c7_4]; decide) hh)))) (w_M_shows_j149 d x1 x2 x3 x4 x1 s _ rfl (fun v5 hq => ?_))
            obtain rfl : v5 = (M_shows_j149 x1 x2 x3 x4 x1 s) := hq.symm
            refine ax_cut (pc' := 158) (la := [none, some (.int x1), some (.int x2), some (.int x3), some (.int x4), none, none, none]) [none, some (.int x1), some (.int x2), some (.int x3), some (.int x4), none, none, none] (st' := [.int x2, .int (M_shows_j149 x1 x2 x3 x4 x1 s)]) (σ' := s) 1 (And.intro rfl (And.intro rfl (And.intro rfl (And.intro rfl (trivial))))) (fun _ hh => hh) (w_M_shows_j158 d x1 x2 x3 x4 (M_shows_j149 x1 x2 x3 x4 x1 s) x2 s _ rfl (fun v6 hq => ?_))
            obtain rfl : v6 = (M_shows_j158 x1 x2 x3 x4 (M_shows_j149 x1 x2 x3 x4 x1 s) x2 s) := hq.symm
            refine ax_cut (pc' := 172) (la := [none, some (.int x1), some (.int x2), some (.int x3), some (.int x4), none, none, none]) [none, none, some (.int x2), none, some (.int x4), none, none, none] (st' := [.int (16 : Int32), .int (x1 + x3), .int ((M_shows_j149 x1 x2 x3 x4 x1 s) + (M_shows_j158 x1 x2 x3 x4 (M_shows_j149 x1 x2 x3 x4 x1 s) x2 s))]) (σ' := s) 5 (And.intro rfl (And.intro rfl (trivial))) (fun _ hh => hh) (w_M_shows_j172 d x2 x4 ((M_shows_j149 x1 x2 x3 x4 x1 s) + (M_shows_j158 x1 x2 x3 x4 (M_shows_j149 x1 x2 x3 x4 x1 s) x2 s)) (x1 + x3) s _ rfl (fun v7 hq => ?_))
            obtain rfl : v7 = (M_shows_j172 x2 x4 ((M_shows_j149 x1 x2 x3 x4 x1 s) + (M_shows_j158 x1 x2 x3 x4 (M_shows_j149 x1 x2 x3 x4 x1 s) x2 s)) (x1 + x3) s) := hq.symm
            by_cases c10 : (12 : Int32) ≤ (x2 + x4)
            · rw [if_pos c10] at h
              have h := Option.some.inj h
              subst r
              exact ax_end 9 (And.intro (fun _ => rfl) (fun q => absurd c10 q))
            · rw [if_neg c10] at h
              have h := Option.some.inj h
              subst r
              exact ax_end 10 (And.intro (fun q => absurd q c10) (fun _ => rfl))
          rw [if_neg c7_4] at h
          have c7_r : (x5).toInt < 0 ∨ 4 < (x5).toInt := by
            have := ax_ne_toInt c7_0
            have := ax_ne_toInt c7_1
            have := ax_ne_toInt c7_2
            have := ax_ne_toInt c7_3
            have := ax_ne_toInt c7_4
            simp only [show ∀ y : Int32, y.toInt = y.toInt from fun _ => rfl, show ((0) : Int32).toInt = 0 by decide, show ((1) : Int32).toInt = 1 by decide, show ((2) : Int32).toInt = 2 by decide, show ((3) : Int32).toInt = 3 by decide, show ((4) : Int32).toInt = 4 by decide] at *
            omega
          have h := Option.some.inj h
          subst r
          exact ax_end 10 (Exists.intro (some (.int v2), s) (And.intro (e_M_partlyIn d hz6) (ax_tabF (lo := 0) (hg := 4) rfl c7_r rfl)))
