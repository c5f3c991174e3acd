def XSt_tallied_3 (x1 : Int32)  (s : ax_S) : Int32 :=
  if x1 = (0) then (
    (s.2.1 3 7)) else
  if x1 = (1) then (
    (s.2.1 3 8)) else
  if x1 = (2) then (
    (s.2.1 3 9)) else
  (s.2.1 3 10)
theorem e_XSt_tallied_3 (d : Nat) (x1 : Int32) (s : ax_S) : ax_ev true (d + 1) 109 [.ref 3, .int x1] s (some (.int (XSt_tallied_3 x1 s)), s) := by
  refine ⟨Nat.le_of_ble_eq_true rfl, ?_⟩
  generalize h : XSt_tallied_3 x1 s = r
  show ax_go true none (ax_ev true (d + 0)) ax_m109 0 [some (.ref 3), some (.int x1)] [] s _
  unfold XSt_tallied_3 at h
  by_cases c1_0 : x1 = (0)
  · rw [if_pos c1_0] at h
    have h := h
    subst r
    exact ax_end 5 (ax_tabT (lo := 0) (hg := 2) (j0 := 0) (congrArg Int32.toInt c1_0) (by rw [c1_0]; decide) rfl)
  rw [if_neg c1_0] at h
  by_cases c1_1 : x1 = (1)
  · rw [if_pos c1_1] at h
    have h := h
    subst r
    exact ax_end 5 (ax_tabT (lo := 0) (hg := 2) (j0 := 1) (congrArg Int32.toInt c1_1) (by rw [c1_1]; decide) rfl)
  rw [if_neg c1_1] at h
  by_cases c1_2 : x1 = (2)
  · rw [if_pos c1_2] at h
    have h := h
    subst r
    exact ax_end 5 (ax_tabT (lo := 0) (hg := 2) (j0 := 2) (congrArg Int32.toInt c1_2) (by rw [c1_2]; decide) rfl)
  rw [if_neg c1_2] at h
  have c1_r : (x1).toInt < 0 ∨ 2 < (x1).toInt := by
    have := ax_ne_toInt c1_0
    have := ax_ne_toInt c1_1
    have := ax_ne_toInt c1_2
    simp only [show ∀ y : Int32, y.toInt = y.toInt from fun _ => rfl, show ((0) : Int32).toInt = 0 by decide, show ((1) : Int32).toInt = 1 by decide, show ((2) : Int32).toInt = 2 by decide] at *
    omega
  have h := h
  subst r
  exact ax_end 5 (ax_tabF (lo := 0) (hg := 2) rfl c1_r rfl)
def X_days (x1 : Int32)  (s : ax_S) : Option (Int32 × ax_S) :=
  if (X_isWithin x1 (1 : Int32) (30 : Int32) s) = 0 then (
    some ((-1 : Int32), s)) else
  match XSt_live_3_36 x1 (s.2.1 0 12) s with
  | none => none
  | some s1 =>
    some ((XSt_tallied_3 (0 : Int32) s1), s1)
theorem e_X_days (d : Nat) {x1 : Int32} {s : ax_S} {r : Int32 × ax_S} (h : X_days x1 s = some r) : ax_ev true (d + 7) 77 [.ref 0, .int x1] s (some (.int r.1), r.2) := by
  refine ⟨Nat.le_of_ble_eq_true rfl, ?_⟩
  show ax_go true none (ax_ev true (d + 6)) ax_m77 0 [some (.ref 0), some (.int x1)] [] s _
  unfold X_days at h
  by_cases c1 : (X_isWithin x1 (1 : Int32) (30 : Int32) s) = 0
  · rw [if_pos c1] at h
    have h := Option.some.inj h
    subst r
    exact ax_end 7 (Exists.intro (some (.int (X_isWithin x1 (1 : Int32) (30 : Int32) s)), s) (And.intro (e_X_isWithin (d + 5) x1 (1 : Int32) (30 : Int32) s) (And.intro (fun q => absurd c1 q) (fun _ => rfl))))
  · rw [if_neg c1] at h
    cases hz2 : XSt_live_3_36 x1 (s.2.1 0 12) s with
    | none => rw [hz2] at h; cases h
    | some s1 =>
    rw [hz2] at h
    dsimp only at h
    refine ax_cut (pc' := 33) (la := [some (.ref 0), some (.int x1)]) [none, none] (st' := [.ref 0]) (σ' := s1) 16 (trivial) (fun _ hh => (Exists.intro (some (.int (X_isWithin x1 (1 : Int32) (30 : Int32) s)), s) (And.intro (e_X_isWithin (d + 5) x1 (1 : Int32) (30 : Int32) s) (And.intro (fun _ => (Exists.intro (none, s1) (And.intro (e_XSt_live_3_36 d hz2) hh))) (fun q => absurd c1 q))))) ?_
    have h := Option.some.inj h
    subst r
    exact ax_end 4 (Exists.intro (some (.int (XSt_tallied_3 (0 : Int32) s1)), s1) (And.intro (e_XSt_tallied_3 (d + 5) (0 : Int32) s1) rfl))
def M_figuresOf_l4 : Nat → Int32 → Int32 → Int32 → ax_S → Option (Int32)
  | 0, _, _, _, _ => none
  | n + 1, x1, x2, x3, s =>
    if (12 : Int32) ≤ x3 then (
      some x2) else
    if (((0 : Int32) + x3) < 0 ∨ 291 ≤ (((0 : Int32) + x3)).toNatClampNeg) then none else
    if (s.2.1 64 (((0 : Int32) + x3)).toNatClampNeg) = x1 then (
      M_figuresOf_l4 n x1 (x2 + (1 : Int32)) (x3 + (1)) s) else
    M_figuresOf_l4 n x1 x2 (x3 + (1)) s
def M_figuresOf (x1 : Int32)  (s : ax_S) : Option (Int32) :=
  match M_figuresOf_l4 70000 x1 (0 : Int32) (0 : Int32) s with
  | none => none
  | some v1 =>
    some v1
theorem w_M_figuresOf_l4 (d : Nat) {o : ax_O} : ∀ (n : Nat) (x1 : Int32) (x2 : Int32) (x3 : Int32) (s : ax_S) (r : Int32) (h : M_figuresOf_l4 n x1 x2 x3 s = some r) (hk0 : ∀ (t0 : Int32), r = t0 → ax_go true none (ax_ev true (d + 0)) ax_m223 32 [none, none, some (.int t0), none] [] s o), ax_go true none (ax_ev true (d + 0)) ax_m223 4 [some (.ref 63), some (.int x1), some (.int x2), some (.int x3)] [] s o := by
  intro n
  induction n with
  | zero => intro x1 x2 x3 s r h hk0; cases h
  | succ n ih =>
    intro x1 x2 x3 s r h hk0
    rw [M_figuresOf_l4] at h
    by_cases c1 : (12 : Int32) ≤ x3
    · rw [if_pos c1] at h
      have h := Option.some.inj h
      subst r
      exact ax_cut (pc' := 32) (la := [some (.ref 63), some (.int x1), some (.int x2), some (.int x3)]) [none, none, some (.int x2), none] (st' := []) (σ' := s) 3 (And.intro rfl (trivial)) (fun _ hh => (And.intro (fun _ => hh) (fun q => absurd c1 q))) (hk0 _ rfl)
    · rw [if_neg c1] at h
      by_cases c2 : (((0 : Int32) + x3) < 0 ∨ 291 ≤ (((0 : Int32) + x3)).toNatClampNeg)
      · rw [if_pos c2] at h; cases h
      · rw [if_neg c2] at h
        by_cases c3 : (s.2.1 64 (((0 : Int32) + x3)).toNatClampNeg) = x1
        · rw [if_pos c3] at h
          refine ax_cut (pc' := 29) (la := [some (.ref 63), some (.int x1), some (.int (x2 + (1 : Int32))), some (.int (x3 + (1)))]) [some (.ref 63), some (.int x1), some (.int (x2 + (1 : Int32))), some (.int (x3 + (1)))] (st' := []) (σ' := s) 16 (And.intro rfl (And.intro rfl (And.intro rfl (And.intro rfl (trivial))))) (fun _ hh => (And.intro (fun q => absurd q c1) (fun _ => (And.intro c2 (And.intro (fun q => absurd c3 q) (fun _ => hh)))))) ?_
          exact ax_cut (pc' := 4) (la := [some (.ref 63), some (.int x1), some (.int (x2 + (1 : Int32))), some (.int (x3 + (1)))]) [some (.ref 63), some (.int x1), some (.int (x2 + (1 : Int32))), some (.int (x3 + (1)))] (st' := []) (σ' := s) 1 (And.intro rfl (And.intro rfl (And.intro rfl (And.intro rfl (trivial))))) (fun _ hh => hh) (ih x1 (x2 + (1 : Int32)) (x3 + (1)) s _ h hk0)
        · rw [if_neg c3] at h
          exact ax_cut (pc' := 4) (la := [some (.ref 63), some (.int x1), some (.int x2), some (.int (x3 + (1)))]) [some (.ref 63), some (.int x1), some (.int x2), some (.int (x3 + (1)))] (st' := []) (σ' := s) 13 (And.intro rfl (And.intro rfl (And.intro rfl (And.intro rfl (trivial))))) (fun _ hh => (And.intro (fun q => absurd q c1) (fun _ => (And.intro c2 (And.intro (fun _ => hh) (fun q => absurd c3 q)))))) (ih x1 x2 (x3 + (1)) s _ h hk0)
theorem e_M_figuresOf (d : Nat) {x1 : Int32} {s : ax_S} {r : Int32} (h : M_figuresOf x1 s = some r) : ax_ev true (d + 1) 223 [.ref 63, .int x1] s (some (.int r), s) := by
  refine ⟨Nat.le_of_ble_eq_true rfl, ?_⟩
  show ax_go true none (ax_ev true (d + 0)) ax_m223 0 [some (.ref 63), some (.int x1), none, none] [] s _
  unfold M_figuresOf at h
  cases hz1 : M_figuresOf_l4 70000 x1 (0 : Int32) (0 : Int32) s with
  | none => rw [hz1] at h; cases h
  | some z1 =>
  rw [hz1] at h
  refine ax_cut (pc' := 4) (la := [some (.ref 63), some (.int x1), some (.int (0 : Int32)), some (.int (0 : Int32))]) [some (.ref 63), some (.int x1), some (.int (0 : Int32)), some (.int (0 : Int32))] (st' := []) (σ' := s) 4 (And.intro rfl (And.intro rfl (And.intro rfl (And.intro rfl (trivial))))) (fun _ hh => hh) (w_M_figuresOf_l4 d 70000 x1 (0 : Int32) (0 : Int32) s _ hz1 ?_)
  · intro v1 hq
    subst z1
    dsimp only at h
    have h := Option.some.inj h
    subst r
    exact ax_end 2 rfl
def M_daysSince (x1 : Int32)  (s : ax_S) : Option (Int32) :=
  if (((92 : Int32) + x1) < 0 ∨ 291 ≤ (((92 : Int32) + x1)).toNatClampNeg) then none else
  if (s.2.1 64 (((92 : Int32) + x1)).toNatClampNeg) = (-1 : Int32) then (
    some (99 : Int32)) else
  if (((92 : Int32) + x1) < 0 ∨ 291 ≤ (((92 : Int32) + x1)).toNatClampNeg) then none else
  some (M_min (99 : Int32) ((s.2.1 64 289) - (s.2.1 64 (((92 : Int32) + x1)).toNatClampNeg)) s)
theorem e_M_daysSince (d : Nat) {x1 : Int32} {s : ax_S} {r : Int32} (h : M_daysSince x1 s = some r) : ax_ev true (d + 2) 224 [.ref 63, .int x1] s (some (.int r), s) := by
  refine ⟨Nat.le_of_ble_eq_true rfl, ?_⟩
  show ax_go true none (ax_ev true (d + 1)) ax_m224 0 [some (.ref 63), some (.int x1)] [] s _
  unfold M_daysSince at h
  by_cases c1 : (((92 : Int32) + x1) < 0 ∨ 291 ≤ (((92 : Int32) + x1)).toNatClampNeg)
  · rw [if_pos c1] at h; cases h
  · rw [if_neg c1] at h
    by_cases c2 : (s.2.1 64 (((92 : Int32) + x1)).toNatClampNeg) = (-1 : Int32)
    · rw [if_pos c2] at h
      have h := Option.some.inj h
      subst r
      exact ax_end 11 (And.intro c1 (And.intro (fun q => absurd c2 q) (fun _ => rfl)))
    · rw [if_neg c2] at h
      refine ax_cut (pc' := 34) (la := [some (.ref 63), some (.int x1)]) [none, some (.int x1)] (st' := [.int (92 : Int32), .ref 64, .int (s.2.1 64 289), .int (99 : Int32)]) (σ' := s) 16 (And.intro rfl (trivial)) (fun _ hh => (And.intro c1 (And.intro (fun _ => (And.intro (show ¬ ((289 : Int32) < 0 ∨ 291 ≤ ((289 : Int32)).toNatClampNeg) by decide) hh)) (fun q => absurd c2 q)))) ?_
      by_cases c3 : (((92 : Int32) + x1) < 0 ∨ 291 ≤ (((92 : Int32) + x1)).toNatClampNeg)
      · rw [if_pos c3] at h; cases h
      · rw [if_neg c3] at h
        have h := Option.some.inj h
        subst r
        exact ax_end 6 (And.intro c3 (Exists.intro (some (.int (M_min (99 : Int32) ((s.2.1 64 289) - (s.2.1 64 (((92 : Int32) + x1)).toNatClampNeg)) s)), s) (And.intro (e_M_min d (99 : Int32) ((s.2.1 64 289) - (s.2.1 64 (((92 : Int32) + x1)).toNatClampNeg)) s) rfl)))
def M_feels (x1 : Int32)  (s : ax_S) : Option (ax_S) :=
  if (((60 : Int32) + x1) < 0 ∨ 291 ≤ (((60 : Int32) + x1)).toNatClampNeg) then none else
  match M_figuresOf x1 (ax_sI (ax_sI s 80 0 x1) 80 1 (s.2.1 64 (((60 : Int32) + x1)).toNatClampNeg)) with
  | none => none
  | some v1 =>
    if (((76 : Int32) + x1) < 0 ∨ 291 ≤ (((76 : Int32) + x1)).toNatClampNeg) then none else
    match M_daysSince x1 (ax_sI (ax_sI (ax_sI (ax_sI (ax_sI s 80 0 x1) 80 1 (s.2.1 64 (((60 : Int32) + x1)).toNatClampNeg)) 80 2 v1) 80 3 (s.2.1 64 (((76 : Int32) + x1)).toNatClampNeg)) 80 4 ((s.2.1 64 289) - (s.2.1 64 289) / (100 : Int32) * (100 : Int32))) with
    | none => none
    | some v2 =>
      some (ax_sI (ax_sI (ax_sI (ax_sI (ax_sI (ax_sI s 80 0 x1) 80 1 (s.2.1 64 (((60 : Int32) + x1)).toNatClampNeg)) 80 2 v1) 80 3 (s.2.1 64 (((76 : Int32) + x1)).toNatClampNeg)) 80 4 ((s.2.1 64 289) - (s.2.1 64 289) / (100 : Int32) * (100 : Int32))) 80 5 v2)
theorem e_M_feels (d : Nat) {x1 : Int32} {s : ax_S} {r : ax_S} (h : M_feels x1 s = some r) : ax_ev true (d + 3) 222 [.ref 63, .int x1] s (none, r) := by
  refine ⟨Nat.le_of_ble_eq_true rfl, ?_⟩
  show ax_go true none (ax_ev true (d + 2)) ax_m222 0 [some (.ref 63), some (.int x1)] [] s _
  unfold M_feels at h
  by_cases c1 : (((60 : Int32) + x1) < 0 ∨ 291 ≤ (((60 : Int32) + x1)).toNatClampNeg)
  · rw [if_pos c1] at h; cases h
  · rw [if_neg c1] at h
    refine ax_cut (pc' := 23) (la := [some (.ref 63), some (.int x1)]) [some (.ref 63), some (.int x1)] (st' := [.ref 63]) (σ' := (ax_sI (ax_sI s 80 0 x1) 80 1 (s.2.1 64 (((60 : Int32) + x1)).toNatClampNeg))) 16 (And.intro rfl (And.intro rfl (trivial))) (fun _ hh => (And.intro (show ¬ ((0 : Int32) < 0 ∨ 6 ≤ ((0 : Int32)).toNatClampNeg) by decide) (And.intro c1 (And.intro (show ¬ ((1 : Int32) < 0 ∨ 6 ≤ ((1 : Int32)).toNatClampNeg) by decide) hh)))) ?_
    cases hz2 : M_figuresOf x1 (ax_sI (ax_sI s 80 0 x1) 80 1 (s.2.1 64 (((60 : Int32) + x1)).toNatClampNeg)) with
    | none => rw [hz2] at h; cases h
    | some v1 =>
    rw [hz2] at h
    dsimp only at h
    by_cases c3 : (((76 : Int32) + x1) < 0 ∨ 291 ≤ (((76 : Int32) + x1)).toNatClampNeg)
    · rw [if_pos c3] at h; cases h
    · rw [if_neg c3] at h
      refine ax_cut (pc' := 48) (la := [some (.ref 63), some (.int x1)]) [some (.ref 63), some (.int x1)] (st' := []) (σ' := (ax_sI (ax_sI (ax_sI (ax_sI s 80 0 x1) 80 1 (s.2.1 64 (((60 : Int32) + x1)).toNatClampNeg)) 80 2 v1) 80 3 (s.2.1 64 (((76 : Int32) + x1)).toNatClampNeg))) 16 (And.intro rfl (And.intro rfl (trivial))) (fun _ hh => (Exists.intro (some (.int v1), (ax_sI (ax_sI s 80 0 x1) 80 1 (s.2.1 64 (((60 : Int32) + x1)).toNatClampNeg))) (And.intro (e_M_figuresOf (d + 1) hz2) (And.intro (show ¬ ((2 : Int32) < 0 ∨ 6 ≤ ((2 : Int32)).toNatClampNeg) by decide) (And.intro c3 (And.intro (show ¬ ((3 : Int32) < 0 ∨ 6 ≤ ((3 : Int32)).toNatClampNeg) by decide) hh)))))) ?_
      cases hz4 : M_daysSince x1 (ax_sI (ax_sI (ax_sI (ax_sI (ax_sI s 80 0 x1) 80 1 (s.2.1 64 (((60 : Int32) + x1)).toNatClampNeg)) 80 2 v1) 80 3 (s.2.1 64 (((76 : Int32) + x1)).toNatClampNeg)) 80 4 ((s.2.1 64 289) - (s.2.1 64 289) / (100 : Int32) * (100 : Int32))) with
      | none => rw [hz4] at h; cases h
      | some v2 =>
      rw [hz4] at h
      dsimp only at h
      refine ax_cut (pc' := 75) (la := [some (.ref 63), some (.int x1)]) [none, none] (st' := [.int v2, .int (5 : Int32), .ref 80]) (σ' := (ax_sI (ax_sI (ax_sI (ax_sI (ax_sI s 80 0 x1) 80 1 (s.2.1 64 (((60 : Int32) + x1)).toNatClampNeg)) 80 2 v1) 80 3 (s.2.1 64 (((76 : Int32) + x1)).toNatClampNeg)) 80 4 ((s.2.1 64 289) - (s.2.1 64 289) / (100 : Int32) * (100 : Int32)))) 16 (trivial) (fun _ hh => (And.intro (show ¬ ((289 : Int32) < 0 ∨ 291 ≤ ((289 : Int32)).toNatClampNeg) by decide) (And.intro (show ¬ (100 : Int32) = 0 by decide) (And.intro (show ¬ ((4 : Int32) < 0 ∨ 6 ≤ ((4 : Int32)).toNatClampNeg) by decide) (Exists.intro (some (.int v2), (ax_sI (ax_sI (ax_sI (ax_sI (ax_sI s 80 0 x1) 80 1 (s.2.1 64 (((60 : Int32) + x1)).toNatClampNeg)) 80 2 v1) 80 3 (s.2.1 64 (((76 : Int32) + x1)).toNatClampNeg)) 80 4 ((s.2.1 64 289) - (s.2.1 64 289) / (100 : Int32) * (100 : Int32)))) (And.intro (e_M_daysSince d hz4) hh)))))) ?_
      have h := Option.some.inj h
      subst r
      exact ax_end 2 (And.intro (show ¬ ((5 : Int32) < 0 ∨ 6 ≤ ((5 : Int32)).toNatClampNeg) by decide) rfl)
def M_reckon (x0 : Int32) (x1 : Int32) (x2 : Int32)  (s : ax_S) : Option (Int32) :=
  if x0 = (2) then (
    some (x1 + x2)) else
  if x0 = (3) then (
    some (x1 - x2)) else
  if x0 = (4) then (
    some (x1 * x2)) else
  if x0 = (5) then (
    if x2 = 0 then none else
    some (x1 / x2)) else
  if x0 = (6) then (
    if x2 = 0 then none else
    some (x1 - x1 / x2 * x2)) else
  if x0 = (7) then (
    if x2 ≤ x1 then (
      some (0 : Int32)) else
    some (1 : Int32)) else
  if x0 = (8) then (
    if x1 ≤ x2 then (
      some (0 : Int32)) else
    some (1 : Int32)) else
  if x1 = x2 then (
    some (1 : Int32)) else
  some (0 : Int32)
theorem e_M_reckon (d : Nat) {x0 : Int32} {x1 : Int32} {x2 : Int32} {s : ax_S} {r : Int32} (h : M_reckon x0 x1 x2 s = some r) : ax_ev true (d + 1) 227 [.int x0, .int x1, .int x2] s (some (.int r), s) := by
  refine ⟨Nat.le_of_ble_eq_true rfl, ?_⟩
  show ax_go true none (ax_ev true (d + 0)) ax_m227 0 [some (.int x0), some (.int x1), some (.int x2)] [] s _
  unfold M_reckon at h
  by_cases c1_0 : x0 = (2)
  · rw [if_pos c1_0] at h
    have h := Option.some.inj h
    subst r
    exact ax_end 6 (ax_tabT (lo := 2) (hg := 8) (j0 := 0) (congrArg Int32.toInt c1_0) (by rw [c1_0]; decide) rfl)
  rw [if_neg c1_0] at h
  by_cases c1_1 : x0 = (3)
  · rw [if_pos c1_1] at h
    have h := Option.some.inj h
    subst r
    exact ax_end 6 (ax_tabT (lo := 2) (hg := 8) (j0 := 1) (congrArg Int32.toInt c1_1) (by rw [c1_1]; decide) rfl)
  rw [if_neg c1_1] at h
  by_cases c1_2 : x0 = (4)
  · rw [if_pos c1_2] at h
    have h := Option.some.inj h
    subst r
    exact ax_end 6 (ax_tabT (lo := 2) (hg := 8) (j0 := 2) (congrArg Int32.toInt c1_2) (by rw [c1_2]; decide) rfl)
  rw [if_neg c1_2] at h
  by_cases c1_3 : x0 = (5)
  · rw [if_pos c1_3] at h
    by_cases c2 : x2 = 0
    · rw [if_pos c2] at h; cases h
    · rw [if_neg c2] at h
      have h := Option.some.inj h
      subst r
      exact ax_end 6 (ax_tabT (lo := 2) (hg := 8) (j0 := 3) (congrArg Int32.toInt c1_3) (by rw [c1_3]; decide) (And.intro c2 rfl))
  rw [if_neg c1_3] at h
  by_cases c1_4 : x0 = (6)
  · rw [if_pos c1_4] at h
    by_cases c3 : x2 = 0
    · rw [if_pos c3] at h; cases h
    · rw [if_neg c3] at h
      have h := Option.some.inj h
      subst r
      exact ax_end 6 (ax_tabT (lo := 2) (hg := 8) (j0 := 4) (congrArg Int32.toInt c1_4) (by rw [c1_4]; decide) (And.intro c3 rfl))
  rw [if_neg c1_4] at h
  by_cases c1_5 : x0 = (7)
  · rw [if_pos c1_5] at h
    by_cases c4 : x2 ≤ x1
    · rw [if_pos c4] at h
      have h := Option.some.inj h
      subst r
      exact ax_end 7 (ax_tabT (lo := 2) (hg := 8) (j0 := 5) (congrArg Int32.toInt c1_5) (by rw [c1_5]; decide) (And.intro (fun _ => rfl) (fun q => absurd c4 q)))
    · rw [if_neg c4] at h
      have h := Option.some.inj h
      subst r
      exact ax_end 8 (ax_tabT (lo := 2) (hg := 8) (j0 := 5) (congrArg Int32.toInt c1_5) (by rw [c1_5]; decide) (And.intro (fun q => absurd q c4) (fun _ => rfl)))
  rw [if_neg c1_5] at h
  by_cases c1_6 : x0 = (8)
  · rw [if_pos c1_6] at h
    by_cases c5 : x1 ≤ x2
    · rw [if_pos c5] at h
      have h := Option.some.inj h
      subst r
      exact ax_end 7 (ax_tabT (lo := 2) (hg := 8) (j0 := 6) (congrArg Int32.toInt c1_6) (by rw [c1_6]; decide) (And.intro (fun _ => rfl) (fun q => absurd c5 q)))
    · rw [if_neg c5] at h
      have h := Option.some.inj h
      subst r
      exact ax_end 8 (ax_tabT (lo := 2) (hg := 8) (j0 := 6) (congrArg Int32.toInt c1_6) (by rw [c1_6]; decide) (And.intro (fun q => absurd q c5) (fun _ => rfl)))
  rw [if_neg c1_6] at h
  have c1_r : (x0).toInt < 2 ∨ 8 < (x0).toInt := by
    have := ax_ne_toInt c1_0
    have := ax_ne_toInt c1_1
    have := ax_ne_toInt c1_2
    have := ax_ne_toInt c1_3
    have := ax_ne_toInt c1_4
    have := ax_ne_toInt c1_5
    have := ax_ne_toInt c1_6
    simp only [show ∀ y : Int32, y.toInt = y.toInt from fun _ => rfl, show ((2) : Int32).toInt = 2 by decide, show ((3) : Int32).toInt = 3 by decide, show ((4) : Int32).toInt = 4 by decide, show ((5) : Int32).toInt = 5 by decide, show ((6) : Int32).toInt = 6 by decide, show ((7) : Int32).toInt = 7 by decide, show ((8) : Int32).toInt = 8 by decide] at *
    omega
  by_cases c6 : x1 = x2
  · rw [if_pos c6] at h
    have h := Option.some.inj h
    subst r
    exact ax_end 8 (ax_tabF (lo := 2) (hg := 8) rfl c1_r (And.intro (fun q => absurd c6 q) (fun _ => rfl)))
  · rw [if_neg c6] at h
    have h := Option.some.inj h
    subst r
    exact ax_end 7 (ax_tabF (lo := 2) (hg := 8) rfl c1_r (And.intro (fun _ => rfl) (fun q => absurd c6 q)))
def M_comesTo_j147 (x2 : Int32) (x3 : Int32) (x4 : Int32) (x5 : Int32) (x7 : Int32) (y0 : Int32) (y1 : Int32)  (s : ax_S) : Int32 :=
  if y1 = (12 : Int32) then (
    (1 : Int32)) else
  (0 : Int32)
def M_comesTo_j147_1 (x2 : Int32) (x3 : Int32) (x4 : Int32) (x5 : Int32) (x7 : Int32) (y0 : Int32) (y1 : Int32)  (s : ax_S) : Int32 :=
  if y1 = (12 : Int32) then (
    (1 : Int32)) else
  (0 : Int32)
def M_comesTo_l16 : Nat → Int32 → Int32 → Int32 → Int32 → ax_S → Option (Int32 × ax_S)
  | 0, _, _, _, _, _ => none
  | n + 1, x2, x3, x4, x5, s =>
    if x2 ≤ x5 then (
      some ((s.2.1 79 0), s)) else
    if (x5 < 0 ∨ 260 ≤ (x5).toNatClampNeg) then none else
    if (x5 < 0 ∨ 260 ≤ (x5).toNatClampNeg) then none else
    if ((s.2.1 74 (x5).toNatClampNeg) / (1048576 : Int32)) = 0 then (
      if ((s.2.1 74 (x5).toNatClampNeg) / (1048576 : Int32)) = 0 then (
        if (x3 < 0 ∨ 260 ≤ (x3).toNatClampNeg) then none else
        M_comesTo_l16 n x2 (x3 + (1 : Int32)) x4 (x5 + (1 : Int32)) (ax_sI s 79 (x3).toNatClampNeg ((s.2.1 74 (x5).toNatClampNeg) - (s.2.1 74 (x5).toNatClampNeg) / (1048576 : Int32) * (1048576 : Int32)))) else
      if (((s.2.1 74 (x5).toNatClampNeg) - (s.2.1 74 (x5).toNatClampNeg) / (1048576 : Int32) * (1048576 : Int32)) < 0 ∨ 6 ≤ (((s.2.1 74 (x5).toNatClampNeg) - (s.2.1 74 (x5).toNatClampNeg) / (1048576 : Int32) * (1048576 : Int32))).toNatClampNeg) then none else
      if (x3 < 0 ∨ 260 ≤ (x3).toNatClampNeg) then none else
      M_comesTo_l16 n x2 (x3 + (1 : Int32)) x4 (x5 + (1 : Int32)) (ax_sI s 79 (x3).toNatClampNeg (s.2.1 80 (((s.2.1 74 (x5).toNatClampNeg) - (s.2.1 74 (x5).toNatClampNeg) / (1048576 : Int32) * (1048576 : Int32))).toNatClampNeg))) else
    if ((s.2.1 74 (x5).toNatClampNeg) / (1048576 : Int32)) = (1 : Int32) then (
      if ((s.2.1 74 (x5).toNatClampNeg) / (1048576 : Int32)) = 0 then (
        if (x3 < 0 ∨ 260 ≤ (x3).toNatClampNeg) then none else
        M_comesTo_l16 n x2 (x3 + (1 : Int32)) x4 (x5 + (1 : Int32)) (ax_sI s 79 (x3).toNatClampNeg ((s.2.1 74 (x5).toNatClampNeg) - (s.2.1 74 (x5).toNatClampNeg) / (1048576 : Int32) * (1048576 : Int32)))) else
      if (((s.2.1 74 (x5).toNatClampNeg) - (s.2.1 74 (x5).toNatClampNeg) / (1048576 : Int32) * (1048576 : Int32)) < 0 ∨ 6 ≤ (((s.2.1 74 (x5).toNatClampNeg) - (s.2.1 74 (x5).toNatClampNeg) / (1048576 : Int32) * (1048576 : Int32))).toNatClampNeg) then none else
      if (x3 < 0 ∨ 260 ≤ (x3).toNatClampNeg) then none else
      M_comesTo_l16 n x2 (x3 + (1 : Int32)) x4 (x5 + (1 : Int32)) (ax_sI s 79 (x3).toNatClampNeg (s.2.1 80 (((s.2.1 74 (x5).toNatClampNeg) - (s.2.1 74 (x5).toNatClampNeg) / (1048576 : Int32) * (1048576 : Int32))).toNatClampNeg))) else
    if ((s.2.1 74 (x5).toNatClampNeg) / (1048576 : Int32)) = (10 : Int32) then (
      if ((x3 - (1 : Int32)) < 0 ∨ 260 ≤ ((x3 - (1 : Int32))).toNatClampNeg) then none else
      if ((x3 - (1 : Int32)) < 0 ∨ 260 ≤ ((x3 - (1 : Int32))).toNatClampNeg) then none else
      M_comesTo_l16 n x2 x3 x4 (x5 + (1 : Int32)) (ax_sI s 79 ((x3 - (1 : Int32))).toNatClampNeg ((1 : Int32) - (s.2.1 79 ((x3 - (1 : Int32))).toNatClampNeg)))) else
    if ((s.2.1 74 (x5).toNatClampNeg) / (1048576 : Int32)) = (11 : Int32) then (
      if ((x3 - (1 : Int32)) < 0 ∨ 260 ≤ ((x3 - (1 : Int32))).toNatClampNeg) then none else
      if (s.2.1 79 ((x3 - (1 : Int32))).toNatClampNeg) = (M_comesTo_j147 x2 x3 x4 (x5 + (1 : Int32)) ((s.2.1 74 (x5).toNatClampNeg) - (s.2.1 74 (x5).toNatClampNeg) / (1048576 : Int32) * (1048576 : Int32)) (s.2.1 79 ((x3 - (1 : Int32))).toNatClampNeg) ((s.2.1 74 (x5).toNatClampNeg) / (1048576 : Int32)) s) then (
        M_comesTo_l16 n x2 x3 x4 (x4 + ((s.2.1 74 (x5).toNatClampNeg) - (s.2.1 74 (x5).toNatClampNeg) / (1048576 : Int32) * (1048576 : Int32))) s) else
      M_comesTo_l16 n x2 (x3 - (1 : Int32)) x4 (x5 + (1 : Int32)) s) else
    if ((s.2.1 74 (x5).toNatClampNeg) / (1048576 : Int32)) = (12 : Int32) then (
      if ((x3 - (1 : Int32)) < 0 ∨ 260 ≤ ((x3 - (1 : Int32))).toNatClampNeg) then none else
      if (s.2.1 79 ((x3 - (1 : Int32))).toNatClampNeg) = (M_comesTo_j147_1 x2 x3 x4 (x5 + (1 : Int32)) ((s.2.1 74 (x5).toNatClampNeg) - (s.2.1 74 (x5).toNatClampNeg) / (1048576 : Int32) * (1048576 : Int32)) (s.2.1 79 ((x3 - (1 : Int32))).toNatClampNeg) ((s.2.1 74 (x5).toNatClampNeg) / (1048576 : Int32)) s) then (
        M_comesTo_l16 n x2 x3 x4 (x4 + ((s.2.1 74 (x5).toNatClampNeg) - (s.2.1 74 (x5).toNatClampNeg) / (1048576 : Int32) * (1048576 : Int32))) s) else
      M_comesTo_l16 n x2 (x3 - (1 : Int32)) x4 (x5 + (1 : Int32)) s) else
    if ((s.2.1 74 (x5).toNatClampNeg) / (1048576 : Int32)) = (5 : Int32) then (
      if ((x3 - (1 : Int32)) < 0 ∨ 260 ≤ ((x3 - (1 : Int32))).toNatClampNeg) then none else
      if (s.2.1 79 ((x3 - (1 : Int32))).toNatClampNeg) = 0 then (
        some ((0 : Int32), s)) else
      if (((x3 - (1 : Int32)) - (1 : Int32)) < 0 ∨ 260 ≤ (((x3 - (1 : Int32)) - (1 : Int32))).toNatClampNeg) then none else
      if ((x3 - (1 : Int32)) < 0 ∨ 260 ≤ ((x3 - (1 : Int32))).toNatClampNeg) then none else
      match M_reckon ((s.2.1 74 (x5).toNatClampNeg) / (1048576 : Int32)) (s.2.1 79 (((x3 - (1 : Int32)) - (1 : Int32))).toNatClampNeg) (s.2.1 79 ((x3 - (1 : Int32))).toNatClampNeg) s with
      | none => none
      | some v2 =>
        if (((x3 - (1 : Int32)) - (1 : Int32)) < 0 ∨ 260 ≤ (((x3 - (1 : Int32)) - (1 : Int32))).toNatClampNeg) then none else
        M_comesTo_l16 n x2 (x3 - (1 : Int32)) x4 (x5 + (1 : Int32)) (ax_sI s 79 (((x3 - (1 : Int32)) - (1 : Int32))).toNatClampNeg v2)) else
    if ((s.2.1 74 (x5).toNatClampNeg) / (1048576 : Int32)) = (6 : Int32) then (
      if ((x3 - (1 : Int32)) < 0 ∨ 260 ≤ ((x3 - (1 : Int32))).toNatClampNeg) then none else
      if (s.2.1 79 ((x3 - (1 : Int32))).toNatClampNeg) = 0 then (
        some ((0 : Int32), s)) else
      if (((x3 - (1 : Int32)) - (1 : Int32)) < 0 ∨ 260 ≤ (((x3 - (1 : Int32)) - (1 : Int32))).toNatClampNeg) then none else
      if ((x3 - (1 : Int32)) < 0 ∨ 260 ≤ ((x3 - (1 : Int32))).toNatClampNeg) then none else
      match M_reckon ((s.2.1 74 (x5).toNatClampNeg) / (1048576 : Int32)) (s.2.1 79 (((x3 - (1 : Int32)) - (1 : Int32))).toNatClampNeg) (s.2.1 79 ((x3 - (1 : Int32))).toNatClampNeg) s with
      | none => none
      | some v4 =>
        if (((x3 - (1 : Int32)) - (1 : Int32)) < 0 ∨ 260 ≤ (((x3 - (1 : Int32)) - (1 : Int32))).toNatClampNeg) then none else
        M_comesTo_l16 n x2 (x3 - (1 : Int32)) x4 (x5 + (1 : Int32)) (ax_sI s 79 (((x3 - (1 : Int32)) - (1 : Int32))).toNatClampNeg v4)) else
    if (((x3 - (1 : Int32)) - (1 : Int32)) < 0 ∨ 260 ≤ (((x3 - (1 : Int32)) - (1 : Int32))).toNatClampNeg) then none else
    if ((x3 - (1 : Int32)) < 0 ∨ 260 ≤ ((x3 - (1 : Int32))).toNatClampNeg) then none else
    match M_reckon ((s.2.1 74 (x5).toNatClampNeg) / (1048576 : Int32)) (s.2.1 79 (((x3 - (1 : Int32)) - (1 : Int32))).toNatClampNeg) (s.2.1 79 ((x3 - (1 : Int32))).toNatClampNeg) s with
    | none => none
    | some v3 =>
      if (((x3 - (1 : Int32)) - (1 : Int32)) < 0 ∨ 260 ≤ (((x3 - (1 : Int32)) - (1 : Int32))).toNatClampNeg) then none else
      M_comesTo_l16 n x2 (x3 - (1 : Int32)) x4 (x5 + (1 : Int32)) (ax_sI s 79 (((x3 - (1 : Int32)) - (1 : Int32))).toNatClampNeg v3)
def M_comesTo (x1 : Int32) (x2 : Int32)  (s : ax_S) : Option (Int32 × ax_S) :=
  match M_comesTo_l16 70000 x2 (0 : Int32) ((260 : Int32) * (x1 / (260 : Int32))) x1 s with
  | none => none
  | some r => some r
theorem w_M_comesTo_j147 (d : Nat) {o : ax_O} (x2 : Int32) (x3 : Int32) (x4 : Int32) (x5 : Int32) (x7 : Int32) (y0 : Int32) (y1 : Int32) (s : ax_S) (r : Int32) (h : M_comesTo_j147 x2 x3 x4 x5 x7 y0 y1 s = r) (hk0 : ∀ (t0 : Int32), r = t0 → ax_go true none (ax_ev true (d + 1)) ax_m226 155 [some (.ref 63), none, some (.int x2), some (.int x3), some (.int x4), some (.int x5), none, some (.int x7)] [.int t0, .int y0] s o) : ax_go true none (ax_ev true (d + 1)) ax_m226 147 [some (.ref 63), none, some (.int x2), some (.int x3), some (.int x4), some (.int x5), none, some (.int x7)] [.int (12 : Int32), .int y1, .int y0] s o := by
  unfold M_comesTo_j147 at h
  by_cases c1 : y1 = (12 : Int32)
  · rw [if_pos c1] at h
    have h := h
    subst r
    exact ax_cut (pc' := 155) (la := [some (.ref 63), none, some (.int x2), some (.int x3), some (.int x4), some (.int x5), none, some (.int x7)]) [some (.ref 63), none, some (.int x2), some (.int x3), some (.int x4), some (.int x5), none, some (.int x7)] (st' := [.int (1 : Int32), .int y0]) (σ' := s) 3 (And.intro rfl (And.intro rfl (And.intro rfl (And.intro rfl (And.intro rfl (And.intro rfl (trivial))))))) (fun _ hh => (And.intro (fun q => absurd c1 q) (fun _ => hh))) (hk0 _ rfl)
  · rw [if_neg c1] at h
    have h := h
    subst r
    exact ax_cut (pc' := 155) (la := [some (.ref 63), none, some (.int x2), some (.int x3), some (.int x4), some (.int x5), none, some (.int x7)]) [some (.ref 63), none, some (.int x2), some (.int x3), some (.int x4), some (.int x5), none, some (.int x7)] (st' := [.int (0 : Int32), .int y0]) (σ' := s) 2 (And.intro rfl (And.intro rfl (And.intro rfl (And.intro rfl (And.intro rfl (And.intro rfl (trivial))))))) (fun _ hh => (And.intro (fun _ => hh) (fun q => absurd c1 q))) (hk0 _ rfl)
theorem w_M_comesTo_j147_1 (d : Nat) {o : ax_O} (x2 : Int32) (x3 : Int32) (x4 : Int32) (x5 : Int32) (x7 : Int32) (y0 : Int32) (y1 : Int32) (s : ax_S) (r : Int32) (h : M_comesTo_j147_1 x2 x3 x4 x5 x7 y0 y1 s = r) (hk0 : ∀ (t0 : Int32), r = t0 → ax_go true none (ax_ev true (d + 1)) ax_m226 155 [some (.ref 63), none, some (.int x2), some (.int x3), some (.int x4), some (.int x5), none, some (.int x7)] [.int t0, .int y0] s o) : ax_go true none (ax_ev true (d + 1)) ax_m226 147 [some (.ref 63), none, some (.int x2), some (.int x3), some (.int x4), some (.int x5), none, some (.int x7)] [.int (12 : Int32), .int y1, .int y0] s o := by
  unfold M_comesTo_j147_1 at h
  by_cases c1 : y1 = (12 : Int32)
  · rw [if_pos c1] at h
    have h := h
    subst r
    exact ax_cut (pc' := 155) (la := [some (.ref 63), none, some (.int x2), some (.int x3), some (.int x4), some (.int x5), none, some (.int x7)]) [some (.ref 63), none, some (.int x2), some (.int x3), some (.int x4), some (.int x5), none, some (.int x7)] (st' := [.int (1 : Int32), .int y0]) (σ' := s) 3 (And.intro rfl (And.intro rfl (And.intro rfl (And.intro rfl (And.intro rfl (And.intro rfl (trivial))))))) (fun _ hh => (And.intro (fun q => absurd c1 q) (fun _ => hh))) (hk0 _ rfl)
  · rw [if_neg c1] at h
    have h := h
    subst r
    exact ax_cut (pc' := 155) (la := [some (.ref 63), none, some (.int x2), some (.int x3), some (.int x4), some (.int x5), none, some (.int x7)]) [some (.ref 63), none, some (.int x2), some (.int x3), some (.int x4), some (.int x5), none, some (.int x7)] (st' := [.int (0 : Int32), .int y0]) (σ' := s) 2 (And.intro rfl (And.intro rfl (And.intro rfl (And.intro rfl (And.intro rfl (And.intro rfl (trivial))))))) (fun _ hh => (And.intro (fun _ => hh) (fun q => absurd c1 q))) (hk0 _ rfl)
theorem w_M_comesTo_l16 (d : Nat) {o : ax_O} : ∀ (n : Nat) (x2 : Int32) (x3 : Int32) (x4 : Int32) (x5 : Int32) (s : ax_S) (r : Int32 × ax_S) (h : M_comesTo_l16 n x2 x3 x4 x5 s = some r) (hkr : ∀ q, r = q → o = (some (.int q.1), q.2)), ax_go true none (ax_ev true (d + 1)) ax_m226 16 [some (.ref 63), none, some (.int x2), some (.int x3), some (.int x4), some (.int x5), none, none] [] s o := by
  intro n
  induction n with
  | zero => intro x2 x3 x4 x5 s r h hkr; cases h
  | succ n ih =>
    intro x2 x3 x4 x5 s r h hkr
    rw [M_comesTo_l16] at h
    by_cases c1 : x2 ≤ x5
    · rw [if_pos c1] at h
      have h := Option.some.inj h
      subst r
      exact ax_end 8 (And.intro (fun _ => (And.intro (show ¬ ((0 : Int32) < 0 ∨ 260 ≤ ((0 : Int32)).toNatClampNeg) by decide) (hkr _ rfl))) (fun q => absurd c1 q))
    · rw [if_neg c1] at h
      by_cases c2 : (x5 < 0 ∨ 260 ≤ (x5).toNatClampNeg)
      · rw [if_pos c2] at h; cases h
      · rw [if_neg c2] at h
        by_cases c3 : (x5 < 0 ∨ 260 ≤ (x5).toNatClampNeg)
        · rw [if_pos c3] at h; cases h
        · rw [if_neg c3] at h
          refine ax_cut (pc' := 44) (la := [some (.ref 63), none, some (.int x2), some (.int x3), some (.int x4), some (.int x5), some (.int ((s.2.1 74 (x5).toNatClampNeg) / (1048576 : Int32))), none]) [some (.ref 63), none, some (.int x2), some (.int x3), some (.int x4), some (.int x5), some (.int ((s.2.1 74 (x5).toNatClampNeg) / (1048576 : Int32))), none] (st' := [.int ((s.2.1 74 (x5).toNatClampNeg) - (s.2.1 74 (x5).toNatClampNeg) / (1048576 : Int32) * (1048576 : Int32))]) (σ' := s) 16 (And.intro rfl (And.intro rfl (And.intro rfl (And.intro rfl (And.intro rfl (And.intro rfl (trivial))))))) (fun _ hh => (And.intro (fun q => absurd q c1) (fun _ => (And.intro c2 (And.intro (show ¬ (1048576 : Int32) = 0 by decide) (And.intro c3 (And.intro (show ¬ (1048576 : Int32) = 0 by decide) hh))))))) ?_
          by_cases c4 : ((s.2.1 74 (x5).toNatClampNeg) / (1048576 : Int32)) = 0
          · rw [if_pos c4] at h
            by_cases c5 : ((s.2.1 74 (x5).toNatClampNeg) / (1048576 : Int32)) = 0
            · rw [if_pos c5] at h
              by_cases c6 : (x3 < 0 ∨ 260 ≤ (x3).toNatClampNeg)
              · rw [if_pos c6] at h; cases h
              · rw [if_neg c6] at h
                refine ax_cut (pc' := 87) (la := [some (.ref 63), none, some (.int x2), some (.int x3), some (.int x4), some (.int (x5 + (1 : Int32))), some (.int ((s.2.1 74 (x5).toNatClampNeg) / (1048576 : Int32))), some (.int ((s.2.1 74 (x5).toNatClampNeg) - (s.2.1 74 (x5).toNatClampNeg) / (1048576 : Int32) * (1048576 : Int32)))]) [some (.ref 63), none, some (.int x2), none, some (.int x4), some (.int (x5 + (1 : Int32))), none, none] (st' := [.int x3]) (σ' := (ax_sI s 79 (x3).toNatClampNeg ((s.2.1 74 (x5).toNatClampNeg) - (s.2.1 74 (x5).toNatClampNeg) / (1048576 : Int32) * (1048576 : Int32)))) 16 (And.intro rfl (And.intro rfl (And.intro rfl (And.intro rfl (trivial))))) (fun _ hh => (And.intro (fun _ => (And.intro (fun q => absurd c5 q) (fun _ => (And.intro c6 hh)))) (fun q => absurd c4 q))) ?_
                exact ax_cut (pc' := 16) (la := [some (.ref 63), none, some (.int x2), some (.int (x3 + (1 : Int32))), some (.int x4), some (.int (x5 + (1 : Int32))), none, none]) [some (.ref 63), none, some (.int x2), some (.int (x3 + (1 : Int32))), some (.int x4), some (.int (x5 + (1 : Int32))), none, none] (st' := []) (σ' := (ax_sI s 79 (x3).toNatClampNeg ((s.2.1 74 (x5).toNatClampNeg) - (s.2.1 74 (x5).toNatClampNeg) / (1048576 : Int32) * (1048576 : Int32)))) 5 (And.intro rfl (And.intro rfl (And.intro rfl (And.intro rfl (And.intro rfl (trivial)))))) (fun _ hh => hh) (ih x2 (x3 + (1 : Int32)) x4 (x5 + (1 : Int32)) (ax_sI s 79 (x3).toNatClampNeg ((s.2.1 74 (x5).toNatClampNeg) - (s.2.1 74 (x5).toNatClampNeg) / (1048576 : Int32) * (1048576 : Int32))) _ h hkr)
            · rw [if_neg c5] at h
              by_cases c7 : (((s.2.1 74 (x5).toNatClampNeg) - (s.2.1 74 (x5).toNatClampNeg) / (1048576 : Int32) * (1048576 : Int32)) < 0 ∨ 6 ≤ (((s.2.1 74 (x5).toNatClampNeg) - (s.2.1 74 (x5).toNatClampNeg) / (1048576 : Int32) * (1048576 : Int32))).toNatClampNeg)
              · rw [if_pos c7] at h; cases h
              · rw [if_neg c7] at h
                refine ax_cut (pc' := 85) (la := [some (.ref 63), none, some (.int x2), some (.int x3), some (.int x4), some (.int (x5 + (1 : Int32))), some (.int ((s.2.1 74 (x5).toNatClampNeg) / (1048576 : Int32))), some (.int ((s.2.1 74 (x5).toNatClampNeg) - (s.2.1 74 (x5).toNatClampNeg) / (1048576 : Int32) * (1048576 : Int32)))]) [some (.ref 63), none, some (.int x2), some (.int x3), some (.int x4), some (.int (x5 + (1 : Int32))), none, none] (st' := [.int (s.2.1 80 (((s.2.1 74 (x5).toNatClampNeg) - (s.2.1 74 (x5).toNatClampNeg) / (1048576 : Int32) * (1048576 : Int32))).toNatClampNeg), .int x3, .ref 79]) (σ' := s) 16 (And.intro rfl (And.intro rfl (And.intro rfl (And.intro rfl (And.intro rfl (trivial)))))) (fun _ hh => (And.intro (fun _ => (And.intro (fun _ => (And.intro c7 hh)) (fun q => absurd c5 q))) (fun q => absurd c4 q))) ?_
                by_cases c8 : (x3 < 0 ∨ 260 ≤ (x3).toNatClampNeg)
                · rw [if_pos c8] at h; cases h
                · rw [if_neg c8] at h
                  exact ax_cut (pc' := 16) (la := [some (.ref 63), none, some (.int x2), some (.int (x3 + (1 : Int32))), some (.int x4), some (.int (x5 + (1 : Int32))), none, none]) [some (.ref 63), none, some (.int x2), some (.int (x3 + (1 : Int32))), some (.int x4), some (.int (x5 + (1 : Int32))), none, none] (st' := []) (σ' := (ax_sI s 79 (x3).toNatClampNeg (s.2.1 80 (((s.2.1 74 (x5).toNatClampNeg) - (s.2.1 74 (x5).toNatClampNeg) / (1048576 : Int32) * (1048576 : Int32))).toNatClampNeg))) 7 (And.intro rfl (And.intro rfl (And.intro rfl (And.intro rfl (And.intro rfl (trivial)))))) (fun _ hh => (And.intro c8 hh)) (ih x2 (x3 + (1 : Int32)) x4 (x5 + (1 : Int32)) (ax_sI s 79 (x3).toNatClampNeg (s.2.1 80 (((s.2.1 74 (x5).toNatClampNeg) - (s.2.1 74 (x5).toNatClampNeg) / (1048576 : Int32) * (1048576 : Int32))).toNatClampNeg)) _ h hkr)
          · rw [if_neg c4] at h
            by_cases c9 : ((s.2.1 74 (x5).toNatClampNeg) / (1048576 : Int32)) = (1 : Int32)
            · rw [if_pos c9] at h
              by_cases c10 : ((s.2.1 74 (x5).toNatClampNeg) / (1048576 : Int32)) = 0
              · rw [if_pos c10] at h
                refine ax_cut (pc' := 75) (la := [some (.ref 63), none, some (.int x2), some (.int x3), some (.int x4), some (.int (x5 + (1 : Int32))), some (.int ((s.2.1 74 (x5).toNatClampNeg) / (1048576 : Int32))), some (.int ((s.2.1 74 (x5).toNatClampNeg) - (s.2.1 74 (x5).toNatClampNeg) / (1048576 : Int32) * (1048576 : Int32)))]) [some (.ref 63), none, some (.int x2), some (.int x3), some (.int x4), some (.int (x5 + (1 : Int32))), none, none] (st' := [.int ((s.2.1 74 (x5).toNatClampNeg) - (s.2.1 74 (x5).toNatClampNeg) / (1048576 : Int32) * (1048576 : Int32)), .int x3, .ref 79]) (σ' := s) 16 (And.intro rfl (And.intro rfl (And.intro rfl (And.intro rfl (And.intro rfl (trivial)))))) (fun _ hh => (And.intro (fun q => absurd q c4) (fun _ => (And.intro (fun q => absurd c9 q) (fun _ => (And.intro (fun q => absurd c10 q) (fun _ => hh))))))) ?_
                by_cases c11 : (x3 < 0 ∨ 260 ≤ (x3).toNatClampNeg)
                · rw [if_pos c11] at h; cases h
                · rw [if_neg c11] at h
                  exact ax_cut (pc' := 16) (la := [some (.ref 63), none, some (.int x2), some (.int (x3 + (1 : Int32))), some (.int x4), some (.int (x5 + (1 : Int32))), none, none]) [some (.ref 63), none, some (.int x2), some (.int (x3 + (1 : Int32))), some (.int x4), some (.int (x5 + (1 : Int32))), none, none] (st' := []) (σ' := (ax_sI s 79 (x3).toNatClampNeg ((s.2.1 74 (x5).toNatClampNeg) - (s.2.1 74 (x5).toNatClampNeg) / (1048576 : Int32) * (1048576 : Int32)))) 8 (And.intro rfl (And.intro rfl (And.intro rfl (And.intro rfl (And.intro rfl (trivial)))))) (fun _ hh => (And.intro c11 hh)) (ih x2 (x3 + (1 : Int32)) x4 (x5 + (1 : Int32)) (ax_sI s 79 (x3).toNatClampNeg ((s.2.1 74 (x5).toNatClampNeg) - (s.2.1 74 (x5).toNatClampNeg) / (1048576 : Int32) * (1048576 : Int32))) _ h hkr)
              · rw [if_neg c10] at h
                refine ax_cut (pc' := 79) (la := [some (.ref 63), none, some (.int x2), some (.int x3), some (.int x4), some (.int (x5 + (1 : Int32))), some (.int ((s.2.1 74 (x5).toNatClampNeg) / (1048576 : Int32))), some (.int ((s.2.1 74 (x5).toNatClampNeg) - (s.2.1 74 (x5).toNatClampNeg) / (1048576 : Int32) * (1048576 : Int32)))]) [some (.ref 63), none, some (.int x2), some (.int x3), some (.int x4), some (.int (x5 + (1 : Int32))), none, some (.int ((s.2.1 74 (x5).toNatClampNeg) - (s.2.1 74 (x5).toNatClampNeg) / (1048576 : Int32) * (1048576 : Int32)))] (st' := [.ref 63, .int x3, .ref 79]) (σ' := s) 16 (And.intro rfl (And.intro rfl (And.intro rfl (And.intro rfl (And.intro rfl (And.intro rfl (trivial))))))) (fun _ hh => (And.intro (fun q => absurd q c4) (fun _ => (And.intro (fun q => absurd c9 q) (fun _ => (And.intro (fun _ => hh) (fun q => absurd c10 q))))))) ?_
                by_cases c12 : (((s.2.1 74 (x5).toNatClampNeg) - (s.2.1 74 (x5).toNatClampNeg) / (1048576 : Int32) * (1048576 : Int32)) < 0 ∨ 6 ≤ (((s.2.1 74 (x5).toNatClampNeg) - (s.2.1 74 (x5).toNatClampNeg) / (1048576 : Int32) * (1048576 : Int32))).toNatClampNeg)
                · rw [if_pos c12] at h; cases h
                · rw [if_neg c12] at h
                  by_cases c13 : (x3 < 0 ∨ 260 ≤ (x3).toNatClampNeg)
                  · rw [if_pos c13] at h; cases h
                  · rw [if_neg c13] at h
                    exact ax_cut (pc' := 16) (la := [some (.ref 63), none, some (.int x2), some (.int (x3 + (1 : Int32))), some (.int x4), some (.int (x5 + (1 : Int32))), none, some (.int ((s.2.1 74 (x5).toNatClampNeg) - (s.2.1 74 (x5).toNatClampNeg) / (1048576 : Int32) * (1048576 : Int32)))]) [some (.ref 63), none, some (.int x2), some (.int (x3 + (1 : Int32))), some (.int x4), some (.int (x5 + (1 : Int32))), none, none] (st' := []) (σ' := (ax_sI s 79 (x3).toNatClampNeg (s.2.1 80 (((s.2.1 74 (x5).toNatClampNeg) - (s.2.1 74 (x5).toNatClampNeg) / (1048576 : Int32) * (1048576 : Int32))).toNatClampNeg))) 10 (And.intro rfl (And.intro rfl (And.intro rfl (And.intro rfl (And.intro rfl (trivial)))))) (fun _ hh => (And.intro c12 (And.intro c13 hh))) (ih x2 (x3 + (1 : Int32)) x4 (x5 + (1 : Int32)) (ax_sI s 79 (x3).toNatClampNeg (s.2.1 80 (((s.2.1 74 (x5).toNatClampNeg) - (s.2.1 74 (x5).toNatClampNeg) / (1048576 : Int32) * (1048576 : Int32))).toNatClampNeg)) _ h hkr)
            · rw [if_neg c9] at h
              by_cases c14 : ((s.2.1 74 (x5).toNatClampNeg) / (1048576 : Int32)) = (10 : Int32)
              · rw [if_pos c14] at h
                refine ax_cut (pc' := 105) (la := [some (.ref 63), none, some (.int x2), some (.int x3), some (.int x4), some (.int (x5 + (1 : Int32))), some (.int ((s.2.1 74 (x5).toNatClampNeg) / (1048576 : Int32))), some (.int ((s.2.1 74 (x5).toNatClampNeg) - (s.2.1 74 (x5).toNatClampNeg) / (1048576 : Int32) * (1048576 : Int32)))]) [some (.ref 63), none, some (.int x2), some (.int x3), some (.int x4), some (.int (x5 + (1 : Int32))), none, none] (st' := [.int x3, .ref 79]) (σ' := s) 16 (And.intro rfl (And.intro rfl (And.intro rfl (And.intro rfl (And.intro rfl (trivial)))))) (fun _ hh => (And.intro (fun q => absurd q c4) (fun _ => (And.intro (fun _ => (And.intro (fun q => absurd c14 q) (fun _ => hh))) (fun q => absurd c9 q))))) ?_
                by_cases c15 : ((x3 - (1 : Int32)) < 0 ∨ 260 ≤ ((x3 - (1 : Int32))).toNatClampNeg)
                · rw [if_pos c15] at h; cases h
                · rw [if_neg c15] at h
                  by_cases c16 : ((x3 - (1 : Int32)) < 0 ∨ 260 ≤ ((x3 - (1 : Int32))).toNatClampNeg)
                  · rw [if_pos c16] at h; cases h
                  · rw [if_neg c16] at h
                    exact ax_cut (pc' := 16) (la := [some (.ref 63), none, some (.int x2), some (.int x3), some (.int x4), some (.int (x5 + (1 : Int32))), none, none]) [some (.ref 63), none, some (.int x2), some (.int x3), some (.int x4), some (.int (x5 + (1 : Int32))), none, none] (st' := []) (σ' := (ax_sI s 79 ((x3 - (1 : Int32))).toNatClampNeg ((1 : Int32) - (s.2.1 79 ((x3 - (1 : Int32))).toNatClampNeg)))) 13 (And.intro rfl (And.intro rfl (And.intro rfl (And.intro rfl (And.intro rfl (trivial)))))) (fun _ hh => (And.intro c15 (And.intro c16 hh))) (ih x2 x3 x4 (x5 + (1 : Int32)) (ax_sI s 79 ((x3 - (1 : Int32))).toNatClampNeg ((1 : Int32) - (s.2.1 79 ((x3 - (1 : Int32))).toNatClampNeg))) _ h hkr)
              · rw [if_neg c14] at h
                by_cases c17 : ((s.2.1 74 (x5).toNatClampNeg) / (1048576 : Int32)) = (11 : Int32)
                · rw [if_pos c17] at h
                  refine ax_cut (pc' := 135) (la := [some (.ref 63), none, some (.int x2), some (.int x3), some (.int x4), some (.int (x5 + (1 : Int32))), some (.int ((s.2.1 74 (x5).toNatClampNeg) / (1048576 : Int32))), some (.int ((s.2.1 74 (x5).toNatClampNeg) - (s.2.1 74 (x5).toNatClampNeg) / (1048576 : Int32) * (1048576 : Int32)))]) [some (.ref 63), none, some (.int x2), some (.int x3), some (.int x4), some (.int (x5 + (1 : Int32))), some (.int ((s.2.1 74 (x5).toNatClampNeg) / (1048576 : Int32))), some (.int ((s.2.1 74 (x5).toNatClampNeg) - (s.2.1 74 (x5).toNatClampNeg) / (1048576 : Int32) * (1048576 : Int32)))] (st' := []) (σ' := s) 16 (And.intro rfl (And.intro rfl (And.intro rfl (And.intro rfl (And.intro rfl (And.intro rfl (And.intro rfl (trivial)))))))) (fun _ hh => (And.intro (fun q => absurd q c4) (fun _ => (And.intro (fun _ => (And.intro (fun _ => (And.intro (fun _ => hh) (fun q => absurd c17 q))) (fun q => absurd c14 q))) (fun q => absurd c9 q))))) ?_
                  by_cases c18 : ((x3 - (1 : Int32)) < 0 ∨ 260 ≤ ((x3 - (1 : Int32))).toNatClampNeg)
                  · rw [if_pos c18] at h; cases h
                  · rw [if_neg c18] at h
                    refine ax_cut (pc' := 147) (la := [some (.ref 63), none, some (.int x2), some (.int x3), some (.int x4), some (.int (x5 + (1 : Int32))), some (.int ((s.2.1 74 (x5).toNatClampNeg) / (1048576 : Int32))), some (.int ((s.2.1 74 (x5).toNatClampNeg) - (s.2.1 74 (x5).toNatClampNeg) / (1048576 : Int32) * (1048576 : Int32)))]) [some (.ref 63), none, some (.int x2), some (.int x3), some (.int x4), some (.int (x5 + (1 : Int32))), none, some (.int ((s.2.1 74 (x5).toNatClampNeg) - (s.2.1 74 (x5).toNatClampNeg) / (1048576 : Int32) * (1048576 : Int32)))] (st' := [.int (12 : Int32), .int ((s.2.1 74 (x5).toNatClampNeg) / (1048576 : Int32)), .int (s.2.1 79 ((x3 - (1 : Int32))).toNatClampNeg)]) (σ' := s) 8 (And.intro rfl (And.intro rfl (And.intro rfl (And.intro rfl (And.intro rfl (And.intro rfl (trivial))))))) (fun _ hh => (And.intro c18 hh)) (w_M_comesTo_j147 d x2 x3 x4 (x5 + (1 : Int32)) ((s.2.1 74 (x5).toNatClampNeg) - (s.2.1 74 (x5).toNatClampNeg) / (1048576 : Int32) * (1048576 : Int32)) (s.2.1 79 ((x3 - (1 : Int32))).toNatClampNeg) ((s.2.1 74 (x5).toNatClampNeg) / (1048576 : Int32)) s _ rfl (fun v1 hq => ?_))
                    obtain rfl : v1 = (M_comesTo_j147 x2 x3 x4 (x5 + (1 : Int32)) ((s.2.1 74 (x5).toNatClampNeg) - (s.2.1 74 (x5).toNatClampNeg) / (1048576 : Int32) * (1048576 : Int32)) (s.2.1 79 ((x3 - (1 : Int32))).toNatClampNeg) ((s.2.1 74 (x5).toNatClampNeg) / (1048576 : Int32)) s) := hq.symm
                    by_cases c19 : (s.2.1 79 ((x3 - (1 : Int32))).toNatClampNeg) = (M_comesTo_j147 x2 x3 x4 (x5 + (1 : Int32)) ((s.2.1 74 (x5).toNatClampNeg) - (s.2.1 74 (x5).toNatClampNeg) / (1048576 : Int32) * (1048576 : Int32)) (s.2.1 79 ((x3 - (1 : Int32))).toNatClampNeg) ((s.2.1 74 (x5).toNatClampNeg) / (1048576 : Int32)) s)
                    · rw [if_pos c19] at h
                      exact ax_cut (pc' := 16) (la := [some (.ref 63), none, some (.int x2), some (.int x3), some (.int x4), some (.int (x4 + ((s.2.1 74 (x5).toNatClampNeg) - (s.2.1 74 (x5).toNatClampNeg) / (1048576 : Int32) * (1048576 : Int32)))), none, some (.int ((s.2.1 74 (x5).toNatClampNeg) - (s.2.1 74 (x5).toNatClampNeg) / (1048576 : Int32) * (1048576 : Int32)))]) [some (.ref 63), none, some (.int x2), some (.int x3), some (.int x4), some (.int (x4 + ((s.2.1 74 (x5).toNatClampNeg) - (s.2.1 74 (x5).toNatClampNeg) / (1048576 : Int32) * (1048576 : Int32)))), none, none] (st' := []) (σ' := s) 7 (And.intro rfl (And.intro rfl (And.intro rfl (And.intro rfl (And.intro rfl (trivial)))))) (fun _ hh => (And.intro (fun q => absurd c19 q) (fun _ => hh))) (ih x2 x3 x4 (x4 + ((s.2.1 74 (x5).toNatClampNeg) - (s.2.1 74 (x5).toNatClampNeg) / (1048576 : Int32) * (1048576 : Int32))) s _ h hkr)
                    · rw [if_neg c19] at h
                      exact ax_cut (pc' := 16) (la := [some (.ref 63), none, some (.int x2), some (.int (x3 - (1 : Int32))), some (.int x4), some (.int (x5 + (1 : Int32))), none, some (.int ((s.2.1 74 (x5).toNatClampNeg) - (s.2.1 74 (x5).toNatClampNeg) / (1048576 : Int32) * (1048576 : Int32)))]) [some (.ref 63), none, some (.int x2), some (.int (x3 - (1 : Int32))), some (.int x4), some (.int (x5 + (1 : Int32))), none, none] (st' := []) (σ' := s) 7 (And.intro rfl (And.intro rfl (And.intro rfl (And.intro rfl (And.intro rfl (trivial)))))) (fun _ hh => (And.intro (fun _ => hh) (fun q => absurd c19 q))) (ih x2 (x3 - (1 : Int32)) x4 (x5 + (1 : Int32)) s _ h hkr)
                · rw [if_neg c17] at h
                  refine ax_cut (pc' := 128) (la := [some (.ref 63), none, some (.int x2), some (.int x3), some (.int x4), some (.int (x5 + (1 : Int32))), some (.int ((s.2.1 74 (x5).toNatClampNeg) / (1048576 : Int32))), some (.int ((s.2.1 74 (x5).toNatClampNeg) - (s.2.1 74 (x5).toNatClampNeg) / (1048576 : Int32) * (1048576 : Int32)))]) [some (.ref 63), none, some (.int x2), some (.int x3), some (.int x4), some (.int (x5 + (1 : Int32))), some (.int ((s.2.1 74 (x5).toNatClampNeg) / (1048576 : Int32))), some (.int ((s.2.1 74 (x5).toNatClampNeg) - (s.2.1 74 (x5).toNatClampNeg) / (1048576 : Int32) * (1048576 : Int32)))] (st' := []) (σ' := s) 16 (And.intro rfl (And.intro rfl (And.intro rfl (And.intro rfl (And.intro rfl (And.intro rfl (And.intro rfl (trivial)))))))) (fun _ hh => (And.intro (fun q => absurd q c4) (fun _ => (And.intro (fun _ => (And.intro (fun _ => (And.intro (fun q => absurd q c17) (fun _ => hh))) (fun q => absurd c14 q))) (fun q => absurd c9 q))))) ?_
                  by_cases c20 : ((s.2.1 74 (x5).toNatClampNeg) / (1048576 : Int32)) = (12 : Int32)
                  · rw [if_pos c20] at h
                    by_cases c21 : ((x3 - (1 : Int32)) < 0 ∨ 260 ≤ ((x3 - (1 : Int32))).toNatClampNeg)
                    · rw [if_pos c21] at h; cases h
                    · rw [if_neg c21] at h
                      refine ax_cut (pc' := 147) (la := [some (.ref 63), none, some (.int x2), some (.int x3), some (.int x4), some (.int (x5 + (1 : Int32))), some (.int ((s.2.1 74 (x5).toNatClampNeg) / (1048576 : Int32))), some (.int ((s.2.1 74 (x5).toNatClampNeg) - (s.2.1 74 (x5).toNatClampNeg) / (1048576 : Int32) * (1048576 : Int32)))]) [some (.ref 63), none, some (.int x2), some (.int x3), some (.int x4), some (.int (x5 + (1 : Int32))), none, some (.int ((s.2.1 74 (x5).toNatClampNeg) - (s.2.1 74 (x5).toNatClampNeg) / (1048576 : Int32) * (1048576 : Int32)))] (st' := [.int (12 : Int32), .int ((s.2.1 74 (x5).toNatClampNeg) / (1048576 : Int32)), .int (s.2.1 79 ((x3 - (1 : Int32))).toNatClampNeg)]) (σ' := s) 11 (And.intro rfl (And.intro rfl (And.intro rfl (And.intro rfl (And.intro rfl (And.intro rfl (trivial))))))) (fun _ hh => (And.intro (fun q => absurd c20 q) (fun _ => (And.intro c21 hh)))) (w_M_comesTo_j147_1 d x2 x3 x4 (x5 + (1 : Int32)) ((s.2.1 74 (x5).toNatClampNeg) - (s.2.1 74 (x5).toNatClampNeg) / (1048576 : Int32) * (1048576 : Int32)) (s.2.1 79 ((x3 - (1 : Int32))).toNatClampNeg) ((s.2.1 74 (x5).toNatClampNeg) / (1048576 : Int32)) s _ rfl (fun v5 hq => ?_))
                      obtain rfl : v5 = (M_comesTo_j147_1 x2 x3 x4 (x5 + (1 : Int32)) ((s.2.1 74 (x5).toNatClampNeg) - (s.2.1 74 (x5).toNatClampNeg) / (1048576 : Int32) * (1048576 : Int32)) (s.2.1 79 ((x3 - (1 : Int32))).toNatClampNeg) ((s.2.1 74 (x5).toNatClampNeg) / (1048576 : Int32)) s) := hq.symm
                      by_cases c22 : (s.2.1 79 ((x3 - (1 : Int32))).toNatClampNeg) = (M_comesTo_j147_1 x2 x3 x4 (x5 + (1 : Int32)) ((s.2.1 74 (x5).toNatClampNeg) - (s.2.1 74 (x5).toNatClampNeg) / (1048576 : Int32) * (1048576 : Int32)) (s.2.1 79 ((x3 - (1 : Int32))).toNatClampNeg) ((s.2.1 74 (x5).toNatClampNeg) / (1048576 : Int32)) s)
                      · rw [if_pos c22] at h
                        exact ax_cut (pc' := 16) (la := [some (.ref 63), none, some (.int x2), some (.int x3), some (.int x4), some (.int (x4 + ((s.2.1 74 (x5).toNatClampNeg) - (s.2.1 74 (x5).toNatClampNeg) / (1048576 : Int32) * (1048576 : Int32)))), none, some (.int ((s.2.1 74 (x5).toNatClampNeg) - (s.2.1 74 (x5).toNatClampNeg) / (1048576 : Int32) * (1048576 : Int32)))]) [some (.ref 63), none, some (.int x2), some (.int x3), some (.int x4), some (.int (x4 + ((s.2.1 74 (x5).toNatClampNeg) - (s.2.1 74 (x5).toNatClampNeg) / (1048576 : Int32) * (1048576 : Int32)))), none, none] (st' := []) (σ' := s) 7 (And.intro rfl (And.intro rfl (And.intro rfl (And.intro rfl (And.intro rfl (trivial)))))) (fun _ hh => (And.intro (fun q => absurd c22 q) (fun _ => hh))) (ih x2 x3 x4 (x4 + ((s.2.1 74 (x5).toNatClampNeg) - (s.2.1 74 (x5).toNatClampNeg) / (1048576 : Int32) * (1048576 : Int32))) s _ h hkr)
                      · rw [if_neg c22] at h
                        exact ax_cut (pc' := 16) (la := [some (.ref 63), none, some (.int x2), some (.int (x3 - (1 : Int32))), some (.int x4), some (.int (x5 + (1 : Int32))), none, some (.int ((s.2.1 74 (x5).toNatClampNeg) - (s.2.1 74 (x5).toNatClampNeg) / (1048576 : Int32) * (1048576 : Int32)))]) [some (.ref 63), none, some (.int x2), some (.int (x3 - (1 : Int32))), some (.int x4), some (.int (x5 + (1 : Int32))), none, none] (st' := []) (σ' := s) 7 (And.intro rfl (And.intro rfl (And.intro rfl (And.intro rfl (And.intro rfl (trivial)))))) (fun _ hh => (And.intro (fun _ => hh) (fun q => absurd c22 q))) (ih x2 (x3 - (1 : Int32)) x4 (x5 + (1 : Int32)) s _ h hkr)
                  · rw [if_neg c20] at h
                    by_cases c23 : ((s.2.1 74 (x5).toNatClampNeg) / (1048576 : Int32)) = (5 : Int32)
                    · rw [if_pos c23] at h
                      by_cases c24 : ((x3 - (1 : Int32)) < 0 ∨ 260 ≤ ((x3 - (1 : Int32))).toNatClampNeg)
                      · rw [if_pos c24] at h; cases h
                      · rw [if_neg c24] at h
                        by_cases c25 : (s.2.1 79 ((x3 - (1 : Int32))).toNatClampNeg) = 0
                        · rw [if_pos c25] at h
                          refine ax_cut (pc' := 202) (la := [some (.ref 63), none, some (.int x2), some (.int (x3 - (1 : Int32))), some (.int x4), some (.int (x5 + (1 : Int32))), some (.int ((s.2.1 74 (x5).toNatClampNeg) / (1048576 : Int32))), some (.int ((s.2.1 74 (x5).toNatClampNeg) - (s.2.1 74 (x5).toNatClampNeg) / (1048576 : Int32) * (1048576 : Int32)))]) [none, none, none, none, none, none, none, none] (st' := [.int (0 : Int32)]) (σ' := s) 16 (trivial) (fun _ hh => (And.intro (fun _ => (And.intro (fun _ => (And.intro c24 (And.intro (fun q => absurd c25 q) (fun _ => hh)))) (fun q => absurd c23 q))) (fun q => absurd c20 q))) ?_
                          have h := Option.some.inj h
                          subst r
                          exact ax_end 1 (hkr _ rfl)
                        · rw [if_neg c25] at h
                          refine ax_cut (pc' := 204) (la := [some (.ref 63), none, some (.int x2), some (.int (x3 - (1 : Int32))), some (.int x4), some (.int (x5 + (1 : Int32))), some (.int ((s.2.1 74 (x5).toNatClampNeg) / (1048576 : Int32))), some (.int ((s.2.1 74 (x5).toNatClampNeg) - (s.2.1 74 (x5).toNatClampNeg) / (1048576 : Int32) * (1048576 : Int32)))]) [some (.ref 63), none, some (.int x2), some (.int (x3 - (1 : Int32))), some (.int x4), some (.int (x5 + (1 : Int32))), some (.int ((s.2.1 74 (x5).toNatClampNeg) / (1048576 : Int32))), none] (st' := [.ref 63]) (σ' := s) 16 (And.intro rfl (And.intro rfl (And.intro rfl (And.intro rfl (And.intro rfl (And.intro rfl (trivial))))))) (fun _ hh => (And.intro (fun _ => (And.intro (fun _ => (And.intro c24 (And.intro (fun _ => hh) (fun q => absurd c25 q)))) (fun q => absurd c23 q))) (fun q => absurd c20 q))) ?_
                          by_cases c26 : (((x3 - (1 : Int32)) - (1 : Int32)) < 0 ∨ 260 ≤ (((x3 - (1 : Int32)) - (1 : Int32))).toNatClampNeg)
                          · rw [if_pos c26] at h; cases h
                          · rw [if_neg c26] at h
                            by_cases c27 : ((x3 - (1 : Int32)) < 0 ∨ 260 ≤ ((x3 - (1 : Int32))).toNatClampNeg)
                            · rw [if_pos c27] at h; cases h
                            · rw [if_neg c27] at h
                              cases hz28 : M_reckon ((s.2.1 74 (x5).toNatClampNeg) / (1048576 : Int32)) (s.2.1 79 (((x3 - (1 : Int32)) - (1 : Int32))).toNatClampNeg) (s.2.1 79 ((x3 - (1 : Int32))).toNatClampNeg) s with
                              | none => rw [hz28] at h; cases h
                              | some v2 =>
                              rw [hz28] at h
                              dsimp only at h
                              refine ax_cut (pc' := 229) (la := [some (.ref 63), none, some (.int x2), some (.int (x3 - (1 : Int32))), some (.int x4), some (.int (x5 + (1 : Int32))), some (.int ((s.2.1 74 (x5).toNatClampNeg) / (1048576 : Int32))), none]) [some (.ref 63), none, some (.int x2), some (.int (x3 - (1 : Int32))), some (.int x4), some (.int (x5 + (1 : Int32))), none, none] (st' := [.int v2, .int ((x3 - (1 : Int32)) - (1 : Int32)), .ref 79]) (σ' := s) 16 (And.intro rfl (And.intro rfl (And.intro rfl (And.intro rfl (And.intro rfl (trivial)))))) (fun _ hh => (And.intro c26 (And.intro c27 (Exists.intro (some (.int v2), s) (And.intro (e_M_reckon d hz28) hh))))) ?_
                              by_cases c29 : (((x3 - (1 : Int32)) - (1 : Int32)) < 0 ∨ 260 ≤ (((x3 - (1 : Int32)) - (1 : Int32))).toNatClampNeg)
                              · rw [if_pos c29] at h; cases h
                              · rw [if_neg c29] at h
                                exact ax_cut (pc' := 16) (la := [some (.ref 63), none, some (.int x2), some (.int (x3 - (1 : Int32))), some (.int x4), some (.int (x5 + (1 : Int32))), none, none]) [some (.ref 63), none, some (.int x2), some (.int (x3 - (1 : Int32))), some (.int x4), some (.int (x5 + (1 : Int32))), none, none] (st' := []) (σ' := (ax_sI s 79 (((x3 - (1 : Int32)) - (1 : Int32))).toNatClampNeg v2)) 2 (And.intro rfl (And.intro rfl (And.intro rfl (And.intro rfl (And.intro rfl (trivial)))))) (fun _ hh => (And.intro c29 hh)) (ih x2 (x3 - (1 : Int32)) x4 (x5 + (1 : Int32)) (ax_sI s 79 (((x3 - (1 : Int32)) - (1 : Int32))).toNatClampNeg v2) _ h hkr)
                    · rw [if_neg c23] at h
                      by_cases c30 : ((s.2.1 74 (x5).toNatClampNeg) / (1048576 : Int32)) = (6 : Int32)
                      · rw [if_pos c30] at h
                        refine ax_cut (pc' := 197) (la := [some (.ref 63), none, some (.int x2), some (.int (x3 - (1 : Int32))), some (.int x4), some (.int (x5 + (1 : Int32))), some (.int ((s.2.1 74 (x5).toNatClampNeg) / (1048576 : Int32))), some (.int ((s.2.1 74 (x5).toNatClampNeg) - (s.2.1 74 (x5).toNatClampNeg) / (1048576 : Int32) * (1048576 : Int32)))]) [some (.ref 63), none, some (.int x2), some (.int (x3 - (1 : Int32))), some (.int x4), some (.int (x5 + (1 : Int32))), some (.int ((s.2.1 74 (x5).toNatClampNeg) / (1048576 : Int32))), none] (st' := [.int (x3 - (1 : Int32)), .ref 79]) (σ' := s) 16 (And.intro rfl (And.intro rfl (And.intro rfl (And.intro rfl (And.intro rfl (And.intro rfl (trivial))))))) (fun _ hh => (And.intro (fun _ => (And.intro (fun q => absurd q c23) (fun _ => (And.intro (fun q => absurd c30 q) (fun _ => hh))))) (fun q => absurd c20 q))) ?_
                        by_cases c31 : ((x3 - (1 : Int32)) < 0 ∨ 260 ≤ ((x3 - (1 : Int32))).toNatClampNeg)
                        · rw [if_pos c31] at h; cases h
                        · rw [if_neg c31] at h
                          by_cases c32 : (s.2.1 79 ((x3 - (1 : Int32))).toNatClampNeg) = 0
                          · rw [if_pos c32] at h
                            have h := Option.some.inj h
                            subst r
                            exact ax_end 4 (And.intro c31 (And.intro (fun q => absurd c32 q) (fun _ => (hkr _ rfl))))
                          · rw [if_neg c32] at h
                            by_cases c33 : (((x3 - (1 : Int32)) - (1 : Int32)) < 0 ∨ 260 ≤ (((x3 - (1 : Int32)) - (1 : Int32))).toNatClampNeg)
                            · rw [if_pos c33] at h; cases h
                            · rw [if_neg c33] at h
                              refine ax_cut (pc' := 224) (la := [some (.ref 63), none, some (.int x2), some (.int (x3 - (1 : Int32))), some (.int x4), some (.int (x5 + (1 : Int32))), some (.int ((s.2.1 74 (x5).toNatClampNeg) / (1048576 : Int32))), none]) [some (.ref 63), none, some (.int x2), some (.int (x3 - (1 : Int32))), some (.int x4), some (.int (x5 + (1 : Int32))), none, none] (st' := [.ref 79, .int (s.2.1 79 (((x3 - (1 : Int32)) - (1 : Int32))).toNatClampNeg), .int ((s.2.1 74 (x5).toNatClampNeg) / (1048576 : Int32)), .int ((x3 - (1 : Int32)) - (1 : Int32)), .ref 79]) (σ' := s) 16 (And.intro rfl (And.intro rfl (And.intro rfl (And.intro rfl (And.intro rfl (trivial)))))) (fun _ hh => (And.intro c31 (And.intro (fun _ => (And.intro c33 hh)) (fun q => absurd c32 q)))) ?_
                              by_cases c34 : ((x3 - (1 : Int32)) < 0 ∨ 260 ≤ ((x3 - (1 : Int32))).toNatClampNeg)
                              · rw [if_pos c34] at h; cases h
                              · rw [if_neg c34] at h
                                cases hz35 : M_reckon ((s.2.1 74 (x5).toNatClampNeg) / (1048576 : Int32)) (s.2.1 79 (((x3 - (1 : Int32)) - (1 : Int32))).toNatClampNeg) (s.2.1 79 ((x3 - (1 : Int32))).toNatClampNeg) s with
                                | none => rw [hz35] at h; cases h
                                | some v4 =>
                                rw [hz35] at h
                                dsimp only at h
                                by_cases c36 : (((x3 - (1 : Int32)) - (1 : Int32)) < 0 ∨ 260 ≤ (((x3 - (1 : Int32)) - (1 : Int32))).toNatClampNeg)
                                · rw [if_pos c36] at h; cases h
                                · rw [if_neg c36] at h
                                  exact ax_cut (pc' := 16) (la := [some (.ref 63), none, some (.int x2), some (.int (x3 - (1 : Int32))), some (.int x4), some (.int (x5 + (1 : Int32))), none, none]) [some (.ref 63), none, some (.int x2), some (.int (x3 - (1 : Int32))), some (.int x4), some (.int (x5 + (1 : Int32))), none, none] (st' := []) (σ' := (ax_sI s 79 (((x3 - (1 : Int32)) - (1 : Int32))).toNatClampNeg v4)) 5 (And.intro rfl (And.intro rfl (And.intro rfl (And.intro rfl (And.intro rfl (trivial)))))) (fun _ hh => (And.intro c34 (Exists.intro (some (.int v4), s) (And.intro (e_M_reckon d hz35) (And.intro c36 hh))))) (ih x2 (x3 - (1 : Int32)) x4 (x5 + (1 : Int32)) (ax_sI s 79 (((x3 - (1 : Int32)) - (1 : Int32))).toNatClampNeg v4) _ h hkr)
                      · rw [if_neg c30] at h
                        refine ax_cut (pc' := 208) (la := [some (.ref 63), none, some (.int x2), some (.int (x3 - (1 : Int32))), some (.int x4), some (.int (x5 + (1 : Int32))), some (.int ((s.2.1 74 (x5).toNatClampNeg) / (1048576 : Int32))), some (.int ((s.2.1 74 (x5).toNatClampNeg) - (s.2.1 74 (x5).toNatClampNeg) / (1048576 : Int32) * (1048576 : Int32)))]) [some (.ref 63), none, some (.int x2), some (.int (x3 - (1 : Int32))), some (.int x4), some (.int (x5 + (1 : Int32))), some (.int ((s.2.1 74 (x5).toNatClampNeg) / (1048576 : Int32))), none] (st' := [.int (x3 - (1 : Int32)), .ref 79]) (σ' := s) 16 (And.intro rfl (And.intro rfl (And.intro rfl (And.intro rfl (And.intro rfl (And.intro rfl (trivial))))))) (fun _ hh => (And.intro (fun _ => (And.intro (fun q => absurd q c23) (fun _ => (And.intro (fun _ => hh) (fun q => absurd c30 q))))) (fun q => absurd c20 q))) ?_
                        by_cases c37 : (((x3 - (1 : Int32)) - (1 : Int32)) < 0 ∨ 260 ≤ (((x3 - (1 : Int32)) - (1 : Int32))).toNatClampNeg)
                        · rw [if_pos c37] at h; cases h
                        · rw [if_neg c37] at h
                          by_cases c38 : ((x3 - (1 : Int32)) < 0 ∨ 260 ≤ ((x3 - (1 : Int32))).toNatClampNeg)
                          · rw [if_pos c38] at h; cases h
                          · rw [if_neg c38] at h
                            cases hz39 : M_reckon ((s.2.1 74 (x5).toNatClampNeg) / (1048576 : Int32)) (s.2.1 79 (((x3 - (1 : Int32)) - (1 : Int32))).toNatClampNeg) (s.2.1 79 ((x3 - (1 : Int32))).toNatClampNeg) s with
                            | none => rw [hz39] at h; cases h
                            | some v3 =>
                            rw [hz39] at h
                            dsimp only at h
                            by_cases c40 : (((x3 - (1 : Int32)) - (1 : Int32)) < 0 ∨ 260 ≤ (((x3 - (1 : Int32)) - (1 : Int32))).toNatClampNeg)
                            · rw [if_pos c40] at h; cases h
                            · rw [if_neg c40] at h
                              exact ax_cut (pc' := 16) (la := [some (.ref 63), none, some (.int x2), some (.int (x3 - (1 : Int32))), some (.int x4), some (.int (x5 + (1 : Int32))), some (.int ((s.2.1 74 (x5).toNatClampNeg) / (1048576 : Int32))), none]) [some (.ref 63), none, some (.int x2), some (.int (x3 - (1 : Int32))), some (.int x4), some (.int (x5 + (1 : Int32))), none, none] (st' := []) (σ' := (ax_sI s 79 (((x3 - (1 : Int32)) - (1 : Int32))).toNatClampNeg v3)) 16 (And.intro rfl (And.intro rfl (And.intro rfl (And.intro rfl (And.intro rfl (trivial)))))) (fun _ hh => (And.intro c37 (And.intro c38 (Exists.intro (some (.int v3), s) (And.intro (e_M_reckon d hz39) (And.intro c40 hh)))))) (ih x2 (x3 - (1 : Int32)) x4 (x5 + (1 : Int32)) (ax_sI s 79 (((x3 - (1 : Int32)) - (1 : Int32))).toNatClampNeg v3) _ h hkr)
theorem e_M_comesTo (d : Nat) {x1 : Int32} {x2 : Int32} {s : ax_S} {r : Int32 × ax_S} (h : M_comesTo x1 x2 s = some r) : ax_ev true (d + 2) 226 [.ref 63, .int x1, .int x2] s (some (.int r.1), r.2) := by
  refine ⟨Nat.le_of_ble_eq_true rfl, ?_⟩
  show ax_go true none (ax_ev true (d + 1)) ax_m226 0 [some (.ref 63), some (.int x1), some (.int x2), none, none, none, none, none] [] s _
  unfold M_comesTo at h
  cases hz1 : M_comesTo_l16 70000 x2 (0 : Int32) ((260 : Int32) * (x1 / (260 : Int32))) x1 s with
  | none => rw [hz1] at h; cases h
  | some z1 =>
  rw [hz1] at h
  refine ax_cut (pc' := 16) (la := [some (.ref 63), some (.int x1), some (.int x2), some (.int (0 : Int32)), some (.int ((260 : Int32) * (x1 / (260 : Int32)))), some (.int x1), none, none]) [some (.ref 63), none, some (.int x2), some (.int (0 : Int32)), some (.int ((260 : Int32) * (x1 / (260 : Int32)))), some (.int x1), none, none] (st' := []) (σ' := s) 10 (And.intro rfl (And.intro rfl (And.intro rfl (And.intro rfl (And.intro rfl (trivial)))))) (fun _ hh => (And.intro (show ¬ (260 : Int32) = 0 by decide) hh)) (w_M_comesTo_l16 d 70000 x2 (0 : Int32) ((260 : Int32) * (x1 / (260 : Int32))) x1 s _ hz1 ?_)
  · intro q hq
    subst z1
    dsimp only at h
    cases h
    rfl
def M_byLaw_l2 : Nat → Int32 → Int32 → Int32 → ax_S → Option ((Int32 × ax_S) ⊕ (Int32 × ax_S))
  | 0, _, _, _, _ => none
  | n + 1, x1, x2, x3, s =>
    if (s.2.1 63 14) ≤ x3 then (
      some (.inr ((0 : Int32), s))) else
    if (x3 < 0 ∨ 16 ≤ (x3).toNatClampNeg) then none else
    if (s.2.1 75 (x3).toNatClampNeg) = x1 then (
      if (x3 < 0 ∨ 16 ≤ (x3).toNatClampNeg) then none else
      if (x3 < 0 ∨ 16 ≤ (x3).toNatClampNeg) then none else
      match M_comesTo (s.2.1 77 (x3).toNatClampNeg) (s.2.1 78 (x3).toNatClampNeg) s with
      | none => none
      | some (v1, s2) =>
        if v1 = (1 : Int32) then (
          some (.inl (x3, s2))) else
        M_byLaw_l2 n x1 x2 (x3 + (1)) s2) else
    M_byLaw_l2 n x1 x2 (x3 + (1)) s
def M_byLaw (x1 : Int32) (x2 : Int32)  (s : ax_S) : Option (Int32 × ax_S) :=
  match M_byLaw_l2 70000 x1 x2 (0 : Int32) s with
  | none => none
  | some (.inl (v3, s4)) =>
    if (v3 < 0 ∨ 16 ≤ (v3).toNatClampNeg) then none else
    if (v3 < 0 ∨ 16 ≤ (v3).toNatClampNeg) then none else
    match M_comesTo (s4.2.1 76 (v3).toNatClampNeg) (s4.2.1 77 (v3).toNatClampNeg) s4 with
    | none => none
    | some (v5, s6) =>
      if 0 ≤ v5 then (
        if v5 ≤ x2 then (
          some (v5, s6)) else
        some (x2, s6)) else
      some ((0 : Int32), s6)
  | some (.inr r) => some r
theorem w_M_byLaw_l2 (d : Nat) {o : ax_O} : ∀ (n : Nat) (x1 : Int32) (x2 : Int32) (x3 : Int32) (s : ax_S) (r : (Int32 × ax_S) ⊕ (Int32 × ax_S)) (h : M_byLaw_l2 n x1 x2 x3 s = some r) (hk0 : ∀ (t0 : Int32) (t1 : ax_S), r = (.inl (t0, t1)) → ax_go true none (ax_ev true (d + 2)) ax_m225 43 [some (.ref 63), none, some (.int x2), some (.int t0), none] [] t1 o) (hkr : ∀ q, r = (.inr q) → o = (some (.int q.1), q.2)), ax_go true none (ax_ev true (d + 2)) ax_m225 2 [some (.ref 63), some (.int x1), some (.int x2), some (.int x3), none] [] s o := by
  intro n
  induction n with
  | zero => intro x1 x2 x3 s r h hk0 hkr; cases h
  | succ n ih =>
    intro x1 x2 x3 s r h hk0 hkr
    rw [M_byLaw_l2] at h
    by_cases c1 : (s.2.1 63 14) ≤ x3
    · rw [if_pos c1] at h
      have h := Option.some.inj h
      subst r
      exact ax_end 6 (And.intro (fun _ => (hkr _ rfl)) (fun q => absurd c1 q))
    · rw [if_neg c1] at h
      by_cases c2 : (x3 < 0 ∨ 16 ≤ (x3).toNatClampNeg)
      · rw [if_pos c2] at h; cases h
      · rw [if_neg c2] at h
        by_cases c3 : (s.2.1 75 (x3).toNatClampNeg) = x1
        · rw [if_pos c3] at h
          by_cases c4 : (x3 < 0 ∨ 16 ≤ (x3).toNatClampNeg)
          · rw [if_pos c4] at h; cases h
          · rw [if_neg c4] at h
            refine ax_cut (pc' := 28) (la := [some (.ref 63), some (.int x1), some (.int x2), some (.int x3), none]) [some (.ref 63), some (.int x1), some (.int x2), some (.int x3), none] (st' := [.ref 63, .int (s.2.1 77 (x3).toNatClampNeg), .ref 63]) (σ' := s) 16 (And.intro rfl (And.intro rfl (And.intro rfl (And.intro rfl (trivial))))) (fun _ hh => (And.intro (fun q => absurd q c1) (fun _ => (And.intro c2 (And.intro (fun q => absurd c3 q) (fun _ => (And.intro c4 hh))))))) ?_
            by_cases c5 : (x3 < 0 ∨ 16 ≤ (x3).toNatClampNeg)
            · rw [if_pos c5] at h; cases h
            · rw [if_neg c5] at h
              cases hz6 : M_comesTo (s.2.1 77 (x3).toNatClampNeg) (s.2.1 78 (x3).toNatClampNeg) s with
              | none => rw [hz6] at h; cases h
              | some z6 =>
              rw [hz6] at h
              obtain ⟨v1, s2⟩ := z6
              dsimp only at h
              by_cases c7 : v1 = (1 : Int32)
              · rw [if_pos c7] at h
                have h := Option.some.inj h
                subst r
                exact ax_cut (pc' := 43) (la := [some (.ref 63), some (.int x1), some (.int x2), some (.int x3), none]) [some (.ref 63), none, some (.int x2), some (.int x3), none] (st' := []) (σ' := s2) 6 (And.intro rfl (And.intro rfl (And.intro rfl (trivial)))) (fun _ hh => (And.intro c5 (Exists.intro (some (.int v1), s2) (And.intro (e_M_comesTo d hz6) (And.intro (fun _ => hh) (fun q => absurd c7 q)))))) (hk0 _ _ rfl)
              · rw [if_neg c7] at h
                exact ax_cut (pc' := 2) (la := [some (.ref 63), some (.int x1), some (.int x2), some (.int (x3 + (1))), none]) [some (.ref 63), some (.int x1), some (.int x2), some (.int (x3 + (1))), none] (st' := []) (σ' := s2) 9 (And.intro rfl (And.intro rfl (And.intro rfl (And.intro rfl (trivial))))) (fun _ hh => (And.intro c5 (Exists.intro (some (.int v1), s2) (And.intro (e_M_comesTo d hz6) (And.intro (fun q => absurd q c7) (fun _ => hh)))))) (ih x1 x2 (x3 + (1)) s2 _ h hk0 hkr)
        · rw [if_neg c3] at h
          exact ax_cut (pc' := 2) (la := [some (.ref 63), some (.int x1), some (.int x2), some (.int (x3 + (1))), none]) [some (.ref 63), some (.int x1), some (.int x2), some (.int (x3 + (1))), none] (st' := []) (σ' := s) 12 (And.intro rfl (And.intro rfl (And.intro rfl (And.intro rfl (trivial))))) (fun _ hh => (And.intro (fun q => absurd q c1) (fun _ => (And.intro c2 (And.intro (fun _ => hh) (fun q => absurd c3 q)))))) (ih x1 x2 (x3 + (1)) s _ h hk0 hkr)
theorem e_M_byLaw (d : Nat) {x1 : Int32} {x2 : Int32} {s : ax_S} {r : Int32 × ax_S} (h : M_byLaw x1 x2 s = some r) : ax_ev true (d + 3) 225 [.ref 63, .int x1, .int x2] s (some (.int r.1), r.2) := by
  refine ⟨Nat.le_of_ble_eq_true rfl, ?_⟩
  show ax_go true none (ax_ev true (d + 2)) ax_m225 0 [some (.ref 63), some (.int x1), some (.int x2), none, none] [] s _
  unfold M_byLaw at h
  cases hz1 : M_byLaw_l2 70000 x1 x2 (0 : Int32) s with
  | none => rw [hz1] at h; cases h
  | some z1 =>
  rw [hz1] at h
  refine ax_cut (pc' := 2) (la := [some (.ref 63), some (.int x1), some (.int x2), some (.int (0 : Int32)), none]) [some (.ref 63), some (.int x1), some (.int x2), some (.int (0 : Int32)), none] (st' := []) (σ' := s) 2 (And.intro rfl (And.intro rfl (And.intro rfl (And.intro rfl (trivial))))) (fun _ hh => hh) (w_M_byLaw_l2 d 70000 x1 x2 (0 : Int32) s _ hz1 ?_ ?_)
  · intro v3 s4 hq
    subst z1
    dsimp only at h
    by_cases c2 : (v3 < 0 ∨ 16 ≤ (v3).toNatClampNeg)
    · rw [if_pos c2] at h; cases h
    · rw [if_neg c2] at h
      by_cases c3 : (v3 < 0 ∨ 16 ≤ (v3).toNatClampNeg)
      · rw [if_pos c3] at h; cases h
      · rw [if_neg c3] at h
        cases hz4 : M_comesTo (s4.2.1 76 (v3).toNatClampNeg) (s4.2.1 77 (v3).toNatClampNeg) s4 with
        | none => rw [hz4] at h; cases h
        | some z4 =>
        rw [hz4] at h
        obtain ⟨v5, s6⟩ := z4
        dsimp only at h
        by_cases c5 : 0 ≤ v5
        · rw [if_pos c5] at h
          by_cases c6 : v5 ≤ x2
          · rw [if_pos c6] at h
            refine ax_cut (pc' := 80) (la := [some (.ref 63), none, some (.int x2), some (.int v3), some (.int v5)]) [none, none, none, none, some (.int v5)] (st' := []) (σ' := s6) 16 (And.intro rfl (trivial)) (fun _ hh => (And.intro c2 (And.intro c3 (Exists.intro (some (.int v5), s6) (And.intro (e_M_comesTo d hz4) (And.intro (fun _ => (And.intro (fun _ => hh) (fun q => absurd c6 q))) (fun q => absurd c5 q))))))) ?_
            have h := Option.some.inj h
            subst r
            exact ax_end 2 rfl
          · rw [if_neg c6] at h
            refine ax_cut (pc' := 76) (la := [some (.ref 63), none, some (.int x2), some (.int v3), some (.int v5)]) [none, none, some (.int x2), none, none] (st' := []) (σ' := s6) 16 (And.intro rfl (trivial)) (fun _ hh => (And.intro c2 (And.intro c3 (Exists.intro (some (.int v5), s6) (And.intro (e_M_comesTo d hz4) (And.intro (fun _ => (And.intro (fun q => absurd q c6) (fun _ => hh))) (fun q => absurd c5 q))))))) ?_
            have h := Option.some.inj h
            subst r
            exact ax_end 3 rfl
        · rw [if_neg c5] at h
          have h := Option.some.inj h
          subst r
          exact ax_end 16 (And.intro c2 (And.intro c3 (Exists.intro (some (.int v5), s6) (And.intro (e_M_comesTo d hz4) (And.intro (fun q => absurd q c5) (fun _ => rfl))))))
  · intro q hq
    subst z1
    dsimp only at h
    cases h
    rfl
def M_holdsAny_l2 : Nat → Int32 → Int32 → ax_S → Option (Int32 × ax_S)
  | 0, _, _, _ => none
  | n + 1, x1, x2, s =>
    if (s.2.1 63 14) ≤ x2 then (
      some ((0 : Int32), s)) else
    if (x2 < 0 ∨ 16 ≤ (x2).toNatClampNeg) then none else
    if (s.2.1 75 (x2).toNatClampNeg) = x1 then (
      if (x2 < 0 ∨ 16 ≤ (x2).toNatClampNeg) then none else
      if (x2 < 0 ∨ 16 ≤ (x2).toNatClampNeg) then none else
      match M_comesTo (s.2.1 77 (x2).toNatClampNeg) (s.2.1 78 (x2).toNatClampNeg) s with
      | none => none
      | some (v1, s2) =>
        if v1 = (1 : Int32) then (
          some ((1 : Int32), s2)) else
        M_holdsAny_l2 n x1 (x2 + (1)) s2) else
    M_holdsAny_l2 n x1 (x2 + (1)) s
def M_holdsAny (x1 : Int32)  (s : ax_S) : Option (Int32 × ax_S) :=
  match M_holdsAny_l2 70000 x1 (0 : Int32) s with
  | none => none
  | some r => some r
theorem w_M_holdsAny_l2 (d : Nat) {o : ax_O} : ∀ (n : Nat) (x1 : Int32) (x2 : Int32) (s : ax_S) (r : Int32 × ax_S) (h : M_holdsAny_l2 n x1 x2 s = some r) (hkr : ∀ q, r = q → o = (some (.int q.1), q.2)), ax_go true none (ax_ev true (d + 2)) ax_m228 2 [some (.ref 63), some (.int x1), some (.int x2)] [] s o := by
  intro n
  induction n with
  | zero => intro x1 x2 s r h hkr; cases h
  | succ n ih =>
    intro x1 x2 s r h hkr
    rw [M_holdsAny_l2] at h
    by_cases c1 : (s.2.1 63 14) ≤ x2
    · rw [if_pos c1] at h
      have h := Option.some.inj h
      subst r
      exact ax_end 6 (And.intro (fun _ => (And.intro (Or.inl rfl) (hkr _ rfl))) (fun q => absurd c1 q))
    · rw [if_neg c1] at h
      by_cases c2 : (x2 < 0 ∨ 16 ≤ (x2).toNatClampNeg)
      · rw [if_pos c2] at h; cases h
      · rw [if_neg c2] at h
        by_cases c3 : (s.2.1 75 (x2).toNatClampNeg) = x1
        · rw [if_pos c3] at h
          by_cases c4 : (x2 < 0 ∨ 16 ≤ (x2).toNatClampNeg)
          · rw [if_pos c4] at h; cases h
          · rw [if_neg c4] at h
            refine ax_cut (pc' := 28) (la := [some (.ref 63), some (.int x1), some (.int x2)]) [some (.ref 63), some (.int x1), some (.int x2)] (st' := [.ref 63, .int (s.2.1 77 (x2).toNatClampNeg), .ref 63]) (σ' := s) 16 (And.intro rfl (And.intro rfl (And.intro rfl (trivial)))) (fun _ hh => (And.intro (fun q => absurd q c1) (fun _ => (And.intro c2 (And.intro (fun q => absurd c3 q) (fun _ => (And.intro c4 hh))))))) ?_
            by_cases c5 : (x2 < 0 ∨ 16 ≤ (x2).toNatClampNeg)
            · rw [if_pos c5] at h; cases h
            · rw [if_neg c5] at h
              cases hz6 : M_comesTo (s.2.1 77 (x2).toNatClampNeg) (s.2.1 78 (x2).toNatClampNeg) s with
              | none => rw [hz6] at h; cases h
              | some z6 =>
              rw [hz6] at h
              obtain ⟨v1, s2⟩ := z6
              dsimp only at h
              by_cases c7 : v1 = (1 : Int32)
              · rw [if_pos c7] at h
                have h := Option.some.inj h
                subst r
                exact ax_end 8 (And.intro c5 (Exists.intro (some (.int v1), s2) (And.intro (e_M_comesTo d hz6) (And.intro (fun q => absurd c7 q) (fun _ => (And.intro (Or.inr rfl) (hkr _ rfl)))))))
              · rw [if_neg c7] at h
                exact ax_cut (pc' := 2) (la := [some (.ref 63), some (.int x1), some (.int (x2 + (1)))]) [some (.ref 63), some (.int x1), some (.int (x2 + (1)))] (st' := []) (σ' := s2) 8 (And.intro rfl (And.intro rfl (And.intro rfl (trivial)))) (fun _ hh => (And.intro c5 (Exists.intro (some (.int v1), s2) (And.intro (e_M_comesTo d hz6) (And.intro (fun _ => hh) (fun q => absurd c7 q)))))) (ih x1 (x2 + (1)) s2 _ h hkr)
        · rw [if_neg c3] at h
          exact ax_cut (pc' := 2) (la := [some (.ref 63), some (.int x1), some (.int (x2 + (1)))]) [some (.ref 63), some (.int x1), some (.int (x2 + (1)))] (st' := []) (σ' := s) 12 (And.intro rfl (And.intro rfl (And.intro rfl (trivial)))) (fun _ hh => (And.intro (fun q => absurd q c1) (fun _ => (And.intro c2 (And.intro (fun _ => hh) (fun q => absurd c3 q)))))) (ih x1 (x2 + (1)) s _ h hkr)
theorem e_M_holdsAny (d : Nat) {x1 : Int32} {s : ax_S} {r : Int32 × ax_S} (h : M_holdsAny x1 s = some r) : ax_ev true (d + 3) 228 [.ref 63, .int x1] s (some (.int r.1), r.2) := by
  refine ⟨Nat.le_of_ble_eq_true rfl, ?_⟩
  show ax_go true none (ax_ev true (d + 2)) ax_m228 0 [some (.ref 63), some (.int x1), none] [] s _
  unfold M_holdsAny at h
  cases hz1 : M_holdsAny_l2 70000 x1 (0 : Int32) s with
  | none => rw [hz1] at h; cases h
  | some z1 =>
  rw [hz1] at h
  refine ax_cut (pc' := 2) (la := [some (.ref 63), some (.int x1), some (.int (0 : Int32))]) [some (.ref 63), some (.int x1), some (.int (0 : Int32))] (st' := []) (σ' := s) 2 (And.intro rfl (And.intro rfl (And.intro rfl (trivial)))) (fun _ hh => hh) (w_M_holdsAny_l2 d 70000 x1 (0 : Int32) s _ hz1 ?_)
  · intro q hq
    subst z1
    dsimp only at h
    cases h
    rfl
def M_laysCut (x1 : Int32) (x2 : Int32) (x3 : Int32) (x4 : Int32)  (s : ax_S) : ax_S :=
  (ax_sI (ax_sI (ax_sI (ax_sI s 63 29 x1) 63 30 x2) 63 31 x3) 63 32 x4)
theorem e_M_laysCut (d : Nat) (x1 : Int32) (x2 : Int32) (x3 : Int32) (x4 : Int32) (s : ax_S) : ax_ev true (d + 1) 230 [.ref 63, .int x1, .int x2, .int x3, .int x4] s (none, (M_laysCut x1 x2 x3 x4 s)) := by
  refine ⟨Nat.le_of_ble_eq_true rfl, ?_⟩
  generalize h : M_laysCut x1 x2 x3 x4 s = r
  show ax_go true none (ax_ev true (d + 0)) ax_m230 0 [some (.ref 63), some (.int x1), some (.int x2), some (.int x3), some (.int x4)] [] s _
  unfold M_laysCut at h
  have h := h
  subst r
  exact ax_end 13 rfl
def M_has (x0 : Int32) (x1 : Int32)  (s : ax_S) : Int32 :=
  if ((x0 >>> (x1 &&& 31)) &&& (1 : Int32)) = (1 : Int32) then (
    (1 : Int32)) else
  (0 : Int32)
theorem e_M_has (d : Nat) (x0 : Int32) (x1 : Int32) (s : ax_S) : ax_ev true (d + 1) 232 [.int x0, .int x1] s (some (.int (M_has x0 x1 s)), s) := by
  refine ⟨Nat.le_of_ble_eq_true rfl, ?_⟩
  generalize h : M_has x0 x1 s = r
  show ax_go true none (ax_ev true (d + 0)) ax_m232 0 [some (.int x0), some (.int x1)] [] s _
  unfold M_has at h
  by_cases c1 : ((x0 >>> (x1 &&& 31)) &&& (1 : Int32)) = (1 : Int32)
  · rw [if_pos c1] at h
    have h := h
    subst r
    exact ax_end 10 (And.intro (fun q => absurd c1 q) (fun _ => (And.intro (Or.inr rfl) rfl)))
  · rw [if_neg c1] at h
    have h := h
    subst r
    exact ax_end 9 (And.intro (fun _ => (And.intro (Or.inl rfl) rfl)) (fun q => absurd c1 q))
def M_below (x1 : Int32)  (s : ax_S) : Option (Int32) :=
  if (((24 : Int32) + x1) < 0 ∨ 291 ≤ (((24 : Int32) + x1)).toNatClampNeg) then none else
  if (((48 : Int32) + x1) < 0 ∨ 291 ≤ (((48 : Int32) + x1)).toNatClampNeg) then none else
  some ((s.2.1 64 (((24 : Int32) + x1)).toNatClampNeg) + (s.2.1 64 (((48 : Int32) + x1)).toNatClampNeg))
theorem e_M_below (d : Nat) {x1 : Int32} {s : ax_S} {r : Int32} (h : M_below x1 s = some r) : ax_ev true (d + 1) 234 [.ref 63, .int x1] s (some (.int r), s) := by
  refine ⟨Nat.le_of_ble_eq_true rfl, ?_⟩
  show ax_go true none (ax_ev true (d + 0)) ax_m234 0 [some (.ref 63), some (.int x1)] [] s _
  unfold M_below at h
  by_cases c1 : (((24 : Int32) + x1) < 0 ∨ 291 ≤ (((24 : Int32) + x1)).toNatClampNeg)
  · rw [if_pos c1] at h; cases h
  · rw [if_neg c1] at h
    by_cases c2 : (((48 : Int32) + x1) < 0 ∨ 291 ≤ (((48 : Int32) + x1)).toNatClampNeg)
    · rw [if_pos c2] at h; cases h
    · rw [if_neg c2] at h
      have h := Option.some.inj h
      subst r
      exact ax_end 14 (And.intro c1 (And.intro c2 rfl))
def M_isIn (x1 : Int32) (x2 : Int32) (x3 : Int32) (x4 : Int32) (x5 : Int32)  (s : ax_S) : Option (Int32) :=
  if (((12 : Int32) + x1) < 0 ∨ 291 ≤ (((12 : Int32) + x1)).toNatClampNeg) then none else
  if (x2 + x4) ≤ (s.2.1 64 (((12 : Int32) + x1)).toNatClampNeg) then (
    some (0 : Int32)) else
  match M_right x1 s with
  | none => none
  | some v1 =>
    if v1 ≤ x2 then (
      some (0 : Int32)) else
    if (((24 : Int32) + x1) < 0 ∨ 291 ≤ (((24 : Int32) + x1)).toNatClampNeg) then none else
    if (x3 + x5) ≤ (s.2.1 64 (((24 : Int32) + x1)).toNatClampNeg) then (
      some (0 : Int32)) else
    match M_below x1 s with
    | none => none
    | some v2 =>
      if v2 ≤ x3 then (
        some (0 : Int32)) else
      some (1 : Int32)
theorem e_M_isIn (d : Nat) {x1 : Int32} {x2 : Int32} {x3 : Int32} {x4 : Int32} {x5 : Int32} {s : ax_S} {r : Int32} (h : M_isIn x1 x2 x3 x4 x5 s = some r) : ax_ev true (d + 2) 233 [.ref 63, .int x1, .int x2, .int x3, .int x4, .int x5] s (some (.int r), s) := by
  refine ⟨Nat.le_of_ble_eq_true rfl, ?_⟩
  show ax_go true none (ax_ev true (d + 1)) ax_m233 0 [some (.ref 63), some (.int x1), some (.int x2), some (.int x3), some (.int x4), some (.int x5)] [] s _
  unfold M_isIn at h
  by_cases c1 : (((12 : Int32) + x1) < 0 ∨ 291 ≤ (((12 : Int32) + x1)).toNatClampNeg)
  · rw [if_pos c1] at h; cases h
  · rw [if_neg c1] at h
    by_cases c2 : (x2 + x4) ≤ (s.2.1 64 (((12 : Int32) + x1)).toNatClampNeg)
    · rw [if_pos c2] at h
      have h := Option.some.inj h
      subst r
      exact ax_end 12 (And.intro c1 (And.intro (fun _ => (And.intro (Or.inl rfl) rfl)) (fun q => absurd c2 q)))
    · rw [if_neg c2] at h
      cases hz3 : M_right x1 s with
      | none => rw [hz3] at h; cases h
      | some v1 =>
      rw [hz3] at h
      dsimp only at h
      by_cases c4 : v1 ≤ x2
      · rw [if_pos c4] at h
        refine ax_cut (pc' := 55) (la := [some (.ref 63), some (.int x1), some (.int x2), some (.int x3), some (.int x4), some (.int x5)]) [none, none, none, none, none, none] (st' := [.int (0 : Int32)]) (σ' := s) 16 (trivial) (fun _ hh => (And.intro c1 (And.intro (fun q => absurd q c2) (fun _ => (Exists.intro (some (.int v1), s) (And.intro (e_M_right d hz3) (And.intro (fun _ => hh) (fun q => absurd c4 q)))))))) ?_
        have h := Option.some.inj h
        subst r
        exact ax_end 1 (And.intro (Or.inl rfl) rfl)
      · rw [if_neg c4] at h
        refine ax_cut (pc' := 26) (la := [some (.ref 63), some (.int x1), some (.int x2), some (.int x3), some (.int x4), some (.int x5)]) [some (.ref 63), some (.int x1), none, some (.int x3), none, some (.int x5)] (st' := [.ref 63]) (σ' := s) 16 (And.intro rfl (And.intro rfl (And.intro rfl (And.intro rfl (trivial))))) (fun _ hh => (And.intro c1 (And.intro (fun q => absurd q c2) (fun _ => (Exists.intro (some (.int v1), s) (And.intro (e_M_right d hz3) (And.intro (fun q => absurd q c4) (fun _ => hh)))))))) ?_
        by_cases c5 : (((24 : Int32) + x1) < 0 ∨ 291 ≤ (((24 : Int32) + x1)).toNatClampNeg)
        · rw [if_pos c5] at h; cases h
        · rw [if_neg c5] at h
          by_cases c6 : (x3 + x5) ≤ (s.2.1 64 (((24 : Int32) + x1)).toNatClampNeg)
          · rw [if_pos c6] at h
            have h := Option.some.inj h
            subst r
            exact ax_end 11 (And.intro c5 (And.intro (fun _ => (And.intro (Or.inl rfl) rfl)) (fun q => absurd c6 q)))
          · rw [if_neg c6] at h
            cases hz7 : M_below x1 s with
            | none => rw [hz7] at h; cases h
            | some v2 =>
            rw [hz7] at h
            dsimp only at h
            by_cases c8 : v2 ≤ x3
            · rw [if_pos c8] at h
              have h := Option.some.inj h
              subst r
              exact ax_end 16 (And.intro c5 (And.intro (fun q => absurd q c6) (fun _ => (Exists.intro (some (.int v2), s) (And.intro (e_M_below d hz7) (And.intro (fun _ => (And.intro (Or.inl rfl) rfl)) (fun q => absurd c8 q)))))))
            · rw [if_neg c8] at h
              refine ax_cut (pc' := 55) (la := [some (.ref 63), some (.int x1), none, some (.int x3), none, some (.int x5)]) [none, none, none, none, none, none] (st' := [.int (1 : Int32)]) (σ' := s) 16 (trivial) (fun _ hh => (And.intro c5 (And.intro (fun q => absurd q c6) (fun _ => (Exists.intro (some (.int v2), s) (And.intro (e_M_below d hz7) (And.intro (fun q => absurd q c8) (fun _ => hh)))))))) ?_
              have h := Option.some.inj h
              subst r
              exact ax_end 1 (And.intro (Or.inr rfl) rfl)
def M_isClear_l3 : Nat → Int32 → Int32 → Int32 → Int32 → Int32 → Int32 → ax_S → Option (Int32)
  | 0, _, _, _, _, _, _, _ => none
  | n + 1, x1, x2, x3, x4, x5, x6, s =>
    if (12 : Int32) ≤ x6 then (
      some (1 : Int32)) else
    match M_isFigure x6 s with
    | none => none
    | some v1 =>
      if v1 = 0 then (
        M_isClear_l3 n x1 x2 x3 x4 x5 (x6 + (1)) s) else
      if (((0 : Int32) + x6) < 0 ∨ 291 ≤ (((0 : Int32) + x6)).toNatClampNeg) then none else
      if (M_has x1 (s.2.1 64 (((0 : Int32) + x6)).toNatClampNeg) s) = 0 then (
        M_isClear_l3 n x1 x2 x3 x4 x5 (x6 + (1)) s) else
      match M_isIn x6 x2 x3 x4 x5 s with
      | none => none
      | some v2 =>
        if v2 = 0 then (
          M_isClear_l3 n x1 x2 x3 x4 x5 (x6 + (1)) s) else
        some (0 : Int32)
def M_isClear (x1 : Int32) (x2 : Int32) (x3 : Int32) (x4 : Int32) (x5 : Int32)  (s : ax_S) : Option (Int32) :=
  match M_isClear_l3 70000 x1 x2 x3 x4 x5 (0 : Int32) s with
  | none => none
  | some r => some r
theorem w_M_isClear_l3 (d : Nat) {o : ax_O} : ∀ (n : Nat) (x1 : Int32) (x2 : Int32) (x3 : Int32) (x4 : Int32) (x5 : Int32) (x6 : Int32) (s : ax_S) (r : Int32) (h : M_isClear_l3 n x1 x2 x3 x4 x5 x6 s = some r) (hkr : ∀ q, r = q → o = (some (.int q), s)), ax_go true none (ax_ev true (d + 2)) ax_m231 3 [some (.ref 63), some (.int x1), some (.int x2), some (.int x3), some (.int x4), some (.int x5), some (.int x6)] [] s o := by
  intro n
  induction n with
  | zero => intro x1 x2 x3 x4 x5 x6 s r h hkr; cases h
  | succ n ih =>
    intro x1 x2 x3 x4 x5 x6 s r h hkr
    rw [M_isClear_l3] at h
    by_cases c1 : (12 : Int32) ≤ x6
    · rw [if_pos c1] at h
      have h := Option.some.inj h
      subst r
      exact ax_end 5 (And.intro (fun _ => (And.intro (Or.inr rfl) (hkr _ rfl))) (fun q => absurd c1 q))
    · rw [if_neg c1] at h
      cases hz2 : M_isFigure x6 s with
      | none => rw [hz2] at h; cases h
      | some v1 =>
      rw [hz2] at h
      dsimp only at h
      by_cases c3 : v1 = 0
      · rw [if_pos c3] at h
        exact ax_cut (pc' := 3) (la := [some (.ref 63), some (.int x1), some (.int x2), some (.int x3), some (.int x4), some (.int x5), some (.int (x6 + (1)))]) [some (.ref 63), some (.int x1), some (.int x2), some (.int x3), some (.int x4), some (.int x5), some (.int (x6 + (1)))] (st' := []) (σ' := s) 9 (And.intro rfl (And.intro rfl (And.intro rfl (And.intro rfl (And.intro rfl (And.intro rfl (And.intro rfl (trivial)))))))) (fun _ hh => (And.intro (fun q => absurd q c1) (fun _ => (Exists.intro (some (.int v1), s) (And.intro (e_M_isFigure d hz2) (And.intro (fun _ => hh) (fun q => absurd c3 q))))))) (ih x1 x2 x3 x4 x5 (x6 + (1)) s _ h hkr)
      · rw [if_neg c3] at h
        by_cases c4 : (((0 : Int32) + x6) < 0 ∨ 291 ≤ (((0 : Int32) + x6)).toNatClampNeg)
        · rw [if_pos c4] at h; cases h
        · rw [if_neg c4] at h
          by_cases c5 : (M_has x1 (s.2.1 64 (((0 : Int32) + x6)).toNatClampNeg) s) = 0
          · rw [if_pos c5] at h
            refine ax_cut (pc' := 52) (la := [some (.ref 63), some (.int x1), some (.int x2), some (.int x3), some (.int x4), some (.int x5), some (.int x6)]) [some (.ref 63), some (.int x1), some (.int x2), some (.int x3), some (.int x4), some (.int x5), some (.int x6)] (st' := []) (σ' := s) 16 (And.intro rfl (And.intro rfl (And.intro rfl (And.intro rfl (And.intro rfl (And.intro rfl (And.intro rfl (trivial)))))))) (fun _ hh => (And.intro (fun q => absurd q c1) (fun _ => (Exists.intro (some (.int v1), s) (And.intro (e_M_isFigure d hz2) (And.intro (fun q => absurd q c3) (fun _ => (And.intro c4 (Exists.intro (some (.int (M_has x1 (s.2.1 64 (((0 : Int32) + x6)).toNatClampNeg) s)), s) (And.intro (e_M_has (d + 1) x1 (s.2.1 64 (((0 : Int32) + x6)).toNatClampNeg) s) (And.intro (fun _ => hh) (fun q => absurd c5 q)))))))))))) ?_
            exact ax_cut (pc' := 3) (la := [some (.ref 63), some (.int x1), some (.int x2), some (.int x3), some (.int x4), some (.int x5), some (.int (x6 + (1)))]) [some (.ref 63), some (.int x1), some (.int x2), some (.int x3), some (.int x4), some (.int x5), some (.int (x6 + (1)))] (st' := []) (σ' := s) 2 (And.intro rfl (And.intro rfl (And.intro rfl (And.intro rfl (And.intro rfl (And.intro rfl (And.intro rfl (trivial)))))))) (fun _ hh => hh) (ih x1 x2 x3 x4 x5 (x6 + (1)) s _ h hkr)
          · rw [if_neg c5] at h
            refine ax_cut (pc' := 35) (la := [some (.ref 63), some (.int x1), some (.int x2), some (.int x3), some (.int x4), some (.int x5), some (.int x6)]) [some (.ref 63), some (.int x1), some (.int x2), some (.int x3), some (.int x4), some (.int x5), some (.int x6)] (st' := []) (σ' := s) 16 (And.intro rfl (And.intro rfl (And.intro rfl (And.intro rfl (And.intro rfl (And.intro rfl (And.intro rfl (trivial)))))))) (fun _ hh => (And.intro (fun q => absurd q c1) (fun _ => (Exists.intro (some (.int v1), s) (And.intro (e_M_isFigure d hz2) (And.intro (fun q => absurd q c3) (fun _ => (And.intro c4 (Exists.intro (some (.int (M_has x1 (s.2.1 64 (((0 : Int32) + x6)).toNatClampNeg) s)), s) (And.intro (e_M_has (d + 1) x1 (s.2.1 64 (((0 : Int32) + x6)).toNatClampNeg) s) (And.intro (fun q => absurd q c5) (fun _ => hh)))))))))))) ?_
            cases hz6 : M_isIn x6 x2 x3 x4 x5 s with
            | none => rw [hz6] at h; cases h
            | some v2 =>
            rw [hz6] at h
            dsimp only at h
            by_cases c7 : v2 = 0
            · rw [if_pos c7] at h
              exact ax_cut (pc' := 3) (la := [some (.ref 63), some (.int x1), some (.int x2), some (.int x3), some (.int x4), some (.int x5), some (.int (x6 + (1)))]) [some (.ref 63), some (.int x1), some (.int x2), some (.int x3), some (.int x4), some (.int x5), some (.int (x6 + (1)))] (st' := []) (σ' := s) 10 (And.intro rfl (And.intro rfl (And.intro rfl (And.intro rfl (And.intro rfl (And.intro rfl (And.intro rfl (trivial)))))))) (fun _ hh => (Exists.intro (some (.int v2), s) (And.intro (e_M_isIn d hz6) (And.intro (fun _ => hh) (fun q => absurd c7 q))))) (ih x1 x2 x3 x4 x5 (x6 + (1)) s _ h hkr)
            · rw [if_neg c7] at h
              have h := Option.some.inj h
              subst r
              exact ax_end 10 (Exists.intro (some (.int v2), s) (And.intro (e_M_isIn d hz6) (And.intro (fun q => absurd q c7) (fun _ => (And.intro (Or.inl rfl) (hkr _ rfl))))))
theorem e_M_isClear (d : Nat) {x1 : Int32} {x2 : Int32} {x3 : Int32} {x4 : Int32} {x5 : Int32} {s : ax_S} {r : Int32} (h : M_isClear x1 x2 x3 x4 x5 s = some r) : ax_ev true (d + 3) 231 [.ref 63, .int x1, .int x2, .int x3, .int x4, .int x5] s (some (.int r), s) := by
  refine ⟨Nat.le_of_ble_eq_true rfl, ?_⟩
  show ax_go true none (ax_ev true (d + 2)) ax_m231 0 [some (.ref 63), some (.int x1), some (.int x2), some (.int x3), some (.int x4), some (.int x5), none] [] s _
  unfold M_isClear at h
  cases hz1 : M_isClear_l3 70000 x1 x2 x3 x4 x5 (0 : Int32) s with
  | none => rw [hz1] at h; cases h
  | some z1 =>
  rw [hz1] at h
  refine ax_cut (pc' := 3) (la := [some (.ref 63), some (.int x1), some (.int x2), some (.int x3), some (.int x4), some (.int x5), some (.int (0 : Int32))]) [some (.ref 63), some (.int x1), some (.int x2), some (.int x3), some (.int x4), some (.int x5), some (.int (0 : Int32))] (st' := []) (σ' := s) 2 (And.intro rfl (And.intro rfl (And.intro rfl (And.intro rfl (And.intro rfl (And.intro rfl (And.intro rfl (trivial)))))))) (fun _ hh => hh) (w_M_isClear_l3 d 70000 x1 x2 x3 x4 x5 (0 : Int32) s _ hz1 ?_)
  · intro q hq
    subst z1
    dsimp only at h
    cases h
    rfl
