/-- a step down, the sum unseen -/
theorem ax_iincK {X : ax_X} {E : ax_E} {M : ax_M} {pc k : Nat} {n : Int} {ls ls' : ax_L} {st : List Value} {σ : ax_S} {o : ax_O} {v w : Int32} (hc : M.2.2.2.2.2 pc = some (.iinc k n, 3)) (hv : ls.getD k none = some (.int v)) (hw : w = v + Int32.ofInt n) (hl : ax_st1 ls k (.int w) = ls') (g : ax_go true X E M (pc + 3) ls' st σ o) : ax_go true X E M pc ls st σ o := by
  obtain ⟨m, hm⟩ := g
  refine ⟨m + 1, ?_⟩
  unfold ax_run
  rw [hc]
  dsimp only [ax_ins]
  rw [hv]
  subst hw hl
  exact hm
def M_cutsWithout_l41 : Nat → Int32 → Int32 → Int32 → Int32 → Int32 → ax_S → Option (Int32)
  | 0, _, _, _, _, _, _ => none
  | n + 1, x1, x2, x3, x4, x5, s =>
    if x5 ≤ 0 then (
      some x5) else
    if (x4 * x5) ≤ ((s.2.1 63 31) * (s.2.1 63 32)) then (
      some x5) else
    match M_isClear x1 x3 x2 x4 x5 s with
    | none => none
    | some v1 =>
      if v1 = 0 then (
        M_cutsWithout_l41 n x1 x2 x3 x4 (x5 - (1 : Int32)) s) else
      some x5
def M_cutsWithout_l30 : Nat → Int32 → Int32 → Int32 → Int32 → ax_S → Option (ax_S)
  | 0, _, _, _, _, _ => none
  | n + 1, x1, x2, x3, x4, s =>
    if x4 ≤ 0 then (
      some s) else
    match M_cutsWithout_l41 70000 x1 x2 x3 x4 ((12 : Int32) - x2) s with
    | none => none
    | some v2 =>
      if (x4 * v2) ≤ ((s.2.1 63 31) * (s.2.1 63 32)) then (
        M_cutsWithout_l30 n x1 x2 x3 (x4 + Int32.ofInt (-1)) s) else
      M_cutsWithout_l30 n x1 x2 x3 (x4 + Int32.ofInt (-1)) (M_laysCut x3 x2 x4 v2 s)
def M_cutsWithout_l18 : Nat → Int32 → Int32 → Int32 → ax_S → Option (ax_S)
  | 0, _, _, _, _ => none
  | n + 1, x1, x2, x3, s =>
    if (16 : Int32) ≤ x3 then (
      some s) else
    match M_cutsWithout_l30 70000 x1 x2 x3 ((16 : Int32) - x3) s with
    | none => none
    | some s5 =>
      M_cutsWithout_l18 n x1 x2 (x3 + (1)) s5
def M_cutsWithout_l10 : Nat → Int32 → Int32 → ax_S → Option (ax_S)
  | 0, _, _, _ => none
  | n + 1, x1, x2, s =>
    if (12 : Int32) ≤ x2 then (
      some s) else
    match M_cutsWithout_l18 70000 x1 x2 (0 : Int32) s with
    | none => none
    | some s6 =>
      M_cutsWithout_l10 n x1 (x2 + (1)) s6
def M_cutsWithout (x1 : Int32)  (s : ax_S) : Option (ax_S) :=
  match M_cutsWithout_l10 70000 x1 (0 : Int32) (M_laysCut (0 : Int32) (0 : Int32) (0 : Int32) (0 : Int32) s) with
  | none => none
  | some s7 =>
    some s7
theorem w_M_cutsWithout_l41 (d : Nat) {o : ax_O} : ∀ (n : Nat) (x1 : Int32) (x2 : Int32) (x3 : Int32) (x4 : Int32) (x5 : Int32) (s : ax_S) (r : Int32) (h : M_cutsWithout_l41 n x1 x2 x3 x4 x5 s = some r) (hk0 : ∀ (t0 : Int32), r = t0 → ax_go true none (ax_ev true (d + 3)) ax_m229 86 [some (.ref 63), some (.int x1), some (.int x2), some (.int x3), some (.int x4), some (.int t0)] [] s o), ax_go true none (ax_ev true (d + 3)) ax_m229 41 [some (.ref 63), some (.int x1), some (.int x2), some (.int x3), some (.int x4), some (.int x5)] [] s o := by
  intro n
  induction n with
  | zero => intro x1 x2 x3 x4 x5 s r h hk0; cases h
  | succ n ih =>
    intro x1 x2 x3 x4 x5 s r h hk0
    rw [M_cutsWithout_l41] at h
    by_cases c1 : x5 ≤ 0
    · rw [if_pos c1] at h
      have h := Option.some.inj h
      subst r
      exact ax_cut (pc' := 86) (la := [some (.ref 63), some (.int x1), some (.int x2), some (.int x3), some (.int x4), some (.int x5)]) [some (.ref 63), some (.int x1), some (.int x2), some (.int x3), some (.int x4), some (.int x5)] (st' := []) (σ' := s) 2 (And.intro rfl (And.intro rfl (And.intro rfl (And.intro rfl (And.intro rfl (And.intro rfl (trivial))))))) (fun _ hh => (And.intro (fun _ => hh) (fun q => absurd c1 q))) (hk0 _ rfl)
    · rw [if_neg c1] at h
      by_cases c2 : (x4 * x5) ≤ ((s.2.1 63 31) * (s.2.1 63 32))
      · rw [if_pos c2] at h
        have h := Option.some.inj h
        subst r
        exact ax_cut (pc' := 86) (la := [some (.ref 63), some (.int x1), some (.int x2), some (.int x3), some (.int x4), some (.int x5)]) [some (.ref 63), some (.int x1), some (.int x2), some (.int x3), some (.int x4), some (.int x5)] (st' := []) (σ' := s) 11 (And.intro rfl (And.intro rfl (And.intro rfl (And.intro rfl (And.intro rfl (And.intro rfl (trivial))))))) (fun _ hh => (And.intro (fun q => absurd q c1) (fun _ => (And.intro (fun _ => hh) (fun q => absurd c2 q))))) (hk0 _ rfl)
      · rw [if_neg c2] at h
        refine ax_cut (pc' := 69) (la := [some (.ref 63), some (.int x1), some (.int x2), some (.int x3), some (.int x4), some (.int x5)]) [some (.ref 63), some (.int x1), some (.int x2), some (.int x3), some (.int x4), some (.int x5)] (st' := [.int x4, .int x2, .int x3, .int x1, .ref 63]) (σ' := s) 16 (And.intro rfl (And.intro rfl (And.intro rfl (And.intro rfl (And.intro rfl (And.intro rfl (trivial))))))) (fun _ hh => (And.intro (fun q => absurd q c1) (fun _ => (And.intro (fun q => absurd q c2) (fun _ => hh))))) ?_
        cases hz3 : M_isClear x1 x3 x2 x4 x5 s with
        | none => rw [hz3] at h; cases h
        | some v1 =>
        rw [hz3] at h
        dsimp only at h
        by_cases c4 : v1 = 0
        · rw [if_pos c4] at h
          exact ax_cut (pc' := 41) (la := [some (.ref 63), some (.int x1), some (.int x2), some (.int x3), some (.int x4), some (.int (x5 - (1 : Int32)))]) [some (.ref 63), some (.int x1), some (.int x2), some (.int x3), some (.int x4), some (.int (x5 - (1 : Int32)))] (st' := []) (σ' := s) 8 (And.intro rfl (And.intro rfl (And.intro rfl (And.intro rfl (And.intro rfl (And.intro rfl (trivial))))))) (fun _ hh => (Exists.intro (some (.int v1), s) (And.intro (e_M_isClear d hz3) (And.intro (fun q => absurd c4 q) (fun _ => hh))))) (ih x1 x2 x3 x4 (x5 - (1 : Int32)) s _ h hk0)
        · rw [if_neg c4] at h
          have h := Option.some.inj h
          subst r
          exact ax_cut (pc' := 86) (la := [some (.ref 63), some (.int x1), some (.int x2), some (.int x3), some (.int x4), some (.int x5)]) [some (.ref 63), some (.int x1), some (.int x2), some (.int x3), some (.int x4), some (.int x5)] (st' := []) (σ' := s) 3 (And.intro rfl (And.intro rfl (And.intro rfl (And.intro rfl (And.intro rfl (And.intro rfl (trivial))))))) (fun _ hh => (Exists.intro (some (.int v1), s) (And.intro (e_M_isClear d hz3) (And.intro (fun _ => hh) (fun q => absurd c4 q))))) (hk0 _ rfl)
theorem w_M_cutsWithout_l30 (d : Nat) {o : ax_O} : ∀ (n : Nat) (x1 : Int32) (x2 : Int32) (x3 : Int32) (x4 : Int32) (s : ax_S) (r : ax_S) (h : M_cutsWithout_l30 n x1 x2 x3 x4 s = some r) (hk0 : ∀ (t0 : ax_S), r = t0 → ax_go true none (ax_ev true (d + 3)) ax_m229 119 [some (.ref 63), some (.int x1), some (.int x2), some (.int x3), none, none] [] t0 o), ax_go true none (ax_ev true (d + 3)) ax_m229 30 [some (.ref 63), some (.int x1), some (.int x2), some (.int x3), some (.int x4), none] [] s o := by
  intro n
  induction n with
  | zero => intro x1 x2 x3 x4 s r h hk0; cases h
  | succ n ih =>
    intro x1 x2 x3 x4 s r h hk0
    rw [M_cutsWithout_l30] at h
    by_cases c1 : x4 ≤ 0
    · rw [if_pos c1] at h
      have h := Option.some.inj h
      subst r
      exact ax_cut (pc' := 119) (la := [some (.ref 63), some (.int x1), some (.int x2), some (.int x3), some (.int x4), none]) [some (.ref 63), some (.int x1), some (.int x2), some (.int x3), none, none] (st' := []) (σ' := s) 2 (And.intro rfl (And.intro rfl (And.intro rfl (And.intro rfl (trivial))))) (fun _ hh => (And.intro (fun _ => hh) (fun q => absurd c1 q))) (hk0 _ rfl)
    · rw [if_neg c1] at h
      cases hz2 : M_cutsWithout_l41 70000 x1 x2 x3 x4 ((12 : Int32) - x2) s with
      | none => rw [hz2] at h; cases h
      | some z2 =>
      rw [hz2] at h
      refine ax_cut (pc' := 41) (la := [some (.ref 63), some (.int x1), some (.int x2), some (.int x3), some (.int x4), some (.int ((12 : Int32) - x2))]) [some (.ref 63), some (.int x1), some (.int x2), some (.int x3), some (.int x4), some (.int ((12 : Int32) - x2))] (st' := []) (σ' := s) 6 (And.intro rfl (And.intro rfl (And.intro rfl (And.intro rfl (And.intro rfl (And.intro rfl (trivial))))))) (fun _ hh => (And.intro (fun q => absurd q c1) (fun _ => hh))) (w_M_cutsWithout_l41 d 70000 x1 x2 x3 x4 ((12 : Int32) - x2) s _ hz2 ?_)
      · intro v2 hq
        subst z2
        dsimp only at h
        by_cases c3 : (x4 * v2) ≤ ((s.2.1 63 31) * (s.2.1 63 32))
        · rw [if_pos c3] at h
          refine ax_cut (pc' := 113) (la := [some (.ref 63), some (.int x1), some (.int x2), some (.int x3), some (.int x4), some (.int v2)]) [some (.ref 63), some (.int x1), some (.int x2), some (.int x3), some (.int x4), none] (st' := []) (σ' := s) 9 (And.intro rfl (And.intro rfl (And.intro rfl (And.intro rfl (And.intro rfl (trivial)))))) (fun _ hh => (And.intro (fun _ => hh) (fun q => absurd c3 q))) ?_
          obtain ⟨w3, hw3⟩ : ∃ w, w = x4 + Int32.ofInt (-1) := ⟨_, rfl⟩
          refine ax_iincK (ls' := [some (.ref 63), some (.int x1), some (.int x2), some (.int x3), some (.int w3), none]) (w := w3) rfl rfl hw3 rfl ?_
          subst hw3
          exact ax_cut (pc' := 30) (la := [some (.ref 63), some (.int x1), some (.int x2), some (.int x3), some (.int (x4 + Int32.ofInt (-1))), none]) [some (.ref 63), some (.int x1), some (.int x2), some (.int x3), some (.int (x4 + Int32.ofInt (-1))), none] (st' := []) (σ' := s) 1 (And.intro rfl (And.intro rfl (And.intro rfl (And.intro rfl (And.intro rfl (trivial)))))) (fun _ hh => hh) (ih x1 x2 x3 (x4 + Int32.ofInt (-1)) s _ h hk0)
        · rw [if_neg c3] at h
          refine ax_cut (pc' := 113) (la := [some (.ref 63), some (.int x1), some (.int x2), some (.int x3), some (.int x4), some (.int v2)]) [some (.ref 63), some (.int x1), some (.int x2), some (.int x3), some (.int x4), none] (st' := []) (σ' := (M_laysCut x3 x2 x4 v2 s)) 15 (And.intro rfl (And.intro rfl (And.intro rfl (And.intro rfl (And.intro rfl (trivial)))))) (fun _ hh => (And.intro (fun q => absurd q c3) (fun _ => (Exists.intro (none, (M_laysCut x3 x2 x4 v2 s)) (And.intro (e_M_laysCut (d + 2) x3 x2 x4 v2 s) hh))))) ?_
          obtain ⟨w4, hw4⟩ : ∃ w, w = x4 + Int32.ofInt (-1) := ⟨_, rfl⟩
          refine ax_iincK (ls' := [some (.ref 63), some (.int x1), some (.int x2), some (.int x3), some (.int w4), none]) (w := w4) rfl rfl hw4 rfl ?_
          subst hw4
          exact ax_cut (pc' := 30) (la := [some (.ref 63), some (.int x1), some (.int x2), some (.int x3), some (.int (x4 + Int32.ofInt (-1))), none]) [some (.ref 63), some (.int x1), some (.int x2), some (.int x3), some (.int (x4 + Int32.ofInt (-1))), none] (st' := []) (σ' := (M_laysCut x3 x2 x4 v2 s)) 1 (And.intro rfl (And.intro rfl (And.intro rfl (And.intro rfl (And.intro rfl (trivial)))))) (fun _ hh => hh) (ih x1 x2 x3 (x4 + Int32.ofInt (-1)) (M_laysCut x3 x2 x4 v2 s) _ h hk0)
theorem w_M_cutsWithout_l18 (d : Nat) {o : ax_O} : ∀ (n : Nat) (x1 : Int32) (x2 : Int32) (x3 : Int32) (s : ax_S) (r : ax_S) (h : M_cutsWithout_l18 n x1 x2 x3 s = some r) (hk0 : ∀ (t0 : ax_S), r = t0 → ax_go true none (ax_ev true (d + 3)) ax_m229 125 [some (.ref 63), some (.int x1), some (.int x2), none, none, none] [] t0 o), ax_go true none (ax_ev true (d + 3)) ax_m229 18 [some (.ref 63), some (.int x1), some (.int x2), some (.int x3), none, none] [] s o := by
  intro n
  induction n with
  | zero => intro x1 x2 x3 s r h hk0; cases h
  | succ n ih =>
    intro x1 x2 x3 s r h hk0
    rw [M_cutsWithout_l18] at h
    by_cases c1 : (16 : Int32) ≤ x3
    · rw [if_pos c1] at h
      have h := Option.some.inj h
      subst r
      exact ax_cut (pc' := 125) (la := [some (.ref 63), some (.int x1), some (.int x2), some (.int x3), none, none]) [some (.ref 63), some (.int x1), some (.int x2), none, none, none] (st' := []) (σ' := s) 3 (And.intro rfl (And.intro rfl (And.intro rfl (trivial)))) (fun _ hh => (And.intro (fun _ => hh) (fun q => absurd c1 q))) (hk0 _ rfl)
    · rw [if_neg c1] at h
      cases hz2 : M_cutsWithout_l30 70000 x1 x2 x3 ((16 : Int32) - x3) s with
      | none => rw [hz2] at h; cases h
      | some z2 =>
      rw [hz2] at h
      refine ax_cut (pc' := 30) (la := [some (.ref 63), some (.int x1), some (.int x2), some (.int x3), some (.int ((16 : Int32) - x3)), none]) [some (.ref 63), some (.int x1), some (.int x2), some (.int x3), some (.int ((16 : Int32) - x3)), none] (st' := []) (σ' := s) 7 (And.intro rfl (And.intro rfl (And.intro rfl (And.intro rfl (And.intro rfl (trivial)))))) (fun _ hh => (And.intro (fun q => absurd q c1) (fun _ => hh))) (w_M_cutsWithout_l30 d 70000 x1 x2 x3 ((16 : Int32) - x3) s _ hz2 ?_)
      · intro s5 hq
        subst z2
        dsimp only at h
        exact ax_cut (pc' := 18) (la := [some (.ref 63), some (.int x1), some (.int x2), some (.int (x3 + (1))), none, none]) [some (.ref 63), some (.int x1), some (.int x2), some (.int (x3 + (1))), none, none] (st' := []) (σ' := s5) 2 (And.intro rfl (And.intro rfl (And.intro rfl (And.intro rfl (trivial))))) (fun _ hh => hh) (ih x1 x2 (x3 + (1)) s5 _ h hk0)
theorem w_M_cutsWithout_l10 (d : Nat) {o : ax_O} : ∀ (n : Nat) (x1 : Int32) (x2 : Int32) (s : ax_S) (r : ax_S) (h : M_cutsWithout_l10 n x1 x2 s = some r) (hk0 : ∀ (t0 : ax_S), r = t0 → ax_go true none (ax_ev true (d + 3)) ax_m229 131 [none, none, none, none, none, none] [] t0 o), ax_go true none (ax_ev true (d + 3)) ax_m229 10 [some (.ref 63), some (.int x1), some (.int x2), none, none, none] [] s o := by
  intro n
  induction n with
  | zero => intro x1 x2 s r h hk0; cases h
  | succ n ih =>
    intro x1 x2 s r h hk0
    rw [M_cutsWithout_l10] at h
    by_cases c1 : (12 : Int32) ≤ x2
    · rw [if_pos c1] at h
      have h := Option.some.inj h
      subst r
      exact ax_cut (pc' := 131) (la := [some (.ref 63), some (.int x1), some (.int x2), none, none, none]) [none, none, none, none, none, none] (st' := []) (σ' := s) 3 (trivial) (fun _ hh => (And.intro (fun _ => hh) (fun q => absurd c1 q))) (hk0 _ rfl)
    · rw [if_neg c1] at h
      cases hz2 : M_cutsWithout_l18 70000 x1 x2 (0 : Int32) s with
      | none => rw [hz2] at h; cases h
      | some z2 =>
      rw [hz2] at h
      refine ax_cut (pc' := 18) (la := [some (.ref 63), some (.int x1), some (.int x2), some (.int (0 : Int32)), none, none]) [some (.ref 63), some (.int x1), some (.int x2), some (.int (0 : Int32)), none, none] (st' := []) (σ' := s) 5 (And.intro rfl (And.intro rfl (And.intro rfl (And.intro rfl (trivial))))) (fun _ hh => (And.intro (fun q => absurd q c1) (fun _ => hh))) (w_M_cutsWithout_l18 d 70000 x1 x2 (0 : Int32) s _ hz2 ?_)
      · intro s6 hq
        subst z2
        dsimp only at h
        exact ax_cut (pc' := 10) (la := [some (.ref 63), some (.int x1), some (.int (x2 + (1))), none, none, none]) [some (.ref 63), some (.int x1), some (.int (x2 + (1))), none, none, none] (st' := []) (σ' := s6) 2 (And.intro rfl (And.intro rfl (And.intro rfl (trivial)))) (fun _ hh => hh) (ih x1 (x2 + (1)) s6 _ h hk0)
theorem e_M_cutsWithout (d : Nat) {x1 : Int32} {s : ax_S} {r : ax_S} (h : M_cutsWithout x1 s = some r) : ax_ev true (d + 4) 229 [.ref 63, .int x1] s (none, r) := by
  refine ⟨Nat.le_of_ble_eq_true rfl, ?_⟩
  show ax_go true none (ax_ev true (d + 3)) ax_m229 0 [some (.ref 63), some (.int x1), none, none, none, none] [] s _
  unfold M_cutsWithout at h
  cases hz1 : M_cutsWithout_l10 70000 x1 (0 : Int32) (M_laysCut (0 : Int32) (0 : Int32) (0 : Int32) (0 : Int32) s) with
  | none => rw [hz1] at h; cases h
  | some z1 =>
  rw [hz1] at h
  refine ax_cut (pc' := 10) (la := [some (.ref 63), some (.int x1), some (.int (0 : Int32)), none, none, none]) [some (.ref 63), some (.int x1), some (.int (0 : Int32)), none, none, none] (st' := []) (σ' := (M_laysCut (0 : Int32) (0 : Int32) (0 : Int32) (0 : Int32) s)) 8 (And.intro rfl (And.intro rfl (And.intro rfl (trivial)))) (fun _ hh => (Exists.intro (none, (M_laysCut (0 : Int32) (0 : Int32) (0 : Int32) (0 : Int32) s)) (And.intro (e_M_laysCut (d + 2) (0 : Int32) (0 : Int32) (0 : Int32) (0 : Int32) s) hh))) (w_M_cutsWithout_l10 d 70000 x1 (0 : Int32) (M_laysCut (0 : Int32) (0 : Int32) (0 : Int32) (0 : Int32) s) _ hz1 ?_)
  · intro s7 hq
    subst z1
    dsimp only at h
    have h := Option.some.inj h
    subst r
    exact ax_end 1 rfl
def M_isWhollyIn (x1 : Int32) (x2 : Int32) (x3 : Int32) (x4 : Int32) (x5 : Int32)  (s : ax_S) : Option (Int32) :=
  if (((12 : Int32) + x1) < 0 ∨ 291 ≤ (((12 : Int32) + x1)).toNatClampNeg) then none else
  if (s.2.1 64 (((12 : Int32) + x1)).toNatClampNeg) < x2 then (
    some (0 : Int32)) else
  match M_right x1 s with
  | none => none
  | some v1 =>
    if (x2 + x4) < v1 then (
      some (0 : Int32)) else
    if (((24 : Int32) + x1) < 0 ∨ 291 ≤ (((24 : Int32) + x1)).toNatClampNeg) then none else
    if (s.2.1 64 (((24 : Int32) + x1)).toNatClampNeg) < x3 then (
      some (0 : Int32)) else
    match M_below x1 s with
    | none => none
    | some v2 =>
      if (x3 + x5) < v2 then (
        some (0 : Int32)) else
      some (1 : Int32)
theorem e_M_isWhollyIn (d : Nat) {x1 : Int32} {x2 : Int32} {x3 : Int32} {x4 : Int32} {x5 : Int32} {s : ax_S} {r : Int32} (h : M_isWhollyIn x1 x2 x3 x4 x5 s = some r) : ax_ev true (d + 2) 236 [.ref 63, .int x1, .int x2, .int x3, .int x4, .int x5] s (some (.int r), s) := by
  refine ⟨Nat.le_of_ble_eq_true rfl, ?_⟩
  show ax_go true none (ax_ev true (d + 1)) ax_m236 0 [some (.ref 63), some (.int x1), some (.int x2), some (.int x3), some (.int x4), some (.int x5)] [] s _
  unfold M_isWhollyIn at h
  by_cases c1 : (((12 : Int32) + x1) < 0 ∨ 291 ≤ (((12 : Int32) + x1)).toNatClampNeg)
  · rw [if_pos c1] at h; cases h
  · rw [if_neg c1] at h
    by_cases c2 : (s.2.1 64 (((12 : Int32) + x1)).toNatClampNeg) < x2
    · rw [if_pos c2] at h
      have h := Option.some.inj h
      subst r
      exact ax_end 10 (And.intro c1 (And.intro (fun _ => (And.intro (Or.inl rfl) rfl)) (fun q => absurd c2 q)))
    · rw [if_neg c2] at h
      cases hz3 : M_right x1 s with
      | none => rw [hz3] at h; cases h
      | some v1 =>
      rw [hz3] at h
      dsimp only at h
      by_cases c4 : (x2 + x4) < v1
      · rw [if_pos c4] at h
        refine ax_cut (pc' := 55) (la := [some (.ref 63), some (.int x1), some (.int x2), some (.int x3), some (.int x4), some (.int x5)]) [none, none, none, none, none, none] (st' := [.int (0 : Int32)]) (σ' := s) 16 (trivial) (fun _ hh => (And.intro c1 (And.intro (fun q => absurd q c2) (fun _ => (Exists.intro (some (.int v1), s) (And.intro (e_M_right d hz3) (And.intro (fun _ => hh) (fun q => absurd c4 q)))))))) ?_
        have h := Option.some.inj h
        subst r
        exact ax_end 1 (And.intro (Or.inl rfl) rfl)
      · rw [if_neg c4] at h
        refine ax_cut (pc' := 26) (la := [some (.ref 63), some (.int x1), some (.int x2), some (.int x3), some (.int x4), some (.int x5)]) [some (.ref 63), some (.int x1), none, some (.int x3), none, some (.int x5)] (st' := [.ref 63]) (σ' := s) 16 (And.intro rfl (And.intro rfl (And.intro rfl (And.intro rfl (trivial))))) (fun _ hh => (And.intro c1 (And.intro (fun q => absurd q c2) (fun _ => (Exists.intro (some (.int v1), s) (And.intro (e_M_right d hz3) (And.intro (fun q => absurd q c4) (fun _ => hh)))))))) ?_
        by_cases c5 : (((24 : Int32) + x1) < 0 ∨ 291 ≤ (((24 : Int32) + x1)).toNatClampNeg)
        · rw [if_pos c5] at h; cases h
        · rw [if_neg c5] at h
          by_cases c6 : (s.2.1 64 (((24 : Int32) + x1)).toNatClampNeg) < x3
          · rw [if_pos c6] at h
            have h := Option.some.inj h
            subst r
            exact ax_end 9 (And.intro c5 (And.intro (fun _ => (And.intro (Or.inl rfl) rfl)) (fun q => absurd c6 q)))
          · rw [if_neg c6] at h
            cases hz7 : M_below x1 s with
            | none => rw [hz7] at h; cases h
            | some v2 =>
            rw [hz7] at h
            dsimp only at h
            by_cases c8 : (x3 + x5) < v2
            · rw [if_pos c8] at h
              have h := Option.some.inj h
              subst r
              exact ax_end 16 (And.intro c5 (And.intro (fun q => absurd q c6) (fun _ => (Exists.intro (some (.int v2), s) (And.intro (e_M_below d hz7) (And.intro (fun _ => (And.intro (Or.inl rfl) rfl)) (fun q => absurd c8 q)))))))
            · rw [if_neg c8] at h
              refine ax_cut (pc' := 55) (la := [some (.ref 63), some (.int x1), none, some (.int x3), none, some (.int x5)]) [none, none, none, none, none, none] (st' := [.int (1 : Int32)]) (σ' := s) 16 (trivial) (fun _ hh => (And.intro c5 (And.intro (fun q => absurd q c6) (fun _ => (Exists.intro (some (.int v2), s) (And.intro (e_M_below d hz7) (And.intro (fun q => absurd q c8) (fun _ => hh)))))))) ?_
              have h := Option.some.inj h
              subst r
              exact ax_end 1 (And.intro (Or.inr rfl) rfl)
def M_wholeIn_l6 : Nat → Int32 → Int32 → Int32 → Int32 → Int32 → Int32 → ax_S → Option (Int32)
  | 0, _, _, _, _, _, _, _ => none
  | n + 1, x1, x2, x3, x4, x5, x6, s =>
    if (12 : Int32) ≤ x6 then (
      some x5) else
    match M_isFigure x6 s with
    | none => none
    | some v1 =>
      if v1 = 0 then (
        M_wholeIn_l6 n x1 x2 x3 x4 x5 (x6 + (1)) s) else
      match M_isWhollyIn x6 x1 x2 x3 x4 s with
      | none => none
      | some v2 =>
        if v2 = 0 then (
          M_wholeIn_l6 n x1 x2 x3 x4 x5 (x6 + (1)) s) else
        if (((0 : Int32) + x6) < 0 ∨ 291 ≤ (((0 : Int32) + x6)).toNatClampNeg) then none else
        M_wholeIn_l6 n x1 x2 x3 x4 (x5 ||| ((1 : Int32) <<< ((s.2.1 64 (((0 : Int32) + x6)).toNatClampNeg) &&& 31))) (x6 + (1)) s
def M_wholeIn (x1 : Int32) (x2 : Int32) (x3 : Int32) (x4 : Int32)  (s : ax_S) : Option (Int32) :=
  match M_wholeIn_l6 70000 x1 x2 x3 x4 (0 : Int32) (0 : Int32) s with
  | none => none
  | some v3 =>
    some v3
theorem w_M_wholeIn_l6 (d : Nat) {o : ax_O} : ∀ (n : Nat) (x1 : Int32) (x2 : Int32) (x3 : Int32) (x4 : Int32) (x5 : Int32) (x6 : Int32) (s : ax_S) (r : Int32) (h : M_wholeIn_l6 n x1 x2 x3 x4 x5 x6 s = some r) (hk0 : ∀ (t0 : Int32), r = t0 → ax_go true none (ax_ev true (d + 2)) ax_m235 58 [none, none, none, none, none, some (.int t0), none] [] s o), ax_go true none (ax_ev true (d + 2)) ax_m235 6 [some (.ref 63), some (.int x1), some (.int x2), some (.int x3), some (.int x4), some (.int x5), some (.int x6)] [] s o := by
  intro n
  induction n with
  | zero => intro x1 x2 x3 x4 x5 x6 s r h hk0; cases h
  | succ n ih =>
    intro x1 x2 x3 x4 x5 x6 s r h hk0
    rw [M_wholeIn_l6] at h
    by_cases c1 : (12 : Int32) ≤ x6
    · rw [if_pos c1] at h
      have h := Option.some.inj h
      subst r
      exact ax_cut (pc' := 58) (la := [some (.ref 63), some (.int x1), some (.int x2), some (.int x3), some (.int x4), some (.int x5), some (.int x6)]) [none, none, none, none, none, some (.int x5), none] (st' := []) (σ' := s) 3 (And.intro rfl (trivial)) (fun _ hh => (And.intro (fun _ => hh) (fun q => absurd c1 q))) (hk0 _ rfl)
    · rw [if_neg c1] at h
      cases hz2 : M_isFigure x6 s with
      | none => rw [hz2] at h; cases h
      | some v1 =>
      rw [hz2] at h
      dsimp only at h
      by_cases c3 : v1 = 0
      · rw [if_pos c3] at h
        exact ax_cut (pc' := 6) (la := [some (.ref 63), some (.int x1), some (.int x2), some (.int x3), some (.int x4), some (.int x5), some (.int (x6 + (1)))]) [some (.ref 63), some (.int x1), some (.int x2), some (.int x3), some (.int x4), some (.int x5), some (.int (x6 + (1)))] (st' := []) (σ' := s) 9 (And.intro rfl (And.intro rfl (And.intro rfl (And.intro rfl (And.intro rfl (And.intro rfl (And.intro rfl (trivial)))))))) (fun _ hh => (And.intro (fun q => absurd q c1) (fun _ => (Exists.intro (some (.int v1), s) (And.intro (e_M_isFigure d hz2) (And.intro (fun _ => hh) (fun q => absurd c3 q))))))) (ih x1 x2 x3 x4 x5 (x6 + (1)) s _ h hk0)
      · rw [if_neg c3] at h
        cases hz4 : M_isWhollyIn x6 x1 x2 x3 x4 s with
        | none => rw [hz4] at h; cases h
        | some v2 =>
        rw [hz4] at h
        dsimp only at h
        by_cases c5 : v2 = 0
        · rw [if_pos c5] at h
          refine ax_cut (pc' := 55) (la := [some (.ref 63), some (.int x1), some (.int x2), some (.int x3), some (.int x4), some (.int x5), some (.int (x6 + (1)))]) [some (.ref 63), some (.int x1), some (.int x2), some (.int x3), some (.int x4), some (.int x5), some (.int (x6 + (1)))] (st' := []) (σ' := s) 16 (And.intro rfl (And.intro rfl (And.intro rfl (And.intro rfl (And.intro rfl (And.intro rfl (And.intro rfl (trivial)))))))) (fun _ hh => (And.intro (fun q => absurd q c1) (fun _ => (Exists.intro (some (.int v1), s) (And.intro (e_M_isFigure d hz2) (And.intro (fun q => absurd q c3) (fun _ => (Exists.intro (some (.int v2), s) (And.intro (e_M_isWhollyIn d hz4) (And.intro (fun _ => hh) (fun q => absurd c5 q))))))))))) ?_
          exact ax_cut (pc' := 6) (la := [some (.ref 63), some (.int x1), some (.int x2), some (.int x3), some (.int x4), some (.int x5), some (.int (x6 + (1)))]) [some (.ref 63), some (.int x1), some (.int x2), some (.int x3), some (.int x4), some (.int x5), some (.int (x6 + (1)))] (st' := []) (σ' := s) 1 (And.intro rfl (And.intro rfl (And.intro rfl (And.intro rfl (And.intro rfl (And.intro rfl (And.intro rfl (trivial)))))))) (fun _ hh => hh) (ih x1 x2 x3 x4 x5 (x6 + (1)) s _ h hk0)
        · rw [if_neg c5] at h
          refine ax_cut (pc' := 38) (la := [some (.ref 63), some (.int x1), some (.int x2), some (.int x3), some (.int x4), some (.int x5), some (.int x6)]) [some (.ref 63), some (.int x1), some (.int x2), some (.int x3), some (.int x4), none, some (.int x6)] (st' := [.int x5]) (σ' := s) 16 (And.intro rfl (And.intro rfl (And.intro rfl (And.intro rfl (And.intro rfl (And.intro rfl (trivial))))))) (fun _ hh => (And.intro (fun q => absurd q c1) (fun _ => (Exists.intro (some (.int v1), s) (And.intro (e_M_isFigure d hz2) (And.intro (fun q => absurd q c3) (fun _ => (Exists.intro (some (.int v2), s) (And.intro (e_M_isWhollyIn d hz4) (And.intro (fun q => absurd q c5) (fun _ => hh))))))))))) ?_
          by_cases c6 : (((0 : Int32) + x6) < 0 ∨ 291 ≤ (((0 : Int32) + x6)).toNatClampNeg)
          · rw [if_pos c6] at h; cases h
          · rw [if_neg c6] at h
            exact ax_cut (pc' := 6) (la := [some (.ref 63), some (.int x1), some (.int x2), some (.int x3), some (.int x4), some (.int (x5 ||| ((1 : Int32) <<< ((s.2.1 64 (((0 : Int32) + x6)).toNatClampNeg) &&& 31)))), some (.int (x6 + (1)))]) [some (.ref 63), some (.int x1), some (.int x2), some (.int x3), some (.int x4), some (.int (x5 ||| ((1 : Int32) <<< ((s.2.1 64 (((0 : Int32) + x6)).toNatClampNeg) &&& 31)))), some (.int (x6 + (1)))] (st' := []) (σ' := s) 12 (And.intro rfl (And.intro rfl (And.intro rfl (And.intro rfl (And.intro rfl (And.intro rfl (And.intro rfl (trivial)))))))) (fun _ hh => (And.intro c6 hh)) (ih x1 x2 x3 x4 (x5 ||| ((1 : Int32) <<< ((s.2.1 64 (((0 : Int32) + x6)).toNatClampNeg) &&& 31))) (x6 + (1)) s _ h hk0)
theorem e_M_wholeIn (d : Nat) {x1 : Int32} {x2 : Int32} {x3 : Int32} {x4 : Int32} {s : ax_S} {r : Int32} (h : M_wholeIn x1 x2 x3 x4 s = some r) : ax_ev true (d + 3) 235 [.ref 63, .int x1, .int x2, .int x3, .int x4] s (some (.int r), s) := by
  refine ⟨Nat.le_of_ble_eq_true rfl, ?_⟩
  show ax_go true none (ax_ev true (d + 2)) ax_m235 0 [some (.ref 63), some (.int x1), some (.int x2), some (.int x3), some (.int x4), none, none] [] s _
  unfold M_wholeIn at h
  cases hz1 : M_wholeIn_l6 70000 x1 x2 x3 x4 (0 : Int32) (0 : Int32) s with
  | none => rw [hz1] at h; cases h
  | some z1 =>
  rw [hz1] at h
  refine ax_cut (pc' := 6) (la := [some (.ref 63), some (.int x1), some (.int x2), some (.int x3), some (.int x4), some (.int (0 : Int32)), some (.int (0 : Int32))]) [some (.ref 63), some (.int x1), some (.int x2), some (.int x3), some (.int x4), some (.int (0 : Int32)), some (.int (0 : Int32))] (st' := []) (σ' := s) 4 (And.intro rfl (And.intro rfl (And.intro rfl (And.intro rfl (And.intro rfl (And.intro rfl (And.intro rfl (trivial)))))))) (fun _ hh => hh) (w_M_wholeIn_l6 d 70000 x1 x2 x3 x4 (0 : Int32) (0 : Int32) s _ hz1 ?_)
  · intro v3 hq
    subst z1
    dsimp only at h
    have h := Option.some.inj h
    subst r
    exact ax_end 2 rfl
def M_remembers (x1 : Int32) (x2 : Int32)  (s : ax_S) : Option (ax_S) :=
  if (((108 : Int32) + ((s.2.1 64 288) - (s.2.1 64 288) / (30 : Int32) * (30 : Int32))) < 0 ∨ 291 ≤ (((108 : Int32) + ((s.2.1 64 288) - (s.2.1 64 288) / (30 : Int32) * (30 : Int32)))).toNatClampNeg) then none else
  if (((138 : Int32) + ((s.2.1 64 288) - (s.2.1 64 288) / (30 : Int32) * (30 : Int32))) < 0 ∨ 291 ≤ (((138 : Int32) + ((s.2.1 64 288) - (s.2.1 64 288) / (30 : Int32) * (30 : Int32)))).toNatClampNeg) then none else
  if (((168 : Int32) + ((s.2.1 64 288) - (s.2.1 64 288) / (30 : Int32) * (30 : Int32))) < 0 ∨ 291 ≤ (((168 : Int32) + ((s.2.1 64 288) - (s.2.1 64 288) / (30 : Int32) * (30 : Int32)))).toNatClampNeg) then none else
  if (((198 : Int32) + ((s.2.1 64 288) - (s.2.1 64 288) / (30 : Int32) * (30 : Int32))) < 0 ∨ 291 ≤ (((198 : Int32) + ((s.2.1 64 288) - (s.2.1 64 288) / (30 : Int32) * (30 : Int32)))).toNatClampNeg) then none else
  if (((228 : Int32) + ((s.2.1 64 288) - (s.2.1 64 288) / (30 : Int32) * (30 : Int32))) < 0 ∨ 291 ≤ (((228 : Int32) + ((s.2.1 64 288) - (s.2.1 64 288) / (30 : Int32) * (30 : Int32)))).toNatClampNeg) then none else
  if (((258 : Int32) + ((s.2.1 64 288) - (s.2.1 64 288) / (30 : Int32) * (30 : Int32))) < 0 ∨ 291 ≤ (((258 : Int32) + ((s.2.1 64 288) - (s.2.1 64 288) / (30 : Int32) * (30 : Int32)))).toNatClampNeg) then none else
  some (ax_sI (ax_sI (ax_sI (ax_sI (ax_sI (ax_sI (ax_sI s 64 (((108 : Int32) + ((s.2.1 64 288) - (s.2.1 64 288) / (30 : Int32) * (30 : Int32)))).toNatClampNeg (s.2.1 63 29)) 64 (((138 : Int32) + ((s.2.1 64 288) - (s.2.1 64 288) / (30 : Int32) * (30 : Int32)))).toNatClampNeg (s.2.1 63 30)) 64 (((168 : Int32) + ((s.2.1 64 288) - (s.2.1 64 288) / (30 : Int32) * (30 : Int32)))).toNatClampNeg (s.2.1 63 31)) 64 (((198 : Int32) + ((s.2.1 64 288) - (s.2.1 64 288) / (30 : Int32) * (30 : Int32)))).toNatClampNeg (s.2.1 63 32)) 64 (((228 : Int32) + ((s.2.1 64 288) - (s.2.1 64 288) / (30 : Int32) * (30 : Int32)))).toNatClampNeg x1) 64 (((258 : Int32) + ((s.2.1 64 288) - (s.2.1 64 288) / (30 : Int32) * (30 : Int32)))).toNatClampNeg x2) 64 288 (((ax_sI (ax_sI (ax_sI (ax_sI (ax_sI (ax_sI s 64 (((108 : Int32) + ((s.2.1 64 288) - (s.2.1 64 288) / (30 : Int32) * (30 : Int32)))).toNatClampNeg (s.2.1 63 29)) 64 (((138 : Int32) + ((s.2.1 64 288) - (s.2.1 64 288) / (30 : Int32) * (30 : Int32)))).toNatClampNeg (s.2.1 63 30)) 64 (((168 : Int32) + ((s.2.1 64 288) - (s.2.1 64 288) / (30 : Int32) * (30 : Int32)))).toNatClampNeg (s.2.1 63 31)) 64 (((198 : Int32) + ((s.2.1 64 288) - (s.2.1 64 288) / (30 : Int32) * (30 : Int32)))).toNatClampNeg (s.2.1 63 32)) 64 (((228 : Int32) + ((s.2.1 64 288) - (s.2.1 64 288) / (30 : Int32) * (30 : Int32)))).toNatClampNeg x1) 64 (((258 : Int32) + ((s.2.1 64 288) - (s.2.1 64 288) / (30 : Int32) * (30 : Int32)))).toNatClampNeg x2).2.1 64 288) + (1 : Int32)))
theorem e_M_remembers (d : Nat) {x1 : Int32} {x2 : Int32} {s : ax_S} {r : ax_S} (h : M_remembers x1 x2 s = some r) : ax_ev true (d + 1) 237 [.ref 63, .int x1, .int x2] s (none, r) := by
  refine ⟨Nat.le_of_ble_eq_true rfl, ?_⟩
  show ax_go true none (ax_ev true (d + 0)) ax_m237 0 [some (.ref 63), some (.int x1), some (.int x2), none] [] s _
  unfold M_remembers at h
  by_cases c1 : (((108 : Int32) + ((s.2.1 64 288) - (s.2.1 64 288) / (30 : Int32) * (30 : Int32))) < 0 ∨ 291 ≤ (((108 : Int32) + ((s.2.1 64 288) - (s.2.1 64 288) / (30 : Int32) * (30 : Int32)))).toNatClampNeg)
  · rw [if_pos c1] at h; cases h
  · rw [if_neg c1] at h
    refine ax_cut (pc' := 26) (la := [some (.ref 63), some (.int x1), some (.int x2), some (.int ((s.2.1 64 288) - (s.2.1 64 288) / (30 : Int32) * (30 : Int32)))]) [some (.ref 63), some (.int x1), some (.int x2), some (.int ((s.2.1 64 288) - (s.2.1 64 288) / (30 : Int32) * (30 : Int32)))] (st' := [.ref 63]) (σ' := (ax_sI s 64 (((108 : Int32) + ((s.2.1 64 288) - (s.2.1 64 288) / (30 : Int32) * (30 : Int32)))).toNatClampNeg (s.2.1 63 29))) 16 (And.intro rfl (And.intro rfl (And.intro rfl (And.intro rfl (trivial))))) (fun _ hh => (And.intro (show ¬ ((288 : Int32) < 0 ∨ 291 ≤ ((288 : Int32)).toNatClampNeg) by decide) (And.intro (show ¬ (30 : Int32) = 0 by decide) (And.intro c1 hh)))) ?_
    by_cases c2 : (((138 : Int32) + ((s.2.1 64 288) - (s.2.1 64 288) / (30 : Int32) * (30 : Int32))) < 0 ∨ 291 ≤ (((138 : Int32) + ((s.2.1 64 288) - (s.2.1 64 288) / (30 : Int32) * (30 : Int32)))).toNatClampNeg)
    · rw [if_pos c2] at h; cases h
    · rw [if_neg c2] at h
      by_cases c3 : (((168 : Int32) + ((s.2.1 64 288) - (s.2.1 64 288) / (30 : Int32) * (30 : Int32))) < 0 ∨ 291 ≤ (((168 : Int32) + ((s.2.1 64 288) - (s.2.1 64 288) / (30 : Int32) * (30 : Int32)))).toNatClampNeg)
      · rw [if_pos c3] at h; cases h
      · rw [if_neg c3] at h
        refine ax_cut (pc' := 54) (la := [some (.ref 63), some (.int x1), some (.int x2), some (.int ((s.2.1 64 288) - (s.2.1 64 288) / (30 : Int32) * (30 : Int32)))]) [some (.ref 63), some (.int x1), some (.int x2), some (.int ((s.2.1 64 288) - (s.2.1 64 288) / (30 : Int32) * (30 : Int32)))] (st' := [.ref 63]) (σ' := (ax_sI (ax_sI (ax_sI s 64 (((108 : Int32) + ((s.2.1 64 288) - (s.2.1 64 288) / (30 : Int32) * (30 : Int32)))).toNatClampNeg (s.2.1 63 29)) 64 (((138 : Int32) + ((s.2.1 64 288) - (s.2.1 64 288) / (30 : Int32) * (30 : Int32)))).toNatClampNeg (s.2.1 63 30)) 64 (((168 : Int32) + ((s.2.1 64 288) - (s.2.1 64 288) / (30 : Int32) * (30 : Int32)))).toNatClampNeg (s.2.1 63 31))) 16 (And.intro rfl (And.intro rfl (And.intro rfl (And.intro rfl (trivial))))) (fun _ hh => (And.intro c2 (And.intro c3 hh))) ?_
        by_cases c4 : (((198 : Int32) + ((s.2.1 64 288) - (s.2.1 64 288) / (30 : Int32) * (30 : Int32))) < 0 ∨ 291 ≤ (((198 : Int32) + ((s.2.1 64 288) - (s.2.1 64 288) / (30 : Int32) * (30 : Int32)))).toNatClampNeg)
        · rw [if_pos c4] at h; cases h
        · rw [if_neg c4] at h
          by_cases c5 : (((228 : Int32) + ((s.2.1 64 288) - (s.2.1 64 288) / (30 : Int32) * (30 : Int32))) < 0 ∨ 291 ≤ (((228 : Int32) + ((s.2.1 64 288) - (s.2.1 64 288) / (30 : Int32) * (30 : Int32)))).toNatClampNeg)
          · rw [if_pos c5] at h; cases h
          · rw [if_neg c5] at h
            refine ax_cut (pc' := 82) (la := [some (.ref 63), some (.int x1), some (.int x2), some (.int ((s.2.1 64 288) - (s.2.1 64 288) / (30 : Int32) * (30 : Int32)))]) [some (.ref 63), none, some (.int x2), some (.int ((s.2.1 64 288) - (s.2.1 64 288) / (30 : Int32) * (30 : Int32)))] (st' := [.ref 64]) (σ' := (ax_sI (ax_sI (ax_sI (ax_sI (ax_sI s 64 (((108 : Int32) + ((s.2.1 64 288) - (s.2.1 64 288) / (30 : Int32) * (30 : Int32)))).toNatClampNeg (s.2.1 63 29)) 64 (((138 : Int32) + ((s.2.1 64 288) - (s.2.1 64 288) / (30 : Int32) * (30 : Int32)))).toNatClampNeg (s.2.1 63 30)) 64 (((168 : Int32) + ((s.2.1 64 288) - (s.2.1 64 288) / (30 : Int32) * (30 : Int32)))).toNatClampNeg (s.2.1 63 31)) 64 (((198 : Int32) + ((s.2.1 64 288) - (s.2.1 64 288) / (30 : Int32) * (30 : Int32)))).toNatClampNeg (s.2.1 63 32)) 64 (((228 : Int32) + ((s.2.1 64 288) - (s.2.1 64 288) / (30 : Int32) * (30 : Int32)))).toNatClampNeg x1)) 16 (And.intro rfl (And.intro rfl (And.intro rfl (trivial)))) (fun _ hh => (And.intro c4 (And.intro c5 hh))) ?_
            by_cases c6 : (((258 : Int32) + ((s.2.1 64 288) - (s.2.1 64 288) / (30 : Int32) * (30 : Int32))) < 0 ∨ 291 ≤ (((258 : Int32) + ((s.2.1 64 288) - (s.2.1 64 288) / (30 : Int32) * (30 : Int32)))).toNatClampNeg)
            · rw [if_pos c6] at h; cases h
            · rw [if_neg c6] at h
              have h := Option.some.inj h
              subst r
              exact ax_end 16 (And.intro c6 (And.intro (show ¬ ((288 : Int32) < 0 ∨ 291 ≤ ((288 : Int32)).toNatClampNeg) by decide) (And.intro (show ¬ ((288 : Int32) < 0 ∨ 291 ≤ ((288 : Int32)).toNatClampNeg) by decide) rfl)))
def M_dayGoes_l4 : Nat → Int32 → Int32 → ax_S → Option (ax_S)
  | 0, _, _, _ => none
  | n + 1, x1, x2, s =>
    if (16 : Int32) ≤ x2 then (
      some s) else
    match M_feels x2 s with
    | none => none
    | some s1 =>
      match M_byLaw (119 : Int32) (99 : Int32) s1 with
      | none => none
      | some (v2, s3) =>
        match M_byLaw (108 : Int32) (99 : Int32) s3 with
        | none => none
        | some (v4, s5) =>
          if (((60 : Int32) + x2) < 0 ∨ 291 ≤ (((60 : Int32) + x2)).toNatClampNeg) then none else
          if (((60 : Int32) + x2) < 0 ∨ 291 ≤ (((60 : Int32) + x2)).toNatClampNeg) then none else
          M_dayGoes_l4 n x1 (x2 + (1)) (ax_sI s5 64 (((60 : Int32) + x2)).toNatClampNeg (M_max (0 : Int32) (M_min (99 : Int32) (((s5.2.1 64 (((60 : Int32) + x2)).toNatClampNeg) + v2) - v4) s5) s5))
def M_dayGoes_l74 : Nat → Int32 → Int32 → ax_S → Option (Int32 × ax_S)
  | 0, _, _, _ => none
  | n + 1, x1, x2, s =>
    if (16 : Int32) ≤ x2 then (
      some (x1, s)) else
    match M_feels x2 s with
    | none => none
    | some s7 =>
      if (((60 : Int32) + x2) < 0 ∨ 291 ≤ (((60 : Int32) + x2)).toNatClampNeg) then none else
      if (s7.2.1 63 3) < (s7.2.1 64 (((60 : Int32) + x2)).toNatClampNeg) then (
        M_dayGoes_l74 n (x1 ||| ((1 : Int32) <<< (x2 &&& 31))) (x2 + (1)) s7) else
      match M_holdsAny (99 : Int32) s7 with
      | none => none
      | some (v8, s9) =>
        if v8 = 0 then (
          M_dayGoes_l74 n x1 (x2 + (1)) s9) else
        M_dayGoes_l74 n (x1 ||| ((1 : Int32) <<< (x2 &&& 31))) (x2 + (1)) s9
def M_dayGoes_l129 : Nat → Int32 → ax_S → Option (ax_S)
  | 0, _, _ => none
  | n + 1, x2, s =>
    if (6 : Int32) ≤ x2 then (
      some s) else
    if (x2 < 0 ∨ 6 ≤ (x2).toNatClampNeg) then none else
    M_dayGoes_l129 n (x2 + (1)) (ax_sI s 80 (x2).toNatClampNeg (0 : Int32))
def M_dayGoes_j214 (y0 : Int32) (y1 : Int32)  (s : ax_S) : Option (Int32) :=
  if y1 ≤ y0 then (
    some (0 : Int32)) else
  some (1 : Int32)
def M_dayGoes_j225 (x3 : Int32) (y0 : Int32)  (s : ax_S) : Option (ax_S) :=
  if y0 = (1 : Int32) then (
    if (s.2.1 63 32) ≤ (1 : Int32) then (
      some s) else
    some (M_laysCut (s.2.1 63 29) ((s.2.1 63 30) + (1 : Int32)) (s.2.1 63 31) ((s.2.1 63 32) - (1 : Int32)) s)) else
  some s
def M_dayGoes_j264 (x3 : Int32) (y0 : Int32)  (s : ax_S) : Option (Int32) :=
  if y0 = 0 then (
    some (0 : Int32)) else
  match M_wholeIn (s.2.1 63 29) (s.2.1 63 30) (s.2.1 63 31) (s.2.1 63 32) s with
  | none => none
  | some v18 =>
    some v18
def M_dayGoes_l303 : Nat → Int32 → Int32 → Int32 → ax_S → Option (ax_S)
  | 0, _, _, _, _ => none
  | n + 1, x3, x4, x5, s =>
    if (16 : Int32) ≤ x5 then (
      some s) else
    if (M_has x4 x5 s) = 0 then (
      M_dayGoes_l303 n x3 x4 (x5 + (1)) s) else
    if (((76 : Int32) + x5) < 0 ∨ 291 ≤ (((76 : Int32) + x5)).toNatClampNeg) then none else
    if (((76 : Int32) + x5) < 0 ∨ 291 ≤ (((76 : Int32) + x5)).toNatClampNeg) then none else
    if (((92 : Int32) + x5) < 0 ∨ 291 ≤ (((92 : Int32) + x5)).toNatClampNeg) then none else
    M_dayGoes_l303 n x3 x4 (x5 + (1)) (ax_sI (ax_sI s 64 (((76 : Int32) + x5)).toNatClampNeg ((s.2.1 64 (((76 : Int32) + x5)).toNatClampNeg) + (1 : Int32))) 64 (((92 : Int32) + x5)).toNatClampNeg ((ax_sI s 64 (((76 : Int32) + x5)).toNatClampNeg ((s.2.1 64 (((76 : Int32) + x5)).toNatClampNeg) + (1 : Int32))).2.1 64 289))
def M_dayGoes  (s : ax_S) : Option (ax_S) :=
  match M_dayGoes_l4 70000 (0 : Int32) (0 : Int32) s with
  | none => none
  | some s6 =>
    match M_dayGoes_l74 70000 (0 : Int32) (0 : Int32) s6 with
    | none => none
    | some (v10, s11) =>
      match M_cutsWithout v10 s11 with
      | none => none
      | some s12 =>
        match M_dayGoes_l129 70000 (0 : Int32) s12 with
        | none => none
        | some s13 =>
          match M_byLaw (104 : Int32) (10 : Int32) (ax_sI s13 80 4 ((s13.2.1 64 289) - (s13.2.1 64 289) / (100 : Int32) * (100 : Int32))) with
          | none => none
          | some (v14, s15) =>
            match M_dayGoes_j214 (((((25173 : Int32) * (s15.2.1 64 290)) + (13849 : Int32)) - (((25173 : Int32) * (s15.2.1 64 290)) + (13849 : Int32)) / (65536 : Int32) * (65536 : Int32)) - ((((25173 : Int32) * (s15.2.1 64 290)) + (13849 : Int32)) - (((25173 : Int32) * (s15.2.1 64 290)) + (13849 : Int32)) / (65536 : Int32) * (65536 : Int32)) / (10 : Int32) * (10 : Int32)) v14 (ax_sI s15 64 290 ((((25173 : Int32) * (s15.2.1 64 290)) + (13849 : Int32)) - (((25173 : Int32) * (s15.2.1 64 290)) + (13849 : Int32)) / (65536 : Int32) * (65536 : Int32))) with
            | none => none
            | some v16 =>
              match M_dayGoes_j225 v16 v16 (ax_sI s15 64 290 ((((25173 : Int32) * (s15.2.1 64 290)) + (13849 : Int32)) - (((25173 : Int32) * (s15.2.1 64 290)) + (13849 : Int32)) / (65536 : Int32) * (65536 : Int32))) with
              | none => none
              | some s17 =>
                match M_dayGoes_j264 v16 (s17.2.1 63 31) s17 with
                | none => none
                | some v19 =>
                  match M_remembers v19 v16 s17 with
                  | none => none
                  | some s20 =>
                    match M_dayGoes_l303 70000 v16 v19 (0 : Int32) s20 with
                    | none => none
                    | some s21 =>
                      some (ax_sI (ax_sI (ax_sI (ax_sI (ax_sI s21 63 34 ((s21.2.1 63 34) + v16)) 63 35 ((s21.2.1 63 31) * (s21.2.1 63 32))) 63 36 v19) 63 33 ((s21.2.1 63 33) + ((s21.2.1 63 31) * (s21.2.1 63 32)))) 64 289 ((s21.2.1 64 289) + (1 : Int32)))
theorem w_M_dayGoes_l4 (d : Nat) {o : ax_O} : ∀ (n : Nat) (x1 : Int32) (x2 : Int32) (s : ax_S) (r : ax_S) (h : M_dayGoes_l4 n x1 x2 s = some r) (hk0 : ∀ (t0 : ax_S), r = t0 → ax_go true none (ax_ev true (d + 4)) ax_m221 72 [some (.ref 63), some (.int x1), none, none, none, none] [] t0 o), ax_go true none (ax_ev true (d + 4)) ax_m221 4 [some (.ref 63), some (.int x1), some (.int x2), none, none, none] [] s o := by
  intro n
  induction n with
  | zero => intro x1 x2 s r h hk0; cases h
  | succ n ih =>
    intro x1 x2 s r h hk0
    rw [M_dayGoes_l4] at h
    by_cases c1 : (16 : Int32) ≤ x2
    · rw [if_pos c1] at h
      have h := Option.some.inj h
      subst r
      exact ax_cut (pc' := 72) (la := [some (.ref 63), some (.int x1), some (.int x2), none, none, none]) [some (.ref 63), some (.int x1), none, none, none, none] (st' := []) (σ' := s) 3 (And.intro rfl (And.intro rfl (trivial))) (fun _ hh => (And.intro (fun _ => hh) (fun q => absurd c1 q))) (hk0 _ rfl)
    · rw [if_neg c1] at h
      cases hz2 : M_feels x2 s with
      | none => rw [hz2] at h; cases h
      | some s1 =>
      rw [hz2] at h
      dsimp only at h
      cases hz3 : M_byLaw (119 : Int32) (99 : Int32) s1 with
      | none => rw [hz3] at h; cases h
      | some z3 =>
      rw [hz3] at h
      obtain ⟨v2, s3⟩ := z3
      dsimp only at h
      cases hz4 : M_byLaw (108 : Int32) (99 : Int32) s3 with
      | none => rw [hz4] at h; cases h
      | some z4 =>
      rw [hz4] at h
      obtain ⟨v4, s5⟩ := z4
      dsimp only at h
      refine ax_cut (pc' := 34) (la := [some (.ref 63), some (.int x1), some (.int x2), some (.int v2), some (.int v4), none]) [some (.ref 63), some (.int x1), some (.int x2), some (.int v2), some (.int v4), none] (st' := []) (σ' := s5) 16 (And.intro rfl (And.intro rfl (And.intro rfl (And.intro rfl (And.intro rfl (trivial)))))) (fun _ hh => (And.intro (fun q => absurd q c1) (fun _ => (Exists.intro (none, s1) (And.intro (e_M_feels (d + 1) hz2) (Exists.intro (some (.int v2), s3) (And.intro (e_M_byLaw (d + 1) hz3) (Exists.intro (some (.int v4), s5) (And.intro (e_M_byLaw (d + 1) hz4) hh))))))))) ?_
      by_cases c5 : (((60 : Int32) + x2) < 0 ∨ 291 ≤ (((60 : Int32) + x2)).toNatClampNeg)
      · rw [if_pos c5] at h; cases h
      · rw [if_neg c5] at h
        refine ax_cut (pc' := 58) (la := [some (.ref 63), some (.int x1), some (.int x2), some (.int v2), some (.int v4), none]) [some (.ref 63), some (.int x1), some (.int x2), none, none, none] (st' := [.int v4, .int ((s5.2.1 64 (((60 : Int32) + x2)).toNatClampNeg) + v2), .int (99 : Int32), .int (0 : Int32), .int ((60 : Int32) + x2), .ref 64]) (σ' := s5) 16 (And.intro rfl (And.intro rfl (And.intro rfl (trivial)))) (fun _ hh => (And.intro c5 hh)) ?_
        by_cases c6 : (((60 : Int32) + x2) < 0 ∨ 291 ≤ (((60 : Int32) + x2)).toNatClampNeg)
        · rw [if_pos c6] at h; cases h
        · rw [if_neg c6] at h
          exact ax_cut (pc' := 4) (la := [some (.ref 63), some (.int x1), some (.int (x2 + (1))), none, none, none]) [some (.ref 63), some (.int x1), some (.int (x2 + (1))), none, none, none] (st' := []) (σ' := (ax_sI s5 64 (((60 : Int32) + x2)).toNatClampNeg (M_max (0 : Int32) (M_min (99 : Int32) (((s5.2.1 64 (((60 : Int32) + x2)).toNatClampNeg) + v2) - v4) s5) s5))) 6 (And.intro rfl (And.intro rfl (And.intro rfl (trivial)))) (fun _ hh => (Exists.intro (some (.int (M_min (99 : Int32) (((s5.2.1 64 (((60 : Int32) + x2)).toNatClampNeg) + v2) - v4) s5)), s5) (And.intro (e_M_min (d + 3) (99 : Int32) (((s5.2.1 64 (((60 : Int32) + x2)).toNatClampNeg) + v2) - v4) s5) (Exists.intro (some (.int (M_max (0 : Int32) (M_min (99 : Int32) (((s5.2.1 64 (((60 : Int32) + x2)).toNatClampNeg) + v2) - v4) s5) s5)), s5) (And.intro (e_M_max (d + 3) (0 : Int32) (M_min (99 : Int32) (((s5.2.1 64 (((60 : Int32) + x2)).toNatClampNeg) + v2) - v4) s5) s5) (And.intro c6 hh)))))) (ih x1 (x2 + (1)) (ax_sI s5 64 (((60 : Int32) + x2)).toNatClampNeg (M_max (0 : Int32) (M_min (99 : Int32) (((s5.2.1 64 (((60 : Int32) + x2)).toNatClampNeg) + v2) - v4) s5) s5)) _ h hk0)
theorem w_M_dayGoes_l74 (d : Nat) {o : ax_O} : ∀ (n : Nat) (x1 : Int32) (x2 : Int32) (s : ax_S) (r : Int32 × ax_S) (h : M_dayGoes_l74 n x1 x2 s = some r) (hk0 : ∀ (t0 : Int32) (t1 : ax_S), r = (t0, t1) → ax_go true none (ax_ev true (d + 4)) ax_m221 122 [some (.ref 63), some (.int t0), none, none, none, none] [] t1 o), ax_go true none (ax_ev true (d + 4)) ax_m221 74 [some (.ref 63), some (.int x1), some (.int x2), none, none, none] [] s o := by
  intro n
  induction n with
  | zero => intro x1 x2 s r h hk0; cases h
  | succ n ih =>
    intro x1 x2 s r h hk0
    rw [M_dayGoes_l74] at h
    by_cases c1 : (16 : Int32) ≤ x2
    · rw [if_pos c1] at h
      have h := Option.some.inj h
      subst r
      exact ax_cut (pc' := 122) (la := [some (.ref 63), some (.int x1), some (.int x2), none, none, none]) [some (.ref 63), some (.int x1), none, none, none, none] (st' := []) (σ' := s) 3 (And.intro rfl (And.intro rfl (trivial))) (fun _ hh => (And.intro (fun _ => hh) (fun q => absurd c1 q))) (hk0 _ _ rfl)
    · rw [if_neg c1] at h
      cases hz2 : M_feels x2 s with
      | none => rw [hz2] at h; cases h
      | some s7 =>
      rw [hz2] at h
      dsimp only at h
      by_cases c3 : (((60 : Int32) + x2) < 0 ∨ 291 ≤ (((60 : Int32) + x2)).toNatClampNeg)
      · rw [if_pos c3] at h; cases h
      · rw [if_neg c3] at h
        by_cases c4 : (s7.2.1 63 3) < (s7.2.1 64 (((60 : Int32) + x2)).toNatClampNeg)
        · rw [if_pos c4] at h
          refine ax_cut (pc' := 111) (la := [some (.ref 63), some (.int x1), some (.int x2), none, none, none]) [some (.ref 63), none, some (.int x2), none, none, none] (st' := [.int x1]) (σ' := s7) 16 (And.intro rfl (And.intro rfl (trivial))) (fun _ hh => (And.intro (fun q => absurd q c1) (fun _ => (Exists.intro (none, s7) (And.intro (e_M_feels (d + 1) hz2) (And.intro c3 (And.intro (fun _ => hh) (fun q => absurd c4 q)))))))) ?_
          exact ax_cut (pc' := 74) (la := [some (.ref 63), some (.int (x1 ||| ((1 : Int32) <<< (x2 &&& 31)))), some (.int (x2 + (1))), none, none, none]) [some (.ref 63), some (.int (x1 ||| ((1 : Int32) <<< (x2 &&& 31)))), some (.int (x2 + (1))), none, none, none] (st' := []) (σ' := s7) 7 (And.intro rfl (And.intro rfl (And.intro rfl (trivial)))) (fun _ hh => hh) (ih (x1 ||| ((1 : Int32) <<< (x2 &&& 31))) (x2 + (1)) s7 _ h hk0)
        · rw [if_neg c4] at h
          refine ax_cut (pc' := 102) (la := [some (.ref 63), some (.int x1), some (.int x2), none, none, none]) [some (.ref 63), some (.int x1), some (.int x2), none, none, none] (st' := [.ref 63]) (σ' := s7) 16 (And.intro rfl (And.intro rfl (And.intro rfl (trivial)))) (fun _ hh => (And.intro (fun q => absurd q c1) (fun _ => (Exists.intro (none, s7) (And.intro (e_M_feels (d + 1) hz2) (And.intro c3 (And.intro (fun q => absurd q c4) (fun _ => hh)))))))) ?_
          cases hz5 : M_holdsAny (99 : Int32) s7 with
          | none => rw [hz5] at h; cases h
          | some z5 =>
          rw [hz5] at h
          obtain ⟨v8, s9⟩ := z5
          dsimp only at h
          by_cases c6 : v8 = 0
          · rw [if_pos c6] at h
            exact ax_cut (pc' := 74) (la := [some (.ref 63), some (.int x1), some (.int (x2 + (1))), none, none, none]) [some (.ref 63), some (.int x1), some (.int (x2 + (1))), none, none, none] (st' := []) (σ' := s9) 5 (And.intro rfl (And.intro rfl (And.intro rfl (trivial)))) (fun _ hh => (Exists.intro (some (.int v8), s9) (And.intro (e_M_holdsAny (d + 1) hz5) (And.intro (fun _ => hh) (fun q => absurd c6 q))))) (ih x1 (x2 + (1)) s9 _ h hk0)
          · rw [if_neg c6] at h
            exact ax_cut (pc' := 74) (la := [some (.ref 63), some (.int (x1 ||| ((1 : Int32) <<< (x2 &&& 31)))), some (.int (x2 + (1))), none, none, none]) [some (.ref 63), some (.int (x1 ||| ((1 : Int32) <<< (x2 &&& 31)))), some (.int (x2 + (1))), none, none, none] (st' := []) (σ' := s9) 11 (And.intro rfl (And.intro rfl (And.intro rfl (trivial)))) (fun _ hh => (Exists.intro (some (.int v8), s9) (And.intro (e_M_holdsAny (d + 1) hz5) (And.intro (fun q => absurd q c6) (fun _ => hh))))) (ih (x1 ||| ((1 : Int32) <<< (x2 &&& 31))) (x2 + (1)) s9 _ h hk0)
theorem w_M_dayGoes_l129 (d : Nat) {o : ax_O} : ∀ (n : Nat) (x2 : Int32) (s : ax_S) (r : ax_S) (h : M_dayGoes_l129 n x2 s = some r) (hk0 : ∀ (t0 : ax_S), r = t0 → ax_go true none (ax_ev true (d + 4)) ax_m221 148 [some (.ref 63), none, none, none, none, none] [] t0 o), ax_go true none (ax_ev true (d + 4)) ax_m221 129 [some (.ref 63), none, some (.int x2), none, none, none] [] s o := by
  intro n
  induction n with
  | zero => intro x2 s r h hk0; cases h
  | succ n ih =>
    intro x2 s r h hk0
    rw [M_dayGoes_l129] at h
    by_cases c1 : (6 : Int32) ≤ x2
    · rw [if_pos c1] at h
      have h := Option.some.inj h
      subst r
      exact ax_cut (pc' := 148) (la := [some (.ref 63), none, some (.int x2), none, none, none]) [some (.ref 63), none, none, none, none, none] (st' := []) (σ' := s) 3 (And.intro rfl (trivial)) (fun _ hh => (And.intro (fun _ => hh) (fun q => absurd c1 q))) (hk0 _ rfl)
    · rw [if_neg c1] at h
      by_cases c2 : (x2 < 0 ∨ 6 ≤ (x2).toNatClampNeg)
      · rw [if_pos c2] at h; cases h
      · rw [if_neg c2] at h
        exact ax_cut (pc' := 129) (la := [some (.ref 63), none, some (.int (x2 + (1))), none, none, none]) [some (.ref 63), none, some (.int (x2 + (1))), none, none, none] (st' := []) (σ' := (ax_sI s 80 (x2).toNatClampNeg (0 : Int32))) 10 (And.intro rfl (And.intro rfl (trivial))) (fun _ hh => (And.intro (fun q => absurd q c1) (fun _ => (And.intro c2 hh)))) (ih (x2 + (1)) (ax_sI s 80 (x2).toNatClampNeg (0 : Int32)) _ h hk0)
theorem w_M_dayGoes_j214 (d : Nat) {o : ax_O} (y0 : Int32) (y1 : Int32) (s : ax_S) (r : Int32) (h : M_dayGoes_j214 y0 y1 s = some r) (hk0 : ∀ (t0 : Int32), r = t0 → ax_go true none (ax_ev true (d + 4)) ax_m221 222 [some (.ref 63), none, none, none, none, none] [.int t0] s o) : ax_go true none (ax_ev true (d + 4)) ax_m221 214 [some (.ref 63), none, none, none, none, none] [.int y1, .int y0] s o := by
  unfold M_dayGoes_j214 at h
  by_cases c1 : y1 ≤ y0
  · rw [if_pos c1] at h
    have h := Option.some.inj h
    subst r
    exact ax_cut (pc' := 222) (la := [some (.ref 63), none, none, none, none, none]) [some (.ref 63), none, none, none, none, none] (st' := [.int (0 : Int32)]) (σ' := s) 2 (And.intro rfl (trivial)) (fun _ hh => (And.intro (fun _ => hh) (fun q => absurd c1 q))) (hk0 _ rfl)
  · rw [if_neg c1] at h
    have h := Option.some.inj h
    subst r
    exact ax_cut (pc' := 222) (la := [some (.ref 63), none, none, none, none, none]) [some (.ref 63), none, none, none, none, none] (st' := [.int (1 : Int32)]) (σ' := s) 3 (And.intro rfl (trivial)) (fun _ hh => (And.intro (fun q => absurd q c1) (fun _ => hh))) (hk0 _ rfl)
theorem w_M_dayGoes_j225 (d : Nat) {o : ax_O} (x3 : Int32) (y0 : Int32) (s : ax_S) (r : ax_S) (h : M_dayGoes_j225 x3 y0 s = some r) (hk0 : ∀ (t0 : ax_S), r = t0 → ax_go true none (ax_ev true (d + 4)) ax_m221 260 [some (.ref 63), none, none, some (.int x3), none, none] [] t0 o) : ax_go true none (ax_ev true (d + 4)) ax_m221 225 [some (.ref 63), none, none, some (.int x3), none, none] [.int (1 : Int32), .int y0] s o := by
  unfold M_dayGoes_j225 at h
  by_cases c1 : y0 = (1 : Int32)
  · rw [if_pos c1] at h
    by_cases c2 : (s.2.1 63 32) ≤ (1 : Int32)
    · rw [if_pos c2] at h
      have h := Option.some.inj h
      subst r
      exact ax_cut (pc' := 260) (la := [some (.ref 63), none, none, some (.int x3), none, none]) [some (.ref 63), none, none, some (.int x3), none, none] (st' := []) (σ' := s) 5 (And.intro rfl (And.intro rfl (trivial))) (fun _ hh => (And.intro (fun q => absurd c1 q) (fun _ => (And.intro (fun _ => hh) (fun q => absurd c2 q))))) (hk0 _ rfl)
    · rw [if_neg c2] at h
      refine ax_cut (pc' := 255) (la := [some (.ref 63), none, none, some (.int x3), none, none]) [some (.ref 63), none, none, some (.int x3), none, none] (st' := [.int (s.2.1 63 32), .int (s.2.1 63 31), .int ((s.2.1 63 30) + (1 : Int32)), .int (s.2.1 63 29), .ref 63]) (σ' := s) 16 (And.intro rfl (And.intro rfl (trivial))) (fun _ hh => (And.intro (fun q => absurd c1 q) (fun _ => (And.intro (fun q => absurd q c2) (fun _ => hh))))) ?_
      have h := Option.some.inj h
      subst r
      exact ax_cut (pc' := 260) (la := [some (.ref 63), none, none, some (.int x3), none, none]) [some (.ref 63), none, none, some (.int x3), none, none] (st' := []) (σ' := (M_laysCut (s.2.1 63 29) ((s.2.1 63 30) + (1 : Int32)) (s.2.1 63 31) ((s.2.1 63 32) - (1 : Int32)) s)) 3 (And.intro rfl (And.intro rfl (trivial))) (fun _ hh => (Exists.intro (none, (M_laysCut (s.2.1 63 29) ((s.2.1 63 30) + (1 : Int32)) (s.2.1 63 31) ((s.2.1 63 32) - (1 : Int32)) s)) (And.intro (e_M_laysCut (d + 3) (s.2.1 63 29) ((s.2.1 63 30) + (1 : Int32)) (s.2.1 63 31) ((s.2.1 63 32) - (1 : Int32)) s) hh))) (hk0 _ rfl)
  · rw [if_neg c1] at h
    have h := Option.some.inj h
    subst r
    exact ax_cut (pc' := 260) (la := [some (.ref 63), none, none, some (.int x3), none, none]) [some (.ref 63), none, none, some (.int x3), none, none] (st' := []) (σ' := s) 1 (And.intro rfl (And.intro rfl (trivial))) (fun _ hh => (And.intro (fun _ => hh) (fun q => absurd c1 q))) (hk0 _ rfl)
theorem w_M_dayGoes_j264 (d : Nat) {o : ax_O} (x3 : Int32) (y0 : Int32) (s : ax_S) (r : Int32) (h : M_dayGoes_j264 x3 y0 s = some r) (hk0 : ∀ (t0 : Int32), r = t0 → ax_go true none (ax_ev true (d + 4)) ax_m221 291 [some (.ref 63), none, none, some (.int x3), none, none] [.int t0] s o) : ax_go true none (ax_ev true (d + 4)) ax_m221 264 [some (.ref 63), none, none, some (.int x3), none, none] [.int y0] s o := by
  unfold M_dayGoes_j264 at h
  by_cases c1 : y0 = 0
  · rw [if_pos c1] at h
    have h := Option.some.inj h
    subst r
    exact ax_cut (pc' := 291) (la := [some (.ref 63), none, none, some (.int x3), none, none]) [some (.ref 63), none, none, some (.int x3), none, none] (st' := [.int (0 : Int32)]) (σ' := s) 3 (And.intro rfl (And.intro rfl (trivial))) (fun _ hh => (And.intro (fun q => absurd c1 q) (fun _ => hh))) (hk0 _ rfl)
  · rw [if_neg c1] at h
    cases hz2 : M_wholeIn (s.2.1 63 29) (s.2.1 63 30) (s.2.1 63 31) (s.2.1 63 32) s with
    | none => rw [hz2] at h; cases h
    | some v18 =>
    rw [hz2] at h
    dsimp only at h
    have h := Option.some.inj h
    subst r
    exact ax_cut (pc' := 291) (la := [some (.ref 63), none, none, some (.int x3), none, none]) [some (.ref 63), none, none, some (.int x3), none, none] (st' := [.int v18]) (σ' := s) 11 (And.intro rfl (And.intro rfl (trivial))) (fun _ hh => (And.intro (fun _ => (Exists.intro (some (.int v18), s) (And.intro (e_M_wholeIn (d + 1) hz2) hh))) (fun q => absurd c1 q))) (hk0 _ rfl)
theorem w_M_dayGoes_l303 (d : Nat) {o : ax_O} : ∀ (n : Nat) (x3 : Int32) (x4 : Int32) (x5 : Int32) (s : ax_S) (r : ax_S) (h : M_dayGoes_l303 n x3 x4 x5 s = some r) (hk0 : ∀ (t0 : ax_S), r = t0 → ax_go true none (ax_ev true (d + 4)) ax_m221 369 [some (.ref 63), none, none, some (.int x3), some (.int x4), none] [] t0 o), ax_go true none (ax_ev true (d + 4)) ax_m221 303 [some (.ref 63), none, none, some (.int x3), some (.int x4), some (.int x5)] [] s o := by
  intro n
  induction n with
  | zero => intro x3 x4 x5 s r h hk0; cases h
  | succ n ih =>
    intro x3 x4 x5 s r h hk0
    rw [M_dayGoes_l303] at h
    by_cases c1 : (16 : Int32) ≤ x5
    · rw [if_pos c1] at h
      have h := Option.some.inj h
      subst r
      exact ax_cut (pc' := 369) (la := [some (.ref 63), none, none, some (.int x3), some (.int x4), some (.int x5)]) [some (.ref 63), none, none, some (.int x3), some (.int x4), none] (st' := []) (σ' := s) 3 (And.intro rfl (And.intro rfl (And.intro rfl (trivial)))) (fun _ hh => (And.intro (fun _ => hh) (fun q => absurd c1 q))) (hk0 _ rfl)
    · rw [if_neg c1] at h
      by_cases c2 : (M_has x4 x5 s) = 0
      · rw [if_pos c2] at h
        exact ax_cut (pc' := 303) (la := [some (.ref 63), none, none, some (.int x3), some (.int x4), some (.int (x5 + (1)))]) [some (.ref 63), none, none, some (.int x3), some (.int x4), some (.int (x5 + (1)))] (st' := []) (σ' := s) 10 (And.intro rfl (And.intro rfl (And.intro rfl (And.intro rfl (trivial))))) (fun _ hh => (And.intro (fun q => absurd q c1) (fun _ => (Exists.intro (some (.int (M_has x4 x5 s)), s) (And.intro (e_M_has (d + 3) x4 x5 s) (And.intro (fun q => absurd c2 q) (fun _ => hh))))))) (ih x3 x4 (x5 + (1)) s _ h hk0)
      · rw [if_neg c2] at h
        refine ax_cut (pc' := 340) (la := [some (.ref 63), none, none, some (.int x3), some (.int x4), some (.int x5)]) [some (.ref 63), none, none, some (.int x3), some (.int x4), some (.int x5)] (st' := [.int x5, .int (76 : Int32), .ref 64, .int ((76 : Int32) + x5), .ref 64]) (σ' := s) 16 (And.intro rfl (And.intro rfl (And.intro rfl (And.intro rfl (trivial))))) (fun _ hh => (And.intro (fun q => absurd q c1) (fun _ => (Exists.intro (some (.int (M_has x4 x5 s)), s) (And.intro (e_M_has (d + 3) x4 x5 s) (And.intro (fun _ => hh) (fun q => absurd c2 q))))))) ?_
        by_cases c3 : (((76 : Int32) + x5) < 0 ∨ 291 ≤ (((76 : Int32) + x5)).toNatClampNeg)
        · rw [if_pos c3] at h; cases h
        · rw [if_neg c3] at h
          by_cases c4 : (((76 : Int32) + x5) < 0 ∨ 291 ≤ (((76 : Int32) + x5)).toNatClampNeg)
          · rw [if_pos c4] at h; cases h
          · rw [if_neg c4] at h
            by_cases c5 : (((92 : Int32) + x5) < 0 ∨ 291 ≤ (((92 : Int32) + x5)).toNatClampNeg)
            · rw [if_pos c5] at h; cases h
            · rw [if_neg c5] at h
              refine ax_cut (pc' := 366) (la := [some (.ref 63), none, none, some (.int x3), some (.int x4), some (.int (x5 + (1)))]) [some (.ref 63), none, none, some (.int x3), some (.int x4), some (.int (x5 + (1)))] (st' := []) (σ' := (ax_sI (ax_sI s 64 (((76 : Int32) + x5)).toNatClampNeg ((s.2.1 64 (((76 : Int32) + x5)).toNatClampNeg) + (1 : Int32))) 64 (((92 : Int32) + x5)).toNatClampNeg ((ax_sI s 64 (((76 : Int32) + x5)).toNatClampNeg ((s.2.1 64 (((76 : Int32) + x5)).toNatClampNeg) + (1 : Int32))).2.1 64 289))) 16 (And.intro rfl (And.intro rfl (And.intro rfl (And.intro rfl (trivial))))) (fun _ hh => (And.intro c3 (And.intro c4 (And.intro (show ¬ ((289 : Int32) < 0 ∨ 291 ≤ ((289 : Int32)).toNatClampNeg) by decide) (And.intro c5 hh))))) ?_
              exact ax_cut (pc' := 303) (la := [some (.ref 63), none, none, some (.int x3), some (.int x4), some (.int (x5 + (1)))]) [some (.ref 63), none, none, some (.int x3), some (.int x4), some (.int (x5 + (1)))] (st' := []) (σ' := (ax_sI (ax_sI s 64 (((76 : Int32) + x5)).toNatClampNeg ((s.2.1 64 (((76 : Int32) + x5)).toNatClampNeg) + (1 : Int32))) 64 (((92 : Int32) + x5)).toNatClampNeg ((ax_sI s 64 (((76 : Int32) + x5)).toNatClampNeg ((s.2.1 64 (((76 : Int32) + x5)).toNatClampNeg) + (1 : Int32))).2.1 64 289))) 1 (And.intro rfl (And.intro rfl (And.intro rfl (And.intro rfl (trivial))))) (fun _ hh => hh) (ih x3 x4 (x5 + (1)) (ax_sI (ax_sI s 64 (((76 : Int32) + x5)).toNatClampNeg ((s.2.1 64 (((76 : Int32) + x5)).toNatClampNeg) + (1 : Int32))) 64 (((92 : Int32) + x5)).toNatClampNeg ((ax_sI s 64 (((76 : Int32) + x5)).toNatClampNeg ((s.2.1 64 (((76 : Int32) + x5)).toNatClampNeg) + (1 : Int32))).2.1 64 289)) _ h hk0)
theorem e_M_dayGoes (d : Nat)  {s : ax_S} {r : ax_S} (h : M_dayGoes s = some r) : ax_ev true (d + 5) 221 [.ref 63] s (none, r) := by
  refine ⟨Nat.le_of_ble_eq_true rfl, ?_⟩
  show ax_go true none (ax_ev true (d + 4)) ax_m221 0 [some (.ref 63), none, none, none, none, none] [] s _
  unfold M_dayGoes at h
  cases hz1 : M_dayGoes_l4 70000 (0 : Int32) (0 : Int32) s with
  | none => rw [hz1] at h; cases h
  | some z1 =>
  rw [hz1] at h
  refine ax_cut (pc' := 4) (la := [some (.ref 63), some (.int (0 : Int32)), some (.int (0 : Int32)), none, none, none]) [some (.ref 63), some (.int (0 : Int32)), some (.int (0 : Int32)), none, none, none] (st' := []) (σ' := s) 4 (And.intro rfl (And.intro rfl (And.intro rfl (trivial)))) (fun _ hh => hh) (w_M_dayGoes_l4 d 70000 (0 : Int32) (0 : Int32) s _ hz1 ?_)
  · intro s6 hq
    subst z1
    dsimp only at h
    cases hz2 : M_dayGoes_l74 70000 (0 : Int32) (0 : Int32) s6 with
    | none => rw [hz2] at h; cases h
    | some z2 =>
    rw [hz2] at h
    refine ax_cut (pc' := 74) (la := [some (.ref 63), some (.int (0 : Int32)), some (.int (0 : Int32)), none, none, none]) [some (.ref 63), some (.int (0 : Int32)), some (.int (0 : Int32)), none, none, none] (st' := []) (σ' := s6) 2 (And.intro rfl (And.intro rfl (And.intro rfl (trivial)))) (fun _ hh => hh) (w_M_dayGoes_l74 d 70000 (0 : Int32) (0 : Int32) s6 _ hz2 ?_)
    · intro v10 s11 hq
      subst z2
      dsimp only at h
      cases hz3 : M_cutsWithout v10 s11 with
      | none => rw [hz3] at h; cases h
      | some s12 =>
      rw [hz3] at h
      dsimp only at h
      cases hz4 : M_dayGoes_l129 70000 (0 : Int32) s12 with
      | none => rw [hz4] at h; cases h
      | some z4 =>
      rw [hz4] at h
      refine ax_cut (pc' := 129) (la := [some (.ref 63), some (.int v10), some (.int (0 : Int32)), none, none, none]) [some (.ref 63), none, some (.int (0 : Int32)), none, none, none] (st' := []) (σ' := s12) 5 (And.intro rfl (And.intro rfl (trivial))) (fun _ hh => (Exists.intro (none, s12) (And.intro (e_M_cutsWithout d hz3) hh))) (w_M_dayGoes_l129 d 70000 (0 : Int32) s12 _ hz4 ?_)
      · intro s13 hq
        subst z4
        dsimp only at h
        cases hz5 : M_byLaw (104 : Int32) (10 : Int32) (ax_sI s13 80 4 ((s13.2.1 64 289) - (s13.2.1 64 289) / (100 : Int32) * (100 : Int32))) with
        | none => rw [hz5] at h; cases h
        | some z5 =>
        rw [hz5] at h
        obtain ⟨v14, s15⟩ := z5
        dsimp only at h
        refine ax_cut (pc' := 175) (la := [some (.ref 63), none, some (.int v14), none, none, none]) [some (.ref 63), none, some (.int v14), none, none, none] (st' := [.ref 63]) (σ' := s15) 16 (And.intro rfl (And.intro rfl (trivial))) (fun _ hh => (And.intro (show ¬ ((289 : Int32) < 0 ∨ 291 ≤ ((289 : Int32)).toNatClampNeg) by decide) (And.intro (show ¬ (100 : Int32) = 0 by decide) (And.intro (show ¬ ((4 : Int32) < 0 ∨ 6 ≤ ((4 : Int32)).toNatClampNeg) by decide) (Exists.intro (some (.int v14), s15) (And.intro (e_M_byLaw (d + 1) hz5) hh)))))) ?_
        refine ax_cut (pc' := 209) (la := [some (.ref 63), none, some (.int v14), none, none, none]) [some (.ref 63), none, some (.int v14), none, none, none] (st' := [.int (290 : Int32), .ref 64]) (σ' := (ax_sI s15 64 290 ((((25173 : Int32) * (s15.2.1 64 290)) + (13849 : Int32)) - (((25173 : Int32) * (s15.2.1 64 290)) + (13849 : Int32)) / (65536 : Int32) * (65536 : Int32)))) 16 (And.intro rfl (And.intro rfl (trivial))) (fun _ hh => (And.intro (show ¬ ((290 : Int32) < 0 ∨ 291 ≤ ((290 : Int32)).toNatClampNeg) by decide) (And.intro (show ¬ (65536 : Int32) = 0 by decide) (And.intro (show ¬ ((290 : Int32) < 0 ∨ 291 ≤ ((290 : Int32)).toNatClampNeg) by decide) hh)))) ?_
        cases hz6 : M_dayGoes_j214 (((((25173 : Int32) * (s15.2.1 64 290)) + (13849 : Int32)) - (((25173 : Int32) * (s15.2.1 64 290)) + (13849 : Int32)) / (65536 : Int32) * (65536 : Int32)) - ((((25173 : Int32) * (s15.2.1 64 290)) + (13849 : Int32)) - (((25173 : Int32) * (s15.2.1 64 290)) + (13849 : Int32)) / (65536 : Int32) * (65536 : Int32)) / (10 : Int32) * (10 : Int32)) v14 (ax_sI s15 64 290 ((((25173 : Int32) * (s15.2.1 64 290)) + (13849 : Int32)) - (((25173 : Int32) * (s15.2.1 64 290)) + (13849 : Int32)) / (65536 : Int32) * (65536 : Int32))) with
        | none => rw [hz6] at h; cases h
        | some z6 =>
        rw [hz6] at h
        refine ax_cut (pc' := 214) (la := [some (.ref 63), none, some (.int v14), none, none, none]) [some (.ref 63), none, none, none, none, none] (st' := [.int v14, .int (((((25173 : Int32) * (s15.2.1 64 290)) + (13849 : Int32)) - (((25173 : Int32) * (s15.2.1 64 290)) + (13849 : Int32)) / (65536 : Int32) * (65536 : Int32)) - ((((25173 : Int32) * (s15.2.1 64 290)) + (13849 : Int32)) - (((25173 : Int32) * (s15.2.1 64 290)) + (13849 : Int32)) / (65536 : Int32) * (65536 : Int32)) / (10 : Int32) * (10 : Int32))]) (σ' := (ax_sI s15 64 290 ((((25173 : Int32) * (s15.2.1 64 290)) + (13849 : Int32)) - (((25173 : Int32) * (s15.2.1 64 290)) + (13849 : Int32)) / (65536 : Int32) * (65536 : Int32)))) 4 (And.intro rfl (trivial)) (fun _ hh => (And.intro (show ¬ ((290 : Int32) < 0 ∨ 291 ≤ ((290 : Int32)).toNatClampNeg) by decide) (And.intro (show ¬ (10 : Int32) = 0 by decide) hh))) (w_M_dayGoes_j214 d (((((25173 : Int32) * (s15.2.1 64 290)) + (13849 : Int32)) - (((25173 : Int32) * (s15.2.1 64 290)) + (13849 : Int32)) / (65536 : Int32) * (65536 : Int32)) - ((((25173 : Int32) * (s15.2.1 64 290)) + (13849 : Int32)) - (((25173 : Int32) * (s15.2.1 64 290)) + (13849 : Int32)) / (65536 : Int32) * (65536 : Int32)) / (10 : Int32) * (10 : Int32)) v14 (ax_sI s15 64 290 ((((25173 : Int32) * (s15.2.1 64 290)) + (13849 : Int32)) - (((25173 : Int32) * (s15.2.1 64 290)) + (13849 : Int32)) / (65536 : Int32) * (65536 : Int32))) _ hz6 ?_)
        · intro v16 hq
          subst z6
          dsimp only at h
          cases hz7 : M_dayGoes_j225 v16 v16 (ax_sI s15 64 290 ((((25173 : Int32) * (s15.2.1 64 290)) + (13849 : Int32)) - (((25173 : Int32) * (s15.2.1 64 290)) + (13849 : Int32)) / (65536 : Int32) * (65536 : Int32))) with
          | none => rw [hz7] at h; cases h
          | some z7 =>
          rw [hz7] at h
          refine ax_cut (pc' := 225) (la := [some (.ref 63), none, none, some (.int v16), none, none]) [some (.ref 63), none, none, some (.int v16), none, none] (st' := [.int (1 : Int32), .int v16]) (σ' := (ax_sI s15 64 290 ((((25173 : Int32) * (s15.2.1 64 290)) + (13849 : Int32)) - (((25173 : Int32) * (s15.2.1 64 290)) + (13849 : Int32)) / (65536 : Int32) * (65536 : Int32)))) 3 (And.intro rfl (And.intro rfl (trivial))) (fun _ hh => hh) (w_M_dayGoes_j225 d v16 v16 (ax_sI s15 64 290 ((((25173 : Int32) * (s15.2.1 64 290)) + (13849 : Int32)) - (((25173 : Int32) * (s15.2.1 64 290)) + (13849 : Int32)) / (65536 : Int32) * (65536 : Int32))) _ hz7 ?_)
          · intro s17 hq
            subst z7
            dsimp only at h
            cases hz8 : M_dayGoes_j264 v16 (s17.2.1 63 31) s17 with
            | none => rw [hz8] at h; cases h
            | some z8 =>
            rw [hz8] at h
            refine ax_cut (pc' := 264) (la := [some (.ref 63), none, none, some (.int v16), none, none]) [some (.ref 63), none, none, some (.int v16), none, none] (st' := [.int (s17.2.1 63 31)]) (σ' := s17) 2 (And.intro rfl (And.intro rfl (trivial))) (fun _ hh => hh) (w_M_dayGoes_j264 d v16 (s17.2.1 63 31) s17 _ hz8 ?_)
            · intro v19 hq
              subst z8
              dsimp only at h
              cases hz9 : M_remembers v19 v16 s17 with
              | none => rw [hz9] at h; cases h
              | some s20 =>
              rw [hz9] at h
              dsimp only at h
              cases hz10 : M_dayGoes_l303 70000 v16 v19 (0 : Int32) s20 with
              | none => rw [hz10] at h; cases h
              | some z10 =>
              rw [hz10] at h
              refine ax_cut (pc' := 303) (la := [some (.ref 63), none, none, some (.int v16), some (.int v19), some (.int (0 : Int32))]) [some (.ref 63), none, none, some (.int v16), some (.int v19), some (.int (0 : Int32))] (st' := []) (σ' := s20) 7 (And.intro rfl (And.intro rfl (And.intro rfl (And.intro rfl (trivial))))) (fun _ hh => (Exists.intro (none, s20) (And.intro (e_M_remembers (d + 3) hz9) hh))) (w_M_dayGoes_l303 d 70000 v16 v19 (0 : Int32) s20 _ hz10 ?_)
              · intro s21 hq
                subst z10
                dsimp only at h
                refine ax_cut (pc' := 398) (la := [some (.ref 63), none, none, some (.int v16), some (.int v19), none]) [some (.ref 63), none, none, none, none, none] (st' := []) (σ' := (ax_sI (ax_sI (ax_sI s21 63 34 ((s21.2.1 63 34) + v16)) 63 35 ((s21.2.1 63 31) * (s21.2.1 63 32))) 63 36 v19)) 16 (And.intro rfl (trivial)) (fun _ hh => hh) ?_
                refine ax_cut (pc' := 428) (la := [some (.ref 63), none, none, none, none, none]) [none, none, none, none, none, none] (st' := [.int ((s21.2.1 64 289) + (1 : Int32)), .int (289 : Int32), .ref 64]) (σ' := (ax_sI (ax_sI (ax_sI (ax_sI s21 63 34 ((s21.2.1 63 34) + v16)) 63 35 ((s21.2.1 63 31) * (s21.2.1 63 32))) 63 36 v19) 63 33 ((s21.2.1 63 33) + ((s21.2.1 63 31) * (s21.2.1 63 32))))) 16 (trivial) (fun _ hh => (And.intro (show ¬ ((289 : Int32) < 0 ∨ 291 ≤ ((289 : Int32)).toNatClampNeg) by decide) hh)) ?_
                have h := Option.some.inj h
                subst r
                exact ax_end 2 (And.intro (show ¬ ((289 : Int32) < 0 ∨ 291 ≤ ((289 : Int32)).toNatClampNeg) by decide) rfl)
def M_daysGo_l22 : Nat → Int32 → Int32 → ax_S → Option (ax_S)
  | 0, _, _, _ => none
  | n + 1, x1, x2, s =>
    if x1 ≤ x2 then (
      some s) else
    if (9999 : Int32) ≤ (s.2.1 64 289) then (
      some s) else
    match M_dayGoes s with
    | none => none
    | some s1 =>
      M_daysGo_l22 n x1 (x2 + (1)) s1
def M_daysGo (x1 : Int32)  (s : ax_S) : Option (ax_S) :=
  match M_daysGo_l22 70000 x1 (0 : Int32) (ax_sI (ax_sI (ax_sI (ax_sI s 63 33 (0 : Int32)) 63 34 (0 : Int32)) 63 35 (0 : Int32)) 63 36 (0 : Int32)) with
  | none => none
  | some s2 =>
    some s2
theorem w_M_daysGo_l22 (d : Nat) {o : ax_O} : ∀ (n : Nat) (x1 : Int32) (x2 : Int32) (s : ax_S) (r : ax_S) (h : M_daysGo_l22 n x1 x2 s = some r) (hk0 : ∀ (t0 : ax_S), r = t0 → ax_go true none (ax_ev true (d + 5)) ax_m220 51 [none, none, none] [] t0 o), ax_go true none (ax_ev true (d + 5)) ax_m220 22 [some (.ref 63), some (.int x1), some (.int x2)] [] s o := by
  intro n
  induction n with
  | zero => intro x1 x2 s r h hk0; cases h
  | succ n ih =>
    intro x1 x2 s r h hk0
    rw [M_daysGo_l22] at h
    by_cases c1 : x1 ≤ x2
    · rw [if_pos c1] at h
      have h := Option.some.inj h
      subst r
      exact ax_cut (pc' := 51) (la := [some (.ref 63), some (.int x1), some (.int x2)]) [none, none, none] (st' := []) (σ' := s) 3 (trivial) (fun _ hh => (And.intro (fun _ => hh) (fun q => absurd c1 q))) (hk0 _ rfl)
    · rw [if_neg c1] at h
      by_cases c2 : (9999 : Int32) ≤ (s.2.1 64 289)
      · rw [if_pos c2] at h
        have h := Option.some.inj h
        subst r
        exact ax_cut (pc' := 51) (la := [some (.ref 63), some (.int x1), some (.int x2)]) [none, none, none] (st' := []) (σ' := s) 9 (trivial) (fun _ hh => (And.intro (fun q => absurd q c1) (fun _ => (And.intro (show ¬ ((289 : Int32) < 0 ∨ 291 ≤ ((289 : Int32)).toNatClampNeg) by decide) (And.intro (fun _ => hh) (fun q => absurd c2 q)))))) (hk0 _ rfl)
      · rw [if_neg c2] at h
        cases hz3 : M_dayGoes s with
        | none => rw [hz3] at h; cases h
        | some s1 =>
        rw [hz3] at h
        dsimp only at h
        exact ax_cut (pc' := 22) (la := [some (.ref 63), some (.int x1), some (.int (x2 + (1)))]) [some (.ref 63), some (.int x1), some (.int (x2 + (1)))] (st' := []) (σ' := s1) 13 (And.intro rfl (And.intro rfl (And.intro rfl (trivial)))) (fun _ hh => (And.intro (fun q => absurd q c1) (fun _ => (And.intro (show ¬ ((289 : Int32) < 0 ∨ 291 ≤ ((289 : Int32)).toNatClampNeg) by decide) (And.intro (fun q => absurd q c2) (fun _ => (Exists.intro (none, s1) (And.intro (e_M_dayGoes d hz3) hh)))))))) (ih x1 (x2 + (1)) s1 _ h hk0)
theorem e_M_daysGo (d : Nat) {x1 : Int32} {s : ax_S} {r : ax_S} (h : M_daysGo x1 s = some r) : ax_ev true (d + 6) 220 [.ref 63, .int x1] s (none, r) := by
  refine ⟨Nat.le_of_ble_eq_true rfl, ?_⟩
  show ax_go true none (ax_ev true (d + 5)) ax_m220 0 [some (.ref 63), some (.int x1), none] [] s _
  unfold M_daysGo at h
  cases hz1 : M_daysGo_l22 70000 x1 (0 : Int32) (ax_sI (ax_sI (ax_sI (ax_sI s 63 33 (0 : Int32)) 63 34 (0 : Int32)) 63 35 (0 : Int32)) 63 36 (0 : Int32)) with
  | none => rw [hz1] at h; cases h
  | some z1 =>
  rw [hz1] at h
  refine ax_cut (pc' := 22) (la := [some (.ref 63), some (.int x1), some (.int (0 : Int32))]) [some (.ref 63), some (.int x1), some (.int (0 : Int32))] (st' := []) (σ' := (ax_sI (ax_sI (ax_sI (ax_sI s 63 33 (0 : Int32)) 63 34 (0 : Int32)) 63 35 (0 : Int32)) 63 36 (0 : Int32))) 14 (And.intro rfl (And.intro rfl (And.intro rfl (trivial)))) (fun _ hh => hh) (w_M_daysGo_l22 d 70000 x1 (0 : Int32) (ax_sI (ax_sI (ax_sI (ax_sI s 63 33 (0 : Int32)) 63 34 (0 : Int32)) 63 35 (0 : Int32)) 63 36 (0 : Int32)) _ hz1 ?_)
  · intro s2 hq
    subst z1
    dsimp only at h
    have h := Option.some.inj h
    subst r
    exact ax_end 1 rfl
def M_days (x1 : Int32)  (s : ax_S) : Option (Int32 × ax_S) :=
  if (M_in x1 (1 : Int32) (30 : Int32) s) = 0 then (
    some ((-1 : Int32), s)) else
  match M_daysGo x1 s with
  | none => none
  | some s1 =>
    some ((s1.2.1 63 33), s1)
theorem e_M_days (d : Nat) {x1 : Int32} {s : ax_S} {r : Int32 × ax_S} (h : M_days x1 s = some r) : ax_ev true (d + 7) 219 [.ref 63, .int x1] s (some (.int r.1), r.2) := by
  refine ⟨Nat.le_of_ble_eq_true rfl, ?_⟩
  show ax_go true none (ax_ev true (d + 6)) ax_m219 0 [some (.ref 63), some (.int x1)] [] s _
  unfold M_days at h
  by_cases c1 : (M_in x1 (1 : Int32) (30 : Int32) s) = 0
  · rw [if_pos c1] at h
    have h := Option.some.inj h
    subst r
    exact ax_end 7 (Exists.intro (some (.int (M_in x1 (1 : Int32) (30 : Int32) s)), s) (And.intro (e_M_in (d + 5) x1 (1 : Int32) (30 : Int32) s) (And.intro (fun q => absurd c1 q) (fun _ => rfl))))
  · rw [if_neg c1] at h
    cases hz2 : M_daysGo x1 s with
    | none => rw [hz2] at h; cases h
    | some s1 =>
    rw [hz2] at h
    dsimp only at h
    have h := Option.some.inj h
    subst r
    exact ax_end 11 (Exists.intro (some (.int (M_in x1 (1 : Int32) (30 : Int32) s)), s) (And.intro (e_M_in (d + 5) x1 (1 : Int32) (30 : Int32) s) (And.intro (fun _ => (Exists.intro (none, s1) (And.intro (e_M_daysGo d hz2) rfl))) (fun q => absurd c1 q))))
def XFi_howManyOf_26_l4 : Nat → Int32 → Int32 → Int32 → ax_S → Option (Int32)
  | 0, _, _, _, _ => none
  | n + 1, x1, x2, x3, s =>
    if (12 : Int32) ≤ x3 then (
      some x2) else
    if (x3 < 0 ∨ 12 ≤ (x3).toNatClampNeg) then none else
    if (s.2.1 27 (x3).toNatClampNeg) = x1 then (
      XFi_howManyOf_26_l4 n x1 (x2 + (1)) (x3 + (1)) s) else
    XFi_howManyOf_26_l4 n x1 x2 (x3 + (1)) s
def XFi_howManyOf_26 (x1 : Int32)  (s : ax_S) : Option (Int32) :=
  match XFi_howManyOf_26_l4 70000 x1 (0 : Int32) (0 : Int32) s with
  | none => none
  | some v1 =>
    some v1
theorem w_XFi_howManyOf_26_l4 (d : Nat) {o : ax_O} : ∀ (n : Nat) (x1 : Int32) (x2 : Int32) (x3 : Int32) (s : ax_S) (r : Int32) (h : XFi_howManyOf_26_l4 n x1 x2 x3 s = some r) (hk0 : ∀ (t0 : Int32), r = t0 → ax_go true none (ax_ev true (d + 0)) ax_m82 29 [none, none, some (.int t0), none] [] s o), ax_go true none (ax_ev true (d + 0)) ax_m82 4 [some (.ref 26), some (.int x1), some (.int x2), some (.int x3)] [] s o := by
  intro n
  induction n with
  | zero => intro x1 x2 x3 s r h hk0; cases h
  | succ n ih =>
    intro x1 x2 x3 s r h hk0
    rw [XFi_howManyOf_26_l4] at h
    by_cases c1 : (12 : Int32) ≤ x3
    · rw [if_pos c1] at h
      have h := Option.some.inj h
      subst r
      exact ax_cut (pc' := 29) (la := [some (.ref 26), some (.int x1), some (.int x2), some (.int x3)]) [none, none, some (.int x2), none] (st' := []) (σ' := s) 3 (And.intro rfl (trivial)) (fun _ hh => (And.intro (fun _ => hh) (fun q => absurd c1 q))) (hk0 _ rfl)
    · rw [if_neg c1] at h
      by_cases c2 : (x3 < 0 ∨ 12 ≤ (x3).toNatClampNeg)
      · rw [if_pos c2] at h; cases h
      · rw [if_neg c2] at h
        by_cases c3 : (s.2.1 27 (x3).toNatClampNeg) = x1
        · rw [if_pos c3] at h
          exact ax_cut (pc' := 4) (la := [some (.ref 26), some (.int x1), some (.int (x2 + (1))), some (.int (x3 + (1)))]) [some (.ref 26), some (.int x1), some (.int (x2 + (1))), some (.int (x3 + (1)))] (st' := []) (σ' := s) 12 (And.intro rfl (And.intro rfl (And.intro rfl (And.intro rfl (trivial))))) (fun _ hh => (And.intro (fun q => absurd q c1) (fun _ => (And.intro c2 (And.intro (fun q => absurd c3 q) (fun _ => hh)))))) (ih x1 (x2 + (1)) (x3 + (1)) s _ h hk0)
        · rw [if_neg c3] at h
          exact ax_cut (pc' := 4) (la := [some (.ref 26), some (.int x1), some (.int x2), some (.int (x3 + (1)))]) [some (.ref 26), some (.int x1), some (.int x2), some (.int (x3 + (1)))] (st' := []) (σ' := s) 11 (And.intro rfl (And.intro rfl (And.intro rfl (And.intro rfl (trivial))))) (fun _ hh => (And.intro (fun q => absurd q c1) (fun _ => (And.intro c2 (And.intro (fun _ => hh) (fun q => absurd c3 q)))))) (ih x1 x2 (x3 + (1)) s _ h hk0)
theorem e_XFi_howManyOf_26 (d : Nat) {x1 : Int32} {s : ax_S} {r : Int32} (h : XFi_howManyOf_26 x1 s = some r) : ax_ev true (d + 1) 82 [.ref 26, .int x1] s (some (.int r), s) := by
  refine ⟨Nat.le_of_ble_eq_true rfl, ?_⟩
  show ax_go true none (ax_ev true (d + 0)) ax_m82 0 [some (.ref 26), some (.int x1), none, none] [] s _
  unfold XFi_howManyOf_26 at h
  cases hz1 : XFi_howManyOf_26_l4 70000 x1 (0 : Int32) (0 : Int32) s with
  | none => rw [hz1] at h; cases h
  | some z1 =>
  rw [hz1] at h
  refine ax_cut (pc' := 4) (la := [some (.ref 26), some (.int x1), some (.int (0 : Int32)), some (.int (0 : Int32))]) [some (.ref 26), some (.int x1), some (.int (0 : Int32)), some (.int (0 : Int32))] (st' := []) (σ' := s) 4 (And.intro rfl (And.intro rfl (And.intro rfl (And.intro rfl (trivial))))) (fun _ hh => hh) (w_XFi_howManyOf_26_l4 d 70000 x1 (0 : Int32) (0 : Int32) s _ hz1 ?_)
  · intro v1 hq
    subst z1
    dsimp only at h
    have h := Option.some.inj h
    subst r
    exact ax_end 2 rfl
def XSt_shownOf_25 (x1 : Int32)  (s : ax_S) : Option (Int32) :=
  if (X_isPerson x1 s) = 0 then (
    some (0 : Int32)) else
  if (x1 < 0 ∨ 16 ≤ (x1).toNatClampNeg) then none else
  some (s.2.1 33 (x1).toNatClampNeg)
theorem e_XSt_shownOf_25 (d : Nat) {x1 : Int32} {s : ax_S} {r : Int32} (h : XSt_shownOf_25 x1 s = some r) : ax_ev true (d + 3) 83 [.ref 25, .int x1] s (some (.int r), s) := by
  refine ⟨Nat.le_of_ble_eq_true rfl, ?_⟩
  show ax_go true none (ax_ev true (d + 2)) ax_m83 0 [some (.ref 25), some (.int x1)] [] s _
  unfold XSt_shownOf_25 at h
  by_cases c1 : (X_isPerson x1 s) = 0
  · rw [if_pos c1] at h
    have h := Option.some.inj h
    subst r
    exact ax_end 5 (Exists.intro (some (.int (X_isPerson x1 s)), s) (And.intro (e_X_isPerson d x1 s) (And.intro (fun _ => rfl) (fun q => absurd c1 q))))
  · rw [if_neg c1] at h
    by_cases c2 : (x1 < 0 ∨ 16 ≤ (x1).toNatClampNeg)
    · rw [if_pos c2] at h; cases h
    · rw [if_neg c2] at h
      have h := Option.some.inj h
      subst r
      exact ax_end 9 (Exists.intro (some (.int (X_isPerson x1 s)), s) (And.intro (e_X_isPerson d x1 s) (And.intro (fun q => absurd q c1) (fun _ => (And.intro c2 rfl)))))
def XSt_daysSinceShown_25 (x1 : Int32)  (s : ax_S) : Option (Int32) :=
  if (X_isPerson x1 s) = 0 then (
    some (99 : Int32)) else
  if (x1 < 0 ∨ 16 ≤ (x1).toNatClampNeg) then none else
  if (s.2.1 34 (x1).toNatClampNeg) = 0 then (
    some (99 : Int32)) else
  if (x1 < 0 ∨ 16 ≤ (x1).toNatClampNeg) then none else
  some (if (((s.2.1 25 5) - (s.2.1 34 (x1).toNatClampNeg)) + (1 : Int32)) < (99 : Int32) then (((s.2.1 25 5) - (s.2.1 34 (x1).toNatClampNeg)) + (1 : Int32)) else (99 : Int32))
theorem e_XSt_daysSinceShown_25 (d : Nat) {x1 : Int32} {s : ax_S} {r : Int32} (h : XSt_daysSinceShown_25 x1 s = some r) : ax_ev true (d + 3) 84 [.ref 25, .int x1] s (some (.int r), s) := by
  refine ⟨Nat.le_of_ble_eq_true rfl, ?_⟩
  show ax_go true none (ax_ev true (d + 2)) ax_m84 0 [some (.ref 25), some (.int x1)] [] s _
  unfold XSt_daysSinceShown_25 at h
  by_cases c1 : (X_isPerson x1 s) = 0
  · rw [if_pos c1] at h
    have h := Option.some.inj h
    subst r
    exact ax_end 5 (Exists.intro (some (.int (X_isPerson x1 s)), s) (And.intro (e_X_isPerson d x1 s) (And.intro (fun _ => rfl) (fun q => absurd c1 q))))
  · rw [if_neg c1] at h
    by_cases c2 : (x1 < 0 ∨ 16 ≤ (x1).toNatClampNeg)
    · rw [if_pos c2] at h; cases h
    · rw [if_neg c2] at h
      by_cases c3 : (s.2.1 34 (x1).toNatClampNeg) = 0
      · rw [if_pos c3] at h
        have h := Option.some.inj h
        subst r
        exact ax_end 10 (Exists.intro (some (.int (X_isPerson x1 s)), s) (And.intro (e_X_isPerson d x1 s) (And.intro (fun q => absurd q c1) (fun _ => (And.intro c2 (And.intro (fun q => absurd c3 q) (fun _ => rfl)))))))
      · rw [if_neg c3] at h
        by_cases c4 : (x1 < 0 ∨ 16 ≤ (x1).toNatClampNeg)
        · rw [if_pos c4] at h; cases h
        · rw [if_neg c4] at h
          refine ax_cut (pc' := 32) (la := [some (.ref 25), some (.int x1)]) [none, none] (st' := [.int ((s.2.1 25 5) - (s.2.1 34 (x1).toNatClampNeg)), .int (99 : Int32)]) (σ' := s) 16 (trivial) (fun _ hh => (Exists.intro (some (.int (X_isPerson x1 s)), s) (And.intro (e_X_isPerson d x1 s) (And.intro (fun q => absurd q c1) (fun _ => (And.intro c2 (And.intro (fun _ => (And.intro c4 hh)) (fun q => absurd c3 q)))))))) ?_
          have h := Option.some.inj h
          subst r
          exact ax_end 4 rfl
def XSt_tellOf_25_36 (x1 : Int32)  (s : ax_S) : Option (ax_S) :=
  match XSt_painOf_25 x1 s with
  | none => none
  | some v1 =>
    match XFi_howManyOf_26 x1 s with
    | none => none
    | some v2 =>
      match XSt_shownOf_25 x1 s with
      | none => none
      | some v3 =>
        match XSt_daysSinceShown_25 x1 s with
        | none => none
        | some v4 =>
          some (XLa_setPerson_36 x1 v1 v2 v3 v4 s)
theorem e_XSt_tellOf_25_36 (d : Nat) {x1 : Int32} {s : ax_S} {r : ax_S} (h : XSt_tellOf_25_36 x1 s = some r) : ax_ev true (d + 4) 81 [.ref 25, .int x1, .ref 36] s (none, r) := by
  refine ⟨Nat.le_of_ble_eq_true rfl, ?_⟩
  show ax_go true none (ax_ev true (d + 3)) ax_m81 0 [some (.ref 25), some (.int x1), some (.ref 36)] [] s _
  unfold XSt_tellOf_25_36 at h
  cases hz1 : XSt_painOf_25 x1 s with
  | none => rw [hz1] at h; cases h
  | some v1 =>
  rw [hz1] at h
  dsimp only at h
  cases hz2 : XFi_howManyOf_26 x1 s with
  | none => rw [hz2] at h; cases h
  | some v2 =>
  rw [hz2] at h
  dsimp only at h
  cases hz3 : XSt_shownOf_25 x1 s with
  | none => rw [hz3] at h; cases h
  | some v3 =>
  rw [hz3] at h
  dsimp only at h
  cases hz4 : XSt_daysSinceShown_25 x1 s with
  | none => rw [hz4] at h; cases h
  | some v4 =>
  rw [hz4] at h
  dsimp only at h
  refine ax_cut (pc' := 28) (la := [some (.ref 25), some (.int x1), some (.ref 36)]) [none, none, none] (st' := []) (σ' := (XLa_setPerson_36 x1 v1 v2 v3 v4 s)) 16 (trivial) (fun _ hh => (Exists.intro (some (.int v1), s) (And.intro (e_XSt_painOf_25 d hz1) (Exists.intro (some (.int v2), s) (And.intro (e_XFi_howManyOf_26 (d + 2) hz2) (Exists.intro (some (.int v3), s) (And.intro (e_XSt_shownOf_25 d hz3) (Exists.intro (some (.int v4), s) (And.intro (e_XSt_daysSinceShown_25 d hz4) (Exists.intro (none, (XLa_setPerson_36 x1 v1 v2 v3 v4 s)) (And.intro (e_XLa_setPerson_36 (d + 2) x1 v1 v2 v3 v4 s) hh))))))))))) ?_
  have h := Option.some.inj h
  subst r
  exact ax_end 1 rfl
def XSt_changePain_25_36_l2 : Nat → Int32 → ax_S → Option (ax_S)
  | 0, _, _ => none
  | n + 1, x2, s =>
    if (16 : Int32) ≤ x2 then (
      some s) else
    match XSt_tellOf_25_36 x2 s with
    | none => none
    | some s1 =>
      match XLa_ask_36 (119 : Int32) (99 : Int32) s1 with
      | none => none
      | some (v2, s3) =>
        match XLa_ask_36 (108 : Int32) (99 : Int32) s3 with
        | none => none
        | some (v4, s5) =>
          if (x2 < 0 ∨ 16 ≤ (x2).toNatClampNeg) then none else
          match XSt_setPain_25 x2 (((s5.2.1 32 (x2).toNatClampNeg) + v2) - v4) s5 with
          | none => none
          | some s6 =>
            XSt_changePain_25_36_l2 n (x2 + (1)) s6
def XSt_changePain_25_36  (s : ax_S) : Option (ax_S) :=
  match XSt_changePain_25_36_l2 70000 (0 : Int32) s with
  | none => none
  | some s7 =>
    some s7
theorem w_XSt_changePain_25_36_l2 (d : Nat) {o : ax_O} : ∀ (n : Nat) (x2 : Int32) (s : ax_S) (r : ax_S) (h : XSt_changePain_25_36_l2 n x2 s = some r) (hk0 : ∀ (t0 : ax_S), r = t0 → ax_go true none (ax_ev true (d + 4)) ax_m80 55 [none, none, none, none, none] [] t0 o), ax_go true none (ax_ev true (d + 4)) ax_m80 2 [some (.ref 25), some (.ref 36), some (.int x2), none, none] [] s o := by
  intro n
  induction n with
  | zero => intro x2 s r h hk0; cases h
  | succ n ih =>
    intro x2 s r h hk0
    rw [XSt_changePain_25_36_l2] at h
    by_cases c1 : (16 : Int32) ≤ x2
    · rw [if_pos c1] at h
      have h := Option.some.inj h
      subst r
      exact ax_cut (pc' := 55) (la := [some (.ref 25), some (.ref 36), some (.int x2), none, none]) [none, none, none, none, none] (st' := []) (σ' := s) 3 (trivial) (fun _ hh => (And.intro (fun _ => hh) (fun q => absurd c1 q))) (hk0 _ rfl)
    · rw [if_neg c1] at h
      cases hz2 : XSt_tellOf_25_36 x2 s with
      | none => rw [hz2] at h; cases h
      | some s1 =>
      rw [hz2] at h
      dsimp only at h
      cases hz3 : XLa_ask_36 (119 : Int32) (99 : Int32) s1 with
      | none => rw [hz3] at h; cases h
      | some z3 =>
      rw [hz3] at h
      obtain ⟨v2, s3⟩ := z3
      dsimp only at h
      cases hz4 : XLa_ask_36 (108 : Int32) (99 : Int32) s3 with
      | none => rw [hz4] at h; cases h
      | some z4 =>
      rw [hz4] at h
      obtain ⟨v4, s5⟩ := z4
      dsimp only at h
      refine ax_cut (pc' := 31) (la := [some (.ref 25), some (.ref 36), some (.int x2), some (.int v2), none]) [some (.ref 25), some (.ref 36), some (.int x2), some (.int v2), none] (st' := [.int v4]) (σ' := s5) 16 (And.intro rfl (And.intro rfl (And.intro rfl (And.intro rfl (trivial))))) (fun _ hh => (And.intro (fun q => absurd q c1) (fun _ => (Exists.intro (none, s1) (And.intro (e_XSt_tellOf_25_36 d hz2) (Exists.intro (some (.int v2), s3) (And.intro (e_XLa_ask_36 d hz3) (Exists.intro (some (.int v4), s5) (And.intro (e_XLa_ask_36 d hz4) hh))))))))) ?_
      by_cases c5 : (x2 < 0 ∨ 16 ≤ (x2).toNatClampNeg)
      · rw [if_pos c5] at h; cases h
      · rw [if_neg c5] at h
        cases hz6 : XSt_setPain_25 x2 (((s5.2.1 32 (x2).toNatClampNeg) + v2) - v4) s5 with
        | none => rw [hz6] at h; cases h
        | some s6 =>
        rw [hz6] at h
        dsimp only at h
        exact ax_cut (pc' := 2) (la := [some (.ref 25), some (.ref 36), some (.int (x2 + (1))), some (.int v2), some (.int v4)]) [some (.ref 25), some (.ref 36), some (.int (x2 + (1))), none, none] (st' := []) (σ' := s6) 14 (And.intro rfl (And.intro rfl (And.intro rfl (trivial)))) (fun _ hh => (And.intro c5 (Exists.intro (none, s6) (And.intro (e_XSt_setPain_25 (d + 1) hz6) hh)))) (ih (x2 + (1)) s6 _ h hk0)
theorem e_XSt_changePain_25_36 (d : Nat)  {s : ax_S} {r : ax_S} (h : XSt_changePain_25_36 s = some r) : ax_ev true (d + 5) 80 [.ref 25, .ref 36] s (none, r) := by
  refine ⟨Nat.le_of_ble_eq_true rfl, ?_⟩
  show ax_go true none (ax_ev true (d + 4)) ax_m80 0 [some (.ref 25), some (.ref 36), none, none, none] [] s _
  unfold XSt_changePain_25_36 at h
  cases hz1 : XSt_changePain_25_36_l2 70000 (0 : Int32) s with
  | none => rw [hz1] at h; cases h
  | some z1 =>
  rw [hz1] at h
  refine ax_cut (pc' := 2) (la := [some (.ref 25), some (.ref 36), some (.int (0 : Int32)), none, none]) [some (.ref 25), some (.ref 36), some (.int (0 : Int32)), none, none] (st' := []) (σ' := s) 2 (And.intro rfl (And.intro rfl (And.intro rfl (trivial)))) (fun _ hh => hh) (w_XSt_changePain_25_36_l2 d 70000 (0 : Int32) s _ hz1 ?_)
  · intro s7 hq
    subst z1
    dsimp only at h
    have h := Option.some.inj h
    subst r
    exact ax_end 1 rfl
def XSt_painfulAbove_25_l4 : Nat → Int32 → Int32 → Int32 → ax_S → Option (Int32)
  | 0, _, _, _, _ => none
  | n + 1, x1, x2, x3, s =>
    if (16 : Int32) ≤ x3 then (
      some x2) else
    if (x3 < 0 ∨ 16 ≤ (x3).toNatClampNeg) then none else
    if (s.2.1 32 (x3).toNatClampNeg) ≤ x1 then (
      XSt_painfulAbove_25_l4 n x1 x2 (x3 + (1)) s) else
    XSt_painfulAbove_25_l4 n x1 (x2 ||| ((1 : Int32) <<< (x3 &&& 31))) (x3 + (1)) s
def XSt_painfulAbove_25 (x1 : Int32)  (s : ax_S) : Option (Int32) :=
  match XSt_painfulAbove_25_l4 70000 x1 (0 : Int32) (0 : Int32) s with
  | none => none
  | some v1 =>
    some v1
theorem w_XSt_painfulAbove_25_l4 (d : Nat) {o : ax_O} : ∀ (n : Nat) (x1 : Int32) (x2 : Int32) (x3 : Int32) (s : ax_S) (r : Int32) (h : XSt_painfulAbove_25_l4 n x1 x2 x3 s = some r) (hk0 : ∀ (t0 : Int32), r = t0 → ax_go true none (ax_ev true (d + 0)) ax_m91 32 [none, none, some (.int t0), none] [] s o), ax_go true none (ax_ev true (d + 0)) ax_m91 4 [some (.ref 25), some (.int x1), some (.int x2), some (.int x3)] [] s o := by
  intro n
  induction n with
  | zero => intro x1 x2 x3 s r h hk0; cases h
  | succ n ih =>
    intro x1 x2 x3 s r h hk0
    rw [XSt_painfulAbove_25_l4] at h
    by_cases c1 : (16 : Int32) ≤ x3
    · rw [if_pos c1] at h
      have h := Option.some.inj h
      subst r
      exact ax_cut (pc' := 32) (la := [some (.ref 25), some (.int x1), some (.int x2), some (.int x3)]) [none, none, some (.int x2), none] (st' := []) (σ' := s) 3 (And.intro rfl (trivial)) (fun _ hh => (And.intro (fun _ => hh) (fun q => absurd c1 q))) (hk0 _ rfl)
    · rw [if_neg c1] at h
      by_cases c2 : (x3 < 0 ∨ 16 ≤ (x3).toNatClampNeg)
      · rw [if_pos c2] at h; cases h
      · rw [if_neg c2] at h
        by_cases c3 : (s.2.1 32 (x3).toNatClampNeg) ≤ x1
        · rw [if_pos c3] at h
          exact ax_cut (pc' := 4) (la := [some (.ref 25), some (.int x1), some (.int x2), some (.int (x3 + (1)))]) [some (.ref 25), some (.int x1), some (.int x2), some (.int (x3 + (1)))] (st' := []) (σ' := s) 11 (And.intro rfl (And.intro rfl (And.intro rfl (And.intro rfl (trivial))))) (fun _ hh => (And.intro (fun q => absurd q c1) (fun _ => (And.intro c2 (And.intro (fun _ => hh) (fun q => absurd c3 q)))))) (ih x1 x2 (x3 + (1)) s _ h hk0)
        · rw [if_neg c3] at h
          refine ax_cut (pc' := 29) (la := [some (.ref 25), some (.int x1), some (.int (x2 ||| ((1 : Int32) <<< (x3 &&& 31)))), some (.int (x3 + (1)))]) [some (.ref 25), some (.int x1), some (.int (x2 ||| ((1 : Int32) <<< (x3 &&& 31)))), some (.int (x3 + (1)))] (st' := []) (σ' := s) 16 (And.intro rfl (And.intro rfl (And.intro rfl (And.intro rfl (trivial))))) (fun _ hh => (And.intro (fun q => absurd q c1) (fun _ => (And.intro c2 (And.intro (fun q => absurd q c3) (fun _ => hh)))))) ?_
          exact ax_cut (pc' := 4) (la := [some (.ref 25), some (.int x1), some (.int (x2 ||| ((1 : Int32) <<< (x3 &&& 31)))), some (.int (x3 + (1)))]) [some (.ref 25), some (.int x1), some (.int (x2 ||| ((1 : Int32) <<< (x3 &&& 31)))), some (.int (x3 + (1)))] (st' := []) (σ' := s) 1 (And.intro rfl (And.intro rfl (And.intro rfl (And.intro rfl (trivial))))) (fun _ hh => hh) (ih x1 (x2 ||| ((1 : Int32) <<< (x3 &&& 31))) (x3 + (1)) s _ h hk0)
theorem e_XSt_painfulAbove_25 (d : Nat) {x1 : Int32} {s : ax_S} {r : Int32} (h : XSt_painfulAbove_25 x1 s = some r) : ax_ev true (d + 1) 91 [.ref 25, .int x1] s (some (.int r), s) := by
  refine ⟨Nat.le_of_ble_eq_true rfl, ?_⟩
  show ax_go true none (ax_ev true (d + 0)) ax_m91 0 [some (.ref 25), some (.int x1), none, none] [] s _
  unfold XSt_painfulAbove_25 at h
  cases hz1 : XSt_painfulAbove_25_l4 70000 x1 (0 : Int32) (0 : Int32) s with
  | none => rw [hz1] at h; cases h
  | some z1 =>
  rw [hz1] at h
  refine ax_cut (pc' := 4) (la := [some (.ref 25), some (.int x1), some (.int (0 : Int32)), some (.int (0 : Int32))]) [some (.ref 25), some (.int x1), some (.int (0 : Int32)), some (.int (0 : Int32))] (st' := []) (σ' := s) 4 (And.intro rfl (And.intro rfl (And.intro rfl (And.intro rfl (trivial))))) (fun _ hh => hh) (w_XSt_painfulAbove_25_l4 d 70000 x1 (0 : Int32) (0 : Int32) s _ hz1 ?_)
  · intro v1 hq
    subst z1
    dsimp only at h
    have h := Option.some.inj h
    subst r
    exact ax_end 2 rfl
