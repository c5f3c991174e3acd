def M_endsPiece_l0 : Nat → ax_S → Option (ax_S)
  | 0, _ => none
  | n + 1, s =>
    match M_waitTop s with
    | none => none
    | some v1 =>
      if v1 = (10 : Int32) then (
        match M_notes (10 : Int32) (0 : Int32) s with
        | none => none
        | some s2 =>
          M_endsPiece_l0 n (ax_sI (ax_sI s2 63 12 ((s2.2.1 63 12) - (1 : Int32))) 63 10 ((s2.2.1 63 10) - (1 : Int32)))) else
      some s
def M_endsPiece  (s : ax_S) : Option (ax_S) :=
  match M_endsPiece_l0 70000 s with
  | none => none
  | some s3 =>
    some s3
theorem w_M_endsPiece_l0 (d : Nat) {o : ax_O} : ∀ (n : Nat) (s : ax_S) (r : ax_S) (h : M_endsPiece_l0 n s = some r) (hk0 : ∀ (t0 : ax_S), r = t0 → ax_go true none (ax_ev true (d + 1)) ax_m201 39 [none] [] t0 o), ax_go true none (ax_ev true (d + 1)) ax_m201 0 [some (.ref 63)] [] s o := by
  intro n
  induction n with
  | zero => intro s r h hk0; cases h
  | succ n ih =>
    intro s r h hk0
    rw [M_endsPiece_l0] at h
    cases hz1 : M_waitTop s with
    | none => rw [hz1] at h; cases h
    | some v1 =>
    rw [hz1] at h
    dsimp only at h
    by_cases c2 : v1 = (10 : Int32)
    · rw [if_pos c2] at h
      cases hz3 : M_notes (10 : Int32) (0 : Int32) s with
      | none => rw [hz3] at h; cases h
      | some s2 =>
      rw [hz3] at h
      dsimp only at h
      refine ax_cut (pc' := 28) (la := [some (.ref 63)]) [some (.ref 63)] (st' := [.ref 63, .ref 63]) (σ' := (ax_sI s2 63 12 ((s2.2.1 63 12) - (1 : Int32)))) 16 (And.intro rfl (trivial)) (fun _ hh => (Exists.intro (some (.int v1), s) (And.intro (e_M_waitTop d hz1) (And.intro (fun q => absurd c2 q) (fun _ => (Exists.intro (none, s2) (And.intro (e_M_notes d hz3) hh))))))) ?_
      exact ax_cut (pc' := 0) (la := [some (.ref 63)]) [some (.ref 63)] (st' := []) (σ' := (ax_sI (ax_sI s2 63 12 ((s2.2.1 63 12) - (1 : Int32))) 63 10 ((s2.2.1 63 10) - (1 : Int32)))) 5 (And.intro rfl (trivial)) (fun _ hh => hh) (ih  (ax_sI (ax_sI s2 63 12 ((s2.2.1 63 12) - (1 : Int32))) 63 10 ((s2.2.1 63 10) - (1 : Int32))) _ h hk0)
    · rw [if_neg c2] at h
      have h := Option.some.inj h
      subst r
      exact ax_cut (pc' := 39) (la := [some (.ref 63)]) [none] (st' := []) (σ' := s) 4 (trivial) (fun _ hh => (Exists.intro (some (.int v1), s) (And.intro (e_M_waitTop d hz1) (And.intro (fun _ => hh) (fun q => absurd c2 q))))) (hk0 _ rfl)
theorem e_M_endsPiece (d : Nat)  {s : ax_S} {r : ax_S} (h : M_endsPiece s = some r) : ax_ev true (d + 2) 201 [.ref 63] s (none, r) := by
  refine ⟨Nat.le_of_ble_eq_true rfl, ?_⟩
  show ax_go true none (ax_ev true (d + 1)) ax_m201 0 [some (.ref 63)] [] s _
  unfold M_endsPiece at h
  cases hz1 : M_endsPiece_l0 70000 s with
  | none => rw [hz1] at h; cases h
  | some z1 =>
  rw [hz1] at h
  refine ax_cut (pc' := 0) (la := [some (.ref 63)]) [some (.ref 63)] (st' := []) (σ' := s) 0 (And.intro rfl (trivial)) (fun _ hh => hh) (w_M_endsPiece_l0 d 70000 s _ hz1 ?_)
  · intro s3 hq
    subst z1
    dsimp only at h
    have h := Option.some.inj h
    subst r
    exact ax_end 1 rfl
def M_readsCompared_j15 (y0 : Int32)  (s : ax_S) : Option (Int32) :=
  if y0 = (60 : Int32) then (
    some (7 : Int32)) else
  match M_here s with
  | none => none
  | some v4 =>
    if v4 = (62 : Int32) then (
      some (8 : Int32)) else
    if v4 = (61 : Int32) then (
      some (9 : Int32)) else
    some (-1 : Int32)
def M_readsCompared  (s : ax_S) : Option (Int32 × ax_S) :=
  match M_readsSum s with
  | none => none
  | some (v1, s2) =>
    if v1 = 0 then (
      some ((0 : Int32), s2)) else
    match M_here s2 with
    | none => none
    | some v3 =>
      match M_readsCompared_j15 v3 s2 with
      | none => none
      | some v5 =>
        if v5 = (-1 : Int32) then (
          some ((M_wrongAt (1 : Int32) (s2.2.1 63 6) s2).1, (M_wrongAt (1 : Int32) (s2.2.1 63 6) s2).2)) else
        match M_readsSum (ax_sI s2 63 6 ((s2.2.1 63 6) + (1 : Int32))) with
        | none => none
        | some (v6, s7) =>
          if v6 = 0 then (
            some ((0 : Int32), s7)) else
          match M_notes v5 (0 : Int32) s7 with
          | none => none
          | some s8 =>
            match M_endsPiece s8 with
            | none => none
            | some s9 =>
              some ((1 : Int32), s9)
theorem w_M_readsCompared_j15 (d : Nat) {o : ax_O} (y0 : Int32) (s : ax_S) (r : Int32) (h : M_readsCompared_j15 y0 s = some r) (hk0 : ∀ (t0 : Int32), r = t0 → ax_go true none (ax_ev true (d + 5)) ax_m200 52 [some (.ref 63), none] [.int t0] s o) : ax_go true none (ax_ev true (d + 5)) ax_m200 15 [some (.ref 63), none] [.int (60 : Int32), .int y0] s o := by
  unfold M_readsCompared_j15 at h
  by_cases c1 : y0 = (60 : Int32)
  · rw [if_pos c1] at h
    have h := Option.some.inj h
    subst r
    exact ax_cut (pc' := 52) (la := [some (.ref 63), none]) [some (.ref 63), none] (st' := [.int (7 : Int32)]) (σ' := s) 3 (And.intro rfl (trivial)) (fun _ hh => (And.intro (fun q => absurd c1 q) (fun _ => hh))) (hk0 _ rfl)
  · rw [if_neg c1] at h
    cases hz2 : M_here s with
    | none => rw [hz2] at h; cases h
    | some v4 =>
    rw [hz2] at h
    dsimp only at h
    by_cases c3 : v4 = (62 : Int32)
    · rw [if_pos c3] at h
      have h := Option.some.inj h
      subst r
      exact ax_cut (pc' := 52) (la := [some (.ref 63), none]) [some (.ref 63), none] (st' := [.int (8 : Int32)]) (σ' := s) 7 (And.intro rfl (trivial)) (fun _ hh => (And.intro (fun _ => (Exists.intro (some (.int v4), s) (And.intro (e_M_here (d + 4) hz2) (And.intro (fun q => absurd c3 q) (fun _ => hh))))) (fun q => absurd c1 q))) (hk0 _ rfl)
    · rw [if_neg c3] at h
      by_cases c4 : v4 = (61 : Int32)
      · rw [if_pos c4] at h
        have h := Option.some.inj h
        subst r
        exact ax_cut (pc' := 52) (la := [some (.ref 63), none]) [some (.ref 63), none] (st' := [.int (9 : Int32)]) (σ' := s) 11 (And.intro rfl (trivial)) (fun _ hh => (And.intro (fun _ => (Exists.intro (some (.int v4), s) (And.intro (e_M_here (d + 4) hz2) (And.intro (fun _ => (Exists.intro (some (.int v4), s) (And.intro (e_M_here (d + 4) hz2) (And.intro (fun q => absurd c4 q) (fun _ => hh))))) (fun q => absurd c3 q))))) (fun q => absurd c1 q))) (hk0 _ rfl)
      · rw [if_neg c4] at h
        have h := Option.some.inj h
        subst r
        exact ax_cut (pc' := 52) (la := [some (.ref 63), none]) [some (.ref 63), none] (st' := [.int (-1 : Int32)]) (σ' := s) 10 (And.intro rfl (trivial)) (fun _ hh => (And.intro (fun _ => (Exists.intro (some (.int v4), s) (And.intro (e_M_here (d + 4) hz2) (And.intro (fun _ => (Exists.intro (some (.int v4), s) (And.intro (e_M_here (d + 4) hz2) (And.intro (fun _ => hh) (fun q => absurd c4 q))))) (fun q => absurd c3 q))))) (fun q => absurd c1 q))) (hk0 _ rfl)
theorem e_M_readsCompared (d : Nat)  {s : ax_S} {r : Int32 × ax_S} (h : M_readsCompared s = some r) : ax_ev true (d + 6) 200 [.ref 63] s (some (.int r.1), r.2) := by
  refine ⟨Nat.le_of_ble_eq_true rfl, ?_⟩
  show ax_go true none (ax_ev true (d + 5)) ax_m200 0 [some (.ref 63), none] [] s _
  unfold M_readsCompared at h
  cases hz1 : M_readsSum s with
  | none => rw [hz1] at h; cases h
  | some z1 =>
  rw [hz1] at h
  obtain ⟨v1, s2⟩ := z1
  dsimp only at h
  by_cases c2 : v1 = 0
  · rw [if_pos c2] at h
    have h := Option.some.inj h
    subst r
    exact ax_end 5 (Exists.intro (some (.int v1), s2) (And.intro (e_M_readsSum d hz1) (And.intro (fun q => absurd c2 q) (fun _ => (And.intro (Or.inl rfl) rfl)))))
  · rw [if_neg c2] at h
    cases hz3 : M_here s2 with
    | none => rw [hz3] at h; cases h
    | some v3 =>
    rw [hz3] at h
    dsimp only at h
    cases hz4 : M_readsCompared_j15 v3 s2 with
    | none => rw [hz4] at h; cases h
    | some z4 =>
    rw [hz4] at h
    refine ax_cut (pc' := 15) (la := [some (.ref 63), none]) [some (.ref 63), none] (st' := [.int (60 : Int32), .int v3]) (σ' := s2) 6 (And.intro rfl (trivial)) (fun _ hh => (Exists.intro (some (.int v1), s2) (And.intro (e_M_readsSum d hz1) (And.intro (fun _ => (Exists.intro (some (.int v3), s2) (And.intro (e_M_here (d + 4) hz3) hh))) (fun q => absurd c2 q))))) (w_M_readsCompared_j15 d v3 s2 _ hz4 ?_)
    · intro v5 hq
      subst z4
      dsimp only at h
      by_cases c5 : v5 = (-1 : Int32)
      · rw [if_pos c5] at h
        have h := Option.some.inj h
        subst r
        exact ax_end 10 (And.intro (fun q => absurd c5 q) (fun _ => (Exists.intro (some (.int (M_wrongAt (1 : Int32) (s2.2.1 63 6) s2).1), (M_wrongAt (1 : Int32) (s2.2.1 63 6) s2).2) (And.intro (e_M_wrongAt (d + 4) (1 : Int32) (s2.2.1 63 6) s2) (And.intro (ax_ev_bool rfl (e_M_wrongAt (d + 4) (1 : Int32) (s2.2.1 63 6) s2)) rfl)))))
      · rw [if_neg c5] at h
        cases hz6 : M_readsSum (ax_sI s2 63 6 ((s2.2.1 63 6) + (1 : Int32))) with
        | none => rw [hz6] at h; cases h
        | some z6 =>
        rw [hz6] at h
        obtain ⟨v6, s7⟩ := z6
        dsimp only at h
        by_cases c7 : v6 = 0
        · rw [if_pos c7] at h
          have h := Option.some.inj h
          subst r
          exact ax_end 15 (And.intro (fun _ => (Exists.intro (some (.int v6), s7) (And.intro (e_M_readsSum d hz6) (And.intro (fun q => absurd c7 q) (fun _ => (And.intro (Or.inl rfl) rfl)))))) (fun q => absurd c5 q))
        · rw [if_neg c7] at h
          refine ax_cut (pc' := 90) (la := [some (.ref 63), some (.int v5)]) [some (.ref 63), none] (st' := [.int (0 : Int32), .int v5, .ref 63]) (σ' := s7) 16 (And.intro rfl (trivial)) (fun _ hh => (And.intro (fun _ => (Exists.intro (some (.int v6), s7) (And.intro (e_M_readsSum d hz6) (And.intro (fun _ => hh) (fun q => absurd c7 q))))) (fun q => absurd c5 q))) ?_
          cases hz8 : M_notes v5 (0 : Int32) s7 with
          | none => rw [hz8] at h; cases h
          | some s8 =>
          rw [hz8] at h
          dsimp only at h
          cases hz9 : M_endsPiece s8 with
          | none => rw [hz9] at h; cases h
          | some s9 =>
          rw [hz9] at h
          dsimp only at h
          have h := Option.some.inj h
          subst r
          exact ax_end 5 (Exists.intro (none, s8) (And.intro (e_M_notes (d + 4) hz8) (Exists.intro (none, s9) (And.intro (e_M_endsPiece (d + 3) hz9) (And.intro (Or.inr rfl) rfl)))))
def M_lands_l0 : Nat → Int32 → ax_S → Option (ax_S)
  | 0, _, _ => none
  | n + 1, x1, s =>
    match M_waitTop s with
    | none => none
    | some v1 =>
      if v1 = (11 : Int32) then (
        if (((s.2.1 63 12) - (1 : Int32)) < 0 ∨ 260 ≤ (((s.2.1 63 12) - (1 : Int32))).toNatClampNeg) then none else
        if (((s.2.1 69 (((s.2.1 63 12) - (1 : Int32))).toNatClampNeg) - (s.2.1 69 (((s.2.1 63 12) - (1 : Int32))).toNatClampNeg) / (1048576 : Int32) * (1048576 : Int32)) < 0 ∨ 260 ≤ (((s.2.1 69 (((s.2.1 63 12) - (1 : Int32))).toNatClampNeg) - (s.2.1 69 (((s.2.1 63 12) - (1 : Int32))).toNatClampNeg) / (1048576 : Int32) * (1048576 : Int32))).toNatClampNeg) then none else
        if (((s.2.1 69 (((s.2.1 63 12) - (1 : Int32))).toNatClampNeg) - (s.2.1 69 (((s.2.1 63 12) - (1 : Int32))).toNatClampNeg) / (1048576 : Int32) * (1048576 : Int32)) < 0 ∨ 260 ≤ (((s.2.1 69 (((s.2.1 63 12) - (1 : Int32))).toNatClampNeg) - (s.2.1 69 (((s.2.1 63 12) - (1 : Int32))).toNatClampNeg) / (1048576 : Int32) * (1048576 : Int32))).toNatClampNeg) then none else
        M_lands_l0 n x1 (ax_sI (ax_sI s 68 (((s.2.1 69 (((s.2.1 63 12) - (1 : Int32))).toNatClampNeg) - (s.2.1 69 (((s.2.1 63 12) - (1 : Int32))).toNatClampNeg) / (1048576 : Int32) * (1048576 : Int32))).toNatClampNeg (((1048576 : Int32) * ((s.2.1 68 (((s.2.1 69 (((s.2.1 63 12) - (1 : Int32))).toNatClampNeg) - (s.2.1 69 (((s.2.1 63 12) - (1 : Int32))).toNatClampNeg) / (1048576 : Int32) * (1048576 : Int32))).toNatClampNeg) / (1048576 : Int32))) + (s.2.1 63 11))) 63 12 ((s.2.1 63 12) - (1 : Int32)))) else
      if x1 = 0 then (
        some s) else
      if v1 = (12 : Int32) then (
        if (((s.2.1 63 12) - (1 : Int32)) < 0 ∨ 260 ≤ (((s.2.1 63 12) - (1 : Int32))).toNatClampNeg) then none else
        if (((s.2.1 69 (((s.2.1 63 12) - (1 : Int32))).toNatClampNeg) - (s.2.1 69 (((s.2.1 63 12) - (1 : Int32))).toNatClampNeg) / (1048576 : Int32) * (1048576 : Int32)) < 0 ∨ 260 ≤ (((s.2.1 69 (((s.2.1 63 12) - (1 : Int32))).toNatClampNeg) - (s.2.1 69 (((s.2.1 63 12) - (1 : Int32))).toNatClampNeg) / (1048576 : Int32) * (1048576 : Int32))).toNatClampNeg) then none else
        if (((s.2.1 69 (((s.2.1 63 12) - (1 : Int32))).toNatClampNeg) - (s.2.1 69 (((s.2.1 63 12) - (1 : Int32))).toNatClampNeg) / (1048576 : Int32) * (1048576 : Int32)) < 0 ∨ 260 ≤ (((s.2.1 69 (((s.2.1 63 12) - (1 : Int32))).toNatClampNeg) - (s.2.1 69 (((s.2.1 63 12) - (1 : Int32))).toNatClampNeg) / (1048576 : Int32) * (1048576 : Int32))).toNatClampNeg) then none else
        M_lands_l0 n x1 (ax_sI (ax_sI s 68 (((s.2.1 69 (((s.2.1 63 12) - (1 : Int32))).toNatClampNeg) - (s.2.1 69 (((s.2.1 63 12) - (1 : Int32))).toNatClampNeg) / (1048576 : Int32) * (1048576 : Int32))).toNatClampNeg (((1048576 : Int32) * ((s.2.1 68 (((s.2.1 69 (((s.2.1 63 12) - (1 : Int32))).toNatClampNeg) - (s.2.1 69 (((s.2.1 63 12) - (1 : Int32))).toNatClampNeg) / (1048576 : Int32) * (1048576 : Int32))).toNatClampNeg) / (1048576 : Int32))) + (s.2.1 63 11))) 63 12 ((s.2.1 63 12) - (1 : Int32)))) else
      some s
def M_lands (x1 : Int32)  (s : ax_S) : Option (ax_S) :=
  match M_lands_l0 70000 x1 s with
  | none => none
  | some s2 =>
    some s2
theorem w_M_lands_l0 (d : Nat) {o : ax_O} : ∀ (n : Nat) (x1 : Int32) (s : ax_S) (r : ax_S) (h : M_lands_l0 n x1 s = some r) (hk0 : ∀ (t0 : ax_S), r = t0 → ax_go true none (ax_ev true (d + 1)) ax_m202 73 [none, none, none] [] t0 o), ax_go true none (ax_ev true (d + 1)) ax_m202 0 [some (.ref 63), some (.int x1), none] [] s o := by
  intro n
  induction n with
  | zero => intro x1 s r h hk0; cases h
  | succ n ih =>
    intro x1 s r h hk0
    rw [M_lands_l0] at h
    cases hz1 : M_waitTop s with
    | none => rw [hz1] at h; cases h
    | some v1 =>
    rw [hz1] at h
    dsimp only at h
    by_cases c2 : v1 = (11 : Int32)
    · rw [if_pos c2] at h
      by_cases c3 : (((s.2.1 63 12) - (1 : Int32)) < 0 ∨ 260 ≤ (((s.2.1 63 12) - (1 : Int32))).toNatClampNeg)
      · rw [if_pos c3] at h; cases h
      · rw [if_neg c3] at h
        refine ax_cut (pc' := 41) (la := [some (.ref 63), some (.int x1), some (.int ((s.2.1 69 (((s.2.1 63 12) - (1 : Int32))).toNatClampNeg) - (s.2.1 69 (((s.2.1 63 12) - (1 : Int32))).toNatClampNeg) / (1048576 : Int32) * (1048576 : Int32)))]) [some (.ref 63), some (.int x1), some (.int ((s.2.1 69 (((s.2.1 63 12) - (1 : Int32))).toNatClampNeg) - (s.2.1 69 (((s.2.1 63 12) - (1 : Int32))).toNatClampNeg) / (1048576 : Int32) * (1048576 : Int32)))] (st' := [.ref 68]) (σ' := s) 16 (And.intro rfl (And.intro rfl (And.intro rfl (trivial)))) (fun _ hh => (Exists.intro (some (.int v1), s) (And.intro (e_M_waitTop d hz1) (And.intro (fun _ => (And.intro c3 (And.intro (show ¬ (1048576 : Int32) = 0 by decide) hh))) (fun q => absurd c2 q))))) ?_
        by_cases c4 : (((s.2.1 69 (((s.2.1 63 12) - (1 : Int32))).toNatClampNeg) - (s.2.1 69 (((s.2.1 63 12) - (1 : Int32))).toNatClampNeg) / (1048576 : Int32) * (1048576 : Int32)) < 0 ∨ 260 ≤ (((s.2.1 69 (((s.2.1 63 12) - (1 : Int32))).toNatClampNeg) - (s.2.1 69 (((s.2.1 63 12) - (1 : Int32))).toNatClampNeg) / (1048576 : Int32) * (1048576 : Int32))).toNatClampNeg)
        · rw [if_pos c4] at h; cases h
        · rw [if_neg c4] at h
          by_cases c5 : (((s.2.1 69 (((s.2.1 63 12) - (1 : Int32))).toNatClampNeg) - (s.2.1 69 (((s.2.1 63 12) - (1 : Int32))).toNatClampNeg) / (1048576 : Int32) * (1048576 : Int32)) < 0 ∨ 260 ≤ (((s.2.1 69 (((s.2.1 63 12) - (1 : Int32))).toNatClampNeg) - (s.2.1 69 (((s.2.1 63 12) - (1 : Int32))).toNatClampNeg) / (1048576 : Int32) * (1048576 : Int32))).toNatClampNeg)
          · rw [if_pos c5] at h; cases h
          · rw [if_neg c5] at h
            refine ax_cut (pc' := 65) (la := [some (.ref 63), some (.int x1), some (.int ((s.2.1 69 (((s.2.1 63 12) - (1 : Int32))).toNatClampNeg) - (s.2.1 69 (((s.2.1 63 12) - (1 : Int32))).toNatClampNeg) / (1048576 : Int32) * (1048576 : Int32)))]) [some (.ref 63), some (.int x1), none] (st' := [.int (s.2.1 63 12), .ref 63]) (σ' := (ax_sI s 68 (((s.2.1 69 (((s.2.1 63 12) - (1 : Int32))).toNatClampNeg) - (s.2.1 69 (((s.2.1 63 12) - (1 : Int32))).toNatClampNeg) / (1048576 : Int32) * (1048576 : Int32))).toNatClampNeg (((1048576 : Int32) * ((s.2.1 68 (((s.2.1 69 (((s.2.1 63 12) - (1 : Int32))).toNatClampNeg) - (s.2.1 69 (((s.2.1 63 12) - (1 : Int32))).toNatClampNeg) / (1048576 : Int32) * (1048576 : Int32))).toNatClampNeg) / (1048576 : Int32))) + (s.2.1 63 11)))) 16 (And.intro rfl (And.intro rfl (trivial))) (fun _ hh => (And.intro c4 (And.intro (show ¬ (1048576 : Int32) = 0 by decide) (And.intro c5 hh)))) ?_
            exact ax_cut (pc' := 0) (la := [some (.ref 63), some (.int x1), none]) [some (.ref 63), some (.int x1), none] (st' := []) (σ' := (ax_sI (ax_sI s 68 (((s.2.1 69 (((s.2.1 63 12) - (1 : Int32))).toNatClampNeg) - (s.2.1 69 (((s.2.1 63 12) - (1 : Int32))).toNatClampNeg) / (1048576 : Int32) * (1048576 : Int32))).toNatClampNeg (((1048576 : Int32) * ((s.2.1 68 (((s.2.1 69 (((s.2.1 63 12) - (1 : Int32))).toNatClampNeg) - (s.2.1 69 (((s.2.1 63 12) - (1 : Int32))).toNatClampNeg) / (1048576 : Int32) * (1048576 : Int32))).toNatClampNeg) / (1048576 : Int32))) + (s.2.1 63 11))) 63 12 ((s.2.1 63 12) - (1 : Int32)))) 4 (And.intro rfl (And.intro rfl (trivial))) (fun _ hh => hh) (ih x1 (ax_sI (ax_sI s 68 (((s.2.1 69 (((s.2.1 63 12) - (1 : Int32))).toNatClampNeg) - (s.2.1 69 (((s.2.1 63 12) - (1 : Int32))).toNatClampNeg) / (1048576 : Int32) * (1048576 : Int32))).toNatClampNeg (((1048576 : Int32) * ((s.2.1 68 (((s.2.1 69 (((s.2.1 63 12) - (1 : Int32))).toNatClampNeg) - (s.2.1 69 (((s.2.1 63 12) - (1 : Int32))).toNatClampNeg) / (1048576 : Int32) * (1048576 : Int32))).toNatClampNeg) / (1048576 : Int32))) + (s.2.1 63 11))) 63 12 ((s.2.1 63 12) - (1 : Int32))) _ h hk0)
    · rw [if_neg c2] at h
      by_cases c6 : x1 = 0
      · rw [if_pos c6] at h
        have h := Option.some.inj h
        subst r
        exact ax_cut (pc' := 73) (la := [some (.ref 63), some (.int x1), none]) [none, none, none] (st' := []) (σ' := s) 6 (trivial) (fun _ hh => (Exists.intro (some (.int v1), s) (And.intro (e_M_waitTop d hz1) (And.intro (fun q => absurd q c2) (fun _ => (And.intro (fun _ => hh) (fun q => absurd c6 q))))))) (hk0 _ rfl)
      · rw [if_neg c6] at h
        by_cases c7 : v1 = (12 : Int32)
        · rw [if_pos c7] at h
          refine ax_cut (pc' := 32) (la := [some (.ref 63), some (.int x1), none]) [some (.ref 63), some (.int x1), none] (st' := [.int ((s.2.1 63 12) - (1 : Int32)), .ref 69]) (σ' := s) 16 (And.intro rfl (And.intro rfl (trivial))) (fun _ hh => (Exists.intro (some (.int v1), s) (And.intro (e_M_waitTop d hz1) (And.intro (fun q => absurd q c2) (fun _ => (And.intro (fun q => absurd q c6) (fun _ => (Exists.intro (some (.int v1), s) (And.intro (e_M_waitTop d hz1) (And.intro (fun q => absurd c7 q) (fun _ => hh))))))))))) ?_
          by_cases c8 : (((s.2.1 63 12) - (1 : Int32)) < 0 ∨ 260 ≤ (((s.2.1 63 12) - (1 : Int32))).toNatClampNeg)
          · rw [if_pos c8] at h; cases h
          · rw [if_neg c8] at h
            by_cases c9 : (((s.2.1 69 (((s.2.1 63 12) - (1 : Int32))).toNatClampNeg) - (s.2.1 69 (((s.2.1 63 12) - (1 : Int32))).toNatClampNeg) / (1048576 : Int32) * (1048576 : Int32)) < 0 ∨ 260 ≤ (((s.2.1 69 (((s.2.1 63 12) - (1 : Int32))).toNatClampNeg) - (s.2.1 69 (((s.2.1 63 12) - (1 : Int32))).toNatClampNeg) / (1048576 : Int32) * (1048576 : Int32))).toNatClampNeg)
            · rw [if_pos c9] at h; cases h
            · rw [if_neg c9] at h
              refine ax_cut (pc' := 55) (la := [some (.ref 63), some (.int x1), some (.int ((s.2.1 69 (((s.2.1 63 12) - (1 : Int32))).toNatClampNeg) - (s.2.1 69 (((s.2.1 63 12) - (1 : Int32))).toNatClampNeg) / (1048576 : Int32) * (1048576 : Int32)))]) [some (.ref 63), some (.int x1), none] (st' := [.ref 63, .int ((1048576 : Int32) * ((s.2.1 68 (((s.2.1 69 (((s.2.1 63 12) - (1 : Int32))).toNatClampNeg) - (s.2.1 69 (((s.2.1 63 12) - (1 : Int32))).toNatClampNeg) / (1048576 : Int32) * (1048576 : Int32))).toNatClampNeg) / (1048576 : Int32))), .int ((s.2.1 69 (((s.2.1 63 12) - (1 : Int32))).toNatClampNeg) - (s.2.1 69 (((s.2.1 63 12) - (1 : Int32))).toNatClampNeg) / (1048576 : Int32) * (1048576 : Int32)), .ref 68]) (σ' := s) 16 (And.intro rfl (And.intro rfl (trivial))) (fun _ hh => (And.intro c8 (And.intro (show ¬ (1048576 : Int32) = 0 by decide) (And.intro c9 (And.intro (show ¬ (1048576 : Int32) = 0 by decide) hh))))) ?_
              by_cases c10 : (((s.2.1 69 (((s.2.1 63 12) - (1 : Int32))).toNatClampNeg) - (s.2.1 69 (((s.2.1 63 12) - (1 : Int32))).toNatClampNeg) / (1048576 : Int32) * (1048576 : Int32)) < 0 ∨ 260 ≤ (((s.2.1 69 (((s.2.1 63 12) - (1 : Int32))).toNatClampNeg) - (s.2.1 69 (((s.2.1 63 12) - (1 : Int32))).toNatClampNeg) / (1048576 : Int32) * (1048576 : Int32))).toNatClampNeg)
              · rw [if_pos c10] at h; cases h
              · rw [if_neg c10] at h
                exact ax_cut (pc' := 0) (la := [some (.ref 63), some (.int x1), none]) [some (.ref 63), some (.int x1), none] (st' := []) (σ' := (ax_sI (ax_sI s 68 (((s.2.1 69 (((s.2.1 63 12) - (1 : Int32))).toNatClampNeg) - (s.2.1 69 (((s.2.1 63 12) - (1 : Int32))).toNatClampNeg) / (1048576 : Int32) * (1048576 : Int32))).toNatClampNeg (((1048576 : Int32) * ((s.2.1 68 (((s.2.1 69 (((s.2.1 63 12) - (1 : Int32))).toNatClampNeg) - (s.2.1 69 (((s.2.1 63 12) - (1 : Int32))).toNatClampNeg) / (1048576 : Int32) * (1048576 : Int32))).toNatClampNeg) / (1048576 : Int32))) + (s.2.1 63 11))) 63 12 ((s.2.1 63 12) - (1 : Int32)))) 10 (And.intro rfl (And.intro rfl (trivial))) (fun _ hh => (And.intro c10 hh)) (ih x1 (ax_sI (ax_sI s 68 (((s.2.1 69 (((s.2.1 63 12) - (1 : Int32))).toNatClampNeg) - (s.2.1 69 (((s.2.1 63 12) - (1 : Int32))).toNatClampNeg) / (1048576 : Int32) * (1048576 : Int32))).toNatClampNeg (((1048576 : Int32) * ((s.2.1 68 (((s.2.1 69 (((s.2.1 63 12) - (1 : Int32))).toNatClampNeg) - (s.2.1 69 (((s.2.1 63 12) - (1 : Int32))).toNatClampNeg) / (1048576 : Int32) * (1048576 : Int32))).toNatClampNeg) / (1048576 : Int32))) + (s.2.1 63 11))) 63 12 ((s.2.1 63 12) - (1 : Int32))) _ h hk0)
        · rw [if_neg c7] at h
          have h := Option.some.inj h
          subst r
          exact ax_cut (pc' := 73) (la := [some (.ref 63), some (.int x1), none]) [none, none, none] (st' := []) (σ' := s) 10 (trivial) (fun _ hh => (Exists.intro (some (.int v1), s) (And.intro (e_M_waitTop d hz1) (And.intro (fun q => absurd q c2) (fun _ => (And.intro (fun q => absurd q c6) (fun _ => (Exists.intro (some (.int v1), s) (And.intro (e_M_waitTop d hz1) (And.intro (fun _ => hh) (fun q => absurd c7 q))))))))))) (hk0 _ rfl)
theorem e_M_lands (d : Nat) {x1 : Int32} {s : ax_S} {r : ax_S} (h : M_lands x1 s = some r) : ax_ev true (d + 2) 202 [.ref 63, .int x1] s (none, r) := by
  refine ⟨Nat.le_of_ble_eq_true rfl, ?_⟩
  show ax_go true none (ax_ev true (d + 1)) ax_m202 0 [some (.ref 63), some (.int x1), none] [] s _
  unfold M_lands at h
  cases hz1 : M_lands_l0 70000 x1 s with
  | none => rw [hz1] at h; cases h
  | some z1 =>
  rw [hz1] at h
  refine ax_cut (pc' := 0) (la := [some (.ref 63), some (.int x1), none]) [some (.ref 63), some (.int x1), none] (st' := []) (σ' := s) 0 (And.intro rfl (And.intro rfl (trivial))) (fun _ hh => hh) (w_M_lands_l0 d 70000 x1 s _ hz1 ?_)
  · intro s2 hq
    subst z1
    dsimp only at h
    have h := Option.some.inj h
    subst r
    exact ax_end 1 rfl
def M_jumps (x1 : Int32)  (s : ax_S) : Option (ax_S) :=
  if ((s.2.1 63 12) < 0 ∨ 260 ≤ ((s.2.1 63 12)).toNatClampNeg) then none else
  match M_notes x1 (0 : Int32) (ax_sI (ax_sI s 69 ((s.2.1 63 12)).toNatClampNeg (((1048576 : Int32) * x1) + (s.2.1 63 11))) 63 12 ((s.2.1 63 12) + (1 : Int32))) with
  | none => none
  | some s1 =>
    some (ax_sI s1 63 6 ((s1.2.1 63 6) + (1 : Int32)))
theorem e_M_jumps (d : Nat) {x1 : Int32} {s : ax_S} {r : ax_S} (h : M_jumps x1 s = some r) : ax_ev true (d + 2) 203 [.ref 63, .int x1] s (none, r) := by
  refine ⟨Nat.le_of_ble_eq_true rfl, ?_⟩
  show ax_go true none (ax_ev true (d + 1)) ax_m203 0 [some (.ref 63), some (.int x1)] [] s _
  unfold M_jumps at h
  by_cases c1 : ((s.2.1 63 12) < 0 ∨ 260 ≤ ((s.2.1 63 12)).toNatClampNeg)
  · rw [if_pos c1] at h; cases h
  · rw [if_neg c1] at h
    refine ax_cut (pc' := 25) (la := [some (.ref 63), some (.int x1)]) [some (.ref 63), some (.int x1)] (st' := [.int ((s.2.1 63 12) + (1 : Int32)), .ref 63]) (σ' := (ax_sI s 69 ((s.2.1 63 12)).toNatClampNeg (((1048576 : Int32) * x1) + (s.2.1 63 11)))) 16 (And.intro rfl (And.intro rfl (trivial))) (fun _ hh => (And.intro c1 hh)) ?_
    cases hz2 : M_notes x1 (0 : Int32) (ax_sI (ax_sI s 69 ((s.2.1 63 12)).toNatClampNeg (((1048576 : Int32) * x1) + (s.2.1 63 11))) 63 12 ((s.2.1 63 12) + (1 : Int32))) with
    | none => rw [hz2] at h; cases h
    | some s1 =>
    rw [hz2] at h
    dsimp only at h
    have h := Option.some.inj h
    subst r
    exact ax_end 12 (Exists.intro (none, s1) (And.intro (e_M_notes d hz2) rfl))
def M_readsCondition_j65 (y1 : Int32)  (s : ax_S) : Int32 :=
  if y1 = (33 : Int32) then (
    (10 : Int32)) else
  (13 : Int32)
def M_readsCondition_l92 : Nat → ax_S → Option ((ax_S) ⊕ (Int32 × ax_S))
  | 0, _ => none
  | n + 1, s =>
    match M_here s with
    | none => none
    | some v10 =>
      if v10 = (41 : Int32) then (
        match M_lands (1 : Int32) s with
        | none => none
        | some s11 =>
          if ((s11.2.1 63 12) - (1 : Int32)) = 0 then (
            some (.inr ((1 : Int32), (ax_sI (ax_sI (ax_sI s11 63 12 ((s11.2.1 63 12) - (1 : Int32))) 63 10 ((s11.2.1 63 10) - (1 : Int32))) 63 6 ((s11.2.1 63 6) + (1 : Int32)))))) else
          match M_endsPiece (ax_sI (ax_sI (ax_sI s11 63 12 ((s11.2.1 63 12) - (1 : Int32))) 63 10 ((s11.2.1 63 10) - (1 : Int32))) 63 6 ((s11.2.1 63 6) + (1 : Int32))) with
          | none => none
          | some s12 =>
            M_readsCondition_l92 n s12) else
      some (.inl s)
def M_readsCondition_j187 (y1 : Int32)  (s : ax_S) : Int32 :=
  if y1 = (124 : Int32) then (
    (1 : Int32)) else
  (0 : Int32)
def M_readsCondition_j205 (y1 : Int32)  (s : ax_S) : Int32 :=
  if y1 = (38 : Int32) then (
    (11 : Int32)) else
  (12 : Int32)
def M_readsCondition_j187_1 (y1 : Int32)  (s : ax_S) : Int32 :=
  if y1 = (124 : Int32) then (
    (1 : Int32)) else
  (0 : Int32)
def M_readsCondition_j205_1 (y1 : Int32)  (s : ax_S) : Int32 :=
  if y1 = (38 : Int32) then (
    (11 : Int32)) else
  (12 : Int32)
def M_readsCondition_j65_1 (y1 : Int32)  (s : ax_S) : Int32 :=
  if y1 = (33 : Int32) then (
    (10 : Int32)) else
  (13 : Int32)
def M_readsCondition_l40 : Nat → ax_S → Option (Int32 × ax_S)
  | 0, _ => none
  | n + 1, s =>
    match M_here s with
    | none => none
    | some v4 =>
      if v4 = (33 : Int32) then (
        match M_opens (M_readsCondition_j65 v4 s) s with
        | none => none
        | some (v6, s7) =>
          if v6 = 0 then (
            some ((0 : Int32), s7)) else
          M_readsCondition_l40 n s7) else
      if v4 = (40 : Int32) then (
        match M_opens (M_readsCondition_j65_1 v4 s) s with
        | none => none
        | some (v26, s27) =>
          if v26 = 0 then (
            some ((0 : Int32), s27)) else
          M_readsCondition_l40 n s27) else
      match M_readsCompared s with
      | none => none
      | some (v8, s9) =>
        if v8 = 0 then (
          some ((0 : Int32), s9)) else
        match M_readsCondition_l92 70000 s9 with
        | none => none
        | some (.inl s13) =>
          match M_here s13 with
          | none => none
          | some v14 =>
            if v14 = (38 : Int32) then (
              match M_lands (M_readsCondition_j187 v14 s13) s13 with
              | none => none
              | some s16 =>
                match M_here s16 with
                | none => none
                | some v17 =>
                  match M_jumps (M_readsCondition_j205 v17 s16) s16 with
                  | none => none
                  | some s19 =>
                    M_readsCondition_l40 n s19) else
            if v14 = (124 : Int32) then (
              match M_lands (M_readsCondition_j187_1 v14 s13) s13 with
              | none => none
              | some s21 =>
                match M_here s21 with
                | none => none
                | some v22 =>
                  match M_jumps (M_readsCondition_j205_1 v22 s21) s21 with
                  | none => none
                  | some s24 =>
                    M_readsCondition_l40 n s24) else
            some ((M_wrongAt (1 : Int32) (s13.2.1 63 6) s13).1, (M_wrongAt (1 : Int32) (s13.2.1 63 6) s13).2)
        | some (.inr r) => some r
def M_readsCondition  (s : ax_S) : Option (Int32 × ax_S) :=
  match M_here s with
  | none => none
  | some v1 =>
    if v1 = (40 : Int32) then (
      match M_opens (13 : Int32) (ax_sI (ax_sI s 63 10 (0 : Int32)) 63 12 (0 : Int32)) with
      | none => none
      | some (v2, s3) =>
        if v2 = 0 then (
          some ((0 : Int32), s3)) else
        match M_readsCondition_l40 70000 s3 with
        | none => none
        | some r => some r) else
    some ((M_wrongAt (1 : Int32) (s.2.1 63 6) s).1, (M_wrongAt (1 : Int32) (s.2.1 63 6) s).2)
theorem w_M_readsCondition_j65 (d : Nat) {o : ax_O} (y1 : Int32) (s : ax_S) (r : Int32) (h : M_readsCondition_j65 y1 s = r) (hk0 : ∀ (t0 : Int32), r = t0 → ax_go true none (ax_ev true (d + 6)) ax_m199 75 [some (.ref 63)] [.int t0, .ref 63] s o) : ax_go true none (ax_ev true (d + 6)) ax_m199 65 [some (.ref 63)] [.int (33 : Int32), .int y1, .ref 63] s o := by
  unfold M_readsCondition_j65 at h
  by_cases c1 : y1 = (33 : Int32)
  · rw [if_pos c1] at h
    have h := h
    subst r
    exact ax_cut (pc' := 75) (la := [some (.ref 63)]) [some (.ref 63)] (st' := [.int (10 : Int32), .ref 63]) (σ' := s) 3 (And.intro rfl (trivial)) (fun _ hh => (And.intro (fun q => absurd c1 q) (fun _ => hh))) (hk0 _ rfl)
  · rw [if_neg c1] at h
    have h := h
    subst r
    exact ax_cut (pc' := 75) (la := [some (.ref 63)]) [some (.ref 63)] (st' := [.int (13 : Int32), .ref 63]) (σ' := s) 2 (And.intro rfl (trivial)) (fun _ hh => (And.intro (fun _ => hh) (fun q => absurd c1 q))) (hk0 _ rfl)
theorem w_M_readsCondition_l92 (d : Nat) {o : ax_O} : ∀ (n : Nat) (s : ax_S) (r : (ax_S) ⊕ (Int32 × ax_S)) (h : M_readsCondition_l92 n s = some r) (hk0 : ∀ (t0 : ax_S), r = (.inl t0) → ax_go true none (ax_ev true (d + 6)) ax_m199 152 [some (.ref 63)] [] t0 o) (hkr : ∀ q, r = (.inr q) → o = (some (.int q.1), q.2)), ax_go true none (ax_ev true (d + 6)) ax_m199 92 [some (.ref 63)] [] s o := by
  intro n
  induction n with
  | zero => intro s r h hk0 hkr; cases h
  | succ n ih =>
    intro s r h hk0 hkr
    rw [M_readsCondition_l92] at h
    cases hz1 : M_here s with
    | none => rw [hz1] at h; cases h
    | some v10 =>
    rw [hz1] at h
    dsimp only at h
    by_cases c2 : v10 = (41 : Int32)
    · rw [if_pos c2] at h
      cases hz3 : M_lands (1 : Int32) s with
      | none => rw [hz3] at h; cases h
      | some s11 =>
      rw [hz3] at h
      dsimp only at h
      refine ax_cut (pc' := 121) (la := [some (.ref 63)]) [some (.ref 63)] (st' := [.int (s11.2.1 63 10), .ref 63]) (σ' := (ax_sI s11 63 12 ((s11.2.1 63 12) - (1 : Int32)))) 16 (And.intro rfl (trivial)) (fun _ hh => (Exists.intro (some (.int v10), s) (And.intro (e_M_here (d + 5) hz1) (And.intro (fun q => absurd c2 q) (fun _ => (Exists.intro (none, s11) (And.intro (e_M_lands (d + 4) hz3) hh))))))) ?_
      by_cases c4 : ((s11.2.1 63 12) - (1 : Int32)) = 0
      · rw [if_pos c4] at h
        have h := Option.some.inj h
        subst r
        exact ax_end 14 (And.intro (fun q => absurd c4 q) (fun _ => (And.intro (Or.inr rfl) (hkr _ rfl))))
      · rw [if_neg c4] at h
        cases hz5 : M_endsPiece (ax_sI (ax_sI (ax_sI s11 63 12 ((s11.2.1 63 12) - (1 : Int32))) 63 10 ((s11.2.1 63 10) - (1 : Int32))) 63 6 ((s11.2.1 63 6) + (1 : Int32))) with
        | none => rw [hz5] at h; cases h
        | some s12 =>
        rw [hz5] at h
        dsimp only at h
        exact ax_cut (pc' := 92) (la := [some (.ref 63)]) [some (.ref 63)] (st' := []) (σ' := s12) 15 (And.intro rfl (trivial)) (fun _ hh => (And.intro (fun _ => (Exists.intro (none, s12) (And.intro (e_M_endsPiece (d + 4) hz5) hh))) (fun q => absurd c4 q))) (ih  s12 _ h hk0 hkr)
    · rw [if_neg c2] at h
      have h := Option.some.inj h
      subst r
      exact ax_cut (pc' := 152) (la := [some (.ref 63)]) [some (.ref 63)] (st' := []) (σ' := s) 4 (And.intro rfl (trivial)) (fun _ hh => (Exists.intro (some (.int v10), s) (And.intro (e_M_here (d + 5) hz1) (And.intro (fun _ => hh) (fun q => absurd c2 q))))) (hk0 _ rfl)
theorem w_M_readsCondition_j187 (d : Nat) {o : ax_O} (y1 : Int32) (s : ax_S) (r : Int32) (h : M_readsCondition_j187 y1 s = r) (hk0 : ∀ (t0 : Int32), r = t0 → ax_go true none (ax_ev true (d + 6)) ax_m199 195 [some (.ref 63)] [.int t0, .ref 63] s o) : ax_go true none (ax_ev true (d + 6)) ax_m199 187 [some (.ref 63)] [.int (124 : Int32), .int y1, .ref 63] s o := by
  unfold M_readsCondition_j187 at h
  by_cases c1 : y1 = (124 : Int32)
  · rw [if_pos c1] at h
    have h := h
    subst r
    exact ax_cut (pc' := 195) (la := [some (.ref 63)]) [some (.ref 63)] (st' := [.int (1 : Int32), .ref 63]) (σ' := s) 3 (And.intro rfl (trivial)) (fun _ hh => (And.intro (fun q => absurd c1 q) (fun _ => hh))) (hk0 _ rfl)
  · rw [if_neg c1] at h
    have h := h
    subst r
    exact ax_cut (pc' := 195) (la := [some (.ref 63)]) [some (.ref 63)] (st' := [.int (0 : Int32), .ref 63]) (σ' := s) 2 (And.intro rfl (trivial)) (fun _ hh => (And.intro (fun _ => hh) (fun q => absurd c1 q))) (hk0 _ rfl)
theorem w_M_readsCondition_j205 (d : Nat) {o : ax_O} (y1 : Int32) (s : ax_S) (r : Int32) (h : M_readsCondition_j205 y1 s = r) (hk0 : ∀ (t0 : Int32), r = t0 → ax_go true none (ax_ev true (d + 6)) ax_m199 215 [some (.ref 63)] [.int t0, .ref 63] s o) : ax_go true none (ax_ev true (d + 6)) ax_m199 205 [some (.ref 63)] [.int (38 : Int32), .int y1, .ref 63] s o := by
  unfold M_readsCondition_j205 at h
  by_cases c1 : y1 = (38 : Int32)
  · rw [if_pos c1] at h
    have h := h
    subst r
    exact ax_cut (pc' := 215) (la := [some (.ref 63)]) [some (.ref 63)] (st' := [.int (11 : Int32), .ref 63]) (σ' := s) 3 (And.intro rfl (trivial)) (fun _ hh => (And.intro (fun q => absurd c1 q) (fun _ => hh))) (hk0 _ rfl)
  · rw [if_neg c1] at h
    have h := h
    subst r
    exact ax_cut (pc' := 215) (la := [some (.ref 63)]) [some (.ref 63)] (st' := [.int (12 : Int32), .ref 63]) (σ' := s) 2 (And.intro rfl (trivial)) (fun _ hh => (And.intro (fun _ => hh) (fun q => absurd c1 q))) (hk0 _ rfl)
theorem w_M_readsCondition_j187_1 (d : Nat) {o : ax_O} (y1 : Int32) (s : ax_S) (r : Int32) (h : M_readsCondition_j187_1 y1 s = r) (hk0 : ∀ (t0 : Int32), r = t0 → ax_go true none (ax_ev true (d + 6)) ax_m199 195 [some (.ref 63)] [.int t0, .ref 63] s o) : ax_go true none (ax_ev true (d + 6)) ax_m199 187 [some (.ref 63)] [.int (124 : Int32), .int y1, .ref 63] s o := by
  unfold M_readsCondition_j187_1 at h
  by_cases c1 : y1 = (124 : Int32)
  · rw [if_pos c1] at h
    have h := h
    subst r
    exact ax_cut (pc' := 195) (la := [some (.ref 63)]) [some (.ref 63)] (st' := [.int (1 : Int32), .ref 63]) (σ' := s) 3 (And.intro rfl (trivial)) (fun _ hh => (And.intro (fun q => absurd c1 q) (fun _ => hh))) (hk0 _ rfl)
  · rw [if_neg c1] at h
    have h := h
    subst r
    exact ax_cut (pc' := 195) (la := [some (.ref 63)]) [some (.ref 63)] (st' := [.int (0 : Int32), .ref 63]) (σ' := s) 2 (And.intro rfl (trivial)) (fun _ hh => (And.intro (fun _ => hh) (fun q => absurd c1 q))) (hk0 _ rfl)
theorem w_M_readsCondition_j205_1 (d : Nat) {o : ax_O} (y1 : Int32) (s : ax_S) (r : Int32) (h : M_readsCondition_j205_1 y1 s = r) (hk0 : ∀ (t0 : Int32), r = t0 → ax_go true none (ax_ev true (d + 6)) ax_m199 215 [some (.ref 63)] [.int t0, .ref 63] s o) : ax_go true none (ax_ev true (d + 6)) ax_m199 205 [some (.ref 63)] [.int (38 : Int32), .int y1, .ref 63] s o := by
  unfold M_readsCondition_j205_1 at h
  by_cases c1 : y1 = (38 : Int32)
  · rw [if_pos c1] at h
    have h := h
    subst r
    exact ax_cut (pc' := 215) (la := [some (.ref 63)]) [some (.ref 63)] (st' := [.int (11 : Int32), .ref 63]) (σ' := s) 3 (And.intro rfl (trivial)) (fun _ hh => (And.intro (fun q => absurd c1 q) (fun _ => hh))) (hk0 _ rfl)
  · rw [if_neg c1] at h
    have h := h
    subst r
    exact ax_cut (pc' := 215) (la := [some (.ref 63)]) [some (.ref 63)] (st' := [.int (12 : Int32), .ref 63]) (σ' := s) 2 (And.intro rfl (trivial)) (fun _ hh => (And.intro (fun _ => hh) (fun q => absurd c1 q))) (hk0 _ rfl)
theorem w_M_readsCondition_j65_1 (d : Nat) {o : ax_O} (y1 : Int32) (s : ax_S) (r : Int32) (h : M_readsCondition_j65_1 y1 s = r) (hk0 : ∀ (t0 : Int32), r = t0 → ax_go true none (ax_ev true (d + 6)) ax_m199 75 [some (.ref 63)] [.int t0, .ref 63] s o) : ax_go true none (ax_ev true (d + 6)) ax_m199 65 [some (.ref 63)] [.int (33 : Int32), .int y1, .ref 63] s o := by
  unfold M_readsCondition_j65_1 at h
  by_cases c1 : y1 = (33 : Int32)
  · rw [if_pos c1] at h
    have h := h
    subst r
    exact ax_cut (pc' := 75) (la := [some (.ref 63)]) [some (.ref 63)] (st' := [.int (10 : Int32), .ref 63]) (σ' := s) 3 (And.intro rfl (trivial)) (fun _ hh => (And.intro (fun q => absurd c1 q) (fun _ => hh))) (hk0 _ rfl)
  · rw [if_neg c1] at h
    have h := h
    subst r
    exact ax_cut (pc' := 75) (la := [some (.ref 63)]) [some (.ref 63)] (st' := [.int (13 : Int32), .ref 63]) (σ' := s) 2 (And.intro rfl (trivial)) (fun _ hh => (And.intro (fun _ => hh) (fun q => absurd c1 q))) (hk0 _ rfl)
theorem w_M_readsCondition_l40 (d : Nat) {o : ax_O} : ∀ (n : Nat) (s : ax_S) (r : Int32 × ax_S) (h : M_readsCondition_l40 n s = some r) (hkr : ∀ q, r = q → o = (some (.int q.1), q.2)), ax_go true none (ax_ev true (d + 6)) ax_m199 40 [some (.ref 63)] [] s o := by
  intro n
  induction n with
  | zero => intro s r h hkr; cases h
  | succ n ih =>
    intro s r h hkr
    rw [M_readsCondition_l40] at h
    cases hz1 : M_here s with
    | none => rw [hz1] at h; cases h
    | some v4 =>
    rw [hz1] at h
    dsimp only at h
    by_cases c2 : v4 = (33 : Int32)
    · rw [if_pos c2] at h
      refine ax_cut (pc' := 65) (la := [some (.ref 63)]) [some (.ref 63)] (st' := [.int (33 : Int32), .int v4, .ref 63]) (σ' := s) 8 (And.intro rfl (trivial)) (fun _ hh => (Exists.intro (some (.int v4), s) (And.intro (e_M_here (d + 5) hz1) (And.intro (fun _ => (Exists.intro (some (.int v4), s) (And.intro (e_M_here (d + 5) hz1) hh))) (fun q => absurd c2 q))))) (w_M_readsCondition_j65 d v4 s _ rfl (fun v5 hq => ?_))
      obtain rfl : v5 = (M_readsCondition_j65 v4 s) := hq.symm
      cases hz3 : M_opens (M_readsCondition_j65 v4 s) s with
      | none => rw [hz3] at h; cases h
      | some z3 =>
      rw [hz3] at h
      obtain ⟨v6, s7⟩ := z3
      dsimp only at h
      by_cases c4 : v6 = 0
      · rw [if_pos c4] at h
        have h := Option.some.inj h
        subst r
        exact ax_end 4 (Exists.intro (some (.int v6), s7) (And.intro (e_M_opens (d + 4) hz3) (And.intro (fun q => absurd c4 q) (fun _ => (And.intro (Or.inl rfl) (hkr _ rfl))))))
      · rw [if_neg c4] at h
        exact ax_cut (pc' := 40) (la := [some (.ref 63)]) [some (.ref 63)] (st' := []) (σ' := s7) 2 (And.intro rfl (trivial)) (fun _ hh => (Exists.intro (some (.int v6), s7) (And.intro (e_M_opens (d + 4) hz3) (And.intro (fun _ => hh) (fun q => absurd c4 q))))) (ih  s7 _ h hkr)
    · rw [if_neg c2] at h
      by_cases c5 : v4 = (40 : Int32)
      · rw [if_pos c5] at h
        refine ax_cut (pc' := 65) (la := [some (.ref 63)]) [some (.ref 63)] (st' := [.int (33 : Int32), .int v4, .ref 63]) (σ' := s) 12 (And.intro rfl (trivial)) (fun _ hh => (Exists.intro (some (.int v4), s) (And.intro (e_M_here (d + 5) hz1) (And.intro (fun q => absurd q c2) (fun _ => (Exists.intro (some (.int v4), s) (And.intro (e_M_here (d + 5) hz1) (And.intro (fun q => absurd c5 q) (fun _ => (Exists.intro (some (.int v4), s) (And.intro (e_M_here (d + 5) hz1) hh))))))))))) (w_M_readsCondition_j65_1 d v4 s _ rfl (fun v25 hq => ?_))
        obtain rfl : v25 = (M_readsCondition_j65_1 v4 s) := hq.symm
        cases hz6 : M_opens (M_readsCondition_j65_1 v4 s) s with
        | none => rw [hz6] at h; cases h
        | some z6 =>
        rw [hz6] at h
        obtain ⟨v26, s27⟩ := z6
        dsimp only at h
        by_cases c7 : v26 = 0
        · rw [if_pos c7] at h
          have h := Option.some.inj h
          subst r
          exact ax_end 4 (Exists.intro (some (.int v26), s27) (And.intro (e_M_opens (d + 4) hz6) (And.intro (fun q => absurd c7 q) (fun _ => (And.intro (Or.inl rfl) (hkr _ rfl))))))
        · rw [if_neg c7] at h
          exact ax_cut (pc' := 40) (la := [some (.ref 63)]) [some (.ref 63)] (st' := []) (σ' := s27) 2 (And.intro rfl (trivial)) (fun _ hh => (Exists.intro (some (.int v26), s27) (And.intro (e_M_opens (d + 4) hz6) (And.intro (fun _ => hh) (fun q => absurd c7 q))))) (ih  s27 _ h hkr)
      · rw [if_neg c5] at h
        cases hz8 : M_readsCompared s with
        | none => rw [hz8] at h; cases h
        | some z8 =>
        rw [hz8] at h
        obtain ⟨v8, s9⟩ := z8
        dsimp only at h
        by_cases c9 : v8 = 0
        · rw [if_pos c9] at h
          have h := Option.some.inj h
          subst r
          exact ax_end 13 (Exists.intro (some (.int v4), s) (And.intro (e_M_here (d + 5) hz1) (And.intro (fun q => absurd q c2) (fun _ => (Exists.intro (some (.int v4), s) (And.intro (e_M_here (d + 5) hz1) (And.intro (fun _ => (Exists.intro (some (.int v8), s9) (And.intro (e_M_readsCompared d hz8) (And.intro (fun q => absurd c9 q) (fun _ => (And.intro (Or.inl rfl) (hkr _ rfl))))))) (fun q => absurd c5 q))))))))
        · rw [if_neg c9] at h
          cases hz10 : M_readsCondition_l92 70000 s9 with
          | none => rw [hz10] at h; cases h
          | some z10 =>
          rw [hz10] at h
          refine ax_cut (pc' := 92) (la := [some (.ref 63)]) [some (.ref 63)] (st' := []) (σ' := s9) 11 (And.intro rfl (trivial)) (fun _ hh => (Exists.intro (some (.int v4), s) (And.intro (e_M_here (d + 5) hz1) (And.intro (fun q => absurd q c2) (fun _ => (Exists.intro (some (.int v4), s) (And.intro (e_M_here (d + 5) hz1) (And.intro (fun _ => (Exists.intro (some (.int v8), s9) (And.intro (e_M_readsCompared d hz8) (And.intro (fun _ => hh) (fun q => absurd c9 q))))) (fun q => absurd c5 q))))))))) (w_M_readsCondition_l92 d 70000 s9 _ hz10 ?_ ?_)
          · intro s13 hq
            subst z10
            dsimp only at h
            cases hz11 : M_here s13 with
            | none => rw [hz11] at h; cases h
            | some v14 =>
            rw [hz11] at h
            dsimp only at h
            by_cases c12 : v14 = (38 : Int32)
            · rw [if_pos c12] at h
              refine ax_cut (pc' := 187) (la := [some (.ref 63)]) [some (.ref 63)] (st' := [.int (124 : Int32), .int v14, .ref 63]) (σ' := s13) 8 (And.intro rfl (trivial)) (fun _ hh => (Exists.intro (some (.int v14), s13) (And.intro (e_M_here (d + 5) hz11) (And.intro (fun _ => (Exists.intro (some (.int v14), s13) (And.intro (e_M_here (d + 5) hz11) hh))) (fun q => absurd c12 q))))) (w_M_readsCondition_j187 d v14 s13 _ rfl (fun v15 hq => ?_))
              obtain rfl : v15 = (M_readsCondition_j187 v14 s13) := hq.symm
              cases hz13 : M_lands (M_readsCondition_j187 v14 s13) s13 with
              | none => rw [hz13] at h; cases h
              | some s16 =>
              rw [hz13] at h
              dsimp only at h
              cases hz14 : M_here s16 with
              | none => rw [hz14] at h; cases h
              | some v17 =>
              rw [hz14] at h
              dsimp only at h
              refine ax_cut (pc' := 205) (la := [some (.ref 63)]) [some (.ref 63)] (st' := [.int (38 : Int32), .int v17, .ref 63]) (σ' := s16) 5 (And.intro rfl (trivial)) (fun _ hh => (Exists.intro (none, s16) (And.intro (e_M_lands (d + 4) hz13) (Exists.intro (some (.int v17), s16) (And.intro (e_M_here (d + 5) hz14) hh))))) (w_M_readsCondition_j205 d v17 s16 _ rfl (fun v18 hq => ?_))
              obtain rfl : v18 = (M_readsCondition_j205 v17 s16) := hq.symm
              cases hz15 : M_jumps (M_readsCondition_j205 v17 s16) s16 with
              | none => rw [hz15] at h; cases h
              | some s19 =>
              rw [hz15] at h
              dsimp only at h
              exact ax_cut (pc' := 40) (la := [some (.ref 63)]) [some (.ref 63)] (st' := []) (σ' := s19) 2 (And.intro rfl (trivial)) (fun _ hh => (Exists.intro (none, s19) (And.intro (e_M_jumps (d + 4) hz15) hh))) (ih  s19 _ h hkr)
            · rw [if_neg c12] at h
              by_cases c16 : v14 = (124 : Int32)
              · rw [if_pos c16] at h
                refine ax_cut (pc' := 187) (la := [some (.ref 63)]) [some (.ref 63)] (st' := [.int (124 : Int32), .int v14, .ref 63]) (σ' := s13) 12 (And.intro rfl (trivial)) (fun _ hh => (Exists.intro (some (.int v14), s13) (And.intro (e_M_here (d + 5) hz11) (And.intro (fun q => absurd q c12) (fun _ => (Exists.intro (some (.int v14), s13) (And.intro (e_M_here (d + 5) hz11) (And.intro (fun _ => (Exists.intro (some (.int v14), s13) (And.intro (e_M_here (d + 5) hz11) hh))) (fun q => absurd c16 q))))))))) (w_M_readsCondition_j187_1 d v14 s13 _ rfl (fun v20 hq => ?_))
                obtain rfl : v20 = (M_readsCondition_j187_1 v14 s13) := hq.symm
                cases hz17 : M_lands (M_readsCondition_j187_1 v14 s13) s13 with
                | none => rw [hz17] at h; cases h
                | some s21 =>
                rw [hz17] at h
                dsimp only at h
                cases hz18 : M_here s21 with
                | none => rw [hz18] at h; cases h
                | some v22 =>
                rw [hz18] at h
                dsimp only at h
                refine ax_cut (pc' := 205) (la := [some (.ref 63)]) [some (.ref 63)] (st' := [.int (38 : Int32), .int v22, .ref 63]) (σ' := s21) 5 (And.intro rfl (trivial)) (fun _ hh => (Exists.intro (none, s21) (And.intro (e_M_lands (d + 4) hz17) (Exists.intro (some (.int v22), s21) (And.intro (e_M_here (d + 5) hz18) hh))))) (w_M_readsCondition_j205_1 d v22 s21 _ rfl (fun v23 hq => ?_))
                obtain rfl : v23 = (M_readsCondition_j205_1 v22 s21) := hq.symm
                cases hz19 : M_jumps (M_readsCondition_j205_1 v22 s21) s21 with
                | none => rw [hz19] at h; cases h
                | some s24 =>
                rw [hz19] at h
                dsimp only at h
                exact ax_cut (pc' := 40) (la := [some (.ref 63)]) [some (.ref 63)] (st' := []) (σ' := s24) 2 (And.intro rfl (trivial)) (fun _ hh => (Exists.intro (none, s24) (And.intro (e_M_jumps (d + 4) hz19) hh))) (ih  s24 _ h hkr)
              · rw [if_neg c16] at h
                have h := Option.some.inj h
                subst r
                exact ax_end 14 (Exists.intro (some (.int v14), s13) (And.intro (e_M_here (d + 5) hz11) (And.intro (fun q => absurd q c12) (fun _ => (Exists.intro (some (.int v14), s13) (And.intro (e_M_here (d + 5) hz11) (And.intro (fun q => absurd q c16) (fun _ => (Exists.intro (some (.int (M_wrongAt (1 : Int32) (s13.2.1 63 6) s13).1), (M_wrongAt (1 : Int32) (s13.2.1 63 6) s13).2) (And.intro (e_M_wrongAt (d + 5) (1 : Int32) (s13.2.1 63 6) s13) (And.intro (ax_ev_bool rfl (e_M_wrongAt (d + 5) (1 : Int32) (s13.2.1 63 6) s13)) (hkr _ rfl))))))))))))
          · intro q hq
            subst z10
            dsimp only at h
            cases h
            exact hkr _ rfl
theorem e_M_readsCondition (d : Nat)  {s : ax_S} {r : Int32 × ax_S} (h : M_readsCondition s = some r) : ax_ev true (d + 7) 199 [.ref 63] s (some (.int r.1), r.2) := by
  refine ⟨Nat.le_of_ble_eq_true rfl, ?_⟩
  show ax_go true none (ax_ev true (d + 6)) ax_m199 0 [some (.ref 63)] [] s _
  unfold M_readsCondition at h
  cases hz1 : M_here s with
  | none => rw [hz1] at h; cases h
  | some v1 =>
  rw [hz1] at h
  dsimp only at h
  by_cases c2 : v1 = (40 : Int32)
  · rw [if_pos c2] at h
    cases hz3 : M_opens (13 : Int32) (ax_sI (ax_sI s 63 10 (0 : Int32)) 63 12 (0 : Int32)) with
    | none => rw [hz3] at h; cases h
    | some z3 =>
    rw [hz3] at h
    obtain ⟨v2, s3⟩ := z3
    dsimp only at h
    by_cases c4 : v2 = 0
    · rw [if_pos c4] at h
      have h := Option.some.inj h
      subst r
      exact ax_end 16 (Exists.intro (some (.int v1), s) (And.intro (e_M_here (d + 5) hz1) (And.intro (fun _ => (Exists.intro (some (.int v2), s3) (And.intro (e_M_opens (d + 4) hz3) (And.intro (fun q => absurd c4 q) (fun _ => (And.intro (Or.inl rfl) rfl)))))) (fun q => absurd c2 q))))
    · rw [if_neg c4] at h
      cases hz5 : M_readsCondition_l40 70000 s3 with
      | none => rw [hz5] at h; cases h
      | some z5 =>
      rw [hz5] at h
      refine ax_cut (pc' := 40) (la := [some (.ref 63)]) [some (.ref 63)] (st' := []) (σ' := s3) 14 (And.intro rfl (trivial)) (fun _ hh => (Exists.intro (some (.int v1), s) (And.intro (e_M_here (d + 5) hz1) (And.intro (fun _ => (Exists.intro (some (.int v2), s3) (And.intro (e_M_opens (d + 4) hz3) (And.intro (fun _ => hh) (fun q => absurd c4 q))))) (fun q => absurd c2 q))))) (w_M_readsCondition_l40 d 70000 s3 _ hz5 ?_)
      · intro q hq
        subst z5
        dsimp only at h
        cases h
        rfl
  · rw [if_neg c2] at h
    have h := Option.some.inj h
    subst r
    exact ax_end 10 (Exists.intro (some (.int v1), s) (And.intro (e_M_here (d + 5) hz1) (And.intro (fun q => absurd q c2) (fun _ => (Exists.intro (some (.int (M_wrongAt (1 : Int32) (s.2.1 63 6) s).1), (M_wrongAt (1 : Int32) (s.2.1 63 6) s).2) (And.intro (e_M_wrongAt (d + 5) (1 : Int32) (s.2.1 63 6) s) (And.intro (ax_ev_bool rfl (e_M_wrongAt (d + 5) (1 : Int32) (s.2.1 63 6) s)) rfl)))))))
def M_readsRule  (s : ax_S) : Option (Int32 × ax_S) :=
  match M_here s with
  | none => none
  | some v1 =>
    if v1 = (119 : Int32) then (
      if (s.2.1 63 13) = (16 : Int32) then (
        some ((M_wrongAt (4 : Int32) (s.2.1 63 6) s).1, (M_wrongAt (4 : Int32) (s.2.1 63 6) s).2)) else
      if ((s.2.1 63 13) < 0 ∨ 16 ≤ ((s.2.1 63 13)).toNatClampNeg) then none else
      if ((s.2.1 63 13) < 0 ∨ 16 ≤ ((s.2.1 63 13)).toNatClampNeg) then none else
      if v1 = (99 : Int32) then (
        if ((s.2.1 63 13) < 0 ∨ 16 ≤ ((s.2.1 63 13)).toNatClampNeg) then none else
        match M_readsCondition (ax_sI (ax_sI (ax_sI (ax_sI (ax_sI (ax_sI s 70 ((s.2.1 63 13)).toNatClampNeg v1) 63 6 ((s.2.1 63 6) + (1 : Int32))) 71 ((s.2.1 63 13)).toNatClampNeg (s.2.1 63 11)) 63 10 (0 : Int32)) 63 12 (0 : Int32)) 72 ((s.2.1 63 13)).toNatClampNeg (s.2.1 63 11)) with
        | none => none
        | some (v2, s3) =>
          if v2 = 0 then (
            some ((0 : Int32), s3)) else
          if ((s3.2.1 63 13) < 0 ∨ 16 ≤ ((s3.2.1 63 13)).toNatClampNeg) then none else
          some ((1 : Int32), (ax_sI (ax_sI s3 73 ((s3.2.1 63 13)).toNatClampNeg (s3.2.1 63 11)) 63 13 ((s3.2.1 63 13) + (1 : Int32))))) else
      match M_readsSum (ax_sI (ax_sI (ax_sI (ax_sI (ax_sI s 70 ((s.2.1 63 13)).toNatClampNeg v1) 63 6 ((s.2.1 63 6) + (1 : Int32))) 71 ((s.2.1 63 13)).toNatClampNeg (s.2.1 63 11)) 63 10 (0 : Int32)) 63 12 (0 : Int32)) with
      | none => none
      | some (v4, s5) =>
        if v4 = 0 then (
          some ((0 : Int32), s5)) else
        if ((s5.2.1 63 13) < 0 ∨ 16 ≤ ((s5.2.1 63 13)).toNatClampNeg) then none else
        match M_readsCondition (ax_sI s5 72 ((s5.2.1 63 13)).toNatClampNeg (s5.2.1 63 11)) with
        | none => none
        | some (v6, s7) =>
          if v6 = 0 then (
            some ((0 : Int32), s7)) else
          if ((s7.2.1 63 13) < 0 ∨ 16 ≤ ((s7.2.1 63 13)).toNatClampNeg) then none else
          some ((1 : Int32), (ax_sI (ax_sI s7 73 ((s7.2.1 63 13)).toNatClampNeg (s7.2.1 63 11)) 63 13 ((s7.2.1 63 13) + (1 : Int32))))) else
    if v1 = (108 : Int32) then (
      if (s.2.1 63 13) = (16 : Int32) then (
        some ((M_wrongAt (4 : Int32) (s.2.1 63 6) s).1, (M_wrongAt (4 : Int32) (s.2.1 63 6) s).2)) else
      if ((s.2.1 63 13) < 0 ∨ 16 ≤ ((s.2.1 63 13)).toNatClampNeg) then none else
      if ((s.2.1 63 13) < 0 ∨ 16 ≤ ((s.2.1 63 13)).toNatClampNeg) then none else
      if v1 = (99 : Int32) then (
        if ((s.2.1 63 13) < 0 ∨ 16 ≤ ((s.2.1 63 13)).toNatClampNeg) then none else
        match M_readsCondition (ax_sI (ax_sI (ax_sI (ax_sI (ax_sI (ax_sI s 70 ((s.2.1 63 13)).toNatClampNeg v1) 63 6 ((s.2.1 63 6) + (1 : Int32))) 71 ((s.2.1 63 13)).toNatClampNeg (s.2.1 63 11)) 63 10 (0 : Int32)) 63 12 (0 : Int32)) 72 ((s.2.1 63 13)).toNatClampNeg (s.2.1 63 11)) with
        | none => none
        | some (v8, s9) =>
          if v8 = 0 then (
            some ((0 : Int32), s9)) else
          if ((s9.2.1 63 13) < 0 ∨ 16 ≤ ((s9.2.1 63 13)).toNatClampNeg) then none else
          some ((1 : Int32), (ax_sI (ax_sI s9 73 ((s9.2.1 63 13)).toNatClampNeg (s9.2.1 63 11)) 63 13 ((s9.2.1 63 13) + (1 : Int32))))) else
      match M_readsSum (ax_sI (ax_sI (ax_sI (ax_sI (ax_sI s 70 ((s.2.1 63 13)).toNatClampNeg v1) 63 6 ((s.2.1 63 6) + (1 : Int32))) 71 ((s.2.1 63 13)).toNatClampNeg (s.2.1 63 11)) 63 10 (0 : Int32)) 63 12 (0 : Int32)) with
      | none => none
      | some (v10, s11) =>
        if v10 = 0 then (
          some ((0 : Int32), s11)) else
        if ((s11.2.1 63 13) < 0 ∨ 16 ≤ ((s11.2.1 63 13)).toNatClampNeg) then none else
        match M_readsCondition (ax_sI s11 72 ((s11.2.1 63 13)).toNatClampNeg (s11.2.1 63 11)) with
        | none => none
        | some (v12, s13) =>
          if v12 = 0 then (
            some ((0 : Int32), s13)) else
          if ((s13.2.1 63 13) < 0 ∨ 16 ≤ ((s13.2.1 63 13)).toNatClampNeg) then none else
          some ((1 : Int32), (ax_sI (ax_sI s13 73 ((s13.2.1 63 13)).toNatClampNeg (s13.2.1 63 11)) 63 13 ((s13.2.1 63 13) + (1 : Int32))))) else
    if v1 = (104 : Int32) then (
      if (s.2.1 63 13) = (16 : Int32) then (
        some ((M_wrongAt (4 : Int32) (s.2.1 63 6) s).1, (M_wrongAt (4 : Int32) (s.2.1 63 6) s).2)) else
      if ((s.2.1 63 13) < 0 ∨ 16 ≤ ((s.2.1 63 13)).toNatClampNeg) then none else
      if ((s.2.1 63 13) < 0 ∨ 16 ≤ ((s.2.1 63 13)).toNatClampNeg) then none else
      if v1 = (99 : Int32) then (
        if ((s.2.1 63 13) < 0 ∨ 16 ≤ ((s.2.1 63 13)).toNatClampNeg) then none else
        match M_readsCondition (ax_sI (ax_sI (ax_sI (ax_sI (ax_sI (ax_sI s 70 ((s.2.1 63 13)).toNatClampNeg v1) 63 6 ((s.2.1 63 6) + (1 : Int32))) 71 ((s.2.1 63 13)).toNatClampNeg (s.2.1 63 11)) 63 10 (0 : Int32)) 63 12 (0 : Int32)) 72 ((s.2.1 63 13)).toNatClampNeg (s.2.1 63 11)) with
        | none => none
        | some (v14, s15) =>
          if v14 = 0 then (
            some ((0 : Int32), s15)) else
          if ((s15.2.1 63 13) < 0 ∨ 16 ≤ ((s15.2.1 63 13)).toNatClampNeg) then none else
          some ((1 : Int32), (ax_sI (ax_sI s15 73 ((s15.2.1 63 13)).toNatClampNeg (s15.2.1 63 11)) 63 13 ((s15.2.1 63 13) + (1 : Int32))))) else
      match M_readsSum (ax_sI (ax_sI (ax_sI (ax_sI (ax_sI s 70 ((s.2.1 63 13)).toNatClampNeg v1) 63 6 ((s.2.1 63 6) + (1 : Int32))) 71 ((s.2.1 63 13)).toNatClampNeg (s.2.1 63 11)) 63 10 (0 : Int32)) 63 12 (0 : Int32)) with
      | none => none
      | some (v16, s17) =>
        if v16 = 0 then (
          some ((0 : Int32), s17)) else
        if ((s17.2.1 63 13) < 0 ∨ 16 ≤ ((s17.2.1 63 13)).toNatClampNeg) then none else
        match M_readsCondition (ax_sI s17 72 ((s17.2.1 63 13)).toNatClampNeg (s17.2.1 63 11)) with
        | none => none
        | some (v18, s19) =>
          if v18 = 0 then (
            some ((0 : Int32), s19)) else
          if ((s19.2.1 63 13) < 0 ∨ 16 ≤ ((s19.2.1 63 13)).toNatClampNeg) then none else
          some ((1 : Int32), (ax_sI (ax_sI s19 73 ((s19.2.1 63 13)).toNatClampNeg (s19.2.1 63 11)) 63 13 ((s19.2.1 63 13) + (1 : Int32))))) else
    if v1 = (99 : Int32) then (
      if (s.2.1 63 13) = (16 : Int32) then (
        some ((M_wrongAt (4 : Int32) (s.2.1 63 6) s).1, (M_wrongAt (4 : Int32) (s.2.1 63 6) s).2)) else
      if ((s.2.1 63 13) < 0 ∨ 16 ≤ ((s.2.1 63 13)).toNatClampNeg) then none else
      if ((s.2.1 63 13) < 0 ∨ 16 ≤ ((s.2.1 63 13)).toNatClampNeg) then none else
      if v1 = (99 : Int32) then (
        if ((s.2.1 63 13) < 0 ∨ 16 ≤ ((s.2.1 63 13)).toNatClampNeg) then none else
        match M_readsCondition (ax_sI (ax_sI (ax_sI (ax_sI (ax_sI (ax_sI s 70 ((s.2.1 63 13)).toNatClampNeg v1) 63 6 ((s.2.1 63 6) + (1 : Int32))) 71 ((s.2.1 63 13)).toNatClampNeg (s.2.1 63 11)) 63 10 (0 : Int32)) 63 12 (0 : Int32)) 72 ((s.2.1 63 13)).toNatClampNeg (s.2.1 63 11)) with
        | none => none
        | some (v20, s21) =>
          if v20 = 0 then (
            some ((0 : Int32), s21)) else
          if ((s21.2.1 63 13) < 0 ∨ 16 ≤ ((s21.2.1 63 13)).toNatClampNeg) then none else
          some ((1 : Int32), (ax_sI (ax_sI s21 73 ((s21.2.1 63 13)).toNatClampNeg (s21.2.1 63 11)) 63 13 ((s21.2.1 63 13) + (1 : Int32))))) else
      match M_readsSum (ax_sI (ax_sI (ax_sI (ax_sI (ax_sI s 70 ((s.2.1 63 13)).toNatClampNeg v1) 63 6 ((s.2.1 63 6) + (1 : Int32))) 71 ((s.2.1 63 13)).toNatClampNeg (s.2.1 63 11)) 63 10 (0 : Int32)) 63 12 (0 : Int32)) with
      | none => none
      | some (v22, s23) =>
        if v22 = 0 then (
          some ((0 : Int32), s23)) else
        if ((s23.2.1 63 13) < 0 ∨ 16 ≤ ((s23.2.1 63 13)).toNatClampNeg) then none else
        match M_readsCondition (ax_sI s23 72 ((s23.2.1 63 13)).toNatClampNeg (s23.2.1 63 11)) with
        | none => none
        | some (v24, s25) =>
          if v24 = 0 then (
            some ((0 : Int32), s25)) else
          if ((s25.2.1 63 13) < 0 ∨ 16 ≤ ((s25.2.1 63 13)).toNatClampNeg) then none else
          some ((1 : Int32), (ax_sI (ax_sI s25 73 ((s25.2.1 63 13)).toNatClampNeg (s25.2.1 63 11)) 63 13 ((s25.2.1 63 13) + (1 : Int32))))) else
    some ((M_wrongAt (1 : Int32) (s.2.1 63 6) s).1, (M_wrongAt (1 : Int32) (s.2.1 63 6) s).2)
theorem e_M_readsRule (d : Nat)  {s : ax_S} {r : Int32 × ax_S} (h : M_readsRule s = some r) : ax_ev true (d + 8) 185 [.ref 63] s (some (.int r.1), r.2) := by
  refine ⟨Nat.le_of_ble_eq_true rfl, ?_⟩
  show ax_go true none (ax_ev true (d + 7)) ax_m185 0 [some (.ref 63), none] [] s _
  unfold M_readsRule at h
  cases hz1 : M_here s with
  | none => rw [hz1] at h; cases h
  | some v1 =>
  rw [hz1] at h
  dsimp only at h
  by_cases c2 : v1 = (119 : Int32)
  · rw [if_pos c2] at h
    by_cases c3 : (s.2.1 63 13) = (16 : Int32)
    · rw [if_pos c3] at h
      have h := Option.some.inj h
      subst r
      exact ax_end 16 (Exists.intro (some (.int v1), s) (And.intro (e_M_here (d + 6) hz1) (And.intro (fun _ => (And.intro (fun q => absurd c3 q) (fun _ => (Exists.intro (some (.int (M_wrongAt (4 : Int32) (s.2.1 63 6) s).1), (M_wrongAt (4 : Int32) (s.2.1 63 6) s).2) (And.intro (e_M_wrongAt (d + 6) (4 : Int32) (s.2.1 63 6) s) (And.intro (ax_ev_bool rfl (e_M_wrongAt (d + 6) (4 : Int32) (s.2.1 63 6) s)) rfl)))))) (fun q => absurd c2 q))))
    · rw [if_neg c3] at h
      by_cases c4 : ((s.2.1 63 13) < 0 ∨ 16 ≤ ((s.2.1 63 13)).toNatClampNeg)
      · rw [if_pos c4] at h; cases h
      · rw [if_neg c4] at h
        refine ax_cut (pc' := 68) (la := [some (.ref 63), some (.int v1)]) [some (.ref 63), some (.int v1)] (st' := []) (σ' := (ax_sI s 70 ((s.2.1 63 13)).toNatClampNeg v1)) 16 (And.intro rfl (And.intro rfl (trivial))) (fun _ hh => (Exists.intro (some (.int v1), s) (And.intro (e_M_here (d + 6) hz1) (And.intro (fun _ => (And.intro (fun _ => (And.intro c4 hh)) (fun q => absurd c3 q))) (fun q => absurd c2 q))))) ?_
        by_cases c5 : ((s.2.1 63 13) < 0 ∨ 16 ≤ ((s.2.1 63 13)).toNatClampNeg)
        · rw [if_pos c5] at h; cases h
        · rw [if_neg c5] at h
          refine ax_cut (pc' := 96) (la := [some (.ref 63), some (.int v1)]) [some (.ref 63), some (.int v1)] (st' := []) (σ' := (ax_sI (ax_sI (ax_sI (ax_sI s 70 ((s.2.1 63 13)).toNatClampNeg v1) 63 6 ((s.2.1 63 6) + (1 : Int32))) 71 ((s.2.1 63 13)).toNatClampNeg (s.2.1 63 11)) 63 10 (0 : Int32))) 16 (And.intro rfl (And.intro rfl (trivial))) (fun _ hh => (And.intro c5 hh)) ?_
          by_cases c6 : v1 = (99 : Int32)
          · rw [if_pos c6] at h
            by_cases c7 : ((s.2.1 63 13) < 0 ∨ 16 ≤ ((s.2.1 63 13)).toNatClampNeg)
            · rw [if_pos c7] at h; cases h
            · rw [if_neg c7] at h
              cases hz8 : M_readsCondition (ax_sI (ax_sI (ax_sI (ax_sI (ax_sI (ax_sI s 70 ((s.2.1 63 13)).toNatClampNeg v1) 63 6 ((s.2.1 63 6) + (1 : Int32))) 71 ((s.2.1 63 13)).toNatClampNeg (s.2.1 63 11)) 63 10 (0 : Int32)) 63 12 (0 : Int32)) 72 ((s.2.1 63 13)).toNatClampNeg (s.2.1 63 11)) with
              | none => rw [hz8] at h; cases h
              | some z8 =>
              rw [hz8] at h
              obtain ⟨v2, s3⟩ := z8
              dsimp only at h
              by_cases c9 : v2 = 0
              · rw [if_pos c9] at h
                refine ax_cut (pc' := 136) (la := [some (.ref 63), some (.int v1)]) [none, none] (st' := []) (σ' := s3) 16 (trivial) (fun _ hh => (And.intro (fun _ => (And.intro c7 (Exists.intro (some (.int v2), s3) (And.intro (e_M_readsCondition d hz8) (And.intro (fun q => absurd c9 q) (fun _ => hh)))))) (fun q => absurd c6 q))) ?_
                have h := Option.some.inj h
                subst r
                exact ax_end 2 (And.intro (Or.inl rfl) rfl)
              · rw [if_neg c9] at h
                refine ax_cut (pc' := 138) (la := [some (.ref 63), some (.int v1)]) [some (.ref 63), none] (st' := []) (σ' := s3) 16 (And.intro rfl (trivial)) (fun _ hh => (And.intro (fun _ => (And.intro c7 (Exists.intro (some (.int v2), s3) (And.intro (e_M_readsCondition d hz8) (And.intro (fun _ => hh) (fun q => absurd c9 q)))))) (fun q => absurd c6 q))) ?_
                by_cases c10 : ((s3.2.1 63 13) < 0 ∨ 16 ≤ ((s3.2.1 63 13)).toNatClampNeg)
                · rw [if_pos c10] at h; cases h
                · rw [if_neg c10] at h
                  have h := Option.some.inj h
                  subst r
                  exact ax_end 15 (And.intro c10 (And.intro (Or.inr rfl) rfl))
          · rw [if_neg c6] at h
            cases hz11 : M_readsSum (ax_sI (ax_sI (ax_sI (ax_sI (ax_sI s 70 ((s.2.1 63 13)).toNatClampNeg v1) 63 6 ((s.2.1 63 6) + (1 : Int32))) 71 ((s.2.1 63 13)).toNatClampNeg (s.2.1 63 11)) 63 10 (0 : Int32)) 63 12 (0 : Int32)) with
            | none => rw [hz11] at h; cases h
            | some z11 =>
            rw [hz11] at h
            obtain ⟨v4, s5⟩ := z11
            dsimp only at h
            by_cases c12 : v4 = 0
            · rw [if_pos c12] at h
              have h := Option.some.inj h
              subst r
              exact ax_end 11 (And.intro (fun q => absurd q c6) (fun _ => (Exists.intro (some (.int v4), s5) (And.intro (e_M_readsSum (d + 2) hz11) (And.intro (fun q => absurd c12 q) (fun _ => (And.intro (Or.inl rfl) rfl)))))))
            · rw [if_neg c12] at h
              by_cases c13 : ((s5.2.1 63 13) < 0 ∨ 16 ≤ ((s5.2.1 63 13)).toNatClampNeg)
              · rw [if_pos c13] at h; cases h
              · rw [if_neg c13] at h
                refine ax_cut (pc' := 129) (la := [some (.ref 63), some (.int v1)]) [some (.ref 63), none] (st' := []) (σ' := (ax_sI s5 72 ((s5.2.1 63 13)).toNatClampNeg (s5.2.1 63 11))) 16 (And.intro rfl (trivial)) (fun _ hh => (And.intro (fun q => absurd q c6) (fun _ => (Exists.intro (some (.int v4), s5) (And.intro (e_M_readsSum (d + 2) hz11) (And.intro (fun _ => (And.intro c13 hh)) (fun q => absurd c12 q))))))) ?_
                cases hz14 : M_readsCondition (ax_sI s5 72 ((s5.2.1 63 13)).toNatClampNeg (s5.2.1 63 11)) with
                | none => rw [hz14] at h; cases h
                | some z14 =>
                rw [hz14] at h
                obtain ⟨v6, s7⟩ := z14
                dsimp only at h
                by_cases c15 : v6 = 0
                · rw [if_pos c15] at h
                  have h := Option.some.inj h
                  subst r
                  exact ax_end 5 (Exists.intro (some (.int v6), s7) (And.intro (e_M_readsCondition d hz14) (And.intro (fun q => absurd c15 q) (fun _ => (And.intro (Or.inl rfl) rfl)))))
                · rw [if_neg c15] at h
                  by_cases c16 : ((s7.2.1 63 13) < 0 ∨ 16 ≤ ((s7.2.1 63 13)).toNatClampNeg)
                  · rw [if_pos c16] at h; cases h
                  · rw [if_neg c16] at h
                    refine ax_cut (pc' := 161) (la := [some (.ref 63), none]) [none, none] (st' := []) (σ' := (ax_sI (ax_sI s7 73 ((s7.2.1 63 13)).toNatClampNeg (s7.2.1 63 11)) 63 13 ((s7.2.1 63 13) + (1 : Int32)))) 16 (trivial) (fun _ hh => (Exists.intro (some (.int v6), s7) (And.intro (e_M_readsCondition d hz14) (And.intro (fun _ => (And.intro c16 hh)) (fun q => absurd c15 q))))) ?_
                    have h := Option.some.inj h
                    subst r
                    exact ax_end 2 (And.intro (Or.inr rfl) rfl)
  · rw [if_neg c2] at h
    by_cases c17 : v1 = (108 : Int32)
    · rw [if_pos c17] at h
      by_cases c18 : (s.2.1 63 13) = (16 : Int32)
      · rw [if_pos c18] at h
        refine ax_cut (pc' := 51) (la := [some (.ref 63), some (.int v1)]) [none, none] (st' := [.ref 63, .int (4 : Int32), .ref 63]) (σ' := s) 16 (trivial) (fun _ hh => (Exists.intro (some (.int v1), s) (And.intro (e_M_here (d + 6) hz1) (And.intro (fun q => absurd q c2) (fun _ => (And.intro (fun _ => (And.intro (fun q => absurd c18 q) (fun _ => hh))) (fun q => absurd c17 q))))))) ?_
        have h := Option.some.inj h
        subst r
        exact ax_end 3 (Exists.intro (some (.int (M_wrongAt (4 : Int32) (s.2.1 63 6) s).1), (M_wrongAt (4 : Int32) (s.2.1 63 6) s).2) (And.intro (e_M_wrongAt (d + 6) (4 : Int32) (s.2.1 63 6) s) (And.intro (ax_ev_bool rfl (e_M_wrongAt (d + 6) (4 : Int32) (s.2.1 63 6) s)) rfl)))
      · rw [if_neg c18] at h
        refine ax_cut (pc' := 63) (la := [some (.ref 63), some (.int v1)]) [some (.ref 63), some (.int v1)] (st' := [.ref 63, .ref 70]) (σ' := s) 16 (And.intro rfl (And.intro rfl (trivial))) (fun _ hh => (Exists.intro (some (.int v1), s) (And.intro (e_M_here (d + 6) hz1) (And.intro (fun q => absurd q c2) (fun _ => (And.intro (fun _ => (And.intro (fun _ => hh) (fun q => absurd c18 q))) (fun q => absurd c17 q))))))) ?_
        by_cases c19 : ((s.2.1 63 13) < 0 ∨ 16 ≤ ((s.2.1 63 13)).toNatClampNeg)
        · rw [if_pos c19] at h; cases h
        · rw [if_neg c19] at h
          by_cases c20 : ((s.2.1 63 13) < 0 ∨ 16 ≤ ((s.2.1 63 13)).toNatClampNeg)
          · rw [if_pos c20] at h; cases h
          · rw [if_neg c20] at h
            refine ax_cut (pc' := 91) (la := [some (.ref 63), some (.int v1)]) [some (.ref 63), some (.int v1)] (st' := []) (σ' := (ax_sI (ax_sI (ax_sI s 70 ((s.2.1 63 13)).toNatClampNeg v1) 63 6 ((s.2.1 63 6) + (1 : Int32))) 71 ((s.2.1 63 13)).toNatClampNeg (s.2.1 63 11))) 16 (And.intro rfl (And.intro rfl (trivial))) (fun _ hh => (And.intro c19 (And.intro c20 hh))) ?_
            by_cases c21 : v1 = (99 : Int32)
            · rw [if_pos c21] at h
              by_cases c22 : ((s.2.1 63 13) < 0 ∨ 16 ≤ ((s.2.1 63 13)).toNatClampNeg)
              · rw [if_pos c22] at h; cases h
              · rw [if_neg c22] at h
                refine ax_cut (pc' := 129) (la := [some (.ref 63), some (.int v1)]) [some (.ref 63), none] (st' := []) (σ' := (ax_sI (ax_sI (ax_sI (ax_sI (ax_sI (ax_sI s 70 ((s.2.1 63 13)).toNatClampNeg v1) 63 6 ((s.2.1 63 6) + (1 : Int32))) 71 ((s.2.1 63 13)).toNatClampNeg (s.2.1 63 11)) 63 10 (0 : Int32)) 63 12 (0 : Int32)) 72 ((s.2.1 63 13)).toNatClampNeg (s.2.1 63 11))) 16 (And.intro rfl (trivial)) (fun _ hh => (And.intro (fun _ => (And.intro c22 hh)) (fun q => absurd c21 q))) ?_
                cases hz23 : M_readsCondition (ax_sI (ax_sI (ax_sI (ax_sI (ax_sI (ax_sI s 70 ((s.2.1 63 13)).toNatClampNeg v1) 63 6 ((s.2.1 63 6) + (1 : Int32))) 71 ((s.2.1 63 13)).toNatClampNeg (s.2.1 63 11)) 63 10 (0 : Int32)) 63 12 (0 : Int32)) 72 ((s.2.1 63 13)).toNatClampNeg (s.2.1 63 11)) with
                | none => rw [hz23] at h; cases h
                | some z23 =>
                rw [hz23] at h
                obtain ⟨v8, s9⟩ := z23
                dsimp only at h
                by_cases c24 : v8 = 0
                · rw [if_pos c24] at h
                  have h := Option.some.inj h
                  subst r
                  exact ax_end 5 (Exists.intro (some (.int v8), s9) (And.intro (e_M_readsCondition d hz23) (And.intro (fun q => absurd c24 q) (fun _ => (And.intro (Or.inl rfl) rfl)))))
                · rw [if_neg c24] at h
                  by_cases c25 : ((s9.2.1 63 13) < 0 ∨ 16 ≤ ((s9.2.1 63 13)).toNatClampNeg)
                  · rw [if_pos c25] at h; cases h
                  · rw [if_neg c25] at h
                    refine ax_cut (pc' := 161) (la := [some (.ref 63), none]) [none, none] (st' := []) (σ' := (ax_sI (ax_sI s9 73 ((s9.2.1 63 13)).toNatClampNeg (s9.2.1 63 11)) 63 13 ((s9.2.1 63 13) + (1 : Int32)))) 16 (trivial) (fun _ hh => (Exists.intro (some (.int v8), s9) (And.intro (e_M_readsCondition d hz23) (And.intro (fun _ => (And.intro c25 hh)) (fun q => absurd c24 q))))) ?_
                    have h := Option.some.inj h
                    subst r
                    exact ax_end 2 (And.intro (Or.inr rfl) rfl)
            · rw [if_neg c21] at h
              cases hz26 : M_readsSum (ax_sI (ax_sI (ax_sI (ax_sI (ax_sI s 70 ((s.2.1 63 13)).toNatClampNeg v1) 63 6 ((s.2.1 63 6) + (1 : Int32))) 71 ((s.2.1 63 13)).toNatClampNeg (s.2.1 63 11)) 63 10 (0 : Int32)) 63 12 (0 : Int32)) with
              | none => rw [hz26] at h; cases h
              | some z26 =>
              rw [hz26] at h
              obtain ⟨v10, s11⟩ := z26
              dsimp only at h
              by_cases c27 : v10 = 0
              · rw [if_pos c27] at h
                have h := Option.some.inj h
                subst r
                exact ax_end 14 (And.intro (fun q => absurd q c21) (fun _ => (Exists.intro (some (.int v10), s11) (And.intro (e_M_readsSum (d + 2) hz26) (And.intro (fun q => absurd c27 q) (fun _ => (And.intro (Or.inl rfl) rfl)))))))
              · rw [if_neg c27] at h
                refine ax_cut (pc' := 124) (la := [some (.ref 63), some (.int v1)]) [some (.ref 63), none] (st' := [.int (s11.2.1 63 13), .ref 72]) (σ' := s11) 16 (And.intro rfl (trivial)) (fun _ hh => (And.intro (fun q => absurd q c21) (fun _ => (Exists.intro (some (.int v10), s11) (And.intro (e_M_readsSum (d + 2) hz26) (And.intro (fun _ => hh) (fun q => absurd c27 q))))))) ?_
                by_cases c28 : ((s11.2.1 63 13) < 0 ∨ 16 ≤ ((s11.2.1 63 13)).toNatClampNeg)
                · rw [if_pos c28] at h; cases h
                · rw [if_neg c28] at h
                  cases hz29 : M_readsCondition (ax_sI s11 72 ((s11.2.1 63 13)).toNatClampNeg (s11.2.1 63 11)) with
                  | none => rw [hz29] at h; cases h
                  | some z29 =>
                  rw [hz29] at h
                  obtain ⟨v12, s13⟩ := z29
                  dsimp only at h
                  by_cases c30 : v12 = 0
                  · rw [if_pos c30] at h
                    have h := Option.some.inj h
                    subst r
                    exact ax_end 8 (And.intro c28 (Exists.intro (some (.int v12), s13) (And.intro (e_M_readsCondition d hz29) (And.intro (fun q => absurd c30 q) (fun _ => (And.intro (Or.inl rfl) rfl))))))
                  · rw [if_neg c30] at h
                    by_cases c31 : ((s13.2.1 63 13) < 0 ∨ 16 ≤ ((s13.2.1 63 13)).toNatClampNeg)
                    · rw [if_pos c31] at h; cases h
                    · rw [if_neg c31] at h
                      refine ax_cut (pc' := 156) (la := [some (.ref 63), none]) [none, none] (st' := [.int (s13.2.1 63 13), .ref 63]) (σ' := (ax_sI s13 73 ((s13.2.1 63 13)).toNatClampNeg (s13.2.1 63 11))) 16 (trivial) (fun _ hh => (And.intro c28 (Exists.intro (some (.int v12), s13) (And.intro (e_M_readsCondition d hz29) (And.intro (fun _ => (And.intro c31 hh)) (fun q => absurd c30 q)))))) ?_
                      have h := Option.some.inj h
                      subst r
                      exact ax_end 5 (And.intro (Or.inr rfl) rfl)
    · rw [if_neg c17] at h
      by_cases c32 : v1 = (104 : Int32)
      · rw [if_pos c32] at h
        by_cases c33 : (s.2.1 63 13) = (16 : Int32)
        · rw [if_pos c33] at h
          refine ax_cut (pc' := 48) (la := [some (.ref 63), some (.int v1)]) [some (.ref 63), none] (st' := []) (σ' := s) 16 (And.intro rfl (trivial)) (fun _ hh => (Exists.intro (some (.int v1), s) (And.intro (e_M_here (d + 6) hz1) (And.intro (fun q => absurd q c2) (fun _ => (And.intro (fun q => absurd q c17) (fun _ => (And.intro (fun _ => (And.intro (fun q => absurd c33 q) (fun _ => hh))) (fun q => absurd c32 q))))))))) ?_
          have h := Option.some.inj h
          subst r
          exact ax_end 6 (Exists.intro (some (.int (M_wrongAt (4 : Int32) (s.2.1 63 6) s).1), (M_wrongAt (4 : Int32) (s.2.1 63 6) s).2) (And.intro (e_M_wrongAt (d + 6) (4 : Int32) (s.2.1 63 6) s) (And.intro (ax_ev_bool rfl (e_M_wrongAt (d + 6) (4 : Int32) (s.2.1 63 6) s)) rfl)))
        · rw [if_neg c33] at h
          refine ax_cut (pc' := 58) (la := [some (.ref 63), some (.int v1)]) [some (.ref 63), some (.int v1)] (st' := []) (σ' := s) 16 (And.intro rfl (And.intro rfl (trivial))) (fun _ hh => (Exists.intro (some (.int v1), s) (And.intro (e_M_here (d + 6) hz1) (And.intro (fun q => absurd q c2) (fun _ => (And.intro (fun q => absurd q c17) (fun _ => (And.intro (fun _ => (And.intro (fun _ => hh) (fun q => absurd c33 q))) (fun q => absurd c32 q))))))))) ?_
          by_cases c34 : ((s.2.1 63 13) < 0 ∨ 16 ≤ ((s.2.1 63 13)).toNatClampNeg)
          · rw [if_pos c34] at h; cases h
          · rw [if_neg c34] at h
            refine ax_cut (pc' := 86) (la := [some (.ref 63), some (.int v1)]) [some (.ref 63), some (.int v1)] (st' := [.int (s.2.1 63 13), .ref 71]) (σ' := (ax_sI (ax_sI s 70 ((s.2.1 63 13)).toNatClampNeg v1) 63 6 ((s.2.1 63 6) + (1 : Int32)))) 16 (And.intro rfl (And.intro rfl (trivial))) (fun _ hh => (And.intro c34 hh)) ?_
            by_cases c35 : ((s.2.1 63 13) < 0 ∨ 16 ≤ ((s.2.1 63 13)).toNatClampNeg)
            · rw [if_pos c35] at h; cases h
            · rw [if_neg c35] at h
              by_cases c36 : v1 = (99 : Int32)
              · rw [if_pos c36] at h
                refine ax_cut (pc' := 124) (la := [some (.ref 63), some (.int v1)]) [some (.ref 63), none] (st' := [.int (s.2.1 63 13), .ref 72]) (σ' := (ax_sI (ax_sI (ax_sI (ax_sI (ax_sI s 70 ((s.2.1 63 13)).toNatClampNeg v1) 63 6 ((s.2.1 63 6) + (1 : Int32))) 71 ((s.2.1 63 13)).toNatClampNeg (s.2.1 63 11)) 63 10 (0 : Int32)) 63 12 (0 : Int32))) 16 (And.intro rfl (trivial)) (fun _ hh => (And.intro c35 (And.intro (fun _ => hh) (fun q => absurd c36 q)))) ?_
                by_cases c37 : ((s.2.1 63 13) < 0 ∨ 16 ≤ ((s.2.1 63 13)).toNatClampNeg)
                · rw [if_pos c37] at h; cases h
                · rw [if_neg c37] at h
                  cases hz38 : M_readsCondition (ax_sI (ax_sI (ax_sI (ax_sI (ax_sI (ax_sI s 70 ((s.2.1 63 13)).toNatClampNeg v1) 63 6 ((s.2.1 63 6) + (1 : Int32))) 71 ((s.2.1 63 13)).toNatClampNeg (s.2.1 63 11)) 63 10 (0 : Int32)) 63 12 (0 : Int32)) 72 ((s.2.1 63 13)).toNatClampNeg (s.2.1 63 11)) with
                  | none => rw [hz38] at h; cases h
                  | some z38 =>
                  rw [hz38] at h
                  obtain ⟨v14, s15⟩ := z38
                  dsimp only at h
                  by_cases c39 : v14 = 0
                  · rw [if_pos c39] at h
                    have h := Option.some.inj h
                    subst r
                    exact ax_end 8 (And.intro c37 (Exists.intro (some (.int v14), s15) (And.intro (e_M_readsCondition d hz38) (And.intro (fun q => absurd c39 q) (fun _ => (And.intro (Or.inl rfl) rfl))))))
                  · rw [if_neg c39] at h
                    by_cases c40 : ((s15.2.1 63 13) < 0 ∨ 16 ≤ ((s15.2.1 63 13)).toNatClampNeg)
                    · rw [if_pos c40] at h; cases h
                    · rw [if_neg c40] at h
                      refine ax_cut (pc' := 156) (la := [some (.ref 63), none]) [none, none] (st' := [.int (s15.2.1 63 13), .ref 63]) (σ' := (ax_sI s15 73 ((s15.2.1 63 13)).toNatClampNeg (s15.2.1 63 11))) 16 (trivial) (fun _ hh => (And.intro c37 (Exists.intro (some (.int v14), s15) (And.intro (e_M_readsCondition d hz38) (And.intro (fun _ => (And.intro c40 hh)) (fun q => absurd c39 q)))))) ?_
                      have h := Option.some.inj h
                      subst r
                      exact ax_end 5 (And.intro (Or.inr rfl) rfl)
              · rw [if_neg c36] at h
                cases hz41 : M_readsSum (ax_sI (ax_sI (ax_sI (ax_sI (ax_sI s 70 ((s.2.1 63 13)).toNatClampNeg v1) 63 6 ((s.2.1 63 6) + (1 : Int32))) 71 ((s.2.1 63 13)).toNatClampNeg (s.2.1 63 11)) 63 10 (0 : Int32)) 63 12 (0 : Int32)) with
                | none => rw [hz41] at h; cases h
                | some z41 =>
                rw [hz41] at h
                obtain ⟨v16, s17⟩ := z41
                dsimp only at h
                by_cases c42 : v16 = 0
                · rw [if_pos c42] at h
                  refine ax_cut (pc' := 115) (la := [some (.ref 63), some (.int v1)]) [none, none] (st' := [.int (0 : Int32)]) (σ' := s17) 16 (trivial) (fun _ hh => (And.intro c35 (And.intro (fun q => absurd q c36) (fun _ => (Exists.intro (some (.int v16), s17) (And.intro (e_M_readsSum (d + 2) hz41) (And.intro (fun q => absurd c42 q) (fun _ => hh)))))))) ?_
                  have h := Option.some.inj h
                  subst r
                  exact ax_end 1 (And.intro (Or.inl rfl) rfl)
                · rw [if_neg c42] at h
                  refine ax_cut (pc' := 117) (la := [some (.ref 63), some (.int v1)]) [some (.ref 63), none] (st' := [.ref 63]) (σ' := s17) 16 (And.intro rfl (trivial)) (fun _ hh => (And.intro c35 (And.intro (fun q => absurd q c36) (fun _ => (Exists.intro (some (.int v16), s17) (And.intro (e_M_readsSum (d + 2) hz41) (And.intro (fun _ => hh) (fun q => absurd c42 q)))))))) ?_
                  by_cases c43 : ((s17.2.1 63 13) < 0 ∨ 16 ≤ ((s17.2.1 63 13)).toNatClampNeg)
                  · rw [if_pos c43] at h; cases h
                  · rw [if_neg c43] at h
                    cases hz44 : M_readsCondition (ax_sI s17 72 ((s17.2.1 63 13)).toNatClampNeg (s17.2.1 63 11)) with
                    | none => rw [hz44] at h; cases h
                    | some z44 =>
                    rw [hz44] at h
                    obtain ⟨v18, s19⟩ := z44
                    dsimp only at h
                    by_cases c45 : v18 = 0
                    · rw [if_pos c45] at h
                      have h := Option.some.inj h
                      subst r
                      exact ax_end 11 (And.intro c43 (Exists.intro (some (.int v18), s19) (And.intro (e_M_readsCondition d hz44) (And.intro (fun q => absurd c45 q) (fun _ => (And.intro (Or.inl rfl) rfl))))))
                    · rw [if_neg c45] at h
                      by_cases c46 : ((s19.2.1 63 13) < 0 ∨ 16 ≤ ((s19.2.1 63 13)).toNatClampNeg)
                      · rw [if_pos c46] at h; cases h
                      · rw [if_neg c46] at h
                        refine ax_cut (pc' := 151) (la := [some (.ref 63), none]) [some (.ref 63), none] (st' := []) (σ' := (ax_sI s19 73 ((s19.2.1 63 13)).toNatClampNeg (s19.2.1 63 11))) 16 (And.intro rfl (trivial)) (fun _ hh => (And.intro c43 (Exists.intro (some (.int v18), s19) (And.intro (e_M_readsCondition d hz44) (And.intro (fun _ => (And.intro c46 hh)) (fun q => absurd c45 q)))))) ?_
                        have h := Option.some.inj h
                        subst r
                        exact ax_end 8 (And.intro (Or.inr rfl) rfl)
      · rw [if_neg c32] at h
        by_cases c47 : v1 = (99 : Int32)
        · rw [if_pos c47] at h
          refine ax_cut (pc' := 40) (la := [some (.ref 63), some (.int v1)]) [some (.ref 63), some (.int v1)] (st' := [.ref 63]) (σ' := s) 16 (And.intro rfl (And.intro rfl (trivial))) (fun _ hh => (Exists.intro (some (.int v1), s) (And.intro (e_M_here (d + 6) hz1) (And.intro (fun q => absurd q c2) (fun _ => (And.intro (fun q => absurd q c17) (fun _ => (And.intro (fun q => absurd q c32) (fun _ => (And.intro (fun _ => hh) (fun q => absurd c47 q))))))))))) ?_
          by_cases c48 : (s.2.1 63 13) = (16 : Int32)
          · rw [if_pos c48] at h
            have h := Option.some.inj h
            subst r
            exact ax_end 9 (And.intro (fun q => absurd c48 q) (fun _ => (Exists.intro (some (.int (M_wrongAt (4 : Int32) (s.2.1 63 6) s).1), (M_wrongAt (4 : Int32) (s.2.1 63 6) s).2) (And.intro (e_M_wrongAt (d + 6) (4 : Int32) (s.2.1 63 6) s) (And.intro (ax_ev_bool rfl (e_M_wrongAt (d + 6) (4 : Int32) (s.2.1 63 6) s)) rfl)))))
          · rw [if_neg c48] at h
            by_cases c49 : ((s.2.1 63 13) < 0 ∨ 16 ≤ ((s.2.1 63 13)).toNatClampNeg)
            · rw [if_pos c49] at h; cases h
            · rw [if_neg c49] at h
              refine ax_cut (pc' := 79) (la := [some (.ref 63), some (.int v1)]) [some (.ref 63), some (.int v1)] (st' := [.ref 63]) (σ' := (ax_sI (ax_sI s 70 ((s.2.1 63 13)).toNatClampNeg v1) 63 6 ((s.2.1 63 6) + (1 : Int32)))) 16 (And.intro rfl (And.intro rfl (trivial))) (fun _ hh => (And.intro (fun _ => (And.intro c49 hh)) (fun q => absurd c48 q))) ?_
              by_cases c50 : ((s.2.1 63 13) < 0 ∨ 16 ≤ ((s.2.1 63 13)).toNatClampNeg)
              · rw [if_pos c50] at h; cases h
              · rw [if_neg c50] at h
                by_cases c51 : v1 = (99 : Int32)
                · rw [if_pos c51] at h
                  refine ax_cut (pc' := 117) (la := [some (.ref 63), some (.int v1)]) [some (.ref 63), none] (st' := [.ref 63]) (σ' := (ax_sI (ax_sI (ax_sI (ax_sI (ax_sI s 70 ((s.2.1 63 13)).toNatClampNeg v1) 63 6 ((s.2.1 63 6) + (1 : Int32))) 71 ((s.2.1 63 13)).toNatClampNeg (s.2.1 63 11)) 63 10 (0 : Int32)) 63 12 (0 : Int32))) 16 (And.intro rfl (trivial)) (fun _ hh => (And.intro c50 (And.intro (fun _ => hh) (fun q => absurd c51 q)))) ?_
                  by_cases c52 : ((s.2.1 63 13) < 0 ∨ 16 ≤ ((s.2.1 63 13)).toNatClampNeg)
                  · rw [if_pos c52] at h; cases h
                  · rw [if_neg c52] at h
                    cases hz53 : M_readsCondition (ax_sI (ax_sI (ax_sI (ax_sI (ax_sI (ax_sI s 70 ((s.2.1 63 13)).toNatClampNeg v1) 63 6 ((s.2.1 63 6) + (1 : Int32))) 71 ((s.2.1 63 13)).toNatClampNeg (s.2.1 63 11)) 63 10 (0 : Int32)) 63 12 (0 : Int32)) 72 ((s.2.1 63 13)).toNatClampNeg (s.2.1 63 11)) with
                    | none => rw [hz53] at h; cases h
                    | some z53 =>
                    rw [hz53] at h
                    obtain ⟨v20, s21⟩ := z53
                    dsimp only at h
                    by_cases c54 : v20 = 0
                    · rw [if_pos c54] at h
                      have h := Option.some.inj h
                      subst r
                      exact ax_end 11 (And.intro c52 (Exists.intro (some (.int v20), s21) (And.intro (e_M_readsCondition d hz53) (And.intro (fun q => absurd c54 q) (fun _ => (And.intro (Or.inl rfl) rfl))))))
                    · rw [if_neg c54] at h
                      by_cases c55 : ((s21.2.1 63 13) < 0 ∨ 16 ≤ ((s21.2.1 63 13)).toNatClampNeg)
                      · rw [if_pos c55] at h; cases h
                      · rw [if_neg c55] at h
                        refine ax_cut (pc' := 151) (la := [some (.ref 63), none]) [some (.ref 63), none] (st' := []) (σ' := (ax_sI s21 73 ((s21.2.1 63 13)).toNatClampNeg (s21.2.1 63 11))) 16 (And.intro rfl (trivial)) (fun _ hh => (And.intro c52 (Exists.intro (some (.int v20), s21) (And.intro (e_M_readsCondition d hz53) (And.intro (fun _ => (And.intro c55 hh)) (fun q => absurd c54 q)))))) ?_
                        have h := Option.some.inj h
                        subst r
                        exact ax_end 8 (And.intro (Or.inr rfl) rfl)
                · rw [if_neg c51] at h
                  refine ax_cut (pc' := 108) (la := [some (.ref 63), some (.int v1)]) [some (.ref 63), none] (st' := [.ref 63]) (σ' := (ax_sI (ax_sI (ax_sI (ax_sI (ax_sI s 70 ((s.2.1 63 13)).toNatClampNeg v1) 63 6 ((s.2.1 63 6) + (1 : Int32))) 71 ((s.2.1 63 13)).toNatClampNeg (s.2.1 63 11)) 63 10 (0 : Int32)) 63 12 (0 : Int32))) 16 (And.intro rfl (trivial)) (fun _ hh => (And.intro c50 (And.intro (fun q => absurd q c51) (fun _ => hh)))) ?_
                  cases hz56 : M_readsSum (ax_sI (ax_sI (ax_sI (ax_sI (ax_sI s 70 ((s.2.1 63 13)).toNatClampNeg v1) 63 6 ((s.2.1 63 6) + (1 : Int32))) 71 ((s.2.1 63 13)).toNatClampNeg (s.2.1 63 11)) 63 10 (0 : Int32)) 63 12 (0 : Int32)) with
                  | none => rw [hz56] at h; cases h
                  | some z56 =>
                  rw [hz56] at h
                  obtain ⟨v22, s23⟩ := z56
                  dsimp only at h
                  by_cases c57 : v22 = 0
                  · rw [if_pos c57] at h
                    have h := Option.some.inj h
                    subst r
                    exact ax_end 4 (Exists.intro (some (.int v22), s23) (And.intro (e_M_readsSum (d + 2) hz56) (And.intro (fun q => absurd c57 q) (fun _ => (And.intro (Or.inl rfl) rfl)))))
                  · rw [if_neg c57] at h
                    by_cases c58 : ((s23.2.1 63 13) < 0 ∨ 16 ≤ ((s23.2.1 63 13)).toNatClampNeg)
                    · rw [if_pos c58] at h; cases h
                    · rw [if_neg c58] at h
                      cases hz59 : M_readsCondition (ax_sI s23 72 ((s23.2.1 63 13)).toNatClampNeg (s23.2.1 63 11)) with
                      | none => rw [hz59] at h; cases h
                      | some z59 =>
                      rw [hz59] at h
                      obtain ⟨v24, s25⟩ := z59
                      dsimp only at h
                      by_cases c60 : v24 = 0
                      · rw [if_pos c60] at h
                        have h := Option.some.inj h
                        subst r
                        exact ax_end 14 (Exists.intro (some (.int v22), s23) (And.intro (e_M_readsSum (d + 2) hz56) (And.intro (fun _ => (And.intro c58 (Exists.intro (some (.int v24), s25) (And.intro (e_M_readsCondition d hz59) (And.intro (fun q => absurd c60 q) (fun _ => (And.intro (Or.inl rfl) rfl))))))) (fun q => absurd c57 q))))
                      · rw [if_neg c60] at h
                        refine ax_cut (pc' := 146) (la := [some (.ref 63), none]) [some (.ref 63), none] (st' := [.int (s25.2.1 63 13), .ref 73]) (σ' := s25) 16 (And.intro rfl (trivial)) (fun _ hh => (Exists.intro (some (.int v22), s23) (And.intro (e_M_readsSum (d + 2) hz56) (And.intro (fun _ => (And.intro c58 (Exists.intro (some (.int v24), s25) (And.intro (e_M_readsCondition d hz59) (And.intro (fun _ => hh) (fun q => absurd c60 q)))))) (fun q => absurd c57 q))))) ?_
                        by_cases c61 : ((s25.2.1 63 13) < 0 ∨ 16 ≤ ((s25.2.1 63 13)).toNatClampNeg)
                        · rw [if_pos c61] at h; cases h
                        · rw [if_neg c61] at h
                          have h := Option.some.inj h
                          subst r
                          exact ax_end 11 (And.intro c61 (And.intro (Or.inr rfl) rfl))
        · rw [if_neg c47] at h
          refine ax_cut (pc' := 30) (la := [some (.ref 63), some (.int v1)]) [some (.ref 63), none] (st' := [.ref 63]) (σ' := s) 16 (And.intro rfl (trivial)) (fun _ hh => (Exists.intro (some (.int v1), s) (And.intro (e_M_here (d + 6) hz1) (And.intro (fun q => absurd q c2) (fun _ => (And.intro (fun q => absurd q c17) (fun _ => (And.intro (fun q => absurd q c32) (fun _ => (And.intro (fun q => absurd q c47) (fun _ => hh))))))))))) ?_
          have h := Option.some.inj h
          subst r
          exact ax_end 5 (Exists.intro (some (.int (M_wrongAt (1 : Int32) (s.2.1 63 6) s).1), (M_wrongAt (1 : Int32) (s.2.1 63 6) s).2) (And.intro (e_M_wrongAt (d + 6) (1 : Int32) (s.2.1 63 6) s) (And.intro (ax_ev_bool rfl (e_M_wrongAt (d + 6) (1 : Int32) (s.2.1 63 6) s)) rfl)))
def M_takes (x1 : Int32)  (s : ax_S) : Option (Int32 × ax_S) :=
  match M_here s with
  | none => none
  | some v1 =>
    if v1 = x1 then (
      some ((1 : Int32), (ax_sI s 63 6 ((s.2.1 63 6) + (1 : Int32))))) else
    some ((M_wrongAt (1 : Int32) (s.2.1 63 6) s).1, (M_wrongAt (1 : Int32) (s.2.1 63 6) s).2)
theorem e_M_takes (d : Nat) {x1 : Int32} {s : ax_S} {r : Int32 × ax_S} (h : M_takes x1 s = some r) : ax_ev true (d + 2) 204 [.ref 63, .int x1] s (some (.int r.1), r.2) := by
  refine ⟨Nat.le_of_ble_eq_true rfl, ?_⟩
  show ax_go true none (ax_ev true (d + 1)) ax_m204 0 [some (.ref 63), some (.int x1)] [] s _
  unfold M_takes at h
  cases hz1 : M_here s with
  | none => rw [hz1] at h; cases h
  | some v1 =>
  rw [hz1] at h
  dsimp only at h
  by_cases c2 : v1 = x1
  · rw [if_pos c2] at h
    have h := Option.some.inj h
    subst r
    exact ax_end 12 (Exists.intro (some (.int v1), s) (And.intro (e_M_here d hz1) (And.intro (fun _ => (And.intro (Or.inr rfl) rfl)) (fun q => absurd c2 q))))
  · rw [if_neg c2] at h
    have h := Option.some.inj h
    subst r
    exact ax_end 10 (Exists.intro (some (.int v1), s) (And.intro (e_M_here d hz1) (And.intro (fun q => absurd q c2) (fun _ => (Exists.intro (some (.int (M_wrongAt (1 : Int32) (s.2.1 63 6) s).1), (M_wrongAt (1 : Int32) (s.2.1 63 6) s).2) (And.intro (e_M_wrongAt d (1 : Int32) (s.2.1 63 6) s) (And.intro (ax_ev_bool rfl (e_M_wrongAt d (1 : Int32) (s.2.1 63 6) s)) rfl)))))))
def M_law_l31 : Nat → Int32 → ax_S → Option (Int32 × ax_S)
  | 0, _, _ => none
  | n + 1, x2, s =>
    if x2 = 0 then (
      some (x2, s)) else
    if (s.2.1 63 7) ≤ (s.2.1 63 6) then (
      some (x2, s)) else
    match M_takes (59 : Int32) s with
    | none => none
    | some (v3, s4) =>
      if v3 = 0 then (
        M_law_l31 n (0 : Int32) s4) else
      match M_readsRule s4 with
      | none => none
      | some (v5, s6) =>
        if v5 = 0 then (
          M_law_l31 n (0 : Int32) s6) else
        M_law_l31 n (1 : Int32) s6
def M_law_l95 : Nat → Int32 → ax_S → Option (ax_S)
  | 0, _, _ => none
  | n + 1, x3, s =>
    if (s.2.1 63 11) ≤ x3 then (
      some s) else
    if (x3 < 0 ∨ 260 ≤ (x3).toNatClampNeg) then none else
    if (x3 < 0 ∨ 260 ≤ (x3).toNatClampNeg) then none else
    M_law_l95 n (x3 + (1)) (ax_sI s 74 (x3).toNatClampNeg (s.2.1 68 (x3).toNatClampNeg))
def M_law_l123 : Nat → Int32 → ax_S → Option (ax_S)
  | 0, _, _ => none
  | n + 1, x3, s =>
    if (s.2.1 63 13) ≤ x3 then (
      some s) else
    if (x3 < 0 ∨ 16 ≤ (x3).toNatClampNeg) then none else
    if (x3 < 0 ∨ 16 ≤ (x3).toNatClampNeg) then none else
    if (x3 < 0 ∨ 16 ≤ (x3).toNatClampNeg) then none else
    if (x3 < 0 ∨ 16 ≤ (x3).toNatClampNeg) then none else
    if (x3 < 0 ∨ 16 ≤ (x3).toNatClampNeg) then none else
    if (x3 < 0 ∨ 16 ≤ (x3).toNatClampNeg) then none else
    if (x3 < 0 ∨ 16 ≤ (x3).toNatClampNeg) then none else
    if (x3 < 0 ∨ 16 ≤ (x3).toNatClampNeg) then none else
    M_law_l123 n (x3 + (1)) (ax_sI (ax_sI (ax_sI (ax_sI s 75 (x3).toNatClampNeg (s.2.1 70 (x3).toNatClampNeg)) 76 (x3).toNatClampNeg (s.2.1 71 (x3).toNatClampNeg)) 77 (x3).toNatClampNeg (s.2.1 72 (x3).toNatClampNeg)) 78 (x3).toNatClampNeg (s.2.1 73 (x3).toNatClampNeg))
def M_law (x1 : Int32)  (s : ax_S) : Option (Int32 × ax_S) :=
  if (M_in x1 (1 : Int32) (240 : Int32) s) = 0 then (
    some ((-1 : Int32), s)) else
  if x1 ≤ (s.2.1 63 5) then (
    match M_readsRule (M_beginsText x1 s) with
    | none => none
    | some (v1, s2) =>
      match M_law_l31 70000 v1 s2 with
      | none => none
      | some (v7, s8) =>
        if v7 = 0 then (
          some ((s8.2.1 63 8), (ax_sI s8 63 5 (0 : Int32)))) else
        match M_law_l95 70000 (0 : Int32) (ax_sI (ax_sI s8 63 5 (0 : Int32)) 63 14 (s8.2.1 63 13)) with
        | none => none
        | some s9 =>
          match M_law_l123 70000 (0 : Int32) s9 with
          | none => none
          | some s10 =>
            some ((s10.2.1 63 13), s10)) else
  some ((-1 : Int32), s)
theorem w_M_law_l31 (d : Nat) {o : ax_O} : ∀ (n : Nat) (x2 : Int32) (s : ax_S) (r : Int32 × ax_S) (h : M_law_l31 n x2 s = some r) (hk0 : ∀ (t0 : Int32) (t1 : ax_S), r = (t0, t1) → ax_go true none (ax_ev true (d + 8)) ax_m183 71 [some (.ref 63), none, some (.int t0), none] [] t1 o), ax_go true none (ax_ev true (d + 8)) ax_m183 31 [some (.ref 63), none, some (.int x2), none] [] s o := by
  intro n
  induction n with
  | zero => intro x2 s r h hk0; cases h
  | succ n ih =>
    intro x2 s r h hk0
    rw [M_law_l31] at h
    by_cases c1 : x2 = 0
    · rw [if_pos c1] at h
      have h := Option.some.inj h
      subst r
      exact ax_cut (pc' := 71) (la := [some (.ref 63), none, some (.int x2), none]) [some (.ref 63), none, some (.int x2), none] (st' := []) (σ' := s) 2 (And.intro rfl (And.intro rfl (trivial))) (fun _ hh => (And.intro (fun _ => hh) (fun q => absurd c1 q))) (hk0 _ _ rfl)
    · rw [if_neg c1] at h
      by_cases c2 : (s.2.1 63 7) ≤ (s.2.1 63 6)
      · rw [if_pos c2] at h
        have h := Option.some.inj h
        subst r
        exact ax_cut (pc' := 71) (la := [some (.ref 63), none, some (.int x2), none]) [some (.ref 63), none, some (.int x2), none] (st' := []) (σ' := s) 7 (And.intro rfl (And.intro rfl (trivial))) (fun _ hh => (And.intro (fun q => absurd q c1) (fun _ => (And.intro (fun _ => hh) (fun q => absurd c2 q))))) (hk0 _ _ rfl)
      · rw [if_neg c2] at h
        cases hz3 : M_takes (59 : Int32) s with
        | none => rw [hz3] at h; cases h
        | some z3 =>
        rw [hz3] at h
        obtain ⟨v3, s4⟩ := z3
        dsimp only at h
        by_cases c4 : v3 = 0
        · rw [if_pos c4] at h
          exact ax_cut (pc' := 31) (la := [some (.ref 63), none, some (.int (0 : Int32)), none]) [some (.ref 63), none, some (.int (0 : Int32)), none] (st' := []) (σ' := s4) 14 (And.intro rfl (And.intro rfl (trivial))) (fun _ hh => (And.intro (fun q => absurd q c1) (fun _ => (And.intro (fun q => absurd q c2) (fun _ => (Exists.intro (some (.int v3), s4) (And.intro (e_M_takes (d + 6) hz3) (And.intro (fun _ => hh) (fun q => absurd c4 q))))))))) (ih (0 : Int32) s4 _ h hk0)
        · rw [if_neg c4] at h
          cases hz5 : M_readsRule s4 with
          | none => rw [hz5] at h; cases h
          | some z5 =>
          rw [hz5] at h
          obtain ⟨v5, s6⟩ := z5
          dsimp only at h
          by_cases c6 : v5 = 0
          · rw [if_pos c6] at h
            refine ax_cut (pc' := 68) (la := [some (.ref 63), none, some (.int (0 : Int32)), none]) [some (.ref 63), none, some (.int (0 : Int32)), none] (st' := []) (σ' := s6) 16 (And.intro rfl (And.intro rfl (trivial))) (fun _ hh => (And.intro (fun q => absurd q c1) (fun _ => (And.intro (fun q => absurd q c2) (fun _ => (Exists.intro (some (.int v3), s4) (And.intro (e_M_takes (d + 6) hz3) (And.intro (fun q => absurd q c4) (fun _ => (Exists.intro (some (.int v5), s6) (And.intro (e_M_readsRule d hz5) (And.intro (fun _ => hh) (fun q => absurd c6 q))))))))))))) ?_
            exact ax_cut (pc' := 31) (la := [some (.ref 63), none, some (.int (0 : Int32)), none]) [some (.ref 63), none, some (.int (0 : Int32)), none] (st' := []) (σ' := s6) 1 (And.intro rfl (And.intro rfl (trivial))) (fun _ hh => hh) (ih (0 : Int32) s6 _ h hk0)
          · rw [if_neg c6] at h
            refine ax_cut (pc' := 67) (la := [some (.ref 63), none, some (.int x2), none]) [some (.ref 63), none, none, none] (st' := [.int (1 : Int32)]) (σ' := s6) 16 (And.intro rfl (trivial)) (fun _ hh => (And.intro (fun q => absurd q c1) (fun _ => (And.intro (fun q => absurd q c2) (fun _ => (Exists.intro (some (.int v3), s4) (And.intro (e_M_takes (d + 6) hz3) (And.intro (fun q => absurd q c4) (fun _ => (Exists.intro (some (.int v5), s6) (And.intro (e_M_readsRule d hz5) (And.intro (fun q => absurd q c6) (fun _ => hh))))))))))))) ?_
            exact ax_cut (pc' := 31) (la := [some (.ref 63), none, some (.int (1 : Int32)), none]) [some (.ref 63), none, some (.int (1 : Int32)), none] (st' := []) (σ' := s6) 2 (And.intro rfl (And.intro rfl (trivial))) (fun _ hh => hh) (ih (1 : Int32) s6 _ h hk0)
theorem w_M_law_l95 (d : Nat) {o : ax_O} : ∀ (n : Nat) (x3 : Int32) (s : ax_S) (r : ax_S) (h : M_law_l95 n x3 s = some r) (hk0 : ∀ (t0 : ax_S), r = t0 → ax_go true none (ax_ev true (d + 8)) ax_m183 121 [some (.ref 63), none, none, none] [] t0 o), ax_go true none (ax_ev true (d + 8)) ax_m183 95 [some (.ref 63), none, none, some (.int x3)] [] s o := by
  intro n
  induction n with
  | zero => intro x3 s r h hk0; cases h
  | succ n ih =>
    intro x3 s r h hk0
    rw [M_law_l95] at h
    by_cases c1 : (s.2.1 63 11) ≤ x3
    · rw [if_pos c1] at h
      have h := Option.some.inj h
      subst r
      exact ax_cut (pc' := 121) (la := [some (.ref 63), none, none, some (.int x3)]) [some (.ref 63), none, none, none] (st' := []) (σ' := s) 4 (And.intro rfl (trivial)) (fun _ hh => (And.intro (fun _ => hh) (fun q => absurd c1 q))) (hk0 _ rfl)
    · rw [if_neg c1] at h
      by_cases c2 : (x3 < 0 ∨ 260 ≤ (x3).toNatClampNeg)
      · rw [if_pos c2] at h; cases h
      · rw [if_neg c2] at h
        by_cases c3 : (x3 < 0 ∨ 260 ≤ (x3).toNatClampNeg)
        · rw [if_pos c3] at h; cases h
        · rw [if_neg c3] at h
          exact ax_cut (pc' := 95) (la := [some (.ref 63), none, none, some (.int (x3 + (1)))]) [some (.ref 63), none, none, some (.int (x3 + (1)))] (st' := []) (σ' := (ax_sI s 74 (x3).toNatClampNeg (s.2.1 68 (x3).toNatClampNeg))) 14 (And.intro rfl (And.intro rfl (trivial))) (fun _ hh => (And.intro (fun q => absurd q c1) (fun _ => (And.intro c2 (And.intro c3 hh))))) (ih (x3 + (1)) (ax_sI s 74 (x3).toNatClampNeg (s.2.1 68 (x3).toNatClampNeg)) _ h hk0)
theorem w_M_law_l123 (d : Nat) {o : ax_O} : ∀ (n : Nat) (x3 : Int32) (s : ax_S) (r : ax_S) (h : M_law_l123 n x3 s = some r) (hk0 : ∀ (t0 : ax_S), r = t0 → ax_go true none (ax_ev true (d + 8)) ax_m183 185 [some (.ref 63), none, none, none] [] t0 o), ax_go true none (ax_ev true (d + 8)) ax_m183 123 [some (.ref 63), none, none, some (.int x3)] [] s o := by
  intro n
  induction n with
  | zero => intro x3 s r h hk0; cases h
  | succ n ih =>
    intro x3 s r h hk0
    rw [M_law_l123] at h
    by_cases c1 : (s.2.1 63 13) ≤ x3
    · rw [if_pos c1] at h
      have h := Option.some.inj h
      subst r
      exact ax_cut (pc' := 185) (la := [some (.ref 63), none, none, some (.int x3)]) [some (.ref 63), none, none, none] (st' := []) (σ' := s) 4 (And.intro rfl (trivial)) (fun _ hh => (And.intro (fun _ => hh) (fun q => absurd c1 q))) (hk0 _ rfl)
    · rw [if_neg c1] at h
      by_cases c2 : (x3 < 0 ∨ 16 ≤ (x3).toNatClampNeg)
      · rw [if_pos c2] at h; cases h
      · rw [if_neg c2] at h
        by_cases c3 : (x3 < 0 ∨ 16 ≤ (x3).toNatClampNeg)
        · rw [if_pos c3] at h; cases h
        · rw [if_neg c3] at h
          refine ax_cut (pc' := 149) (la := [some (.ref 63), none, none, some (.int x3)]) [some (.ref 63), none, none, some (.int x3)] (st' := [.ref 63, .int x3, .ref 76]) (σ' := (ax_sI s 75 (x3).toNatClampNeg (s.2.1 70 (x3).toNatClampNeg))) 16 (And.intro rfl (And.intro rfl (trivial))) (fun _ hh => (And.intro (fun q => absurd q c1) (fun _ => (And.intro c2 (And.intro c3 hh))))) ?_
          by_cases c4 : (x3 < 0 ∨ 16 ≤ (x3).toNatClampNeg)
          · rw [if_pos c4] at h; cases h
          · rw [if_neg c4] at h
            by_cases c5 : (x3 < 0 ∨ 16 ≤ (x3).toNatClampNeg)
            · rw [if_pos c5] at h; cases h
            · rw [if_neg c5] at h
              by_cases c6 : (x3 < 0 ∨ 16 ≤ (x3).toNatClampNeg)
              · rw [if_pos c6] at h; cases h
              · rw [if_neg c6] at h
                by_cases c7 : (x3 < 0 ∨ 16 ≤ (x3).toNatClampNeg)
                · rw [if_pos c7] at h; cases h
                · rw [if_neg c7] at h
                  refine ax_cut (pc' := 173) (la := [some (.ref 63), none, none, some (.int x3)]) [some (.ref 63), none, none, some (.int x3)] (st' := [.ref 63, .int x3, .ref 78]) (σ' := (ax_sI (ax_sI (ax_sI s 75 (x3).toNatClampNeg (s.2.1 70 (x3).toNatClampNeg)) 76 (x3).toNatClampNeg (s.2.1 71 (x3).toNatClampNeg)) 77 (x3).toNatClampNeg (s.2.1 72 (x3).toNatClampNeg))) 16 (And.intro rfl (And.intro rfl (trivial))) (fun _ hh => (And.intro c4 (And.intro c5 (And.intro c6 (And.intro c7 hh))))) ?_
                  by_cases c8 : (x3 < 0 ∨ 16 ≤ (x3).toNatClampNeg)
                  · rw [if_pos c8] at h; cases h
                  · rw [if_neg c8] at h
                    by_cases c9 : (x3 < 0 ∨ 16 ≤ (x3).toNatClampNeg)
                    · rw [if_pos c9] at h; cases h
                    · rw [if_neg c9] at h
                      exact ax_cut (pc' := 123) (la := [some (.ref 63), none, none, some (.int (x3 + (1)))]) [some (.ref 63), none, none, some (.int (x3 + (1)))] (st' := []) (σ' := (ax_sI (ax_sI (ax_sI (ax_sI s 75 (x3).toNatClampNeg (s.2.1 70 (x3).toNatClampNeg)) 76 (x3).toNatClampNeg (s.2.1 71 (x3).toNatClampNeg)) 77 (x3).toNatClampNeg (s.2.1 72 (x3).toNatClampNeg)) 78 (x3).toNatClampNeg (s.2.1 73 (x3).toNatClampNeg))) 6 (And.intro rfl (And.intro rfl (trivial))) (fun _ hh => (And.intro c8 (And.intro c9 hh))) (ih (x3 + (1)) (ax_sI (ax_sI (ax_sI (ax_sI s 75 (x3).toNatClampNeg (s.2.1 70 (x3).toNatClampNeg)) 76 (x3).toNatClampNeg (s.2.1 71 (x3).toNatClampNeg)) 77 (x3).toNatClampNeg (s.2.1 72 (x3).toNatClampNeg)) 78 (x3).toNatClampNeg (s.2.1 73 (x3).toNatClampNeg)) _ h hk0)
theorem e_M_law (d : Nat) {x1 : Int32} {s : ax_S} {r : Int32 × ax_S} (h : M_law x1 s = some r) : ax_ev true (d + 9) 183 [.ref 63, .int x1] s (some (.int r.1), r.2) := by
  refine ⟨Nat.le_of_ble_eq_true rfl, ?_⟩
  show ax_go true none (ax_ev true (d + 8)) ax_m183 0 [some (.ref 63), some (.int x1), none, none] [] s _
  unfold M_law at h
  by_cases c1 : (M_in x1 (1 : Int32) (240 : Int32) s) = 0
  · rw [if_pos c1] at h
    have h := Option.some.inj h
    subst r
    exact ax_end 7 (Exists.intro (some (.int (M_in x1 (1 : Int32) (240 : Int32) s)), s) (And.intro (e_M_in (d + 7) x1 (1 : Int32) (240 : Int32) s) (And.intro (fun _ => rfl) (fun q => absurd c1 q))))
  · rw [if_neg c1] at h
    by_cases c2 : x1 ≤ (s.2.1 63 5)
    · rw [if_pos c2] at h
      cases hz3 : M_readsRule (M_beginsText x1 s) with
      | none => rw [hz3] at h; cases h
      | some z3 =>
      rw [hz3] at h
      obtain ⟨v1, s2⟩ := z3
      dsimp only at h
      cases hz4 : M_law_l31 70000 v1 s2 with
      | none => rw [hz4] at h; cases h
      | some z4 =>
      rw [hz4] at h
      refine ax_cut (pc' := 31) (la := [some (.ref 63), some (.int x1), some (.int v1), none]) [some (.ref 63), none, some (.int v1), none] (st' := []) (σ' := s2) 15 (And.intro rfl (And.intro rfl (trivial))) (fun _ hh => (Exists.intro (some (.int (M_in x1 (1 : Int32) (240 : Int32) s)), s) (And.intro (e_M_in (d + 7) x1 (1 : Int32) (240 : Int32) s) (And.intro (fun q => absurd q c1) (fun _ => (And.intro (fun _ => (Exists.intro (none, (M_beginsText x1 s)) (And.intro (e_M_beginsText (d + 7) x1 s) (Exists.intro (some (.int v1), s2) (And.intro (e_M_readsRule d hz3) hh))))) (fun q => absurd c2 q))))))) (w_M_law_l31 d 70000 v1 s2 _ hz4 ?_)
      · intro v7 s8 hq
        subst z4
        dsimp only at h
        by_cases c5 : v7 = 0
        · rw [if_pos c5] at h
          have h := Option.some.inj h
          subst r
          exact ax_end 8 (And.intro (fun q => absurd c5 q) (fun _ => rfl))
        · rw [if_neg c5] at h
          cases hz6 : M_law_l95 70000 (0 : Int32) (ax_sI (ax_sI s8 63 5 (0 : Int32)) 63 14 (s8.2.1 63 13)) with
          | none => rw [hz6] at h; cases h
          | some z6 =>
          rw [hz6] at h
          refine ax_cut (pc' := 95) (la := [some (.ref 63), none, some (.int v7), some (.int (0 : Int32))]) [some (.ref 63), none, none, some (.int (0 : Int32))] (st' := []) (σ' := (ax_sI (ax_sI s8 63 5 (0 : Int32)) 63 14 (s8.2.1 63 13))) 11 (And.intro rfl (And.intro rfl (trivial))) (fun _ hh => (And.intro (fun _ => hh) (fun q => absurd c5 q))) (w_M_law_l95 d 70000 (0 : Int32) (ax_sI (ax_sI s8 63 5 (0 : Int32)) 63 14 (s8.2.1 63 13)) _ hz6 ?_)
          · intro s9 hq
            subst z6
            dsimp only at h
            cases hz7 : M_law_l123 70000 (0 : Int32) s9 with
            | none => rw [hz7] at h; cases h
            | some z7 =>
            rw [hz7] at h
            refine ax_cut (pc' := 123) (la := [some (.ref 63), none, none, some (.int (0 : Int32))]) [some (.ref 63), none, none, some (.int (0 : Int32))] (st' := []) (σ' := s9) 2 (And.intro rfl (And.intro rfl (trivial))) (fun _ hh => hh) (w_M_law_l123 d 70000 (0 : Int32) s9 _ hz7 ?_)
            · intro s10 hq
              subst z7
              dsimp only at h
              have h := Option.some.inj h
              subst r
              exact ax_end 3 rfl
    · rw [if_neg c2] at h
      have h := Option.some.inj h
      subst r
      exact ax_end 11 (Exists.intro (some (.int (M_in x1 (1 : Int32) (240 : Int32) s)), s) (And.intro (e_M_in (d + 7) x1 (1 : Int32) (240 : Int32) s) (And.intro (fun q => absurd q c1) (fun _ => (And.intro (fun q => absurd q c2) (fun _ => rfl))))))
