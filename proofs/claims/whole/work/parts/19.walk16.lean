def M_explains_l3 : Nat → Int32 → Int32 → Int32 → Int32 → ax_S → Option (Int32)
  | 0, _, _, _, _, _ => none
  | n + 1, x1, x2, x3, x4, s =>
    if x3 ≤ x4 then (
      some (1 : Int32)) else
    match M_octet (((2 : Int32) * x2) + ((2 : Int32) * x4)) s with
    | none => none
    | some v1 =>
      if (M_has x1 v1 s) = 0 then (
        match M_octet ((((2 : Int32) * x2) + ((2 : Int32) * x4)) + (1 : Int32)) s with
        | none => none
        | some v2 =>
          if (M_has x1 v2 s) = 0 then (
            some (0 : Int32)) else
          M_explains_l3 n x1 x2 x3 (x4 + (1)) s) else
      M_explains_l3 n x1 x2 x3 (x4 + (1)) s
def M_explains (x1 : Int32) (x2 : Int32) (x3 : Int32)  (s : ax_S) : Option (Int32) :=
  match M_explains_l3 70000 x1 x2 x3 (0 : Int32) s with
  | none => none
  | some r => some r
theorem w_M_explains_l3 (d : Nat) {o : ax_O} : ∀ (n : Nat) (x1 : Int32) (x2 : Int32) (x3 : Int32) (x4 : Int32) (s : ax_S) (r : Int32) (h : M_explains_l3 n x1 x2 x3 x4 s = some r) (hkr : ∀ q, r = q → o = (some (.int q), s)), ax_go true none (ax_ev true (d + 1)) ax_m278 3 [some (.ref 63), some (.int x1), some (.int x2), some (.int x3), some (.int x4)] [] s o := by
  intro n
  induction n with
  | zero => intro x1 x2 x3 x4 s r h hkr; cases h
  | succ n ih =>
    intro x1 x2 x3 x4 s r h hkr
    rw [M_explains_l3] at h
    by_cases c1 : x3 ≤ x4
    · rw [if_pos c1] at h
      have h := Option.some.inj h
      subst r
      exact ax_end 5 (And.intro (fun _ => (And.intro (Or.inr rfl) (hkr _ rfl))) (fun q => absurd c1 q))
    · rw [if_neg c1] at h
      cases hz2 : M_octet (((2 : Int32) * x2) + ((2 : Int32) * x4)) s with
      | none => rw [hz2] at h; cases h
      | some v1 =>
      rw [hz2] at h
      dsimp only at h
      by_cases c3 : (M_has x1 v1 s) = 0
      · rw [if_pos c3] at h
        refine ax_cut (pc' := 29) (la := [some (.ref 63), some (.int x1), some (.int x2), some (.int x3), some (.int x4)]) [some (.ref 63), some (.int x1), some (.int x2), some (.int x3), some (.int x4)] (st' := [.int x1]) (σ' := s) 16 (And.intro rfl (And.intro rfl (And.intro rfl (And.intro rfl (And.intro rfl (trivial)))))) (fun _ hh => (And.intro (fun q => absurd q c1) (fun _ => (Exists.intro (some (.int v1), s) (And.intro (e_M_octet d hz2) (Exists.intro (some (.int (M_has x1 v1 s)), s) (And.intro (e_M_has d x1 v1 s) (And.intro (fun q => absurd c3 q) (fun _ => hh))))))))) ?_
        cases hz4 : M_octet ((((2 : Int32) * x2) + ((2 : Int32) * x4)) + (1 : Int32)) s with
        | none => rw [hz4] at h; cases h
        | some v2 =>
        rw [hz4] at h
        dsimp only at h
        by_cases c5 : (M_has x1 v2 s) = 0
        · rw [if_pos c5] at h
          have h := Option.some.inj h
          subst r
          exact ax_end 15 (Exists.intro (some (.int v2), s) (And.intro (e_M_octet d hz4) (Exists.intro (some (.int (M_has x1 v2 s)), s) (And.intro (e_M_has d x1 v2 s) (And.intro (fun q => absurd c5 q) (fun _ => (And.intro (Or.inl rfl) (hkr _ rfl))))))))
        · rw [if_neg c5] at h
          exact ax_cut (pc' := 3) (la := [some (.ref 63), some (.int x1), some (.int x2), some (.int x3), some (.int (x4 + (1)))]) [some (.ref 63), some (.int x1), some (.int x2), some (.int x3), some (.int (x4 + (1)))] (st' := []) (σ' := s) 15 (And.intro rfl (And.intro rfl (And.intro rfl (And.intro rfl (And.intro rfl (trivial)))))) (fun _ hh => (Exists.intro (some (.int v2), s) (And.intro (e_M_octet d hz4) (Exists.intro (some (.int (M_has x1 v2 s)), s) (And.intro (e_M_has d x1 v2 s) (And.intro (fun _ => hh) (fun q => absurd c5 q))))))) (ih x1 x2 x3 (x4 + (1)) s _ h hkr)
      · rw [if_neg c3] at h
        refine ax_cut (pc' := 54) (la := [some (.ref 63), some (.int x1), some (.int x2), some (.int x3), some (.int (x4 + (1)))]) [some (.ref 63), some (.int x1), some (.int x2), some (.int x3), some (.int (x4 + (1)))] (st' := []) (σ' := s) 16 (And.intro rfl (And.intro rfl (And.intro rfl (And.intro rfl (And.intro rfl (trivial)))))) (fun _ hh => (And.intro (fun q => absurd q c1) (fun _ => (Exists.intro (some (.int v1), s) (And.intro (e_M_octet d hz2) (Exists.intro (some (.int (M_has x1 v1 s)), s) (And.intro (e_M_has d x1 v1 s) (And.intro (fun _ => hh) (fun q => absurd c3 q))))))))) ?_
        exact ax_cut (pc' := 3) (la := [some (.ref 63), some (.int x1), some (.int x2), some (.int x3), some (.int (x4 + (1)))]) [some (.ref 63), some (.int x1), some (.int x2), some (.int x3), some (.int (x4 + (1)))] (st' := []) (σ' := s) 1 (And.intro rfl (And.intro rfl (And.intro rfl (And.intro rfl (And.intro rfl (trivial)))))) (fun _ hh => hh) (ih x1 x2 x3 (x4 + (1)) s _ h hkr)
theorem e_M_explains (d : Nat) {x1 : Int32} {x2 : Int32} {x3 : Int32} {s : ax_S} {r : Int32} (h : M_explains x1 x2 x3 s = some r) : ax_ev true (d + 2) 278 [.ref 63, .int x1, .int x2, .int x3] s (some (.int r), s) := by
  refine ⟨Nat.le_of_ble_eq_true rfl, ?_⟩
  show ax_go true none (ax_ev true (d + 1)) ax_m278 0 [some (.ref 63), some (.int x1), some (.int x2), some (.int x3), none] [] s _
  unfold M_explains at h
  cases hz1 : M_explains_l3 70000 x1 x2 x3 (0 : Int32) s with
  | none => rw [hz1] at h; cases h
  | some z1 =>
  rw [hz1] at h
  refine ax_cut (pc' := 3) (la := [some (.ref 63), some (.int x1), some (.int x2), some (.int x3), some (.int (0 : Int32))]) [some (.ref 63), some (.int x1), some (.int x2), some (.int x3), some (.int (0 : Int32))] (st' := []) (σ' := s) 2 (And.intro rfl (And.intro rfl (And.intro rfl (And.intro rfl (And.intro rfl (trivial)))))) (fun _ hh => hh) (w_M_explains_l3 d 70000 x1 x2 x3 (0 : Int32) s _ hz1 ?_)
  · intro q hq
    subst z1
    dsimp only at h
    cases h
    rfl
def M_told_l65 : Nat → Int32 → Int32 → Int32 → Int32 → Int32 → ax_S → Option ((Unit) ⊕ (Int32 × ax_S))
  | 0, _, _, _, _, _, _ => none
  | n + 1, x1, x2, x3, x4, x5, s =>
    if ((2 : Int32) * x2) ≤ x5 then (
      some (.inl ())) else
    match M_octet (((2 : Int32) * x1) + x5) s with
    | none => none
    | some v1 =>
      if v1 ≤ (15 : Int32) then (
        M_told_l65 n x1 x2 x3 x4 (x5 + (1)) s) else
      some (.inr ((-3 : Int32), s))
def M_told_l103 : Nat → Int32 → Int32 → Int32 → Int32 → Int32 → ax_S → Option (Int32)
  | 0, _, _, _, _, _, _ => none
  | n + 1, x1, x2, x4, x5, x6, s =>
    if x1 ≤ x6 then (
      some x5) else
    match M_octet ((2 : Int32) * x6) s with
    | none => none
    | some v2 =>
      match M_octet (((2 : Int32) * x6) + (1 : Int32)) s with
      | none => none
      | some v3 =>
        M_told_l103 n x1 x2 x4 (x5 &&& ((((256 : Int32) * v2) + v3) ^^^ (-1 : Int32))) (x6 + (1)) s
def M_told_l160 : Nat → Int32 → Int32 → Int32 → Int32 → Int32 → Int32 → ax_S → Option (Int32)
  | 0, _, _, _, _, _, _, _ => none
  | n + 1, x1, x2, x4, x5, x6, x7, s =>
    if x5 < x7 then (
      some x6) else
    if (x7 &&& (x5 ^^^ (-1 : Int32))) = 0 then (
      if x6 = (-2 : Int32) then (
        match M_explains x7 x1 x2 s with
        | none => none
        | some v5 =>
          if v5 = 0 then (
            M_told_l160 n x1 x2 x4 x5 x6 (x7 + (1)) s) else
          M_told_l160 n x1 x2 x4 x5 x7 (x7 + (1)) s) else
      match M_bits x7 s with
      | none => none
      | some v6 =>
        match M_bits x6 s with
        | none => none
        | some v7 =>
          if v7 ≤ v6 then (
            M_told_l160 n x1 x2 x4 x5 x6 (x7 + (1)) s) else
          match M_explains x7 x1 x2 s with
          | none => none
          | some v8 =>
            if v8 = 0 then (
              M_told_l160 n x1 x2 x4 x5 x6 (x7 + (1)) s) else
            M_told_l160 n x1 x2 x4 x5 x7 (x7 + (1)) s) else
    M_told_l160 n x1 x2 x4 x5 x6 (x7 + (1)) s
def M_told (x1 : Int32) (x2 : Int32) (x3 : Int32) (x4 : Int32)  (s : ax_S) : Option (Int32 × ax_S) :=
  if (M_in x1 (1 : Int32) (12 : Int32) s) = 0 then (
    some ((-1 : Int32), s)) else
  if (M_in x2 (0 : Int32) (10 : Int32) s) = 0 then (
    some ((-1 : Int32), s)) else
  if (M_in x3 (0 : Int32) (65535 : Int32) s) = 0 then (
    some ((-1 : Int32), s)) else
  if (M_in x4 (0 : Int32) (2 : Int32) s) = 0 then (
    some ((-1 : Int32), s)) else
  if (((2 : Int32) * x1) + ((2 : Int32) * x2)) ≤ (s.2.1 63 5) then (
    match M_told_l65 70000 x1 x2 x3 x4 (0 : Int32) (ax_sI s 63 5 (0 : Int32)) with
    | none => none
    | some (.inl _) =>
      match M_told_l103 70000 x1 x2 x4 x3 (0 : Int32) (ax_sI s 63 5 (0 : Int32)) with
      | none => none
      | some v4 =>
        if x4 = 0 then (
          some (v4, (ax_sI s 63 5 (0 : Int32)))) else
        match M_told_l160 70000 x1 x2 x4 v4 (-2 : Int32) (0 : Int32) (ax_sI s 63 5 (0 : Int32)) with
        | none => none
        | some v9 =>
          if x4 = (2 : Int32) then (
            some (v9, (ax_sI s 63 5 (0 : Int32)))) else
          if v9 = (-2 : Int32) then (
            some (v9, (ax_sI s 63 5 (0 : Int32)))) else
          match M_bits v9 (ax_sI s 63 5 (0 : Int32)) with
          | none => none
          | some v10 =>
            some (v10, (ax_sI s 63 5 (0 : Int32)))
    | some (.inr r) => some r) else
  some ((-1 : Int32), s)
theorem w_M_told_l65 (d : Nat) {o : ax_O} : ∀ (n : Nat) (x1 : Int32) (x2 : Int32) (x3 : Int32) (x4 : Int32) (x5 : Int32) (s : ax_S) (r : (Unit) ⊕ (Int32 × ax_S)) (h : M_told_l65 n x1 x2 x3 x4 x5 s = some r) (hk0 : r = (.inl ()) → ax_go true none (ax_ev true (d + 2)) ax_m277 97 [some (.ref 63), some (.int x1), some (.int x2), some (.int x3), some (.int x4), none, none, none] [] s o) (hkr : ∀ q, r = (.inr q) → o = (some (.int q.1), q.2)), ax_go true none (ax_ev true (d + 2)) ax_m277 65 [some (.ref 63), some (.int x1), some (.int x2), some (.int x3), some (.int x4), some (.int x5), none, none] [] s o := by
  intro n
  induction n with
  | zero => intro x1 x2 x3 x4 x5 s r h hk0 hkr; cases h
  | succ n ih =>
    intro x1 x2 x3 x4 x5 s r h hk0 hkr
    rw [M_told_l65] at h
    by_cases c1 : ((2 : Int32) * x2) ≤ x5
    · rw [if_pos c1] at h
      have h := Option.some.inj h
      subst r
      exact ax_cut (pc' := 97) (la := [some (.ref 63), some (.int x1), some (.int x2), some (.int x3), some (.int x4), some (.int x5), none, none]) [some (.ref 63), some (.int x1), some (.int x2), some (.int x3), some (.int x4), none, none, none] (st' := []) (σ' := s) 5 (And.intro rfl (And.intro rfl (And.intro rfl (And.intro rfl (And.intro rfl (trivial)))))) (fun _ hh => (And.intro (fun _ => hh) (fun q => absurd c1 q))) (hk0 rfl)
    · rw [if_neg c1] at h
      cases hz2 : M_octet (((2 : Int32) * x1) + x5) s with
      | none => rw [hz2] at h; cases h
      | some v1 =>
      rw [hz2] at h
      dsimp only at h
      by_cases c3 : v1 ≤ (15 : Int32)
      · rw [if_pos c3] at h
        exact ax_cut (pc' := 65) (la := [some (.ref 63), some (.int x1), some (.int x2), some (.int x3), some (.int x4), some (.int (x5 + (1))), none, none]) [some (.ref 63), some (.int x1), some (.int x2), some (.int x3), some (.int x4), some (.int (x5 + (1))), none, none] (st' := []) (σ' := s) 16 (And.intro rfl (And.intro rfl (And.intro rfl (And.intro rfl (And.intro rfl (And.intro rfl (trivial))))))) (fun _ hh => (And.intro (fun q => absurd q c1) (fun _ => (Exists.intro (some (.int v1), s) (And.intro (e_M_octet (d + 1) hz2) (And.intro (fun _ => hh) (fun q => absurd c3 q))))))) (ih x1 x2 x3 x4 (x5 + (1)) s _ h hk0 hkr)
      · rw [if_neg c3] at h
        have h := Option.some.inj h
        subst r
        exact ax_end 16 (And.intro (fun q => absurd q c1) (fun _ => (Exists.intro (some (.int v1), s) (And.intro (e_M_octet (d + 1) hz2) (And.intro (fun q => absurd q c3) (fun _ => (hkr _ rfl)))))))
theorem w_M_told_l103 (d : Nat) {o : ax_O} : ∀ (n : Nat) (x1 : Int32) (x2 : Int32) (x4 : Int32) (x5 : Int32) (x6 : Int32) (s : ax_S) (r : Int32) (h : M_told_l103 n x1 x2 x4 x5 x6 s = some r) (hk0 : ∀ (t0 : Int32), r = t0 → ax_go true none (ax_ev true (d + 2)) ax_m277 145 [some (.ref 63), some (.int x1), some (.int x2), none, some (.int x4), some (.int t0), none, none] [] s o), ax_go true none (ax_ev true (d + 2)) ax_m277 103 [some (.ref 63), some (.int x1), some (.int x2), none, some (.int x4), some (.int x5), some (.int x6), none] [] s o := by
  intro n
  induction n with
  | zero => intro x1 x2 x4 x5 x6 s r h hk0; cases h
  | succ n ih =>
    intro x1 x2 x4 x5 x6 s r h hk0
    rw [M_told_l103] at h
    by_cases c1 : x1 ≤ x6
    · rw [if_pos c1] at h
      have h := Option.some.inj h
      subst r
      exact ax_cut (pc' := 145) (la := [some (.ref 63), some (.int x1), some (.int x2), none, some (.int x4), some (.int x5), some (.int x6), none]) [some (.ref 63), some (.int x1), some (.int x2), none, some (.int x4), some (.int x5), none, none] (st' := []) (σ' := s) 3 (And.intro rfl (And.intro rfl (And.intro rfl (And.intro rfl (And.intro rfl (trivial)))))) (fun _ hh => (And.intro (fun _ => hh) (fun q => absurd c1 q))) (hk0 _ rfl)
    · rw [if_neg c1] at h
      cases hz2 : M_octet ((2 : Int32) * x6) s with
      | none => rw [hz2] at h; cases h
      | some v2 =>
      rw [hz2] at h
      dsimp only at h
      refine ax_cut (pc' := 129) (la := [some (.ref 63), some (.int x1), some (.int x2), none, some (.int x4), some (.int x5), some (.int x6), none]) [some (.ref 63), some (.int x1), some (.int x2), none, some (.int x4), none, some (.int x6), none] (st' := [.int (1 : Int32), .int ((2 : Int32) * x6), .ref 63, .int ((256 : Int32) * v2), .int x5]) (σ' := s) 16 (And.intro rfl (And.intro rfl (And.intro rfl (And.intro rfl (And.intro rfl (trivial)))))) (fun _ hh => (And.intro (fun q => absurd q c1) (fun _ => (Exists.intro (some (.int v2), s) (And.intro (e_M_octet (d + 1) hz2) hh))))) ?_
      cases hz3 : M_octet (((2 : Int32) * x6) + (1 : Int32)) s with
      | none => rw [hz3] at h; cases h
      | some v3 =>
      rw [hz3] at h
      dsimp only at h
      exact ax_cut (pc' := 103) (la := [some (.ref 63), some (.int x1), some (.int x2), none, some (.int x4), some (.int (x5 &&& ((((256 : Int32) * v2) + v3) ^^^ (-1 : Int32)))), some (.int (x6 + (1))), none]) [some (.ref 63), some (.int x1), some (.int x2), none, some (.int x4), some (.int (x5 &&& ((((256 : Int32) * v2) + v3) ^^^ (-1 : Int32)))), some (.int (x6 + (1))), none] (st' := []) (σ' := s) 9 (And.intro rfl (And.intro rfl (And.intro rfl (And.intro rfl (And.intro rfl (And.intro rfl (trivial))))))) (fun _ hh => (Exists.intro (some (.int v3), s) (And.intro (e_M_octet (d + 1) hz3) hh))) (ih x1 x2 x4 (x5 &&& ((((256 : Int32) * v2) + v3) ^^^ (-1 : Int32))) (x6 + (1)) s _ h hk0)
theorem w_M_told_l160 (d : Nat) {o : ax_O} : ∀ (n : Nat) (x1 : Int32) (x2 : Int32) (x4 : Int32) (x5 : Int32) (x6 : Int32) (x7 : Int32) (s : ax_S) (r : Int32) (h : M_told_l160 n x1 x2 x4 x5 x6 x7 s = some r) (hk0 : ∀ (t0 : Int32), r = t0 → ax_go true none (ax_ev true (d + 2)) ax_m277 221 [none, none, none, none, some (.int x4), none, some (.int t0), none] [] s o), ax_go true none (ax_ev true (d + 2)) ax_m277 160 [some (.ref 63), some (.int x1), some (.int x2), none, some (.int x4), some (.int x5), some (.int x6), some (.int x7)] [] s o := by
  intro n
  induction n with
  | zero => intro x1 x2 x4 x5 x6 x7 s r h hk0; cases h
  | succ n ih =>
    intro x1 x2 x4 x5 x6 x7 s r h hk0
    rw [M_told_l160] at h
    by_cases c1 : x5 < x7
    · rw [if_pos c1] at h
      have h := Option.some.inj h
      subst r
      exact ax_cut (pc' := 221) (la := [some (.ref 63), some (.int x1), some (.int x2), none, some (.int x4), some (.int x5), some (.int x6), some (.int x7)]) [none, none, none, none, some (.int x4), none, some (.int x6), none] (st' := []) (σ' := s) 3 (And.intro rfl (And.intro rfl (trivial))) (fun _ hh => (And.intro (fun _ => hh) (fun q => absurd c1 q))) (hk0 _ rfl)
    · rw [if_neg c1] at h
      by_cases c2 : (x7 &&& (x5 ^^^ (-1 : Int32))) = 0
      · rw [if_pos c2] at h
        by_cases c3 : x6 = (-2 : Int32)
        · rw [if_pos c3] at h
          refine ax_cut (pc' := 202) (la := [some (.ref 63), some (.int x1), some (.int x2), none, some (.int x4), some (.int x5), some (.int x6), some (.int x7)]) [some (.ref 63), some (.int x1), some (.int x2), none, some (.int x4), some (.int x5), some (.int x6), some (.int x7)] (st' := [.int x2, .int x1, .int x7, .ref 63]) (σ' := s) 16 (And.intro rfl (And.intro rfl (And.intro rfl (And.intro rfl (And.intro rfl (And.intro rfl (And.intro rfl (trivial)))))))) (fun _ hh => (And.intro (fun q => absurd q c1) (fun _ => (And.intro (fun q => absurd c2 q) (fun _ => (And.intro (fun _ => hh) (fun q => absurd c3 q))))))) ?_
          cases hz4 : M_explains x7 x1 x2 s with
          | none => rw [hz4] at h; cases h
          | some v5 =>
          rw [hz4] at h
          dsimp only at h
          by_cases c5 : v5 = 0
          · rw [if_pos c5] at h
            exact ax_cut (pc' := 160) (la := [some (.ref 63), some (.int x1), some (.int x2), none, some (.int x4), some (.int x5), some (.int x6), some (.int (x7 + (1)))]) [some (.ref 63), some (.int x1), some (.int x2), none, some (.int x4), some (.int x5), some (.int x6), some (.int (x7 + (1)))] (st' := []) (σ' := s) 5 (And.intro rfl (And.intro rfl (And.intro rfl (And.intro rfl (And.intro rfl (And.intro rfl (And.intro rfl (trivial)))))))) (fun _ hh => (Exists.intro (some (.int v5), s) (And.intro (e_M_explains d hz4) (And.intro (fun q => absurd c5 q) (fun _ => hh))))) (ih x1 x2 x4 x5 x6 (x7 + (1)) s _ h hk0)
          · rw [if_neg c5] at h
            exact ax_cut (pc' := 160) (la := [some (.ref 63), some (.int x1), some (.int x2), none, some (.int x4), some (.int x5), some (.int x7), some (.int (x7 + (1)))]) [some (.ref 63), some (.int x1), some (.int x2), none, some (.int x4), some (.int x5), some (.int x7), some (.int (x7 + (1)))] (st' := []) (σ' := s) 6 (And.intro rfl (And.intro rfl (And.intro rfl (And.intro rfl (And.intro rfl (And.intro rfl (And.intro rfl (trivial)))))))) (fun _ hh => (Exists.intro (some (.int v5), s) (And.intro (e_M_explains d hz4) (And.intro (fun _ => hh) (fun q => absurd c5 q))))) (ih x1 x2 x4 x5 x7 (x7 + (1)) s _ h hk0)
        · rw [if_neg c3] at h
          cases hz6 : M_bits x7 s with
          | none => rw [hz6] at h; cases h
          | some v6 =>
          rw [hz6] at h
          dsimp only at h
          cases hz7 : M_bits x6 s with
          | none => rw [hz7] at h; cases h
          | some v7 =>
          rw [hz7] at h
          dsimp only at h
          refine ax_cut (pc' := 194) (la := [some (.ref 63), some (.int x1), some (.int x2), none, some (.int x4), some (.int x5), some (.int x6), some (.int x7)]) [some (.ref 63), some (.int x1), some (.int x2), none, some (.int x4), some (.int x5), some (.int x6), some (.int x7)] (st' := [.int v7, .int v6]) (σ' := s) 16 (And.intro rfl (And.intro rfl (And.intro rfl (And.intro rfl (And.intro rfl (And.intro rfl (And.intro rfl (trivial)))))))) (fun _ hh => (And.intro (fun q => absurd q c1) (fun _ => (And.intro (fun q => absurd c2 q) (fun _ => (And.intro (fun q => absurd q c3) (fun _ => (Exists.intro (some (.int v6), s) (And.intro (e_M_bits (d + 1) hz6) (Exists.intro (some (.int v7), s) (And.intro (e_M_bits (d + 1) hz7) hh))))))))))) ?_
          by_cases c8 : v7 ≤ v6
          · rw [if_pos c8] at h
            exact ax_cut (pc' := 160) (la := [some (.ref 63), some (.int x1), some (.int x2), none, some (.int x4), some (.int x5), some (.int x6), some (.int (x7 + (1)))]) [some (.ref 63), some (.int x1), some (.int x2), none, some (.int x4), some (.int x5), some (.int x6), some (.int (x7 + (1)))] (st' := []) (σ' := s) 3 (And.intro rfl (And.intro rfl (And.intro rfl (And.intro rfl (And.intro rfl (And.intro rfl (And.intro rfl (trivial)))))))) (fun _ hh => (And.intro (fun _ => hh) (fun q => absurd c8 q))) (ih x1 x2 x4 x5 x6 (x7 + (1)) s _ h hk0)
          · rw [if_neg c8] at h
            cases hz9 : M_explains x7 x1 x2 s with
            | none => rw [hz9] at h; cases h
            | some v8 =>
            rw [hz9] at h
            dsimp only at h
            by_cases c10 : v8 = 0
            · rw [if_pos c10] at h
              exact ax_cut (pc' := 160) (la := [some (.ref 63), some (.int x1), some (.int x2), none, some (.int x4), some (.int x5), some (.int x6), some (.int (x7 + (1)))]) [some (.ref 63), some (.int x1), some (.int x2), none, some (.int x4), some (.int x5), some (.int x6), some (.int (x7 + (1)))] (st' := []) (σ' := s) 10 (And.intro rfl (And.intro rfl (And.intro rfl (And.intro rfl (And.intro rfl (And.intro rfl (And.intro rfl (trivial)))))))) (fun _ hh => (And.intro (fun q => absurd q c8) (fun _ => (Exists.intro (some (.int v8), s) (And.intro (e_M_explains d hz9) (And.intro (fun q => absurd c10 q) (fun _ => hh))))))) (ih x1 x2 x4 x5 x6 (x7 + (1)) s _ h hk0)
            · rw [if_neg c10] at h
              exact ax_cut (pc' := 160) (la := [some (.ref 63), some (.int x1), some (.int x2), none, some (.int x4), some (.int x5), some (.int x7), some (.int (x7 + (1)))]) [some (.ref 63), some (.int x1), some (.int x2), none, some (.int x4), some (.int x5), some (.int x7), some (.int (x7 + (1)))] (st' := []) (σ' := s) 11 (And.intro rfl (And.intro rfl (And.intro rfl (And.intro rfl (And.intro rfl (And.intro rfl (And.intro rfl (trivial)))))))) (fun _ hh => (And.intro (fun q => absurd q c8) (fun _ => (Exists.intro (some (.int v8), s) (And.intro (e_M_explains d hz9) (And.intro (fun _ => hh) (fun q => absurd c10 q))))))) (ih x1 x2 x4 x5 x7 (x7 + (1)) s _ h hk0)
      · rw [if_neg c2] at h
        exact ax_cut (pc' := 160) (la := [some (.ref 63), some (.int x1), some (.int x2), none, some (.int x4), some (.int x5), some (.int x6), some (.int (x7 + (1)))]) [some (.ref 63), some (.int x1), some (.int x2), none, some (.int x4), some (.int x5), some (.int x6), some (.int (x7 + (1)))] (st' := []) (σ' := s) 11 (And.intro rfl (And.intro rfl (And.intro rfl (And.intro rfl (And.intro rfl (And.intro rfl (And.intro rfl (trivial)))))))) (fun _ hh => (And.intro (fun q => absurd q c1) (fun _ => (And.intro (fun _ => hh) (fun q => absurd c2 q))))) (ih x1 x2 x4 x5 x6 (x7 + (1)) s _ h hk0)
theorem e_M_told (d : Nat) {x1 : Int32} {x2 : Int32} {x3 : Int32} {x4 : Int32} {s : ax_S} {r : Int32 × ax_S} (h : M_told x1 x2 x3 x4 s = some r) : ax_ev true (d + 3) 277 [.ref 63, .int x1, .int x2, .int x3, .int x4] s (some (.int r.1), r.2) := by
  refine ⟨Nat.le_of_ble_eq_true rfl, ?_⟩
  show ax_go true none (ax_ev true (d + 2)) ax_m277 0 [some (.ref 63), some (.int x1), some (.int x2), some (.int x3), some (.int x4), none, none, none] [] s _
  unfold M_told at h
  by_cases c1 : (M_in x1 (1 : Int32) (12 : Int32) s) = 0
  · rw [if_pos c1] at h
    have h := Option.some.inj h
    subst r
    exact ax_end 7 (Exists.intro (some (.int (M_in x1 (1 : Int32) (12 : Int32) s)), s) (And.intro (e_M_in (d + 1) x1 (1 : Int32) (12 : Int32) s) (And.intro (fun _ => rfl) (fun q => absurd c1 q))))
  · rw [if_neg c1] at h
    by_cases c2 : (M_in x2 (0 : Int32) (10 : Int32) s) = 0
    · rw [if_pos c2] at h
      have h := Option.some.inj h
      subst r
      exact ax_end 12 (Exists.intro (some (.int (M_in x1 (1 : Int32) (12 : Int32) s)), s) (And.intro (e_M_in (d + 1) x1 (1 : Int32) (12 : Int32) s) (And.intro (fun q => absurd q c1) (fun _ => (Exists.intro (some (.int (M_in x2 (0 : Int32) (10 : Int32) s)), s) (And.intro (e_M_in (d + 1) x2 (0 : Int32) (10 : Int32) s) (And.intro (fun _ => rfl) (fun q => absurd c2 q))))))))
    · rw [if_neg c2] at h
      by_cases c3 : (M_in x3 (0 : Int32) (65535 : Int32) s) = 0
      · rw [if_pos c3] at h
        refine ax_cut (pc' := 56) (la := [some (.ref 63), some (.int x1), some (.int x2), some (.int x3), some (.int x4), none, none, none]) [none, none, none, none, none, none, none, none] (st' := [.int (-1 : Int32)]) (σ' := s) 16 (trivial) (fun _ hh => (Exists.intro (some (.int (M_in x1 (1 : Int32) (12 : Int32) s)), s) (And.intro (e_M_in (d + 1) x1 (1 : Int32) (12 : Int32) s) (And.intro (fun q => absurd q c1) (fun _ => (Exists.intro (some (.int (M_in x2 (0 : Int32) (10 : Int32) s)), s) (And.intro (e_M_in (d + 1) x2 (0 : Int32) (10 : Int32) s) (And.intro (fun q => absurd q c2) (fun _ => (Exists.intro (some (.int (M_in x3 (0 : Int32) (65535 : Int32) s)), s) (And.intro (e_M_in (d + 1) x3 (0 : Int32) (65535 : Int32) s) (And.intro (fun _ => hh) (fun q => absurd c3 q))))))))))))) ?_
        have h := Option.some.inj h
        subst r
        exact ax_end 1 rfl
      · rw [if_neg c3] at h
        refine ax_cut (pc' := 33) (la := [some (.ref 63), some (.int x1), some (.int x2), some (.int x3), some (.int x4), none, none, none]) [some (.ref 63), some (.int x1), some (.int x2), some (.int x3), some (.int x4), none, none, none] (st' := [.int x4]) (σ' := s) 16 (And.intro rfl (And.intro rfl (And.intro rfl (And.intro rfl (And.intro rfl (trivial)))))) (fun _ hh => (Exists.intro (some (.int (M_in x1 (1 : Int32) (12 : Int32) s)), s) (And.intro (e_M_in (d + 1) x1 (1 : Int32) (12 : Int32) s) (And.intro (fun q => absurd q c1) (fun _ => (Exists.intro (some (.int (M_in x2 (0 : Int32) (10 : Int32) s)), s) (And.intro (e_M_in (d + 1) x2 (0 : Int32) (10 : Int32) s) (And.intro (fun q => absurd q c2) (fun _ => (Exists.intro (some (.int (M_in x3 (0 : Int32) (65535 : Int32) s)), s) (And.intro (e_M_in (d + 1) x3 (0 : Int32) (65535 : Int32) s) (And.intro (fun q => absurd q c3) (fun _ => hh))))))))))))) ?_
        by_cases c4 : (M_in x4 (0 : Int32) (2 : Int32) s) = 0
        · rw [if_pos c4] at h
          have h := Option.some.inj h
          subst r
          exact ax_end 6 (Exists.intro (some (.int (M_in x4 (0 : Int32) (2 : Int32) s)), s) (And.intro (e_M_in (d + 1) x4 (0 : Int32) (2 : Int32) s) (And.intro (fun _ => rfl) (fun q => absurd c4 q))))
        · rw [if_neg c4] at h
          by_cases c5 : (((2 : Int32) * x1) + ((2 : Int32) * x2)) ≤ (s.2.1 63 5)
          · rw [if_pos c5] at h
            refine ax_cut (pc' := 59) (la := [some (.ref 63), some (.int x1), some (.int x2), some (.int x3), some (.int x4), none, none, none]) [some (.ref 63), some (.int x1), some (.int x2), some (.int x3), some (.int x4), none, none, none] (st' := [.int (0 : Int32), .ref 63]) (σ' := s) 16 (And.intro rfl (And.intro rfl (And.intro rfl (And.intro rfl (And.intro rfl (trivial)))))) (fun _ hh => (Exists.intro (some (.int (M_in x4 (0 : Int32) (2 : Int32) s)), s) (And.intro (e_M_in (d + 1) x4 (0 : Int32) (2 : Int32) s) (And.intro (fun q => absurd q c4) (fun _ => (And.intro (fun _ => hh) (fun q => absurd c5 q))))))) ?_
            cases hz6 : M_told_l65 70000 x1 x2 x3 x4 (0 : Int32) (ax_sI s 63 5 (0 : Int32)) with
            | none => rw [hz6] at h; cases h
            | some z6 =>
            rw [hz6] at h
            refine ax_cut (pc' := 65) (la := [some (.ref 63), some (.int x1), some (.int x2), some (.int x3), some (.int x4), some (.int (0 : Int32)), none, none]) [some (.ref 63), some (.int x1), some (.int x2), some (.int x3), some (.int x4), some (.int (0 : Int32)), none, none] (st' := []) (σ' := (ax_sI s 63 5 (0 : Int32))) 3 (And.intro rfl (And.intro rfl (And.intro rfl (And.intro rfl (And.intro rfl (And.intro rfl (trivial))))))) (fun _ hh => hh) (w_M_told_l65 d 70000 x1 x2 x3 x4 (0 : Int32) (ax_sI s 63 5 (0 : Int32)) _ hz6 ?_ ?_)
            · intro  hq
              subst z6
              dsimp only at h
              cases hz7 : M_told_l103 70000 x1 x2 x4 x3 (0 : Int32) (ax_sI s 63 5 (0 : Int32)) with
              | none => rw [hz7] at h; cases h
              | some z7 =>
              rw [hz7] at h
              refine ax_cut (pc' := 103) (la := [some (.ref 63), some (.int x1), some (.int x2), some (.int x3), some (.int x4), some (.int x3), some (.int (0 : Int32)), none]) [some (.ref 63), some (.int x1), some (.int x2), none, some (.int x4), some (.int x3), some (.int (0 : Int32)), none] (st' := []) (σ' := (ax_sI s 63 5 (0 : Int32))) 4 (And.intro rfl (And.intro rfl (And.intro rfl (And.intro rfl (And.intro rfl (And.intro rfl (trivial))))))) (fun _ hh => hh) (w_M_told_l103 d 70000 x1 x2 x4 x3 (0 : Int32) (ax_sI s 63 5 (0 : Int32)) _ hz7 ?_)
              · intro v4 hq
                subst z7
                dsimp only at h
                by_cases c8 : x4 = 0
                · rw [if_pos c8] at h
                  have h := Option.some.inj h
                  subst r
                  exact ax_end 4 (And.intro (fun q => absurd c8 q) (fun _ => rfl))
                · rw [if_neg c8] at h
                  cases hz9 : M_told_l160 70000 x1 x2 x4 v4 (-2 : Int32) (0 : Int32) (ax_sI s 63 5 (0 : Int32)) with
                  | none => rw [hz9] at h; cases h
                  | some z9 =>
                  rw [hz9] at h
                  refine ax_cut (pc' := 160) (la := [some (.ref 63), some (.int x1), some (.int x2), none, some (.int x4), some (.int v4), some (.int (-2 : Int32)), some (.int (0 : Int32))]) [some (.ref 63), some (.int x1), some (.int x2), none, some (.int x4), some (.int v4), some (.int (-2 : Int32)), some (.int (0 : Int32))] (st' := []) (σ' := (ax_sI s 63 5 (0 : Int32))) 6 (And.intro rfl (And.intro rfl (And.intro rfl (And.intro rfl (And.intro rfl (And.intro rfl (And.intro rfl (trivial)))))))) (fun _ hh => (And.intro (fun _ => hh) (fun q => absurd c8 q))) (w_M_told_l160 d 70000 x1 x2 x4 v4 (-2 : Int32) (0 : Int32) (ax_sI s 63 5 (0 : Int32)) _ hz9 ?_)
                  · intro v9 hq
                    subst z9
                    dsimp only at h
                    by_cases c10 : x4 = (2 : Int32)
                    · rw [if_pos c10] at h
                      have h := Option.some.inj h
                      subst r
                      exact ax_end 6 (And.intro (fun _ => rfl) (fun q => absurd c10 q))
                    · rw [if_neg c10] at h
                      by_cases c11 : v9 = (-2 : Int32)
                      · rw [if_pos c11] at h
                        have h := Option.some.inj h
                        subst r
                        exact ax_end 9 (And.intro (fun q => absurd q c10) (fun _ => (And.intro (fun q => absurd c11 q) (fun _ => rfl))))
                      · rw [if_neg c11] at h
                        cases hz12 : M_bits v9 (ax_sI s 63 5 (0 : Int32)) with
                        | none => rw [hz12] at h; cases h
                        | some v10 =>
                        rw [hz12] at h
                        dsimp only at h
                        have h := Option.some.inj h
                        subst r
                        exact ax_end 9 (And.intro (fun q => absurd q c10) (fun _ => (And.intro (fun _ => (Exists.intro (some (.int v10), (ax_sI s 63 5 (0 : Int32))) (And.intro (e_M_bits (d + 1) hz12) rfl))) (fun q => absurd c11 q))))
            · intro q hq
              subst z6
              dsimp only at h
              cases h
              rfl
          · rw [if_neg c5] at h
            have h := Option.some.inj h
            subst r
            exact ax_end 16 (Exists.intro (some (.int (M_in x4 (0 : Int32) (2 : Int32) s)), s) (And.intro (e_M_in (d + 1) x4 (0 : Int32) (2 : Int32) s) (And.intro (fun q => absurd q c4) (fun _ => (And.intro (fun q => absurd q c5) (fun _ => rfl))))))
def XSh_goesInto_j34 (x1 : Int32) (x2 : Int32) (x3 : Int32) (y0 : Int32) (y1 : Int32)  (s : ax_S) : Option (Int32) :=
  if y1 ≤ y0 then (
    some (0 : Int32)) else
  if (x1 < 0 ∨ 10 ≤ (x1).toNatClampNeg) then none else
  if (x2 < 0 ∨ 10 ≤ (x2).toNatClampNeg) then none else
  if (s.2.1 61 (x2).toNatClampNeg) ≤ (s.2.1 61 (x1).toNatClampNeg) then (
    some (0 : Int32)) else
  some (1 : Int32)
def XSh_goesInto (x1 : Int32) (x2 : Int32) (x3 : Int32)  (s : ax_S) : Option (Int32) :=
  if x1 < 0 then (
    some (0 : Int32)) else
  if (10 : Int32) ≤ x1 then (
    some (0 : Int32)) else
  if x2 < 0 then (
    some (0 : Int32)) else
  if x2 < (10 : Int32) then (
    if (x1 < 0 ∨ 10 ≤ (x1).toNatClampNeg) then none else
    if (x2 < 0 ∨ 10 ≤ (x2).toNatClampNeg) then none else
    match XSh_goesInto_j34 x1 x2 x3 (s.2.1 60 (x1).toNatClampNeg) (s.2.1 60 (x2).toNatClampNeg) s with
    | none => none
    | some v1 =>
      if v1 = 0 then (
        if x3 = 0 then (
          some (0 : Int32)) else
        if (x1 < 0 ∨ 10 ≤ (x1).toNatClampNeg) then none else
        if (x2 < 0 ∨ 10 ≤ (x2).toNatClampNeg) then none else
        if (s.2.1 60 (x2).toNatClampNeg) ≤ (s.2.1 61 (x1).toNatClampNeg) then (
          some (0 : Int32)) else
        if (x1 < 0 ∨ 10 ≤ (x1).toNatClampNeg) then none else
        if (x2 < 0 ∨ 10 ≤ (x2).toNatClampNeg) then none else
        if (s.2.1 61 (x2).toNatClampNeg) ≤ (s.2.1 60 (x1).toNatClampNeg) then (
          some (0 : Int32)) else
        some (1 : Int32)) else
      some (1 : Int32)) else
  some (0 : Int32)
theorem w_XSh_goesInto_j34 (d : Nat) {o : ax_O} (x1 : Int32) (x2 : Int32) (x3 : Int32) (y0 : Int32) (y1 : Int32) (s : ax_S) (r : Int32) (h : XSh_goesInto_j34 x1 x2 x3 y0 y1 s = some r) (hk0 : ∀ (t0 : Int32), r = t0 → ax_go true none (ax_ev true (d + 0)) ax_m165 57 [some (.ref 59), some (.int x1), some (.int x2), some (.int x3), none] [.int t0] s o) : ax_go true none (ax_ev true (d + 0)) ax_m165 34 [some (.ref 59), some (.int x1), some (.int x2), some (.int x3), none] [.int y1, .int y0] s o := by
  unfold XSh_goesInto_j34 at h
  by_cases c1 : y1 ≤ y0
  · rw [if_pos c1] at h
    have h := Option.some.inj h
    subst r
    exact ax_cut (pc' := 57) (la := [some (.ref 59), some (.int x1), some (.int x2), some (.int x3), none]) [some (.ref 59), some (.int x1), some (.int x2), some (.int x3), none] (st' := [.int (0 : Int32)]) (σ' := s) 2 (And.intro rfl (And.intro rfl (And.intro rfl (And.intro rfl (trivial))))) (fun _ hh => (And.intro (fun _ => hh) (fun q => absurd c1 q))) (hk0 _ rfl)
  · rw [if_neg c1] at h
    by_cases c2 : (x1 < 0 ∨ 10 ≤ (x1).toNatClampNeg)
    · rw [if_pos c2] at h; cases h
    · rw [if_neg c2] at h
      by_cases c3 : (x2 < 0 ∨ 10 ≤ (x2).toNatClampNeg)
      · rw [if_pos c3] at h; cases h
      · rw [if_neg c3] at h
        by_cases c4 : (s.2.1 61 (x2).toNatClampNeg) ≤ (s.2.1 61 (x1).toNatClampNeg)
        · rw [if_pos c4] at h
          have h := Option.some.inj h
          subst r
          exact ax_cut (pc' := 57) (la := [some (.ref 59), some (.int x1), some (.int x2), some (.int x3), none]) [some (.ref 59), some (.int x1), some (.int x2), some (.int x3), none] (st' := [.int (0 : Int32)]) (σ' := s) 11 (And.intro rfl (And.intro rfl (And.intro rfl (And.intro rfl (trivial))))) (fun _ hh => (And.intro (fun q => absurd q c1) (fun _ => (And.intro c2 (And.intro c3 (And.intro (fun _ => hh) (fun q => absurd c4 q))))))) (hk0 _ rfl)
        · rw [if_neg c4] at h
          have h := Option.some.inj h
          subst r
          exact ax_cut (pc' := 57) (la := [some (.ref 59), some (.int x1), some (.int x2), some (.int x3), none]) [some (.ref 59), some (.int x1), some (.int x2), some (.int x3), none] (st' := [.int (1 : Int32)]) (σ' := s) 12 (And.intro rfl (And.intro rfl (And.intro rfl (And.intro rfl (trivial))))) (fun _ hh => (And.intro (fun q => absurd q c1) (fun _ => (And.intro c2 (And.intro c3 (And.intro (fun q => absurd q c4) (fun _ => hh))))))) (hk0 _ rfl)
theorem e_XSh_goesInto (d : Nat) {x1 : Int32} {x2 : Int32} {x3 : Int32} {s : ax_S} {r : Int32} (h : XSh_goesInto x1 x2 x3 s = some r) : ax_ev true (d + 1) 165 [.ref 59, .int x1, .int x2, .int x3] s (some (.int r), s) := by
  refine ⟨Nat.le_of_ble_eq_true rfl, ?_⟩
  show ax_go true none (ax_ev true (d + 0)) ax_m165 0 [some (.ref 59), some (.int x1), some (.int x2), some (.int x3), none] [] s _
  unfold XSh_goesInto at h
  by_cases c1 : x1 < 0
  · rw [if_pos c1] at h
    have h := Option.some.inj h
    subst r
    exact ax_end 4 (And.intro (fun _ => (And.intro (Or.inl rfl) rfl)) (fun q => absurd c1 q))
  · rw [if_neg c1] at h
    by_cases c2 : (10 : Int32) ≤ x1
    · rw [if_pos c2] at h
      have h := Option.some.inj h
      subst r
      exact ax_end 7 (And.intro (fun q => absurd q c1) (fun _ => (And.intro (fun _ => (And.intro (Or.inl rfl) rfl)) (fun q => absurd c2 q))))
    · rw [if_neg c2] at h
      by_cases c3 : x2 < 0
      · rw [if_pos c3] at h
        have h := Option.some.inj h
        subst r
        exact ax_end 9 (And.intro (fun q => absurd q c1) (fun _ => (And.intro (fun q => absurd q c2) (fun _ => (And.intro (fun _ => (And.intro (Or.inl rfl) rfl)) (fun q => absurd c3 q))))))
      · rw [if_neg c3] at h
        by_cases c4 : x2 < (10 : Int32)
        · rw [if_pos c4] at h
          by_cases c5 : (x1 < 0 ∨ 10 ≤ (x1).toNatClampNeg)
          · rw [if_pos c5] at h; cases h
          · rw [if_neg c5] at h
            refine ax_cut (pc' := 32) (la := [some (.ref 59), some (.int x1), some (.int x2), some (.int x3), none]) [some (.ref 59), some (.int x1), some (.int x2), some (.int x3), none] (st' := [.ref 60, .int (s.2.1 60 (x1).toNatClampNeg)]) (σ' := s) 16 (And.intro rfl (And.intro rfl (And.intro rfl (And.intro rfl (trivial))))) (fun _ hh => (And.intro (fun q => absurd q c1) (fun _ => (And.intro (fun q => absurd q c2) (fun _ => (And.intro (fun q => absurd q c3) (fun _ => (And.intro (fun _ => (And.intro c5 hh)) (fun q => absurd c4 q))))))))) ?_
            by_cases c6 : (x2 < 0 ∨ 10 ≤ (x2).toNatClampNeg)
            · rw [if_pos c6] at h; cases h
            · rw [if_neg c6] at h
              cases hz7 : XSh_goesInto_j34 x1 x2 x3 (s.2.1 60 (x1).toNatClampNeg) (s.2.1 60 (x2).toNatClampNeg) s with
              | none => rw [hz7] at h; cases h
              | some z7 =>
              rw [hz7] at h
              refine ax_cut (pc' := 34) (la := [some (.ref 59), some (.int x1), some (.int x2), some (.int x3), none]) [some (.ref 59), some (.int x1), some (.int x2), some (.int x3), none] (st' := [.int (s.2.1 60 (x2).toNatClampNeg), .int (s.2.1 60 (x1).toNatClampNeg)]) (σ' := s) 2 (And.intro rfl (And.intro rfl (And.intro rfl (And.intro rfl (trivial))))) (fun _ hh => (And.intro c6 hh)) (w_XSh_goesInto_j34 d x1 x2 x3 (s.2.1 60 (x1).toNatClampNeg) (s.2.1 60 (x2).toNatClampNeg) s _ hz7 ?_)
              · intro v1 hq
                subst z7
                dsimp only at h
                by_cases c8 : v1 = 0
                · rw [if_pos c8] at h
                  by_cases c9 : x3 = 0
                  · rw [if_pos c9] at h
                    have h := Option.some.inj h
                    subst r
                    exact ax_end 7 (And.intro (fun q => absurd c8 q) (fun _ => (And.intro (fun _ => (And.intro (Or.inl rfl) rfl)) (fun q => absurd c9 q))))
                  · rw [if_neg c9] at h
                    by_cases c10 : (x1 < 0 ∨ 10 ≤ (x1).toNatClampNeg)
                    · rw [if_pos c10] at h; cases h
                    · rw [if_neg c10] at h
                      by_cases c11 : (x2 < 0 ∨ 10 ≤ (x2).toNatClampNeg)
                      · rw [if_pos c11] at h; cases h
                      · rw [if_neg c11] at h
                        by_cases c12 : (s.2.1 60 (x2).toNatClampNeg) ≤ (s.2.1 61 (x1).toNatClampNeg)
                        · rw [if_pos c12] at h
                          have h := Option.some.inj h
                          subst r
                          exact ax_end 16 (And.intro (fun q => absurd c8 q) (fun _ => (And.intro (fun q => absurd q c9) (fun _ => (And.intro c10 (And.intro c11 (And.intro (fun _ => (And.intro (Or.inl rfl) rfl)) (fun q => absurd c12 q))))))))
                        · rw [if_neg c12] at h
                          refine ax_cut (pc' := 87) (la := [some (.ref 59), some (.int x1), some (.int x2), some (.int x3), some (.int v1)]) [some (.ref 59), some (.int x1), some (.int x2), none, none] (st' := [.ref 60]) (σ' := s) 16 (And.intro rfl (And.intro rfl (And.intro rfl (trivial)))) (fun _ hh => (And.intro (fun q => absurd c8 q) (fun _ => (And.intro (fun q => absurd q c9) (fun _ => (And.intro c10 (And.intro c11 (And.intro (fun q => absurd q c12) (fun _ => hh))))))))) ?_
                          by_cases c13 : (x1 < 0 ∨ 10 ≤ (x1).toNatClampNeg)
                          · rw [if_pos c13] at h; cases h
                          · rw [if_neg c13] at h
                            by_cases c14 : (x2 < 0 ∨ 10 ≤ (x2).toNatClampNeg)
                            · rw [if_pos c14] at h; cases h
                            · rw [if_neg c14] at h
                              by_cases c15 : (s.2.1 61 (x2).toNatClampNeg) ≤ (s.2.1 60 (x1).toNatClampNeg)
                              · rw [if_pos c15] at h
                                have h := Option.some.inj h
                                subst r
                                exact ax_end 9 (And.intro c13 (And.intro c14 (And.intro (fun _ => (And.intro (Or.inl rfl) rfl)) (fun q => absurd c15 q))))
                              · rw [if_neg c15] at h
                                have h := Option.some.inj h
                                subst r
                                exact ax_end 10 (And.intro c13 (And.intro c14 (And.intro (fun q => absurd q c15) (fun _ => (And.intro (Or.inr rfl) rfl)))))
                · rw [if_neg c8] at h
                  have h := Option.some.inj h
                  subst r
                  exact ax_end 6 (And.intro (fun _ => (And.intro (Or.inr rfl) rfl)) (fun q => absurd c8 q))
        · rw [if_neg c4] at h
          have h := Option.some.inj h
          subst r
          exact ax_end 12 (And.intro (fun q => absurd q c1) (fun _ => (And.intro (fun q => absurd q c2) (fun _ => (And.intro (fun q => absurd q c3) (fun _ => (And.intro (fun q => absurd q c4) (fun _ => (And.intro (Or.inl rfl) rfl)))))))))
def XSh_lengthenChains_l21 : Nat → Int32 → Int32 → Int32 → Int32 → Int32 → ax_S → Option (ax_S)
  | 0, _, _, _, _, _, _ => none
  | n + 1, x1, x2, x3, x4, x5, s =>
    if x1 ≤ x5 then (
      some s) else
    if (10 : Int32) ≤ x5 then (
      some s) else
    match XSh_goesInto x5 x4 x2 s with
    | none => none
    | some v1 =>
      if v1 = 0 then (
        XSh_lengthenChains_l21 n x1 x2 x3 x4 (x5 + (1)) s) else
      if (x4 < 0 ∨ 10 ≤ (x4).toNatClampNeg) then none else
      if (x5 < 0 ∨ 10 ≤ (x5).toNatClampNeg) then none else
      if (x4 < 0 ∨ 10 ≤ (x4).toNatClampNeg) then none else
      XSh_lengthenChains_l21 n x1 x2 x3 x4 (x5 + (1)) (ax_sI s 62 (x4).toNatClampNeg (if (s.2.1 62 (x4).toNatClampNeg) < ((s.2.1 62 (x5).toNatClampNeg) + (1 : Int32)) then ((s.2.1 62 (x5).toNatClampNeg) + (1 : Int32)) else (s.2.1 62 (x4).toNatClampNeg)))
def XSh_lengthenChains_l5 : Nat → Int32 → Int32 → Int32 → Int32 → ax_S → Option (Int32 × ax_S)
  | 0, _, _, _, _, _ => none
  | n + 1, x1, x2, x3, x4, s =>
    if x1 ≤ x4 then (
      some (x3, s)) else
    if (10 : Int32) ≤ x4 then (
      some (x3, s)) else
    match XSh_lengthenChains_l21 70000 x1 x2 x3 x4 (0 : Int32) s with
    | none => none
    | some s2 =>
      if (x4 < 0 ∨ 10 ≤ (x4).toNatClampNeg) then none else
      XSh_lengthenChains_l5 n x1 x2 (if x3 < (s2.2.1 62 (x4).toNatClampNeg) then (s2.2.1 62 (x4).toNatClampNeg) else x3) (x4 + (1)) s2
def XSh_lengthenChains (x1 : Int32) (x2 : Int32)  (s : ax_S) : Option (Int32 × ax_S) :=
  match XSh_lengthenChains_l5 70000 x1 x2 (1 : Int32) (0 : Int32) s with
  | none => none
  | some (v3, s4) =>
    some (v3, s4)
theorem w_XSh_lengthenChains_l21 (d : Nat) {o : ax_O} : ∀ (n : Nat) (x1 : Int32) (x2 : Int32) (x3 : Int32) (x4 : Int32) (x5 : Int32) (s : ax_S) (r : ax_S) (h : XSh_lengthenChains_l21 n x1 x2 x3 x4 x5 s = some r) (hk0 : ∀ (t0 : ax_S), r = t0 → ax_go true none (ax_ev true (d + 1)) ax_m164 78 [some (.ref 59), some (.int x1), some (.int x2), some (.int x3), some (.int x4), none] [] t0 o), ax_go true none (ax_ev true (d + 1)) ax_m164 21 [some (.ref 59), some (.int x1), some (.int x2), some (.int x3), some (.int x4), some (.int x5)] [] s o := by
  intro n
  induction n with
  | zero => intro x1 x2 x3 x4 x5 s r h hk0; cases h
  | succ n ih =>
    intro x1 x2 x3 x4 x5 s r h hk0
    rw [XSh_lengthenChains_l21] at h
    by_cases c1 : x1 ≤ x5
    · rw [if_pos c1] at h
      have h := Option.some.inj h
      subst r
      exact ax_cut (pc' := 78) (la := [some (.ref 59), some (.int x1), some (.int x2), some (.int x3), some (.int x4), some (.int x5)]) [some (.ref 59), some (.int x1), some (.int x2), some (.int x3), some (.int x4), none] (st' := []) (σ' := s) 3 (And.intro rfl (And.intro rfl (And.intro rfl (And.intro rfl (And.intro rfl (trivial)))))) (fun _ hh => (And.intro (fun _ => hh) (fun q => absurd c1 q))) (hk0 _ rfl)
    · rw [if_neg c1] at h
      by_cases c2 : (10 : Int32) ≤ x5
      · rw [if_pos c2] at h
        have h := Option.some.inj h
        subst r
        exact ax_cut (pc' := 78) (la := [some (.ref 59), some (.int x1), some (.int x2), some (.int x3), some (.int x4), some (.int x5)]) [some (.ref 59), some (.int x1), some (.int x2), some (.int x3), some (.int x4), none] (st' := []) (σ' := s) 6 (And.intro rfl (And.intro rfl (And.intro rfl (And.intro rfl (And.intro rfl (trivial)))))) (fun _ hh => (And.intro (fun q => absurd q c1) (fun _ => (And.intro (fun _ => hh) (fun q => absurd c2 q))))) (hk0 _ rfl)
      · rw [if_neg c2] at h
        cases hz3 : XSh_goesInto x5 x4 x2 s with
        | none => rw [hz3] at h; cases h
        | some v1 =>
        rw [hz3] at h
        dsimp only at h
        by_cases c4 : v1 = 0
        · rw [if_pos c4] at h
          exact ax_cut (pc' := 21) (la := [some (.ref 59), some (.int x1), some (.int x2), some (.int x3), some (.int x4), some (.int (x5 + (1)))]) [some (.ref 59), some (.int x1), some (.int x2), some (.int x3), some (.int x4), some (.int (x5 + (1)))] (st' := []) (σ' := s) 14 (And.intro rfl (And.intro rfl (And.intro rfl (And.intro rfl (And.intro rfl (And.intro rfl (trivial))))))) (fun _ hh => (And.intro (fun q => absurd q c1) (fun _ => (And.intro (fun q => absurd q c2) (fun _ => (Exists.intro (some (.int v1), s) (And.intro (e_XSh_goesInto d hz3) (And.intro (fun _ => hh) (fun q => absurd c4 q))))))))) (ih x1 x2 x3 x4 (x5 + (1)) s _ h hk0)
        · rw [if_neg c4] at h
          refine ax_cut (pc' := 53) (la := [some (.ref 59), some (.int x1), some (.int x2), some (.int x3), some (.int x4), some (.int x5)]) [some (.ref 59), some (.int x1), some (.int x2), some (.int x3), some (.int x4), some (.int x5)] (st' := [.ref 59, .int x4, .ref 62]) (σ' := s) 16 (And.intro rfl (And.intro rfl (And.intro rfl (And.intro rfl (And.intro rfl (And.intro rfl (trivial))))))) (fun _ hh => (And.intro (fun q => absurd q c1) (fun _ => (And.intro (fun q => absurd q c2) (fun _ => (Exists.intro (some (.int v1), s) (And.intro (e_XSh_goesInto d hz3) (And.intro (fun q => absurd q c4) (fun _ => hh))))))))) ?_
          by_cases c5 : (x4 < 0 ∨ 10 ≤ (x4).toNatClampNeg)
          · rw [if_pos c5] at h; cases h
          · rw [if_neg c5] at h
            by_cases c6 : (x5 < 0 ∨ 10 ≤ (x5).toNatClampNeg)
            · rw [if_pos c6] at h; cases h
            · rw [if_neg c6] at h
              by_cases c7 : (x4 < 0 ∨ 10 ≤ (x4).toNatClampNeg)
              · rw [if_pos c7] at h; cases h
              · rw [if_neg c7] at h
                exact ax_cut (pc' := 21) (la := [some (.ref 59), some (.int x1), some (.int x2), some (.int x3), some (.int x4), some (.int (x5 + (1)))]) [some (.ref 59), some (.int x1), some (.int x2), some (.int x3), some (.int x4), some (.int (x5 + (1)))] (st' := []) (σ' := (ax_sI s 62 (x4).toNatClampNeg (if (s.2.1 62 (x4).toNatClampNeg) < ((s.2.1 62 (x5).toNatClampNeg) + (1 : Int32)) then ((s.2.1 62 (x5).toNatClampNeg) + (1 : Int32)) else (s.2.1 62 (x4).toNatClampNeg)))) 13 (And.intro rfl (And.intro rfl (And.intro rfl (And.intro rfl (And.intro rfl (And.intro rfl (trivial))))))) (fun _ hh => (And.intro c5 (And.intro c6 (And.intro c7 hh)))) (ih x1 x2 x3 x4 (x5 + (1)) (ax_sI s 62 (x4).toNatClampNeg (if (s.2.1 62 (x4).toNatClampNeg) < ((s.2.1 62 (x5).toNatClampNeg) + (1 : Int32)) then ((s.2.1 62 (x5).toNatClampNeg) + (1 : Int32)) else (s.2.1 62 (x4).toNatClampNeg))) _ h hk0)
theorem w_XSh_lengthenChains_l5 (d : Nat) {o : ax_O} : ∀ (n : Nat) (x1 : Int32) (x2 : Int32) (x3 : Int32) (x4 : Int32) (s : ax_S) (r : Int32 × ax_S) (h : XSh_lengthenChains_l5 n x1 x2 x3 x4 s = some r) (hk0 : ∀ (t0 : Int32) (t1 : ax_S), r = (t0, t1) → ax_go true none (ax_ev true (d + 1)) ax_m164 96 [none, none, none, some (.int t0), none, none] [] t1 o), ax_go true none (ax_ev true (d + 1)) ax_m164 5 [some (.ref 59), some (.int x1), some (.int x2), some (.int x3), some (.int x4), none] [] s o := by
  intro n
  induction n with
  | zero => intro x1 x2 x3 x4 s r h hk0; cases h
  | succ n ih =>
    intro x1 x2 x3 x4 s r h hk0
    rw [XSh_lengthenChains_l5] at h
    by_cases c1 : x1 ≤ x4
    · rw [if_pos c1] at h
      have h := Option.some.inj h
      subst r
      exact ax_cut (pc' := 96) (la := [some (.ref 59), some (.int x1), some (.int x2), some (.int x3), some (.int x4), none]) [none, none, none, some (.int x3), none, none] (st' := []) (σ' := s) 3 (And.intro rfl (trivial)) (fun _ hh => (And.intro (fun _ => hh) (fun q => absurd c1 q))) (hk0 _ _ rfl)
    · rw [if_neg c1] at h
      by_cases c2 : (10 : Int32) ≤ x4
      · rw [if_pos c2] at h
        have h := Option.some.inj h
        subst r
        exact ax_cut (pc' := 96) (la := [some (.ref 59), some (.int x1), some (.int x2), some (.int x3), some (.int x4), none]) [none, none, none, some (.int x3), none, none] (st' := []) (σ' := s) 6 (And.intro rfl (trivial)) (fun _ hh => (And.intro (fun q => absurd q c1) (fun _ => (And.intro (fun _ => hh) (fun q => absurd c2 q))))) (hk0 _ _ rfl)
      · rw [if_neg c2] at h
        cases hz3 : XSh_lengthenChains_l21 70000 x1 x2 x3 x4 (0 : Int32) s with
        | none => rw [hz3] at h; cases h
        | some z3 =>
        rw [hz3] at h
        refine ax_cut (pc' := 21) (la := [some (.ref 59), some (.int x1), some (.int x2), some (.int x3), some (.int x4), some (.int (0 : Int32))]) [some (.ref 59), some (.int x1), some (.int x2), some (.int x3), some (.int x4), some (.int (0 : Int32))] (st' := []) (σ' := s) 8 (And.intro rfl (And.intro rfl (And.intro rfl (And.intro rfl (And.intro rfl (And.intro rfl (trivial))))))) (fun _ hh => (And.intro (fun q => absurd q c1) (fun _ => (And.intro (fun q => absurd q c2) (fun _ => hh))))) (w_XSh_lengthenChains_l21 d 70000 x1 x2 x3 x4 (0 : Int32) s _ hz3 ?_)
        · intro s2 hq
          subst z3
          dsimp only at h
          by_cases c4 : (x4 < 0 ∨ 10 ≤ (x4).toNatClampNeg)
          · rw [if_pos c4] at h; cases h
          · rw [if_neg c4] at h
            exact ax_cut (pc' := 5) (la := [some (.ref 59), some (.int x1), some (.int x2), some (.int (if x3 < (s2.2.1 62 (x4).toNatClampNeg) then (s2.2.1 62 (x4).toNatClampNeg) else x3)), some (.int (x4 + (1))), none]) [some (.ref 59), some (.int x1), some (.int x2), some (.int (if x3 < (s2.2.1 62 (x4).toNatClampNeg) then (s2.2.1 62 (x4).toNatClampNeg) else x3)), some (.int (x4 + (1))), none] (st' := []) (σ' := s2) 9 (And.intro rfl (And.intro rfl (And.intro rfl (And.intro rfl (And.intro rfl (trivial)))))) (fun _ hh => (And.intro c4 hh)) (ih x1 x2 (if x3 < (s2.2.1 62 (x4).toNatClampNeg) then (s2.2.1 62 (x4).toNatClampNeg) else x3) (x4 + (1)) s2 _ h hk0)
theorem e_XSh_lengthenChains (d : Nat) {x1 : Int32} {x2 : Int32} {s : ax_S} {r : Int32 × ax_S} (h : XSh_lengthenChains x1 x2 s = some r) : ax_ev true (d + 2) 164 [.ref 59, .int x1, .int x2] s (some (.int r.1), r.2) := by
  refine ⟨Nat.le_of_ble_eq_true rfl, ?_⟩
  show ax_go true none (ax_ev true (d + 1)) ax_m164 0 [some (.ref 59), some (.int x1), some (.int x2), none, none, none] [] s _
  unfold XSh_lengthenChains at h
  cases hz1 : XSh_lengthenChains_l5 70000 x1 x2 (1 : Int32) (0 : Int32) s with
  | none => rw [hz1] at h; cases h
  | some z1 =>
  rw [hz1] at h
  refine ax_cut (pc' := 5) (la := [some (.ref 59), some (.int x1), some (.int x2), some (.int (1 : Int32)), some (.int (0 : Int32)), none]) [some (.ref 59), some (.int x1), some (.int x2), some (.int (1 : Int32)), some (.int (0 : Int32)), none] (st' := []) (σ' := s) 4 (And.intro rfl (And.intro rfl (And.intro rfl (And.intro rfl (And.intro rfl (trivial)))))) (fun _ hh => hh) (w_XSh_lengthenChains_l5 d 70000 x1 x2 (1 : Int32) (0 : Int32) s _ hz1 ?_)
  · intro v3 s4 hq
    subst z1
    dsimp only at h
    have h := Option.some.inj h
    subst r
    exact ax_end 2 rfl
def XSh_nest_l7 : Nat → Int32 → Int32 → Int32 → ax_S → Option ((ax_S) ⊕ (Int32 × ax_S))
  | 0, _, _, _, _ => none
  | n + 1, x1, x2, x3, s =>
    if x1 ≤ x3 then (
      some (.inl s)) else
    if (10 : Int32) ≤ x3 then (
      some (.inl s)) else
    if (x3 < 0 ∨ 10 ≤ (x3).toNatClampNeg) then none else
    if (s.2.1 60 (x3).toNatClampNeg) < (1 : Int32) then (
      some (.inr ((-2 : Int32), s))) else
    if (x3 < 0 ∨ 10 ≤ (x3).toNatClampNeg) then none else
    if (1 : Int32) ≤ (s.2.1 61 (x3).toNatClampNeg) then (
      if (x3 < 0 ∨ 10 ≤ (x3).toNatClampNeg) then none else
      XSh_nest_l7 n x1 x2 (x3 + (1)) (ax_sI s 62 (x3).toNatClampNeg (1 : Int32))) else
    some (.inr ((-2 : Int32), s))
def XSh_nest_l59 : Nat → Int32 → Int32 → Int32 → Int32 → ax_S → Option (Int32 × ax_S)
  | 0, _, _, _, _, _ => none
  | n + 1, x1, x2, x3, x4, s =>
    if x1 ≤ x4 then (
      some (x3, s)) else
    match XSh_lengthenChains x1 x2 s with
    | none => none
    | some (v3, s4) =>
      XSh_nest_l59 n x1 x2 (if x3 < v3 then v3 else x3) (x4 + (1)) s4
def XSh_nest (x1 : Int32) (x2 : Int32)  (s : ax_S) : Option (Int32 × ax_S) :=
  match XSh_readSizes x1 s with
  | none => none
  | some s1 =>
    match XSh_nest_l7 70000 x1 x2 (0 : Int32) s1 with
    | none => none
    | some (.inl s2) =>
      match XSh_nest_l59 70000 x1 x2 (1 : Int32) (0 : Int32) s2 with
      | none => none
      | some (v5, s6) =>
        some (v5, s6)
    | some (.inr r) => some r
theorem w_XSh_nest_l7 (d : Nat) {o : ax_O} : ∀ (n : Nat) (x1 : Int32) (x2 : Int32) (x3 : Int32) (s : ax_S) (r : (ax_S) ⊕ (Int32 × ax_S)) (h : XSh_nest_l7 n x1 x2 x3 s = some r) (hk0 : ∀ (t0 : ax_S), r = (.inl t0) → ax_go true none (ax_ev true (d + 2)) ax_m163 54 [some (.ref 59), some (.int x1), some (.int x2), none, none] [] t0 o) (hkr : ∀ q, r = (.inr q) → o = (some (.int q.1), q.2)), ax_go true none (ax_ev true (d + 2)) ax_m163 7 [some (.ref 59), some (.int x1), some (.int x2), some (.int x3), none] [] s o := by
  intro n
  induction n with
  | zero => intro x1 x2 x3 s r h hk0 hkr; cases h
  | succ n ih =>
    intro x1 x2 x3 s r h hk0 hkr
    rw [XSh_nest_l7] at h
    by_cases c1 : x1 ≤ x3
    · rw [if_pos c1] at h
      have h := Option.some.inj h
      subst r
      exact ax_cut (pc' := 54) (la := [some (.ref 59), some (.int x1), some (.int x2), some (.int x3), none]) [some (.ref 59), some (.int x1), some (.int x2), none, none] (st' := []) (σ' := s) 3 (And.intro rfl (And.intro rfl (And.intro rfl (trivial)))) (fun _ hh => (And.intro (fun _ => hh) (fun q => absurd c1 q))) (hk0 _ rfl)
    · rw [if_neg c1] at h
      by_cases c2 : (10 : Int32) ≤ x3
      · rw [if_pos c2] at h
        have h := Option.some.inj h
        subst r
        exact ax_cut (pc' := 54) (la := [some (.ref 59), some (.int x1), some (.int x2), some (.int x3), none]) [some (.ref 59), some (.int x1), some (.int x2), none, none] (st' := []) (σ' := s) 6 (And.intro rfl (And.intro rfl (And.intro rfl (trivial)))) (fun _ hh => (And.intro (fun q => absurd q c1) (fun _ => (And.intro (fun _ => hh) (fun q => absurd c2 q))))) (hk0 _ rfl)
      · rw [if_neg c2] at h
        by_cases c3 : (x3 < 0 ∨ 10 ≤ (x3).toNatClampNeg)
        · rw [if_pos c3] at h; cases h
        · rw [if_neg c3] at h
          by_cases c4 : (s.2.1 60 (x3).toNatClampNeg) < (1 : Int32)
          · rw [if_pos c4] at h
            have h := Option.some.inj h
            subst r
            exact ax_end 14 (And.intro (fun q => absurd q c1) (fun _ => (And.intro (fun q => absurd q c2) (fun _ => (And.intro c3 (And.intro (fun _ => (hkr _ rfl)) (fun q => absurd c4 q)))))))
          · rw [if_neg c4] at h
            by_cases c5 : (x3 < 0 ∨ 10 ≤ (x3).toNatClampNeg)
            · rw [if_pos c5] at h; cases h
            · rw [if_neg c5] at h
              refine ax_cut (pc' := 34) (la := [some (.ref 59), some (.int x1), some (.int x2), some (.int x3), none]) [some (.ref 59), some (.int x1), some (.int x2), some (.int x3), none] (st' := [.int (s.2.1 61 (x3).toNatClampNeg)]) (σ' := s) 16 (And.intro rfl (And.intro rfl (And.intro rfl (And.intro rfl (trivial))))) (fun _ hh => (And.intro (fun q => absurd q c1) (fun _ => (And.intro (fun q => absurd q c2) (fun _ => (And.intro c3 (And.intro (fun q => absurd q c4) (fun _ => (And.intro c5 hh))))))))) ?_
              by_cases c6 : (1 : Int32) ≤ (s.2.1 61 (x3).toNatClampNeg)
              · rw [if_pos c6] at h
                by_cases c7 : (x3 < 0 ∨ 10 ≤ (x3).toNatClampNeg)
                · rw [if_pos c7] at h; cases h
                · rw [if_neg c7] at h
                  exact ax_cut (pc' := 7) (la := [some (.ref 59), some (.int x1), some (.int x2), some (.int (x3 + (1))), none]) [some (.ref 59), some (.int x1), some (.int x2), some (.int (x3 + (1))), none] (st' := []) (σ' := (ax_sI s 62 (x3).toNatClampNeg (1 : Int32))) 9 (And.intro rfl (And.intro rfl (And.intro rfl (And.intro rfl (trivial))))) (fun _ hh => (And.intro (fun _ => (And.intro c7 hh)) (fun q => absurd c6 q))) (ih x1 x2 (x3 + (1)) (ax_sI s 62 (x3).toNatClampNeg (1 : Int32)) _ h hk0 hkr)
              · rw [if_neg c6] at h
                have h := Option.some.inj h
                subst r
                exact ax_end 4 (And.intro (fun q => absurd q c6) (fun _ => (hkr _ rfl)))
theorem w_XSh_nest_l59 (d : Nat) {o : ax_O} : ∀ (n : Nat) (x1 : Int32) (x2 : Int32) (x3 : Int32) (x4 : Int32) (s : ax_S) (r : Int32 × ax_S) (h : XSh_nest_l59 n x1 x2 x3 x4 s = some r) (hk0 : ∀ (t0 : Int32) (t1 : ax_S), r = (t0, t1) → ax_go true none (ax_ev true (d + 2)) ax_m163 82 [none, none, none, some (.int t0), none] [] t1 o), ax_go true none (ax_ev true (d + 2)) ax_m163 59 [some (.ref 59), some (.int x1), some (.int x2), some (.int x3), some (.int x4)] [] s o := by
  intro n
  induction n with
  | zero => intro x1 x2 x3 x4 s r h hk0; cases h
  | succ n ih =>
    intro x1 x2 x3 x4 s r h hk0
    rw [XSh_nest_l59] at h
    by_cases c1 : x1 ≤ x4
    · rw [if_pos c1] at h
      have h := Option.some.inj h
      subst r
      exact ax_cut (pc' := 82) (la := [some (.ref 59), some (.int x1), some (.int x2), some (.int x3), some (.int x4)]) [none, none, none, some (.int x3), none] (st' := []) (σ' := s) 3 (And.intro rfl (trivial)) (fun _ hh => (And.intro (fun _ => hh) (fun q => absurd c1 q))) (hk0 _ _ rfl)
    · rw [if_neg c1] at h
      cases hz2 : XSh_lengthenChains x1 x2 s with
      | none => rw [hz2] at h; cases h
      | some z2 =>
      rw [hz2] at h
      obtain ⟨v3, s4⟩ := z2
      dsimp only at h
      exact ax_cut (pc' := 59) (la := [some (.ref 59), some (.int x1), some (.int x2), some (.int (if x3 < v3 then v3 else x3)), some (.int (x4 + (1)))]) [some (.ref 59), some (.int x1), some (.int x2), some (.int (if x3 < v3 then v3 else x3)), some (.int (x4 + (1)))] (st' := []) (σ' := s4) 12 (And.intro rfl (And.intro rfl (And.intro rfl (And.intro rfl (And.intro rfl (trivial)))))) (fun _ hh => (And.intro (fun q => absurd q c1) (fun _ => (Exists.intro (some (.int v3), s4) (And.intro (e_XSh_lengthenChains d hz2) hh))))) (ih x1 x2 (if x3 < v3 then v3 else x3) (x4 + (1)) s4 _ h hk0)
theorem e_XSh_nest (d : Nat) {x1 : Int32} {x2 : Int32} {s : ax_S} {r : Int32 × ax_S} (h : XSh_nest x1 x2 s = some r) : ax_ev true (d + 3) 163 [.ref 59, .int x1, .int x2] s (some (.int r.1), r.2) := by
  refine ⟨Nat.le_of_ble_eq_true rfl, ?_⟩
  show ax_go true none (ax_ev true (d + 2)) ax_m163 0 [some (.ref 59), some (.int x1), some (.int x2), none, none] [] s _
  unfold XSh_nest at h
  cases hz1 : XSh_readSizes x1 s with
  | none => rw [hz1] at h; cases h
  | some s1 =>
  rw [hz1] at h
  dsimp only at h
  cases hz2 : XSh_nest_l7 70000 x1 x2 (0 : Int32) s1 with
  | none => rw [hz2] at h; cases h
  | some z2 =>
  rw [hz2] at h
  refine ax_cut (pc' := 7) (la := [some (.ref 59), some (.int x1), some (.int x2), some (.int (0 : Int32)), none]) [some (.ref 59), some (.int x1), some (.int x2), some (.int (0 : Int32)), none] (st' := []) (σ' := s1) 5 (And.intro rfl (And.intro rfl (And.intro rfl (And.intro rfl (trivial))))) (fun _ hh => (Exists.intro (none, s1) (And.intro (e_XSh_readSizes d hz1) hh))) (w_XSh_nest_l7 d 70000 x1 x2 (0 : Int32) s1 _ hz2 ?_ ?_)
  · intro s2 hq
    subst z2
    dsimp only at h
    cases hz3 : XSh_nest_l59 70000 x1 x2 (1 : Int32) (0 : Int32) s2 with
    | none => rw [hz3] at h; cases h
    | some z3 =>
    rw [hz3] at h
    refine ax_cut (pc' := 59) (la := [some (.ref 59), some (.int x1), some (.int x2), some (.int (1 : Int32)), some (.int (0 : Int32))]) [some (.ref 59), some (.int x1), some (.int x2), some (.int (1 : Int32)), some (.int (0 : Int32))] (st' := []) (σ' := s2) 4 (And.intro rfl (And.intro rfl (And.intro rfl (And.intro rfl (And.intro rfl (trivial)))))) (fun _ hh => hh) (w_XSh_nest_l59 d 70000 x1 x2 (1 : Int32) (0 : Int32) s2 _ hz3 ?_)
    · intro v5 s6 hq
      subst z3
      dsimp only at h
      have h := Option.some.inj h
      subst r
      exact ax_end 2 rfl
  · intro q hq
    subst z2
    dsimp only at h
    cases h
    rfl
def X_frames (x1 : Int32) (x2 : Int32)  (s : ax_S) : Option (Int32 × ax_S) :=
  if (X_isWithin x1 (1 : Int32) (10 : Int32) s) = 0 then (
    some ((-1 : Int32), s)) else
  if (XTa_holds ((2 : Int32) * x1) s) = 0 then (
    some ((-1 : Int32), s)) else
  match XSh_nest x1 x2 s with
  | none => none
  | some (v1, s2) =>
    some (v1, (XTa_clear s2))
theorem e_X_frames (d : Nat) {x1 : Int32} {x2 : Int32} {s : ax_S} {r : Int32 × ax_S} (h : X_frames x1 x2 s = some r) : ax_ev true (d + 4) 162 [.ref 0, .int x1, .int x2] s (some (.int r.1), r.2) := by
  refine ⟨Nat.le_of_ble_eq_true rfl, ?_⟩
  show ax_go true none (ax_ev true (d + 3)) ax_m162 0 [some (.ref 0), some (.int x1), some (.int x2), none] [] s _
  unfold X_frames at h
  by_cases c1 : (X_isWithin x1 (1 : Int32) (10 : Int32) s) = 0
  · rw [if_pos c1] at h
    have h := Option.some.inj h
    subst r
    exact ax_end 7 (Exists.intro (some (.int (X_isWithin x1 (1 : Int32) (10 : Int32) s)), s) (And.intro (e_X_isWithin (d + 2) x1 (1 : Int32) (10 : Int32) s) (And.intro (fun _ => rfl) (fun q => absurd c1 q))))
  · rw [if_neg c1] at h
    by_cases c2 : (XTa_holds ((2 : Int32) * x1) s) = 0
    · rw [if_pos c2] at h
      have h := Option.some.inj h
      subst r
      exact ax_end 14 (Exists.intro (some (.int (X_isWithin x1 (1 : Int32) (10 : Int32) s)), s) (And.intro (e_X_isWithin (d + 2) x1 (1 : Int32) (10 : Int32) s) (And.intro (fun q => absurd q c1) (fun _ => (Exists.intro (some (.int (XTa_holds ((2 : Int32) * x1) s)), s) (And.intro (e_XTa_holds (d + 2) ((2 : Int32) * x1) s) (And.intro (fun q => absurd c2 q) (fun _ => rfl))))))))
    · rw [if_neg c2] at h
      refine ax_cut (pc' := 31) (la := [some (.ref 0), some (.int x1), some (.int x2), none]) [some (.ref 0), none, none, none] (st' := [.int x2, .int x1, .ref 59]) (σ' := s) 16 (And.intro rfl (trivial)) (fun _ hh => (Exists.intro (some (.int (X_isWithin x1 (1 : Int32) (10 : Int32) s)), s) (And.intro (e_X_isWithin (d + 2) x1 (1 : Int32) (10 : Int32) s) (And.intro (fun q => absurd q c1) (fun _ => (Exists.intro (some (.int (XTa_holds ((2 : Int32) * x1) s)), s) (And.intro (e_XTa_holds (d + 2) ((2 : Int32) * x1) s) (And.intro (fun _ => hh) (fun q => absurd c2 q))))))))) ?_
      cases hz3 : XSh_nest x1 x2 s with
      | none => rw [hz3] at h; cases h
      | some z3 =>
      rw [hz3] at h
      obtain ⟨v1, s2⟩ := z3
      dsimp only at h
      have h := Option.some.inj h
      subst r
      exact ax_end 7 (Exists.intro (some (.int v1), s2) (And.intro (e_XSh_nest d hz3) (Exists.intro (none, (XTa_clear s2)) (And.intro (e_XTa_clear (d + 2)  s2) rfl))))
def M_goesIn (x1 : Int32) (x2 : Int32) (x3 : Int32)  (s : ax_S) : Option (Int32) :=
  match M_octet ((2 : Int32) * x1) s with
  | none => none
  | some v1 =>
    match M_octet (((2 : Int32) * x1) + (1 : Int32)) s with
    | none => none
    | some v2 =>
      match M_octet ((2 : Int32) * x2) s with
      | none => none
      | some v3 =>
        if v3 ≤ v1 then (
          if x3 = 0 then (
            some (0 : Int32)) else
          if v3 ≤ v2 then (
            some (0 : Int32)) else
          match M_octet (((2 : Int32) * x2) + (1 : Int32)) s with
          | none => none
          | some v4 =>
            if v4 ≤ v1 then (
              some (0 : Int32)) else
            some (1 : Int32)) else
        match M_octet (((2 : Int32) * x2) + (1 : Int32)) s with
        | none => none
        | some v5 =>
          if v5 ≤ v2 then (
            if x3 = 0 then (
              some (0 : Int32)) else
            if v3 ≤ v2 then (
              some (0 : Int32)) else
            if v5 ≤ v1 then (
              some (0 : Int32)) else
            some (1 : Int32)) else
          some (1 : Int32)
theorem e_M_goesIn (d : Nat) {x1 : Int32} {x2 : Int32} {x3 : Int32} {s : ax_S} {r : Int32} (h : M_goesIn x1 x2 x3 s = some r) : ax_ev true (d + 2) 280 [.ref 63, .int x1, .int x2, .int x3] s (some (.int r), s) := by
  refine ⟨Nat.le_of_ble_eq_true rfl, ?_⟩
  show ax_go true none (ax_ev true (d + 1)) ax_m280 0 [some (.ref 63), some (.int x1), some (.int x2), some (.int x3), none, none] [] s _
  unfold M_goesIn at h
  cases hz1 : M_octet ((2 : Int32) * x1) s with
  | none => rw [hz1] at h; cases h
  | some v1 =>
  rw [hz1] at h
  dsimp only at h
  cases hz2 : M_octet (((2 : Int32) * x1) + (1 : Int32)) s with
  | none => rw [hz2] at h; cases h
  | some v2 =>
  rw [hz2] at h
  dsimp only at h
  refine ax_cut (pc' := 23) (la := [some (.ref 63), some (.int x1), some (.int x2), some (.int x3), some (.int v1), some (.int v2)]) [some (.ref 63), none, some (.int x2), some (.int x3), some (.int v1), some (.int v2)] (st' := [.ref 63, .int v1]) (σ' := s) 16 (And.intro rfl (And.intro rfl (And.intro rfl (And.intro rfl (And.intro rfl (trivial)))))) (fun _ hh => (Exists.intro (some (.int v1), s) (And.intro (e_M_octet d hz1) (Exists.intro (some (.int v2), s) (And.intro (e_M_octet d hz2) hh))))) ?_
  cases hz3 : M_octet ((2 : Int32) * x2) s with
  | none => rw [hz3] at h; cases h
  | some v3 =>
  rw [hz3] at h
  dsimp only at h
  by_cases c4 : v3 ≤ v1
  · rw [if_pos c4] at h
    by_cases c5 : x3 = 0
    · rw [if_pos c5] at h
      have h := Option.some.inj h
      subst r
      exact ax_end 9 (Exists.intro (some (.int v3), s) (And.intro (e_M_octet d hz3) (And.intro (fun _ => (And.intro (fun _ => (And.intro (Or.inl rfl) rfl)) (fun q => absurd c5 q))) (fun q => absurd c4 q))))
    · rw [if_neg c5] at h
      by_cases c6 : v3 ≤ v2
      · rw [if_pos c6] at h
        have h := Option.some.inj h
        subst r
        exact ax_end 16 (Exists.intro (some (.int v3), s) (And.intro (e_M_octet d hz3) (And.intro (fun _ => (And.intro (fun q => absurd q c5) (fun _ => (Exists.intro (some (.int v3), s) (And.intro (e_M_octet d hz3) (And.intro (fun _ => (And.intro (Or.inl rfl) rfl)) (fun q => absurd c6 q))))))) (fun q => absurd c4 q))))
      · rw [if_neg c6] at h
        refine ax_cut (pc' := 67) (la := [some (.ref 63), none, some (.int x2), some (.int x3), some (.int v1), some (.int v2)]) [none, none, some (.int x2), none, none, none] (st' := [.ref 63, .int v1]) (σ' := s) 16 (And.intro rfl (trivial)) (fun _ hh => (Exists.intro (some (.int v3), s) (And.intro (e_M_octet d hz3) (And.intro (fun _ => (And.intro (fun q => absurd q c5) (fun _ => (Exists.intro (some (.int v3), s) (And.intro (e_M_octet d hz3) (And.intro (fun q => absurd q c6) (fun _ => hh))))))) (fun q => absurd c4 q))))) ?_
        cases hz7 : M_octet (((2 : Int32) * x2) + (1 : Int32)) s with
        | none => rw [hz7] at h; cases h
        | some v4 =>
        rw [hz7] at h
        dsimp only at h
        by_cases c8 : v4 ≤ v1
        · rw [if_pos c8] at h
          have h := Option.some.inj h
          subst r
          exact ax_end 9 (Exists.intro (some (.int v4), s) (And.intro (e_M_octet d hz7) (And.intro (fun _ => (And.intro (Or.inl rfl) rfl)) (fun q => absurd c8 q))))
        · rw [if_neg c8] at h
          have h := Option.some.inj h
          subst r
          exact ax_end 10 (Exists.intro (some (.int v4), s) (And.intro (e_M_octet d hz7) (And.intro (fun q => absurd q c8) (fun _ => (And.intro (Or.inr rfl) rfl)))))
  · rw [if_neg c4] at h
    cases hz9 : M_octet (((2 : Int32) * x2) + (1 : Int32)) s with
    | none => rw [hz9] at h; cases h
    | some v5 =>
    rw [hz9] at h
    dsimp only at h
    by_cases c10 : v5 ≤ v2
    · rw [if_pos c10] at h
      by_cases c11 : x3 = 0
      · rw [if_pos c11] at h
        refine ax_cut (pc' := 82) (la := [some (.ref 63), none, some (.int x2), some (.int x3), some (.int v1), some (.int v2)]) [none, none, none, none, none, none] (st' := []) (σ' := s) 16 (trivial) (fun _ hh => (Exists.intro (some (.int v3), s) (And.intro (e_M_octet d hz3) (And.intro (fun q => absurd q c4) (fun _ => (Exists.intro (some (.int v5), s) (And.intro (e_M_octet d hz9) (And.intro (fun _ => (And.intro (fun _ => hh) (fun q => absurd c11 q))) (fun q => absurd c10 q))))))))) ?_
        have h := Option.some.inj h
        subst r
        exact ax_end 2 (And.intro (Or.inl rfl) rfl)
      · rw [if_neg c11] at h
        refine ax_cut (pc' := 52) (la := [some (.ref 63), none, some (.int x2), some (.int x3), some (.int v1), some (.int v2)]) [some (.ref 63), none, some (.int x2), none, some (.int v1), some (.int v2)] (st' := []) (σ' := s) 16 (And.intro rfl (And.intro rfl (And.intro rfl (And.intro rfl (trivial))))) (fun _ hh => (Exists.intro (some (.int v3), s) (And.intro (e_M_octet d hz3) (And.intro (fun q => absurd q c4) (fun _ => (Exists.intro (some (.int v5), s) (And.intro (e_M_octet d hz9) (And.intro (fun _ => (And.intro (fun q => absurd q c11) (fun _ => hh))) (fun q => absurd c10 q))))))))) ?_
        by_cases c12 : v3 ≤ v2
        · rw [if_pos c12] at h
          have h := Option.some.inj h
          subst r
          exact ax_end 9 (Exists.intro (some (.int v3), s) (And.intro (e_M_octet d hz3) (And.intro (fun _ => (And.intro (Or.inl rfl) rfl)) (fun q => absurd c12 q))))
        · rw [if_neg c12] at h
          by_cases c13 : v5 ≤ v1
          · rw [if_pos c13] at h
            refine ax_cut (pc' := 82) (la := [some (.ref 63), none, some (.int x2), none, some (.int v1), some (.int v2)]) [none, none, none, none, none, none] (st' := []) (σ' := s) 16 (trivial) (fun _ hh => (Exists.intro (some (.int v3), s) (And.intro (e_M_octet d hz3) (And.intro (fun q => absurd q c12) (fun _ => (Exists.intro (some (.int v5), s) (And.intro (e_M_octet d hz9) (And.intro (fun _ => hh) (fun q => absurd c13 q))))))))) ?_
            have h := Option.some.inj h
            subst r
            exact ax_end 2 (And.intro (Or.inl rfl) rfl)
          · rw [if_neg c13] at h
            refine ax_cut (pc' := 78) (la := [some (.ref 63), none, some (.int x2), none, some (.int v1), some (.int v2)]) [none, none, none, none, none, none] (st' := []) (σ' := s) 16 (trivial) (fun _ hh => (Exists.intro (some (.int v3), s) (And.intro (e_M_octet d hz3) (And.intro (fun q => absurd q c12) (fun _ => (Exists.intro (some (.int v5), s) (And.intro (e_M_octet d hz9) (And.intro (fun q => absurd q c13) (fun _ => hh))))))))) ?_
            have h := Option.some.inj h
            subst r
            exact ax_end 3 (And.intro (Or.inr rfl) rfl)
    · rw [if_neg c10] at h
      have h := Option.some.inj h
      subst r
      exact ax_end 16 (Exists.intro (some (.int v3), s) (And.intro (e_M_octet d hz3) (And.intro (fun q => absurd q c4) (fun _ => (Exists.intro (some (.int v5), s) (And.intro (e_M_octet d hz9) (And.intro (fun q => absurd q c10) (fun _ => (And.intro (Or.inr rfl) rfl)))))))))
def M_frames_l29 : Nat → Int32 → Int32 → Int32 → ax_S → Option ((Unit) ⊕ (Int32 × ax_S))
  | 0, _, _, _, _ => none
  | n + 1, x1, x2, x3, s =>
    if ((2 : Int32) * x1) ≤ x3 then (
      some (.inl ())) else
    match M_octet x3 s with
    | none => none
    | some v1 =>
      if v1 = 0 then (
        some (.inr ((-2 : Int32), s))) else
      M_frames_l29 n x1 x2 (x3 + (1)) s
def M_frames_l58 : Nat → Int32 → Int32 → Int32 → Int32 → ax_S → Option (ax_S)
  | 0, _, _, _, _, _ => none
  | n + 1, x1, x2, x3, x4, s =>
    if x1 ≤ x4 then (
      some s) else
    if (x4 < 0 ∨ 10 ≤ (x4).toNatClampNeg) then none else
    M_frames_l58 n x1 x2 x3 (x4 + (1)) (ax_sI s 82 (x4).toNatClampNeg (1 : Int32))
def M_frames_l99 : Nat → Int32 → Int32 → Int32 → Int32 → Int32 → Int32 → ax_S → Option (ax_S)
  | 0, _, _, _, _, _, _, _ => none
  | n + 1, x1, x2, x3, x4, x5, x6, s =>
    if x1 ≤ x6 then (
      some s) else
    match M_goesIn x6 x5 x2 s with
    | none => none
    | some v3 =>
      if v3 = 0 then (
        M_frames_l99 n x1 x2 x3 x4 x5 (x6 + (1)) s) else
      if (x5 < 0 ∨ 10 ≤ (x5).toNatClampNeg) then none else
      if (x6 < 0 ∨ 10 ≤ (x6).toNatClampNeg) then none else
      if (x5 < 0 ∨ 10 ≤ (x5).toNatClampNeg) then none else
      M_frames_l99 n x1 x2 x3 x4 x5 (x6 + (1)) (ax_sI s 82 (x5).toNatClampNeg (M_max (s.2.1 82 (x5).toNatClampNeg) ((s.2.1 82 (x6).toNatClampNeg) + (1 : Int32)) s))
def M_frames_l90 : Nat → Int32 → Int32 → Int32 → Int32 → Int32 → ax_S → Option (Int32 × ax_S)
  | 0, _, _, _, _, _, _ => none
  | n + 1, x1, x2, x3, x4, x5, s =>
    if x1 ≤ x5 then (
      some (x3, s)) else
    match M_frames_l99 70000 x1 x2 x3 x4 x5 (0 : Int32) s with
    | none => none
    | some s4 =>
      if (x5 < 0 ∨ 10 ≤ (x5).toNatClampNeg) then none else
      M_frames_l90 n x1 x2 (M_max x3 (s4.2.1 82 (x5).toNatClampNeg) s4) x4 (x5 + (1)) s4
def M_frames_l81 : Nat → Int32 → Int32 → Int32 → Int32 → ax_S → Option (Int32 × ax_S)
  | 0, _, _, _, _, _ => none
  | n + 1, x1, x2, x3, x4, s =>
    if x1 ≤ x4 then (
      some (x3, s)) else
    match M_frames_l90 70000 x1 x2 x3 x4 (0 : Int32) s with
    | none => none
    | some (v5, s6) =>
      M_frames_l81 n x1 x2 v5 (x4 + (1)) s6
def M_frames (x1 : Int32) (x2 : Int32)  (s : ax_S) : Option (Int32 × ax_S) :=
  if (M_in x1 (1 : Int32) (10 : Int32) s) = 0 then (
    some ((-1 : Int32), s)) else
  if ((2 : Int32) * x1) ≤ (s.2.1 63 5) then (
    match M_frames_l29 70000 x1 x2 (0 : Int32) (ax_sI s 63 5 (0 : Int32)) with
    | none => none
    | some (.inl _) =>
      match M_frames_l58 70000 x1 x2 (1 : Int32) (0 : Int32) (ax_sI s 63 5 (0 : Int32)) with
      | none => none
      | some s2 =>
        match M_frames_l81 70000 x1 x2 (1 : Int32) (0 : Int32) s2 with
        | none => none
        | some (v7, s8) =>
          some (v7, s8)
    | some (.inr r) => some r) else
  some ((-1 : Int32), s)
theorem w_M_frames_l29 (d : Nat) {o : ax_O} : ∀ (n : Nat) (x1 : Int32) (x2 : Int32) (x3 : Int32) (s : ax_S) (r : (Unit) ⊕ (Int32 × ax_S)) (h : M_frames_l29 n x1 x2 x3 s = some r) (hk0 : r = (.inl ()) → ax_go true none (ax_ev true (d + 2)) ax_m279 53 [some (.ref 63), some (.int x1), some (.int x2), none, none, none, none] [] s o) (hkr : ∀ q, r = (.inr q) → o = (some (.int q.1), q.2)), ax_go true none (ax_ev true (d + 2)) ax_m279 29 [some (.ref 63), some (.int x1), some (.int x2), some (.int x3), none, none, none] [] s o := by
  intro n
  induction n with
  | zero => intro x1 x2 x3 s r h hk0 hkr; cases h
  | succ n ih =>
    intro x1 x2 x3 s r h hk0 hkr
    rw [M_frames_l29] at h
    by_cases c1 : ((2 : Int32) * x1) ≤ x3
    · rw [if_pos c1] at h
      have h := Option.some.inj h
      subst r
      exact ax_cut (pc' := 53) (la := [some (.ref 63), some (.int x1), some (.int x2), some (.int x3), none, none, none]) [some (.ref 63), some (.int x1), some (.int x2), none, none, none, none] (st' := []) (σ' := s) 5 (And.intro rfl (And.intro rfl (And.intro rfl (trivial)))) (fun _ hh => (And.intro (fun _ => hh) (fun q => absurd c1 q))) (hk0 rfl)
    · rw [if_neg c1] at h
      cases hz2 : M_octet x3 s with
      | none => rw [hz2] at h; cases h
      | some v1 =>
      rw [hz2] at h
      dsimp only at h
      by_cases c3 : v1 = 0
      · rw [if_pos c3] at h
        have h := Option.some.inj h
        subst r
        exact ax_end 11 (And.intro (fun q => absurd q c1) (fun _ => (Exists.intro (some (.int v1), s) (And.intro (e_M_octet (d + 1) hz2) (And.intro (fun q => absurd c3 q) (fun _ => (hkr _ rfl)))))))
      · rw [if_neg c3] at h
        exact ax_cut (pc' := 29) (la := [some (.ref 63), some (.int x1), some (.int x2), some (.int (x3 + (1))), none, none, none]) [some (.ref 63), some (.int x1), some (.int x2), some (.int (x3 + (1))), none, none, none] (st' := []) (σ' := s) 11 (And.intro rfl (And.intro rfl (And.intro rfl (And.intro rfl (trivial))))) (fun _ hh => (And.intro (fun q => absurd q c1) (fun _ => (Exists.intro (some (.int v1), s) (And.intro (e_M_octet (d + 1) hz2) (And.intro (fun _ => hh) (fun q => absurd c3 q))))))) (ih x1 x2 (x3 + (1)) s _ h hk0 hkr)
theorem w_M_frames_l58 (d : Nat) {o : ax_O} : ∀ (n : Nat) (x1 : Int32) (x2 : Int32) (x3 : Int32) (x4 : Int32) (s : ax_S) (r : ax_S) (h : M_frames_l58 n x1 x2 x3 x4 s = some r) (hk0 : ∀ (t0 : ax_S), r = t0 → ax_go true none (ax_ev true (d + 2)) ax_m279 78 [some (.ref 63), some (.int x1), some (.int x2), some (.int x3), none, none, none] [] t0 o), ax_go true none (ax_ev true (d + 2)) ax_m279 58 [some (.ref 63), some (.int x1), some (.int x2), some (.int x3), some (.int x4), none, none] [] s o := by
  intro n
  induction n with
  | zero => intro x1 x2 x3 x4 s r h hk0; cases h
  | succ n ih =>
    intro x1 x2 x3 x4 s r h hk0
    rw [M_frames_l58] at h
    by_cases c1 : x1 ≤ x4
    · rw [if_pos c1] at h
      have h := Option.some.inj h
      subst r
      exact ax_cut (pc' := 78) (la := [some (.ref 63), some (.int x1), some (.int x2), some (.int x3), some (.int x4), none, none]) [some (.ref 63), some (.int x1), some (.int x2), some (.int x3), none, none, none] (st' := []) (σ' := s) 3 (And.intro rfl (And.intro rfl (And.intro rfl (And.intro rfl (trivial))))) (fun _ hh => (And.intro (fun _ => hh) (fun q => absurd c1 q))) (hk0 _ rfl)
    · rw [if_neg c1] at h
      by_cases c2 : (x4 < 0 ∨ 10 ≤ (x4).toNatClampNeg)
      · rw [if_pos c2] at h; cases h
      · rw [if_neg c2] at h
        exact ax_cut (pc' := 58) (la := [some (.ref 63), some (.int x1), some (.int x2), some (.int x3), some (.int (x4 + (1))), none, none]) [some (.ref 63), some (.int x1), some (.int x2), some (.int x3), some (.int (x4 + (1))), none, none] (st' := []) (σ' := (ax_sI s 82 (x4).toNatClampNeg (1 : Int32))) 10 (And.intro rfl (And.intro rfl (And.intro rfl (And.intro rfl (And.intro rfl (trivial)))))) (fun _ hh => (And.intro (fun q => absurd q c1) (fun _ => (And.intro c2 hh)))) (ih x1 x2 x3 (x4 + (1)) (ax_sI s 82 (x4).toNatClampNeg (1 : Int32)) _ h hk0)
theorem w_M_frames_l99 (d : Nat) {o : ax_O} : ∀ (n : Nat) (x1 : Int32) (x2 : Int32) (x3 : Int32) (x4 : Int32) (x5 : Int32) (x6 : Int32) (s : ax_S) (r : ax_S) (h : M_frames_l99 n x1 x2 x3 x4 x5 x6 s = some r) (hk0 : ∀ (t0 : ax_S), r = t0 → ax_go true none (ax_ev true (d + 2)) ax_m279 149 [some (.ref 63), some (.int x1), some (.int x2), some (.int x3), some (.int x4), some (.int x5), none] [] t0 o), ax_go true none (ax_ev true (d + 2)) ax_m279 99 [some (.ref 63), some (.int x1), some (.int x2), some (.int x3), some (.int x4), some (.int x5), some (.int x6)] [] s o := by
  intro n
  induction n with
  | zero => intro x1 x2 x3 x4 x5 x6 s r h hk0; cases h
  | succ n ih =>
    intro x1 x2 x3 x4 x5 x6 s r h hk0
    rw [M_frames_l99] at h
    by_cases c1 : x1 ≤ x6
    · rw [if_pos c1] at h
      have h := Option.some.inj h
      subst r
      exact ax_cut (pc' := 149) (la := [some (.ref 63), some (.int x1), some (.int x2), some (.int x3), some (.int x4), some (.int x5), some (.int x6)]) [some (.ref 63), some (.int x1), some (.int x2), some (.int x3), some (.int x4), some (.int x5), none] (st' := []) (σ' := s) 3 (And.intro rfl (And.intro rfl (And.intro rfl (And.intro rfl (And.intro rfl (And.intro rfl (trivial))))))) (fun _ hh => (And.intro (fun _ => hh) (fun q => absurd c1 q))) (hk0 _ rfl)
    · rw [if_neg c1] at h
      cases hz2 : M_goesIn x6 x5 x2 s with
      | none => rw [hz2] at h; cases h
      | some v3 =>
      rw [hz2] at h
      dsimp only at h
      by_cases c3 : v3 = 0
      · rw [if_pos c3] at h
        exact ax_cut (pc' := 99) (la := [some (.ref 63), some (.int x1), some (.int x2), some (.int x3), some (.int x4), some (.int x5), some (.int (x6 + (1)))]) [some (.ref 63), some (.int x1), some (.int x2), some (.int x3), some (.int x4), some (.int x5), some (.int (x6 + (1)))] (st' := []) (σ' := s) 11 (And.intro rfl (And.intro rfl (And.intro rfl (And.intro rfl (And.intro rfl (And.intro rfl (And.intro rfl (trivial)))))))) (fun _ hh => (And.intro (fun q => absurd q c1) (fun _ => (Exists.intro (some (.int v3), s) (And.intro (e_M_goesIn d hz2) (And.intro (fun _ => hh) (fun q => absurd c3 q))))))) (ih x1 x2 x3 x4 x5 (x6 + (1)) s _ h hk0)
      · rw [if_neg c3] at h
        by_cases c4 : (x5 < 0 ∨ 10 ≤ (x5).toNatClampNeg)
        · rw [if_pos c4] at h; cases h
        · rw [if_neg c4] at h
          refine ax_cut (pc' := 130) (la := [some (.ref 63), some (.int x1), some (.int x2), some (.int x3), some (.int x4), some (.int x5), some (.int x6)]) [some (.ref 63), some (.int x1), some (.int x2), some (.int x3), some (.int x4), some (.int x5), some (.int x6)] (st' := [.int (s.2.1 82 (x5).toNatClampNeg), .int x5, .ref 82]) (σ' := s) 16 (And.intro rfl (And.intro rfl (And.intro rfl (And.intro rfl (And.intro rfl (And.intro rfl (And.intro rfl (trivial)))))))) (fun _ hh => (And.intro (fun q => absurd q c1) (fun _ => (Exists.intro (some (.int v3), s) (And.intro (e_M_goesIn d hz2) (And.intro (fun q => absurd q c3) (fun _ => (And.intro c4 hh)))))))) ?_
          by_cases c5 : (x6 < 0 ∨ 10 ≤ (x6).toNatClampNeg)
          · rw [if_pos c5] at h; cases h
          · rw [if_neg c5] at h
            by_cases c6 : (x5 < 0 ∨ 10 ≤ (x5).toNatClampNeg)
            · rw [if_pos c6] at h; cases h
            · rw [if_neg c6] at h
              exact ax_cut (pc' := 99) (la := [some (.ref 63), some (.int x1), some (.int x2), some (.int x3), some (.int x4), some (.int x5), some (.int (x6 + (1)))]) [some (.ref 63), some (.int x1), some (.int x2), some (.int x3), some (.int x4), some (.int x5), some (.int (x6 + (1)))] (st' := []) (σ' := (ax_sI s 82 (x5).toNatClampNeg (M_max (s.2.1 82 (x5).toNatClampNeg) ((s.2.1 82 (x6).toNatClampNeg) + (1 : Int32)) s))) 10 (And.intro rfl (And.intro rfl (And.intro rfl (And.intro rfl (And.intro rfl (And.intro rfl (And.intro rfl (trivial)))))))) (fun _ hh => (And.intro c5 (Exists.intro (some (.int (M_max (s.2.1 82 (x5).toNatClampNeg) ((s.2.1 82 (x6).toNatClampNeg) + (1 : Int32)) s)), s) (And.intro (e_M_max (d + 1) (s.2.1 82 (x5).toNatClampNeg) ((s.2.1 82 (x6).toNatClampNeg) + (1 : Int32)) s) (And.intro c6 hh))))) (ih x1 x2 x3 x4 x5 (x6 + (1)) (ax_sI s 82 (x5).toNatClampNeg (M_max (s.2.1 82 (x5).toNatClampNeg) ((s.2.1 82 (x6).toNatClampNeg) + (1 : Int32)) s)) _ h hk0)
theorem w_M_frames_l90 (d : Nat) {o : ax_O} : ∀ (n : Nat) (x1 : Int32) (x2 : Int32) (x3 : Int32) (x4 : Int32) (x5 : Int32) (s : ax_S) (r : Int32 × ax_S) (h : M_frames_l90 n x1 x2 x3 x4 x5 s = some r) (hk0 : ∀ (t0 : Int32) (t1 : ax_S), r = (t0, t1) → ax_go true none (ax_ev true (d + 2)) ax_m279 167 [some (.ref 63), some (.int x1), some (.int x2), some (.int t0), some (.int x4), none, none] [] t1 o), ax_go true none (ax_ev true (d + 2)) ax_m279 90 [some (.ref 63), some (.int x1), some (.int x2), some (.int x3), some (.int x4), some (.int x5), none] [] s o := by
  intro n
  induction n with
  | zero => intro x1 x2 x3 x4 x5 s r h hk0; cases h
  | succ n ih =>
    intro x1 x2 x3 x4 x5 s r h hk0
    rw [M_frames_l90] at h
    by_cases c1 : x1 ≤ x5
    · rw [if_pos c1] at h
      have h := Option.some.inj h
      subst r
      exact ax_cut (pc' := 167) (la := [some (.ref 63), some (.int x1), some (.int x2), some (.int x3), some (.int x4), some (.int x5), none]) [some (.ref 63), some (.int x1), some (.int x2), some (.int x3), some (.int x4), none, none] (st' := []) (σ' := s) 3 (And.intro rfl (And.intro rfl (And.intro rfl (And.intro rfl (And.intro rfl (trivial)))))) (fun _ hh => (And.intro (fun _ => hh) (fun q => absurd c1 q))) (hk0 _ _ rfl)
    · rw [if_neg c1] at h
      cases hz2 : M_frames_l99 70000 x1 x2 x3 x4 x5 (0 : Int32) s with
      | none => rw [hz2] at h; cases h
      | some z2 =>
      rw [hz2] at h
      refine ax_cut (pc' := 99) (la := [some (.ref 63), some (.int x1), some (.int x2), some (.int x3), some (.int x4), some (.int x5), some (.int (0 : Int32))]) [some (.ref 63), some (.int x1), some (.int x2), some (.int x3), some (.int x4), some (.int x5), some (.int (0 : Int32))] (st' := []) (σ' := s) 5 (And.intro rfl (And.intro rfl (And.intro rfl (And.intro rfl (And.intro rfl (And.intro rfl (And.intro rfl (trivial)))))))) (fun _ hh => (And.intro (fun q => absurd q c1) (fun _ => hh))) (w_M_frames_l99 d 70000 x1 x2 x3 x4 x5 (0 : Int32) s _ hz2 ?_)
      · intro s4 hq
        subst z2
        dsimp only at h
        by_cases c3 : (x5 < 0 ∨ 10 ≤ (x5).toNatClampNeg)
        · rw [if_pos c3] at h; cases h
        · rw [if_neg c3] at h
          exact ax_cut (pc' := 90) (la := [some (.ref 63), some (.int x1), some (.int x2), some (.int (M_max x3 (s4.2.1 82 (x5).toNatClampNeg) s4)), some (.int x4), some (.int (x5 + (1))), none]) [some (.ref 63), some (.int x1), some (.int x2), some (.int (M_max x3 (s4.2.1 82 (x5).toNatClampNeg) s4)), some (.int x4), some (.int (x5 + (1))), none] (st' := []) (σ' := s4) 9 (And.intro rfl (And.intro rfl (And.intro rfl (And.intro rfl (And.intro rfl (And.intro rfl (trivial))))))) (fun _ hh => (And.intro c3 (Exists.intro (some (.int (M_max x3 (s4.2.1 82 (x5).toNatClampNeg) s4)), s4) (And.intro (e_M_max (d + 1) x3 (s4.2.1 82 (x5).toNatClampNeg) s4) hh)))) (ih x1 x2 (M_max x3 (s4.2.1 82 (x5).toNatClampNeg) s4) x4 (x5 + (1)) s4 _ h hk0)
theorem w_M_frames_l81 (d : Nat) {o : ax_O} : ∀ (n : Nat) (x1 : Int32) (x2 : Int32) (x3 : Int32) (x4 : Int32) (s : ax_S) (r : Int32 × ax_S) (h : M_frames_l81 n x1 x2 x3 x4 s = some r) (hk0 : ∀ (t0 : Int32) (t1 : ax_S), r = (t0, t1) → ax_go true none (ax_ev true (d + 2)) ax_m279 173 [none, none, none, some (.int t0), none, none, none] [] t1 o), ax_go true none (ax_ev true (d + 2)) ax_m279 81 [some (.ref 63), some (.int x1), some (.int x2), some (.int x3), some (.int x4), none, none] [] s o := by
  intro n
  induction n with
  | zero => intro x1 x2 x3 x4 s r h hk0; cases h
  | succ n ih =>
    intro x1 x2 x3 x4 s r h hk0
    rw [M_frames_l81] at h
    by_cases c1 : x1 ≤ x4
    · rw [if_pos c1] at h
      have h := Option.some.inj h
      subst r
      exact ax_cut (pc' := 173) (la := [some (.ref 63), some (.int x1), some (.int x2), some (.int x3), some (.int x4), none, none]) [none, none, none, some (.int x3), none, none, none] (st' := []) (σ' := s) 3 (And.intro rfl (trivial)) (fun _ hh => (And.intro (fun _ => hh) (fun q => absurd c1 q))) (hk0 _ _ rfl)
    · rw [if_neg c1] at h
      cases hz2 : M_frames_l90 70000 x1 x2 x3 x4 (0 : Int32) s with
      | none => rw [hz2] at h; cases h
      | some z2 =>
      rw [hz2] at h
      refine ax_cut (pc' := 90) (la := [some (.ref 63), some (.int x1), some (.int x2), some (.int x3), some (.int x4), some (.int (0 : Int32)), none]) [some (.ref 63), some (.int x1), some (.int x2), some (.int x3), some (.int x4), some (.int (0 : Int32)), none] (st' := []) (σ' := s) 5 (And.intro rfl (And.intro rfl (And.intro rfl (And.intro rfl (And.intro rfl (And.intro rfl (trivial))))))) (fun _ hh => (And.intro (fun q => absurd q c1) (fun _ => hh))) (w_M_frames_l90 d 70000 x1 x2 x3 x4 (0 : Int32) s _ hz2 ?_)
      · intro v5 s6 hq
        subst z2
        dsimp only at h
        exact ax_cut (pc' := 81) (la := [some (.ref 63), some (.int x1), some (.int x2), some (.int v5), some (.int (x4 + (1))), none, none]) [some (.ref 63), some (.int x1), some (.int x2), some (.int v5), some (.int (x4 + (1))), none, none] (st' := []) (σ' := s6) 2 (And.intro rfl (And.intro rfl (And.intro rfl (And.intro rfl (And.intro rfl (trivial)))))) (fun _ hh => hh) (ih x1 x2 v5 (x4 + (1)) s6 _ h hk0)
theorem e_M_frames (d : Nat) {x1 : Int32} {x2 : Int32} {s : ax_S} {r : Int32 × ax_S} (h : M_frames x1 x2 s = some r) : ax_ev true (d + 3) 279 [.ref 63, .int x1, .int x2] s (some (.int r.1), r.2) := by
  refine ⟨Nat.le_of_ble_eq_true rfl, ?_⟩
  show ax_go true none (ax_ev true (d + 2)) ax_m279 0 [some (.ref 63), some (.int x1), some (.int x2), none, none, none, none] [] s _
  unfold M_frames at h
  by_cases c1 : (M_in x1 (1 : Int32) (10 : Int32) s) = 0
  · rw [if_pos c1] at h
    have h := Option.some.inj h
    subst r
    exact ax_end 7 (Exists.intro (some (.int (M_in x1 (1 : Int32) (10 : Int32) s)), s) (And.intro (e_M_in (d + 1) x1 (1 : Int32) (10 : Int32) s) (And.intro (fun _ => rfl) (fun q => absurd c1 q))))
  · rw [if_neg c1] at h
    by_cases c2 : ((2 : Int32) * x1) ≤ (s.2.1 63 5)
    · rw [if_pos c2] at h
      cases hz3 : M_frames_l29 70000 x1 x2 (0 : Int32) (ax_sI s 63 5 (0 : Int32)) with
      | none => rw [hz3] at h; cases h
      | some z3 =>
      rw [hz3] at h
      refine ax_cut (pc' := 29) (la := [some (.ref 63), some (.int x1), some (.int x2), some (.int (0 : Int32)), none, none, none]) [some (.ref 63), some (.int x1), some (.int x2), some (.int (0 : Int32)), none, none, none] (st' := []) (σ' := (ax_sI s 63 5 (0 : Int32))) 16 (And.intro rfl (And.intro rfl (And.intro rfl (And.intro rfl (trivial))))) (fun _ hh => (Exists.intro (some (.int (M_in x1 (1 : Int32) (10 : Int32) s)), s) (And.intro (e_M_in (d + 1) x1 (1 : Int32) (10 : Int32) s) (And.intro (fun q => absurd q c1) (fun _ => (And.intro (fun _ => hh) (fun q => absurd c2 q))))))) (w_M_frames_l29 d 70000 x1 x2 (0 : Int32) (ax_sI s 63 5 (0 : Int32)) _ hz3 ?_ ?_)
      · intro  hq
        subst z3
        dsimp only at h
        cases hz4 : M_frames_l58 70000 x1 x2 (1 : Int32) (0 : Int32) (ax_sI s 63 5 (0 : Int32)) with
        | none => rw [hz4] at h; cases h
        | some z4 =>
        rw [hz4] at h
        refine ax_cut (pc' := 58) (la := [some (.ref 63), some (.int x1), some (.int x2), some (.int (1 : Int32)), some (.int (0 : Int32)), none, none]) [some (.ref 63), some (.int x1), some (.int x2), some (.int (1 : Int32)), some (.int (0 : Int32)), none, none] (st' := []) (σ' := (ax_sI s 63 5 (0 : Int32))) 4 (And.intro rfl (And.intro rfl (And.intro rfl (And.intro rfl (And.intro rfl (trivial)))))) (fun _ hh => hh) (w_M_frames_l58 d 70000 x1 x2 (1 : Int32) (0 : Int32) (ax_sI s 63 5 (0 : Int32)) _ hz4 ?_)
        · intro s2 hq
          subst z4
          dsimp only at h
          cases hz5 : M_frames_l81 70000 x1 x2 (1 : Int32) (0 : Int32) s2 with
          | none => rw [hz5] at h; cases h
          | some z5 =>
          rw [hz5] at h
          refine ax_cut (pc' := 81) (la := [some (.ref 63), some (.int x1), some (.int x2), some (.int (1 : Int32)), some (.int (0 : Int32)), none, none]) [some (.ref 63), some (.int x1), some (.int x2), some (.int (1 : Int32)), some (.int (0 : Int32)), none, none] (st' := []) (σ' := s2) 2 (And.intro rfl (And.intro rfl (And.intro rfl (And.intro rfl (And.intro rfl (trivial)))))) (fun _ hh => hh) (w_M_frames_l81 d 70000 x1 x2 (1 : Int32) (0 : Int32) s2 _ hz5 ?_)
          · intro v7 s8 hq
            subst z5
            dsimp only at h
            have h := Option.some.inj h
            subst r
            exact ax_end 2 rfl
      · intro q hq
        subst z3
        dsimp only at h
        cases h
        rfl
    · rw [if_neg c2] at h
      have h := Option.some.inj h
      subst r
      exact ax_end 13 (Exists.intro (some (.int (M_in x1 (1 : Int32) (10 : Int32) s)), s) (And.intro (e_M_in (d + 1) x1 (1 : Int32) (10 : Int32) s) (And.intro (fun q => absurd q c1) (fun _ => (And.intro (fun q => absurd q c2) (fun _ => rfl))))))
