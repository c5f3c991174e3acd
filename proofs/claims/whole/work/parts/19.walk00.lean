def XLaRe_nu (w : Nat) : Nat := match w with
  | 0 => 55 | 1 => 56 | 2 => 57 | 3 => 48 | _ => 49
def XLaRe_as (w : Nat) (a b : Int32) : List Value := match w with
  | 2 => [.ref 54, .int a, .int b]
  | _ => [.ref 54, .int a]
def XTa_peek  (s : ax_S) : Option (Int32) :=
  if (s.2.1 1 3) < 0 then (
    some (-1 : Int32)) else
  if (s.2.1 1 2) ≤ (s.2.1 1 3) then (
    some (-1 : Int32)) else
  if (260 : Int32) ≤ (s.2.1 1 3) then (
    some (-1 : Int32)) else
  if ((s.2.1 1 3) < 0 ∨ 260 ≤ ((s.2.1 1 3)).toNatClampNeg) then none else
  some (s.2.1 2 ((s.2.1 1 3)).toNatClampNeg)
theorem e_XTa_peek (d : Nat)  {s : ax_S} {r : Int32} (h : XTa_peek s = some r) : ax_ev true (d + 1) 26 [.ref 1] s (some (.int r), s) := by
  refine ⟨Nat.le_of_ble_eq_true rfl, ?_⟩
  show ax_go true none (ax_ev true (d + 0)) ax_m26 0 [some (.ref 1)] [] s _
  unfold XTa_peek at h
  by_cases c1 : (s.2.1 1 3) < 0
  · rw [if_pos c1] at h
    have h := Option.some.inj h
    subst r
    exact ax_end 5 (And.intro (fun _ => rfl) (fun q => absurd c1 q))
  · rw [if_neg c1] at h
    by_cases c2 : (s.2.1 1 2) ≤ (s.2.1 1 3)
    · rw [if_pos c2] at h
      have h := Option.some.inj h
      subst r
      exact ax_end 10 (And.intro (fun q => absurd q c1) (fun _ => (And.intro (fun _ => rfl) (fun q => absurd c2 q))))
    · rw [if_neg c2] at h
      by_cases c3 : (260 : Int32) ≤ (s.2.1 1 3)
      · rw [if_pos c3] at h
        have h := Option.some.inj h
        subst r
        exact ax_end 16 (And.intro (fun q => absurd q c1) (fun _ => (And.intro (fun q => absurd q c2) (fun _ => (And.intro (fun _ => rfl) (fun q => absurd c3 q))))))
      · rw [if_neg c3] at h
        refine ax_cut (pc' := 34) (la := [some (.ref 1)]) [some (.ref 1)] (st' := [.ref 2]) (σ' := s) 16 (And.intro rfl (trivial)) (fun _ hh => (And.intro (fun q => absurd q c1) (fun _ => (And.intro (fun q => absurd q c2) (fun _ => (And.intro (fun q => absurd q c3) (fun _ => hh))))))) ?_
        by_cases c4 : ((s.2.1 1 3) < 0 ∨ 260 ≤ ((s.2.1 1 3)).toNatClampNeg)
        · rw [if_pos c4] at h; cases h
        · rw [if_neg c4] at h
          have h := Option.some.inj h
          subst r
          exact ax_end 5 (And.intro c4 rfl)
def XTa_step  (s : ax_S) : ax_S :=
  (ax_sI s 1 3 ((s.2.1 1 3) + (1 : Int32)))
theorem e_XTa_step (d : Nat)  (s : ax_S) : ax_ev true (d + 1) 34 [.ref 1] s (none, (XTa_step s)) := by
  refine ⟨Nat.le_of_ble_eq_true rfl, ?_⟩
  generalize h : XTa_step s = r
  show ax_go true none (ax_ev true (d + 0)) ax_m34 0 [some (.ref 1)] [] s _
  unfold XTa_step at h
  have h := h
  subst r
  exact ax_end 7 rfl
def XLa_add_44 (x1 : Int32) (x2 : Int32)  (s : ax_S) : Option (ax_S) :=
  if (256 : Int32) ≤ (s.2.1 44 8) then (
    some s) else
  if ((s.2.1 44 8) < 0 ∨ 256 ≤ ((s.2.1 44 8)).toNatClampNeg) then none else
  if ((s.2.1 44 8) < 0 ∨ 256 ≤ ((s.2.1 44 8)).toNatClampNeg) then none else
  some (ax_sI (ax_sI (ax_sI s 49 ((s.2.1 44 8)).toNatClampNeg x1) 50 ((s.2.1 44 8)).toNatClampNeg x2) 44 8 ((s.2.1 44 8) + (1 : Int32)))
theorem e_XLa_add_44 (d : Nat) {x1 : Int32} {x2 : Int32} {s : ax_S} {r : ax_S} (h : XLa_add_44 x1 x2 s = some r) : ax_ev true (d + 1) 51 [.ref 44, .int x1, .int x2] s (none, r) := by
  refine ⟨Nat.le_of_ble_eq_true rfl, ?_⟩
  show ax_go true none (ax_ev true (d + 0)) ax_m51 0 [some (.ref 44), some (.int x1), some (.int x2)] [] s _
  unfold XLa_add_44 at h
  by_cases c1 : (256 : Int32) ≤ (s.2.1 44 8)
  · rw [if_pos c1] at h
    have h := Option.some.inj h
    subst r
    exact ax_end 7 (And.intro (fun _ => rfl) (fun q => absurd c1 q))
  · rw [if_neg c1] at h
    by_cases c2 : ((s.2.1 44 8) < 0 ∨ 256 ≤ ((s.2.1 44 8)).toNatClampNeg)
    · rw [if_pos c2] at h; cases h
    · rw [if_neg c2] at h
      refine ax_cut (pc' := 30) (la := [some (.ref 44), some (.int x1), some (.int x2)]) [some (.ref 44), none, some (.int x2)] (st' := [.int (s.2.1 44 8), .ref 50]) (σ' := (ax_sI s 49 ((s.2.1 44 8)).toNatClampNeg x1)) 16 (And.intro rfl (And.intro rfl (trivial))) (fun _ hh => (And.intro (fun q => absurd q c1) (fun _ => (And.intro c2 hh)))) ?_
      by_cases c3 : ((s.2.1 44 8) < 0 ∨ 256 ≤ ((s.2.1 44 8)).toNatClampNeg)
      · rw [if_pos c3] at h; cases h
      · rw [if_neg c3] at h
        have h := Option.some.inj h
        subst r
        exact ax_end 9 (And.intro c3 rfl)
def XLaRe_readCondition_j48 (x1 : Int32) (x2 : Int32) (x3 : Int32) (x4 : Int32) (y0 : Int32)  (s : ax_S) : Option (ax_S) :=
  if y0 = (124 : Int32) then (
    if x2 = 0 then (
      some s) else
    match XLa_add_44 (124 : Int32) (0 : Int32) s with
    | none => none
    | some s3 =>
      some s3) else
  some s
def XLaRe_readCondition_j73 (x1 : Int32) (x2 : Int32) (x4 : Int32) (y0 : Int32)  (s : ax_S) : Option (Int32 × ax_S) :=
  if y0 = (38 : Int32) then (
    match XLa_add_44 (38 : Int32) (0 : Int32) s with
    | none => none
    | some s6 =>
      some (x2, s6)) else
  some ((1 : Int32), s)
def XLaRe_readCondition_j48_1 (x1 : Int32) (x2 : Int32) (x3 : Int32) (x4 : Int32) (y0 : Int32)  (s : ax_S) : Option (ax_S) :=
  if y0 = (124 : Int32) then (
    if x2 = 0 then (
      some s) else
    match XLa_add_44 (124 : Int32) (0 : Int32) s with
    | none => none
    | some s10 =>
      some s10) else
  some s
def XLaRe_readCondition_j73_1 (x1 : Int32) (x2 : Int32) (x4 : Int32) (y0 : Int32)  (s : ax_S) : Option (Int32 × ax_S) :=
  if y0 = (38 : Int32) then (
    match XLa_add_44 (38 : Int32) (0 : Int32) s with
    | none => none
    | some s13 =>
      some (x2, s13)) else
  some ((1 : Int32), s)
def XLaRe_readCondition_l18 (rec : Nat → Int32 → Int32 → ax_S → Option ax_S) : Nat → Int32 → Int32 → Int32 → Int32 → ax_S → Option (Int32 × ax_S)
  | 0, _, _, _, _, _ => none
  | n + 1, x1, x2, x3, x4, s =>
    if (240 : Int32) ≤ x4 then (
      some (x2, s)) else
    if x3 = (38 : Int32) then (
      match XLaRe_readCondition_j48 x1 x2 x3 x4 x3 (XTa_step s) with
      | none => none
      | some s4 =>
        match rec 1 x1 0 s4 with
        | none => none
        | some s5 =>
          match XLaRe_readCondition_j73 x1 x2 x4 x3 s5 with
          | none => none
          | some (v7, s8) =>
            match XTa_peek s8 with
            | none => none
            | some v9 =>
              XLaRe_readCondition_l18 rec n x1 v7 v9 (x4 + (1)) s8) else
    if x3 = (124 : Int32) then (
      match XLaRe_readCondition_j48_1 x1 x2 x3 x4 x3 (XTa_step s) with
      | none => none
      | some s11 =>
        match rec 1 x1 0 s11 with
        | none => none
        | some s12 =>
          match XLaRe_readCondition_j73_1 x1 x2 x4 x3 s12 with
          | none => none
          | some (v14, s15) =>
            match XTa_peek s15 with
            | none => none
            | some v16 =>
              XLaRe_readCondition_l18 rec n x1 v14 v16 (x4 + (1)) s15) else
    some (x2, s)
def XLaRe_readCondition (rec : Nat → Int32 → Int32 → ax_S → Option ax_S) (x1 : Int32)  (s : ax_S) : Option (ax_S) :=
  match rec 1 x1 0 s with
  | none => none
  | some s1 =>
    match XTa_peek s1 with
    | none => none
    | some v2 =>
      match XLaRe_readCondition_l18 rec 70000 x1 (0 : Int32) v2 (0 : Int32) s1 with
      | none => none
      | some (v17, s18) =>
        if v17 = 0 then (
          some s18) else
        match XLa_add_44 (124 : Int32) (0 : Int32) s18 with
        | none => none
        | some s19 =>
          some s19
theorem w_XLaRe_readCondition_j48 (d : Nat) {o : ax_O} (x1 : Int32) (x2 : Int32) (x3 : Int32) (x4 : Int32) (y0 : Int32) (s : ax_S) (r : ax_S) (h : XLaRe_readCondition_j48 x1 x2 x3 x4 y0 s = some r) (hk0 : ∀ (t0 : ax_S), r = t0 → ax_go true none (ax_ev true (d + 2)) ax_m55 65 [some (.ref 54), some (.int x1), some (.int x2), some (.int x3), some (.int x4)] [] t0 o) : ax_go true none (ax_ev true (d + 2)) ax_m55 48 [some (.ref 54), some (.int x1), some (.int x2), some (.int x3), some (.int x4)] [.int (124 : Int32), .int y0] s o := by
  unfold XLaRe_readCondition_j48 at h
  by_cases c1 : y0 = (124 : Int32)
  · rw [if_pos c1] at h
    by_cases c2 : x2 = 0
    · rw [if_pos c2] at h
      have h := Option.some.inj h
      subst r
      exact ax_cut (pc' := 65) (la := [some (.ref 54), some (.int x1), some (.int x2), some (.int x3), some (.int x4)]) [some (.ref 54), some (.int x1), some (.int x2), some (.int x3), some (.int x4)] (st' := []) (σ' := s) 3 (And.intro rfl (And.intro rfl (And.intro rfl (And.intro rfl (And.intro rfl (trivial)))))) (fun _ hh => (And.intro (fun q => absurd c1 q) (fun _ => (And.intro (fun _ => hh) (fun q => absurd c2 q))))) (hk0 _ rfl)
    · rw [if_neg c2] at h
      cases hz3 : XLa_add_44 (124 : Int32) (0 : Int32) s with
      | none => rw [hz3] at h; cases h
      | some s3 =>
      rw [hz3] at h
      dsimp only at h
      have h := Option.some.inj h
      subst r
      exact ax_cut (pc' := 65) (la := [some (.ref 54), some (.int x1), some (.int x2), some (.int x3), some (.int x4)]) [some (.ref 54), some (.int x1), some (.int x2), some (.int x3), some (.int x4)] (st' := []) (σ' := s3) 8 (And.intro rfl (And.intro rfl (And.intro rfl (And.intro rfl (And.intro rfl (trivial)))))) (fun _ hh => (And.intro (fun q => absurd c1 q) (fun _ => (And.intro (fun q => absurd q c2) (fun _ => (Exists.intro (none, s3) (And.intro (e_XLa_add_44 (d + 1) hz3) hh))))))) (hk0 _ rfl)
  · rw [if_neg c1] at h
    have h := Option.some.inj h
    subst r
    exact ax_cut (pc' := 65) (la := [some (.ref 54), some (.int x1), some (.int x2), some (.int x3), some (.int x4)]) [some (.ref 54), some (.int x1), some (.int x2), some (.int x3), some (.int x4)] (st' := []) (σ' := s) 1 (And.intro rfl (And.intro rfl (And.intro rfl (And.intro rfl (And.intro rfl (trivial)))))) (fun _ hh => (And.intro (fun _ => hh) (fun q => absurd c1 q))) (hk0 _ rfl)
theorem w_XLaRe_readCondition_j73 (d : Nat) {o : ax_O} (x1 : Int32) (x2 : Int32) (x4 : Int32) (y0 : Int32) (s : ax_S) (r : Int32 × ax_S) (h : XLaRe_readCondition_j73 x1 x2 x4 y0 s = some r) (hk0 : ∀ (t0 : Int32) (t1 : ax_S), r = (t0, t1) → ax_go true none (ax_ev true (d + 2)) ax_m55 91 [some (.ref 54), some (.int x1), some (.int t0), none, some (.int x4)] [] t1 o) : ax_go true none (ax_ev true (d + 2)) ax_m55 73 [some (.ref 54), some (.int x1), some (.int x2), none, some (.int x4)] [.int (38 : Int32), .int y0] s o := by
  unfold XLaRe_readCondition_j73 at h
  by_cases c1 : y0 = (38 : Int32)
  · rw [if_pos c1] at h
    cases hz2 : XLa_add_44 (38 : Int32) (0 : Int32) s with
    | none => rw [hz2] at h; cases h
    | some s6 =>
    rw [hz2] at h
    dsimp only at h
    have h := Option.some.inj h
    subst r
    exact ax_cut (pc' := 91) (la := [some (.ref 54), some (.int x1), some (.int x2), none, some (.int x4)]) [some (.ref 54), some (.int x1), some (.int x2), none, some (.int x4)] (st' := []) (σ' := s6) 7 (And.intro rfl (And.intro rfl (And.intro rfl (And.intro rfl (trivial))))) (fun _ hh => (And.intro (fun q => absurd c1 q) (fun _ => (Exists.intro (none, s6) (And.intro (e_XLa_add_44 (d + 1) hz2) hh))))) (hk0 _ _ rfl)
  · rw [if_neg c1] at h
    have h := Option.some.inj h
    subst r
    exact ax_cut (pc' := 91) (la := [some (.ref 54), some (.int x1), some (.int (1 : Int32)), none, some (.int x4)]) [some (.ref 54), some (.int x1), some (.int (1 : Int32)), none, some (.int x4)] (st' := []) (σ' := s) 3 (And.intro rfl (And.intro rfl (And.intro rfl (And.intro rfl (trivial))))) (fun _ hh => (And.intro (fun _ => hh) (fun q => absurd c1 q))) (hk0 _ _ rfl)
theorem w_XLaRe_readCondition_j48_1 (d : Nat) {o : ax_O} (x1 : Int32) (x2 : Int32) (x3 : Int32) (x4 : Int32) (y0 : Int32) (s : ax_S) (r : ax_S) (h : XLaRe_readCondition_j48_1 x1 x2 x3 x4 y0 s = some r) (hk0 : ∀ (t0 : ax_S), r = t0 → ax_go true none (ax_ev true (d + 2)) ax_m55 65 [some (.ref 54), some (.int x1), some (.int x2), some (.int x3), some (.int x4)] [] t0 o) : ax_go true none (ax_ev true (d + 2)) ax_m55 48 [some (.ref 54), some (.int x1), some (.int x2), some (.int x3), some (.int x4)] [.int (124 : Int32), .int y0] s o := by
  unfold XLaRe_readCondition_j48_1 at h
  by_cases c1 : y0 = (124 : Int32)
  · rw [if_pos c1] at h
    by_cases c2 : x2 = 0
    · rw [if_pos c2] at h
      have h := Option.some.inj h
      subst r
      exact ax_cut (pc' := 65) (la := [some (.ref 54), some (.int x1), some (.int x2), some (.int x3), some (.int x4)]) [some (.ref 54), some (.int x1), some (.int x2), some (.int x3), some (.int x4)] (st' := []) (σ' := s) 3 (And.intro rfl (And.intro rfl (And.intro rfl (And.intro rfl (And.intro rfl (trivial)))))) (fun _ hh => (And.intro (fun q => absurd c1 q) (fun _ => (And.intro (fun _ => hh) (fun q => absurd c2 q))))) (hk0 _ rfl)
    · rw [if_neg c2] at h
      cases hz3 : XLa_add_44 (124 : Int32) (0 : Int32) s with
      | none => rw [hz3] at h; cases h
      | some s10 =>
      rw [hz3] at h
      dsimp only at h
      have h := Option.some.inj h
      subst r
      exact ax_cut (pc' := 65) (la := [some (.ref 54), some (.int x1), some (.int x2), some (.int x3), some (.int x4)]) [some (.ref 54), some (.int x1), some (.int x2), some (.int x3), some (.int x4)] (st' := []) (σ' := s10) 8 (And.intro rfl (And.intro rfl (And.intro rfl (And.intro rfl (And.intro rfl (trivial)))))) (fun _ hh => (And.intro (fun q => absurd c1 q) (fun _ => (And.intro (fun q => absurd q c2) (fun _ => (Exists.intro (none, s10) (And.intro (e_XLa_add_44 (d + 1) hz3) hh))))))) (hk0 _ rfl)
  · rw [if_neg c1] at h
    have h := Option.some.inj h
    subst r
    exact ax_cut (pc' := 65) (la := [some (.ref 54), some (.int x1), some (.int x2), some (.int x3), some (.int x4)]) [some (.ref 54), some (.int x1), some (.int x2), some (.int x3), some (.int x4)] (st' := []) (σ' := s) 1 (And.intro rfl (And.intro rfl (And.intro rfl (And.intro rfl (And.intro rfl (trivial)))))) (fun _ hh => (And.intro (fun _ => hh) (fun q => absurd c1 q))) (hk0 _ rfl)
theorem w_XLaRe_readCondition_j73_1 (d : Nat) {o : ax_O} (x1 : Int32) (x2 : Int32) (x4 : Int32) (y0 : Int32) (s : ax_S) (r : Int32 × ax_S) (h : XLaRe_readCondition_j73_1 x1 x2 x4 y0 s = some r) (hk0 : ∀ (t0 : Int32) (t1 : ax_S), r = (t0, t1) → ax_go true none (ax_ev true (d + 2)) ax_m55 91 [some (.ref 54), some (.int x1), some (.int t0), none, some (.int x4)] [] t1 o) : ax_go true none (ax_ev true (d + 2)) ax_m55 73 [some (.ref 54), some (.int x1), some (.int x2), none, some (.int x4)] [.int (38 : Int32), .int y0] s o := by
  unfold XLaRe_readCondition_j73_1 at h
  by_cases c1 : y0 = (38 : Int32)
  · rw [if_pos c1] at h
    cases hz2 : XLa_add_44 (38 : Int32) (0 : Int32) s with
    | none => rw [hz2] at h; cases h
    | some s13 =>
    rw [hz2] at h
    dsimp only at h
    have h := Option.some.inj h
    subst r
    exact ax_cut (pc' := 91) (la := [some (.ref 54), some (.int x1), some (.int x2), none, some (.int x4)]) [some (.ref 54), some (.int x1), some (.int x2), none, some (.int x4)] (st' := []) (σ' := s13) 7 (And.intro rfl (And.intro rfl (And.intro rfl (And.intro rfl (trivial))))) (fun _ hh => (And.intro (fun q => absurd c1 q) (fun _ => (Exists.intro (none, s13) (And.intro (e_XLa_add_44 (d + 1) hz2) hh))))) (hk0 _ _ rfl)
  · rw [if_neg c1] at h
    have h := Option.some.inj h
    subst r
    exact ax_cut (pc' := 91) (la := [some (.ref 54), some (.int x1), some (.int (1 : Int32)), none, some (.int x4)]) [some (.ref 54), some (.int x1), some (.int (1 : Int32)), none, some (.int x4)] (st' := []) (σ' := s) 3 (And.intro rfl (And.intro rfl (And.intro rfl (And.intro rfl (trivial))))) (fun _ hh => (And.intro (fun _ => hh) (fun q => absurd c1 q))) (hk0 _ _ rfl)
theorem w_XLaRe_readCondition_l18 (d : Nat) (rec : Nat → Int32 → Int32 → ax_S → Option ax_S) (hrec : ∀ w a b s s', rec w a b s = some s' → ax_ev true (d + 2) (XLaRe_nu w) (XLaRe_as w a b) s (none, s')) {o : ax_O} : ∀ (n : Nat) (x1 : Int32) (x2 : Int32) (x3 : Int32) (x4 : Int32) (s : ax_S) (r : Int32 × ax_S) (h : XLaRe_readCondition_l18 rec n x1 x2 x3 x4 s = some r) (hk0 : ∀ (t0 : Int32) (t1 : ax_S), r = (t0, t1) → ax_go true none (ax_ev true (d + 2)) ax_m55 105 [some (.ref 54), none, some (.int t0), none, none] [] t1 o), ax_go true none (ax_ev true (d + 2)) ax_m55 18 [some (.ref 54), some (.int x1), some (.int x2), some (.int x3), some (.int x4)] [] s o := by
  intro n
  induction n with
  | zero => intro x1 x2 x3 x4 s r h hk0; cases h
  | succ n ih =>
    intro x1 x2 x3 x4 s r h hk0
    rw [XLaRe_readCondition_l18] at h
    by_cases c1 : (240 : Int32) ≤ x4
    · rw [if_pos c1] at h
      have h := Option.some.inj h
      subst r
      exact ax_cut (pc' := 105) (la := [some (.ref 54), some (.int x1), some (.int x2), some (.int x3), some (.int x4)]) [some (.ref 54), none, some (.int x2), none, none] (st' := []) (σ' := s) 3 (And.intro rfl (And.intro rfl (trivial))) (fun _ hh => (And.intro (fun _ => hh) (fun q => absurd c1 q))) (hk0 _ _ rfl)
    · rw [if_neg c1] at h
      by_cases c2 : x3 = (38 : Int32)
      · rw [if_pos c2] at h
        cases hz3 : XLaRe_readCondition_j48 x1 x2 x3 x4 x3 (XTa_step s) with
        | none => rw [hz3] at h; cases h
        | some z3 =>
        rw [hz3] at h
        refine ax_cut (pc' := 48) (la := [some (.ref 54), some (.int x1), some (.int x2), some (.int x3), some (.int x4)]) [some (.ref 54), some (.int x1), some (.int x2), some (.int x3), some (.int x4)] (st' := [.int (124 : Int32), .int x3]) (σ' := (XTa_step s)) 11 (And.intro rfl (And.intro rfl (And.intro rfl (And.intro rfl (And.intro rfl (trivial)))))) (fun _ hh => (And.intro (fun q => absurd q c1) (fun _ => (And.intro (fun _ => (Exists.intro (none, (XTa_step s)) (And.intro (e_XTa_step (d + 1)  s) hh))) (fun q => absurd c2 q))))) (w_XLaRe_readCondition_j48 d x1 x2 x3 x4 x3 (XTa_step s) _ hz3 ?_)
        · intro s4 hq
          subst z3
          dsimp only at h
          cases hz4 : rec 1 x1 0 s4 with
          | none => rw [hz4] at h; cases h
          | some s5 =>
          rw [hz4] at h
          dsimp only at h
          cases hz5 : XLaRe_readCondition_j73 x1 x2 x4 x3 s5 with
          | none => rw [hz5] at h; cases h
          | some z5 =>
          rw [hz5] at h
          refine ax_cut (pc' := 73) (la := [some (.ref 54), some (.int x1), some (.int x2), some (.int x3), some (.int x4)]) [some (.ref 54), some (.int x1), some (.int x2), none, some (.int x4)] (st' := [.int (38 : Int32), .int x3]) (σ' := s5) 5 (And.intro rfl (And.intro rfl (And.intro rfl (And.intro rfl (trivial))))) (fun _ hh => (Exists.intro (none, s5) (And.intro (hrec _ _ _ _ _ hz4) hh))) (w_XLaRe_readCondition_j73 d x1 x2 x4 x3 s5 _ hz5 ?_)
          · intro v7 s8 hq
            subst z5
            dsimp only at h
            cases hz6 : XTa_peek s8 with
            | none => rw [hz6] at h; cases h
            | some v9 =>
            rw [hz6] at h
            dsimp only at h
            exact ax_cut (pc' := 18) (la := [some (.ref 54), some (.int x1), some (.int v7), some (.int v9), some (.int (x4 + (1)))]) [some (.ref 54), some (.int x1), some (.int v7), some (.int v9), some (.int (x4 + (1)))] (st' := []) (σ' := s8) 6 (And.intro rfl (And.intro rfl (And.intro rfl (And.intro rfl (And.intro rfl (trivial)))))) (fun _ hh => (Exists.intro (some (.int v9), s8) (And.intro (e_XTa_peek (d + 1) hz6) hh))) (ih x1 v7 v9 (x4 + (1)) s8 _ h hk0)
      · rw [if_neg c2] at h
        by_cases c7 : x3 = (124 : Int32)
        · rw [if_pos c7] at h
          cases hz8 : XLaRe_readCondition_j48_1 x1 x2 x3 x4 x3 (XTa_step s) with
          | none => rw [hz8] at h; cases h
          | some z8 =>
          rw [hz8] at h
          refine ax_cut (pc' := 48) (la := [some (.ref 54), some (.int x1), some (.int x2), some (.int x3), some (.int x4)]) [some (.ref 54), some (.int x1), some (.int x2), some (.int x3), some (.int x4)] (st' := [.int (124 : Int32), .int x3]) (σ' := (XTa_step s)) 14 (And.intro rfl (And.intro rfl (And.intro rfl (And.intro rfl (And.intro rfl (trivial)))))) (fun _ hh => (And.intro (fun q => absurd q c1) (fun _ => (And.intro (fun q => absurd q c2) (fun _ => (And.intro (fun q => absurd c7 q) (fun _ => (Exists.intro (none, (XTa_step s)) (And.intro (e_XTa_step (d + 1)  s) hh))))))))) (w_XLaRe_readCondition_j48_1 d x1 x2 x3 x4 x3 (XTa_step s) _ hz8 ?_)
          · intro s11 hq
            subst z8
            dsimp only at h
            cases hz9 : rec 1 x1 0 s11 with
            | none => rw [hz9] at h; cases h
            | some s12 =>
            rw [hz9] at h
            dsimp only at h
            cases hz10 : XLaRe_readCondition_j73_1 x1 x2 x4 x3 s12 with
            | none => rw [hz10] at h; cases h
            | some z10 =>
            rw [hz10] at h
            refine ax_cut (pc' := 73) (la := [some (.ref 54), some (.int x1), some (.int x2), some (.int x3), some (.int x4)]) [some (.ref 54), some (.int x1), some (.int x2), none, some (.int x4)] (st' := [.int (38 : Int32), .int x3]) (σ' := s12) 5 (And.intro rfl (And.intro rfl (And.intro rfl (And.intro rfl (trivial))))) (fun _ hh => (Exists.intro (none, s12) (And.intro (hrec _ _ _ _ _ hz9) hh))) (w_XLaRe_readCondition_j73_1 d x1 x2 x4 x3 s12 _ hz10 ?_)
            · intro v14 s15 hq
              subst z10
              dsimp only at h
              cases hz11 : XTa_peek s15 with
              | none => rw [hz11] at h; cases h
              | some v16 =>
              rw [hz11] at h
              dsimp only at h
              exact ax_cut (pc' := 18) (la := [some (.ref 54), some (.int x1), some (.int v14), some (.int v16), some (.int (x4 + (1)))]) [some (.ref 54), some (.int x1), some (.int v14), some (.int v16), some (.int (x4 + (1)))] (st' := []) (σ' := s15) 6 (And.intro rfl (And.intro rfl (And.intro rfl (And.intro rfl (And.intro rfl (trivial)))))) (fun _ hh => (Exists.intro (some (.int v16), s15) (And.intro (e_XTa_peek (d + 1) hz11) hh))) (ih x1 v14 v16 (x4 + (1)) s15 _ h hk0)
        · rw [if_neg c7] at h
          have h := Option.some.inj h
          subst r
          exact ax_cut (pc' := 105) (la := [some (.ref 54), some (.int x1), some (.int x2), some (.int x3), some (.int x4)]) [some (.ref 54), none, some (.int x2), none, none] (st' := []) (σ' := s) 9 (And.intro rfl (And.intro rfl (trivial))) (fun _ hh => (And.intro (fun q => absurd q c1) (fun _ => (And.intro (fun q => absurd q c2) (fun _ => (And.intro (fun _ => hh) (fun q => absurd c7 q))))))) (hk0 _ _ rfl)
theorem e_XLaRe_readCondition (d : Nat) (rec : Nat → Int32 → Int32 → ax_S → Option ax_S) (hrec : ∀ w a b s s', rec w a b s = some s' → ax_ev true (d + 2) (XLaRe_nu w) (XLaRe_as w a b) s (none, s')) {x1 : Int32} {s : ax_S} {r : ax_S} (h : XLaRe_readCondition rec x1 s = some r) : ax_ev true (d + 3) 55 [.ref 54, .int x1] s (none, r) := by
  refine ⟨Nat.le_of_ble_eq_true rfl, ?_⟩
  show ax_go true none (ax_ev true (d + 2)) ax_m55 0 [some (.ref 54), some (.int x1), none, none, none] [] s _
  unfold XLaRe_readCondition at h
  cases hz1 : rec 1 x1 0 s with
  | none => rw [hz1] at h; cases h
  | some s1 =>
  rw [hz1] at h
  dsimp only at h
  cases hz2 : XTa_peek s1 with
  | none => rw [hz2] at h; cases h
  | some v2 =>
  rw [hz2] at h
  dsimp only at h
  cases hz3 : XLaRe_readCondition_l18 rec 70000 x1 (0 : Int32) v2 (0 : Int32) s1 with
  | none => rw [hz3] at h; cases h
  | some z3 =>
  rw [hz3] at h
  refine ax_cut (pc' := 18) (la := [some (.ref 54), some (.int x1), some (.int (0 : Int32)), some (.int v2), some (.int (0 : Int32))]) [some (.ref 54), some (.int x1), some (.int (0 : Int32)), some (.int v2), some (.int (0 : Int32))] (st' := []) (σ' := s1) 11 (And.intro rfl (And.intro rfl (And.intro rfl (And.intro rfl (And.intro rfl (trivial)))))) (fun _ hh => (Exists.intro (none, s1) (And.intro (hrec _ _ _ _ _ hz1) (Exists.intro (some (.int v2), s1) (And.intro (e_XTa_peek (d + 1) hz2) hh))))) (w_XLaRe_readCondition_l18 d rec hrec 70000 x1 (0 : Int32) v2 (0 : Int32) s1 _ hz3 ?_)
  · intro v17 s18 hq
    subst z3
    dsimp only at h
    by_cases c4 : v17 = 0
    · rw [if_pos c4] at h
      have h := Option.some.inj h
      subst r
      exact ax_end 3 (And.intro (fun _ => rfl) (fun q => absurd c4 q))
    · rw [if_neg c4] at h
      cases hz5 : XLa_add_44 (124 : Int32) (0 : Int32) s18 with
      | none => rw [hz5] at h; cases h
      | some s19 =>
      rw [hz5] at h
      dsimp only at h
      have h := Option.some.inj h
      subst r
      exact ax_end 8 (And.intro (fun q => absurd q c4) (fun _ => (Exists.intro (none, s19) (And.intro (e_XLa_add_44 (d + 1) hz5) rfl))))
def XTa_refuseAt (x1 : Int32) (x2 : Int32)  (s : ax_S) : ax_S :=
  if (s.2.1 1 5) = 0 then (
    (ax_sI s 1 5 (((-1000 : Int32) * x1) - x2))) else
  s
theorem e_XTa_refuseAt (d : Nat) (x1 : Int32) (x2 : Int32) (s : ax_S) : ax_ev true (d + 1) 32 [.ref 1, .int x1, .int x2] s (none, (XTa_refuseAt x1 x2 s)) := by
  refine ⟨Nat.le_of_ble_eq_true rfl, ?_⟩
  generalize h : XTa_refuseAt x1 x2 s = r
  show ax_go true none (ax_ev true (d + 0)) ax_m32 0 [some (.ref 1), some (.int x1), some (.int x2)] [] s _
  unfold XTa_refuseAt at h
  by_cases c1 : (s.2.1 1 5) = 0
  · rw [if_pos c1] at h
    have h := h
    subst r
    exact ax_end 11 (And.intro (fun q => absurd c1 q) (fun _ => rfl))
  · rw [if_neg c1] at h
    have h := h
    subst r
    exact ax_end 4 (And.intro (fun _ => rfl) (fun q => absurd c1 q))
def XTa_refuse (x1 : Int32)  (s : ax_S) : ax_S :=
  (XTa_refuseAt x1 (s.2.1 1 3) s)
theorem e_XTa_refuse (d : Nat) (x1 : Int32) (s : ax_S) : ax_ev true (d + 2) 31 [.ref 1, .int x1] s (none, (XTa_refuse x1 s)) := by
  refine ⟨Nat.le_of_ble_eq_true rfl, ?_⟩
  generalize h : XTa_refuse x1 s = r
  show ax_go true none (ax_ev true (d + 1)) ax_m31 0 [some (.ref 1), some (.int x1)] [] s _
  unfold XTa_refuse at h
  have h := h
  subst r
  exact ax_end 6 (Exists.intro (none, (XTa_refuseAt x1 (s.2.1 1 3) s)) (And.intro (e_XTa_refuseAt d x1 (s.2.1 1 3) s) rfl))
def XLaRe_readTest (rec : Nat → Int32 → Int32 → ax_S → Option ax_S) (x1 : Int32)  (s : ax_S) : Option (ax_S) :=
  match XTa_peek s with
  | none => none
  | some v1 =>
    if v1 = (33 : Int32) then (
      match rec 2 v1 x1 s with
      | none => none
      | some s2 =>
        some s2) else
    if v1 = (40 : Int32) then (
      match rec 2 v1 x1 s with
      | none => none
      | some s11 =>
        some s11) else
    match rec 3 x1 0 s with
    | none => none
    | some s3 =>
      match XTa_peek s3 with
      | none => none
      | some v4 =>
        if v4 = (60 : Int32) then (
          match rec 3 x1 0 (XTa_step s3) with
          | none => none
          | some s5 =>
            match XLa_add_44 v4 (0 : Int32) s5 with
            | none => none
            | some s6 =>
              some s6) else
        if v4 = (62 : Int32) then (
          match rec 3 x1 0 (XTa_step s3) with
          | none => none
          | some s7 =>
            match XLa_add_44 v4 (0 : Int32) s7 with
            | none => none
            | some s8 =>
              some s8) else
        if v4 = (61 : Int32) then (
          match rec 3 x1 0 (XTa_step s3) with
          | none => none
          | some s9 =>
            match XLa_add_44 v4 (0 : Int32) s9 with
            | none => none
            | some s10 =>
              some s10) else
        some (XTa_refuse (1 : Int32) s3)
theorem e_XLaRe_readTest (d : Nat) (rec : Nat → Int32 → Int32 → ax_S → Option ax_S) (hrec : ∀ w a b s s', rec w a b s = some s' → ax_ev true (d + 2) (XLaRe_nu w) (XLaRe_as w a b) s (none, s')) {x1 : Int32} {s : ax_S} {r : ax_S} (h : XLaRe_readTest rec x1 s = some r) : ax_ev true (d + 3) 56 [.ref 54, .int x1] s (none, r) := by
  refine ⟨Nat.le_of_ble_eq_true rfl, ?_⟩
  show ax_go true none (ax_ev true (d + 2)) ax_m56 0 [some (.ref 54), some (.int x1), none, none] [] s _
  unfold XLaRe_readTest at h
  cases hz1 : XTa_peek s with
  | none => rw [hz1] at h; cases h
  | some v1 =>
  rw [hz1] at h
  dsimp only at h
  by_cases c2 : v1 = (33 : Int32)
  · rw [if_pos c2] at h
    cases hz3 : rec 2 v1 x1 s with
    | none => rw [hz3] at h; cases h
    | some s2 =>
    rw [hz3] at h
    dsimp only at h
    have h := Option.some.inj h
    subst r
    exact ax_end 12 (Exists.intro (some (.int v1), s) (And.intro (e_XTa_peek (d + 1) hz1) (And.intro (fun _ => (Exists.intro (none, s2) (And.intro (hrec _ _ _ _ _ hz3) rfl))) (fun q => absurd c2 q))))
  · rw [if_neg c2] at h
    by_cases c4 : v1 = (40 : Int32)
    · rw [if_pos c4] at h
      cases hz5 : rec 2 v1 x1 s with
      | none => rw [hz5] at h; cases h
      | some s11 =>
      rw [hz5] at h
      dsimp only at h
      have h := Option.some.inj h
      subst r
      exact ax_end 15 (Exists.intro (some (.int v1), s) (And.intro (e_XTa_peek (d + 1) hz1) (And.intro (fun q => absurd q c2) (fun _ => (And.intro (fun q => absurd c4 q) (fun _ => (Exists.intro (none, s11) (And.intro (hrec _ _ _ _ _ hz5) rfl))))))))
    · rw [if_neg c4] at h
      cases hz6 : rec 3 x1 0 s with
      | none => rw [hz6] at h; cases h
      | some s3 =>
      rw [hz6] at h
      dsimp only at h
      cases hz7 : XTa_peek s3 with
      | none => rw [hz7] at h; cases h
      | some v4 =>
      rw [hz7] at h
      dsimp only at h
      refine ax_cut (pc' := 39) (la := [some (.ref 54), some (.int x1), some (.int v1), none]) [some (.ref 54), some (.int x1), none, none] (st' := [.int v4]) (σ' := s3) 16 (And.intro rfl (And.intro rfl (trivial))) (fun _ hh => (Exists.intro (some (.int v1), s) (And.intro (e_XTa_peek (d + 1) hz1) (And.intro (fun q => absurd q c2) (fun _ => (And.intro (fun _ => (Exists.intro (none, s3) (And.intro (hrec _ _ _ _ _ hz6) (Exists.intro (some (.int v4), s3) (And.intro (e_XTa_peek (d + 1) hz7) hh))))) (fun q => absurd c4 q))))))) ?_
      by_cases c8 : v4 = (60 : Int32)
      · rw [if_pos c8] at h
        cases hz9 : rec 3 x1 0 (XTa_step s3) with
        | none => rw [hz9] at h; cases h
        | some s5 =>
        rw [hz9] at h
        dsimp only at h
        cases hz10 : XLa_add_44 v4 (0 : Int32) s5 with
        | none => rw [hz10] at h; cases h
        | some s6 =>
        rw [hz10] at h
        dsimp only at h
        have h := Option.some.inj h
        subst r
        exact ax_end 16 (And.intro (fun _ => (Exists.intro (none, (XTa_step s3)) (And.intro (e_XTa_step (d + 1)  s3) (Exists.intro (none, s5) (And.intro (hrec _ _ _ _ _ hz9) (Exists.intro (none, s6) (And.intro (e_XLa_add_44 (d + 1) hz10) rfl))))))) (fun q => absurd c8 q))
      · rw [if_neg c8] at h
        by_cases c11 : v4 = (62 : Int32)
        · rw [if_pos c11] at h
          cases hz12 : rec 3 x1 0 (XTa_step s3) with
          | none => rw [hz12] at h; cases h
          | some s7 =>
          rw [hz12] at h
          dsimp only at h
          refine ax_cut (pc' := 84) (la := [some (.ref 54), some (.int x1), none, some (.int v4)]) [none, none, none, none] (st' := [.int v4, .ref 44]) (σ' := s7) 16 (trivial) (fun _ hh => (And.intro (fun q => absurd q c8) (fun _ => (And.intro (fun _ => (Exists.intro (none, (XTa_step s3)) (And.intro (e_XTa_step (d + 1)  s3) (Exists.intro (none, s7) (And.intro (hrec _ _ _ _ _ hz12) hh))))) (fun q => absurd c11 q))))) ?_
          cases hz13 : XLa_add_44 v4 (0 : Int32) s7 with
          | none => rw [hz13] at h; cases h
          | some s8 =>
          rw [hz13] at h
          dsimp only at h
          have h := Option.some.inj h
          subst r
          exact ax_end 3 (Exists.intro (none, s8) (And.intro (e_XLa_add_44 (d + 1) hz13) rfl))
        · rw [if_neg c11] at h
          by_cases c14 : v4 = (61 : Int32)
          · rw [if_pos c14] at h
            cases hz15 : rec 3 x1 0 (XTa_step s3) with
            | none => rw [hz15] at h; cases h
            | some s9 =>
            rw [hz15] at h
            dsimp only at h
            refine ax_cut (pc' := 79) (la := [some (.ref 54), some (.int x1), none, some (.int v4)]) [some (.ref 54), none, none, some (.int v4)] (st' := []) (σ' := s9) 16 (And.intro rfl (And.intro rfl (trivial))) (fun _ hh => (And.intro (fun q => absurd q c8) (fun _ => (And.intro (fun q => absurd q c11) (fun _ => (And.intro (fun _ => (Exists.intro (none, (XTa_step s3)) (And.intro (e_XTa_step (d + 1)  s3) (Exists.intro (none, s9) (And.intro (hrec _ _ _ _ _ hz15) hh))))) (fun q => absurd c14 q))))))) ?_
            cases hz16 : XLa_add_44 v4 (0 : Int32) s9 with
            | none => rw [hz16] at h; cases h
            | some s10 =>
            rw [hz16] at h
            dsimp only at h
            have h := Option.some.inj h
            subst r
            exact ax_end 6 (Exists.intro (none, s10) (And.intro (e_XLa_add_44 (d + 1) hz16) rfl))
          · rw [if_neg c14] at h
            have h := Option.some.inj h
            subst r
            exact ax_end 15 (And.intro (fun q => absurd q c8) (fun _ => (And.intro (fun q => absurd q c11) (fun _ => (And.intro (fun q => absurd q c14) (fun _ => (Exists.intro (none, (XTa_refuse (1 : Int32) s3)) (And.intro (e_XTa_refuse d (1 : Int32) s3) rfl))))))))
def XTa_take (x1 : Int32)  (s : ax_S) : Option (Int32 × ax_S) :=
  match XTa_peek s with
  | none => none
  | some v1 =>
    if v1 = x1 then (
      some ((1 : Int32), (ax_sI s 1 3 ((s.2.1 1 3) + (1 : Int32))))) else
    some ((0 : Int32), (XTa_refuseAt (1 : Int32) (s.2.1 1 3) s))
theorem e_XTa_take (d : Nat) {x1 : Int32} {s : ax_S} {r : Int32 × ax_S} (h : XTa_take x1 s = some r) : ax_ev true (d + 2) 50 [.ref 1, .int x1] s (some (.int r.1), r.2) := by
  refine ⟨Nat.le_of_ble_eq_true rfl, ?_⟩
  show ax_go true none (ax_ev true (d + 1)) ax_m50 0 [some (.ref 1), some (.int x1)] [] s _
  unfold XTa_take at h
  cases hz1 : XTa_peek s with
  | none => rw [hz1] at h; cases h
  | some v1 =>
  rw [hz1] at h
  dsimp only at h
  by_cases c2 : v1 = x1
  · rw [if_pos c2] at h
    have h := Option.some.inj h
    subst r
    exact ax_end 12 (Exists.intro (some (.int v1), s) (And.intro (e_XTa_peek d hz1) (And.intro (fun q => absurd c2 q) (fun _ => (And.intro (Or.inr rfl) rfl)))))
  · rw [if_neg c2] at h
    have h := Option.some.inj h
    subst r
    exact ax_end 11 (Exists.intro (some (.int v1), s) (And.intro (e_XTa_peek d hz1) (And.intro (fun _ => (Exists.intro (none, (XTa_refuseAt (1 : Int32) (s.2.1 1 3) s)) (And.intro (e_XTa_refuseAt d (1 : Int32) (s.2.1 1 3) s) (And.intro (Or.inl rfl) rfl)))) (fun q => absurd c2 q))))
def XLaRe_readOpenTest (rec : Nat → Int32 → Int32 → ax_S → Option ax_S) (x1 : Int32) (x2 : Int32)  (s : ax_S) : Option (ax_S) :=
  if x2 < (6 : Int32) then (
    if x1 = (33 : Int32) then (
      match rec 1 (x2 + (1 : Int32)) 0 (XTa_step s) with
      | none => none
      | some s4 =>
        match XLa_add_44 (33 : Int32) (0 : Int32) s4 with
        | none => none
        | some s5 =>
          some s5) else
    match rec 0 (x2 + (1 : Int32)) 0 (XTa_step s) with
    | none => none
    | some s1 =>
      match XTa_take (41 : Int32) s1 with
      | none => none
      | some (v2, s3) =>
        some s3) else
  some (XTa_refuse (5 : Int32) s)
theorem e_XLaRe_readOpenTest (d : Nat) (rec : Nat → Int32 → Int32 → ax_S → Option ax_S) (hrec : ∀ w a b s s', rec w a b s = some s' → ax_ev true (d + 2) (XLaRe_nu w) (XLaRe_as w a b) s (none, s')) {x1 : Int32} {x2 : Int32} {s : ax_S} {r : ax_S} (h : XLaRe_readOpenTest rec x1 x2 s = some r) : ax_ev true (d + 3) 57 [.ref 54, .int x1, .int x2] s (none, r) := by
  refine ⟨Nat.le_of_ble_eq_true rfl, ?_⟩
  show ax_go true none (ax_ev true (d + 2)) ax_m57 0 [some (.ref 54), some (.int x1), some (.int x2)] [] s _
  unfold XLaRe_readOpenTest at h
  by_cases c1 : x2 < (6 : Int32)
  · rw [if_pos c1] at h
    by_cases c2 : x1 = (33 : Int32)
    · rw [if_pos c2] at h
      cases hz3 : rec 1 (x2 + (1 : Int32)) 0 (XTa_step s) with
      | none => rw [hz3] at h; cases h
      | some s4 =>
      rw [hz3] at h
      dsimp only at h
      refine ax_cut (pc' := 39) (la := [some (.ref 54), some (.int x1), some (.int x2)]) [none, none, none] (st' := [.ref 44]) (σ' := s4) 16 (trivial) (fun _ hh => (And.intro (fun _ => (Exists.intro (none, (XTa_step s)) (And.intro (e_XTa_step (d + 1)  s) (And.intro (fun q => absurd c2 q) (fun _ => (Exists.intro (none, s4) (And.intro (hrec _ _ _ _ _ hz3) hh))))))) (fun q => absurd c1 q))) ?_
      cases hz4 : XLa_add_44 (33 : Int32) (0 : Int32) s4 with
      | none => rw [hz4] at h; cases h
      | some s5 =>
      rw [hz4] at h
      dsimp only at h
      have h := Option.some.inj h
      subst r
      exact ax_end 5 (Exists.intro (none, s5) (And.intro (e_XLa_add_44 (d + 1) hz4) rfl))
    · rw [if_neg c2] at h
      cases hz5 : rec 0 (x2 + (1 : Int32)) 0 (XTa_step s) with
      | none => rw [hz5] at h; cases h
      | some s1 =>
      rw [hz5] at h
      dsimp only at h
      refine ax_cut (pc' := 59) (la := [some (.ref 54), some (.int x1), some (.int x2)]) [none, none, none] (st' := [.ref 1]) (σ' := s1) 16 (trivial) (fun _ hh => (And.intro (fun _ => (Exists.intro (none, (XTa_step s)) (And.intro (e_XTa_step (d + 1)  s) (And.intro (fun _ => (Exists.intro (none, s1) (And.intro (hrec _ _ _ _ _ hz5) hh))) (fun q => absurd c2 q))))) (fun q => absurd c1 q))) ?_
      cases hz6 : XTa_take (41 : Int32) s1 with
      | none => rw [hz6] at h; cases h
      | some z6 =>
      rw [hz6] at h
      obtain ⟨v2, s3⟩ := z6
      dsimp only at h
      have h := Option.some.inj h
      subst r
      exact ax_end 4 (Exists.intro (some (.int v2), s3) (And.intro (e_XTa_take d hz6) rfl))
  · rw [if_neg c1] at h
    have h := Option.some.inj h
    subst r
    exact ax_end 8 (And.intro (fun q => absurd q c1) (fun _ => (Exists.intro (none, (XTa_refuse (5 : Int32) s)) (And.intro (e_XTa_refuse d (5 : Int32) s) rfl))))
def XLaRe_joinsNumbers (x0 : Int32)  (s : ax_S) : Int32 :=
  if x0 = (43 : Int32) then (
    (1 : Int32)) else
  if x0 = (45 : Int32) then (
    (1 : Int32)) else
  if x0 = (42 : Int32) then (
    (1 : Int32)) else
  if x0 = (47 : Int32) then (
    (1 : Int32)) else
  if x0 = (37 : Int32) then (
    (1 : Int32)) else
  (0 : Int32)
theorem e_XLaRe_joinsNumbers (d : Nat) (x0 : Int32) (s : ax_S) : ax_ev true (d + 1) 53 [.int x0] s (some (.int (XLaRe_joinsNumbers x0 s)), s) := by
  refine ⟨Nat.le_of_ble_eq_true rfl, ?_⟩
  generalize h : XLaRe_joinsNumbers x0 s = r
  show ax_go true none (ax_ev true (d + 0)) ax_m53 0 [some (.int x0)] [] s _
  unfold XLaRe_joinsNumbers at h
  by_cases c1 : x0 = (43 : Int32)
  · rw [if_pos c1] at h
    have h := h
    subst r
    exact ax_end 6 (And.intro (fun _ => (And.intro (Or.inr rfl) rfl)) (fun q => absurd c1 q))
  · rw [if_neg c1] at h
    by_cases c2 : x0 = (45 : Int32)
    · rw [if_pos c2] at h
      have h := h
      subst r
      exact ax_end 9 (And.intro (fun q => absurd q c1) (fun _ => (And.intro (fun _ => (And.intro (Or.inr rfl) rfl)) (fun q => absurd c2 q))))
    · rw [if_neg c2] at h
      by_cases c3 : x0 = (42 : Int32)
      · rw [if_pos c3] at h
        have h := h
        subst r
        exact ax_end 12 (And.intro (fun q => absurd q c1) (fun _ => (And.intro (fun q => absurd q c2) (fun _ => (And.intro (fun _ => (And.intro (Or.inr rfl) rfl)) (fun q => absurd c3 q))))))
      · rw [if_neg c3] at h
        by_cases c4 : x0 = (47 : Int32)
        · rw [if_pos c4] at h
          have h := h
          subst r
          exact ax_end 15 (And.intro (fun q => absurd q c1) (fun _ => (And.intro (fun q => absurd q c2) (fun _ => (And.intro (fun q => absurd q c3) (fun _ => (And.intro (fun _ => (And.intro (Or.inr rfl) rfl)) (fun q => absurd c4 q))))))))
        · rw [if_neg c4] at h
          by_cases c5 : x0 = (37 : Int32)
          · rw [if_pos c5] at h
            refine ax_cut (pc' := 31) (la := [some (.int x0)]) [none] (st' := [.int (1 : Int32)]) (σ' := s) 16 (trivial) (fun _ hh => (And.intro (fun q => absurd q c1) (fun _ => (And.intro (fun q => absurd q c2) (fun _ => (And.intro (fun q => absurd q c3) (fun _ => (And.intro (fun q => absurd q c4) (fun _ => (And.intro (fun q => absurd c5 q) (fun _ => hh))))))))))) ?_
            have h := h
            subst r
            exact ax_end 2 (And.intro (Or.inr rfl) rfl)
          · rw [if_neg c5] at h
            refine ax_cut (pc' := 35) (la := [some (.int x0)]) [none] (st' := [.int (0 : Int32)]) (σ' := s) 16 (trivial) (fun _ hh => (And.intro (fun q => absurd q c1) (fun _ => (And.intro (fun q => absurd q c2) (fun _ => (And.intro (fun q => absurd q c3) (fun _ => (And.intro (fun q => absurd q c4) (fun _ => (And.intro (fun _ => hh) (fun q => absurd c5 q))))))))))) ?_
            have h := h
            subst r
            exact ax_end 1 (And.intro (Or.inl rfl) rfl)
def XLaRe_readSum_j43 (x1 : Int32) (x2 : Int32) (x3 : Int32) (x4 : Int32) (y0 : Int32)  (s : ax_S) : Int32 :=
  if y0 = (43 : Int32) then (
    (1 : Int32)) else
  if x3 = (45 : Int32) then (
    (1 : Int32)) else
  (0 : Int32)
def XLaRe_readSum_j61 (x1 : Int32) (x2 : Int32) (x3 : Int32) (x4 : Int32) (x5 : Int32) (y0 : Int32)  (s : ax_S) : Option (ax_S) :=
  if y0 = 0 then (
    some s) else
  if x2 = 0 then (
    some s) else
  match XLa_add_44 x2 (0 : Int32) s with
  | none => none
  | some s4 =>
    some s4
def XLaRe_readSum_j84 (x1 : Int32) (x2 : Int32) (x3 : Int32) (x4 : Int32) (y0 : Int32)  (s : ax_S) : Option (Int32 × ax_S) :=
  if y0 = 0 then (
    match XLa_add_44 x3 (0 : Int32) s with
    | none => none
    | some s7 =>
      some (x2, s7)) else
  some (x3, s)
def XLaRe_readSum_l18 (rec : Nat → Int32 → Int32 → ax_S → Option ax_S) : Nat → Int32 → Int32 → Int32 → Int32 → ax_S → Option (Int32 × ax_S)
  | 0, _, _, _, _, _ => none
  | n + 1, x1, x2, x3, x4, s =>
    if (240 : Int32) ≤ x4 then (
      some (x2, s)) else
    if (XLaRe_joinsNumbers x3 s) = 0 then (
      some (x2, s)) else
    match XLaRe_readSum_j61 x1 x2 x3 x4 (XLaRe_readSum_j43 x1 x2 x3 x4 x3 (XTa_step s)) (XLaRe_readSum_j43 x1 x2 x3 x4 x3 (XTa_step s)) (XTa_step s) with
    | none => none
    | some s5 =>
      match rec 4 x1 0 s5 with
      | none => none
      | some s6 =>
        match XLaRe_readSum_j84 x1 x2 x3 x4 (XLaRe_readSum_j43 x1 x2 x3 x4 x3 (XTa_step s)) s6 with
        | none => none
        | some (v8, s9) =>
          match XTa_peek s9 with
          | none => none
          | some v10 =>
            XLaRe_readSum_l18 rec n x1 v8 v10 (x4 + (1)) s9
def XLaRe_readSum (rec : Nat → Int32 → Int32 → ax_S → Option ax_S) (x1 : Int32)  (s : ax_S) : Option (ax_S) :=
  match rec 4 x1 0 s with
  | none => none
  | some s1 =>
    match XTa_peek s1 with
    | none => none
    | some v2 =>
      match XLaRe_readSum_l18 rec 70000 x1 (0 : Int32) v2 (0 : Int32) s1 with
      | none => none
      | some (v11, s12) =>
        if v11 = 0 then (
          some s12) else
        match XLa_add_44 v11 (0 : Int32) s12 with
        | none => none
        | some s13 =>
          some s13
theorem w_XLaRe_readSum_j43 (d : Nat) {o : ax_O} (x1 : Int32) (x2 : Int32) (x3 : Int32) (x4 : Int32) (y0 : Int32) (s : ax_S) (r : Int32) (h : XLaRe_readSum_j43 x1 x2 x3 x4 y0 s = r) (hk0 : ∀ (t0 : Int32), r = t0 → ax_go true none (ax_ev true (d + 2)) ax_m48 57 [some (.ref 54), some (.int x1), some (.int x2), some (.int x3), some (.int x4), none] [.int t0] s o) : ax_go true none (ax_ev true (d + 2)) ax_m48 43 [some (.ref 54), some (.int x1), some (.int x2), some (.int x3), some (.int x4), none] [.int (43 : Int32), .int y0] s o := by
  unfold XLaRe_readSum_j43 at h
  by_cases c1 : y0 = (43 : Int32)
  · rw [if_pos c1] at h
    have h := h
    subst r
    exact ax_cut (pc' := 57) (la := [some (.ref 54), some (.int x1), some (.int x2), some (.int x3), some (.int x4), none]) [some (.ref 54), some (.int x1), some (.int x2), some (.int x3), some (.int x4), none] (st' := [.int (1 : Int32)]) (σ' := s) 3 (And.intro rfl (And.intro rfl (And.intro rfl (And.intro rfl (And.intro rfl (trivial)))))) (fun _ hh => (And.intro (fun _ => hh) (fun q => absurd c1 q))) (hk0 _ rfl)
  · rw [if_neg c1] at h
    by_cases c2 : x3 = (45 : Int32)
    · rw [if_pos c2] at h
      have h := h
      subst r
      exact ax_cut (pc' := 57) (la := [some (.ref 54), some (.int x1), some (.int x2), some (.int x3), some (.int x4), none]) [some (.ref 54), some (.int x1), some (.int x2), some (.int x3), some (.int x4), none] (st' := [.int (1 : Int32)]) (σ' := s) 6 (And.intro rfl (And.intro rfl (And.intro rfl (And.intro rfl (And.intro rfl (trivial)))))) (fun _ hh => (And.intro (fun q => absurd q c1) (fun _ => (And.intro (fun q => absurd c2 q) (fun _ => hh))))) (hk0 _ rfl)
    · rw [if_neg c2] at h
      have h := h
      subst r
      exact ax_cut (pc' := 57) (la := [some (.ref 54), some (.int x1), some (.int x2), some (.int x3), some (.int x4), none]) [some (.ref 54), some (.int x1), some (.int x2), some (.int x3), some (.int x4), none] (st' := [.int (0 : Int32)]) (σ' := s) 5 (And.intro rfl (And.intro rfl (And.intro rfl (And.intro rfl (And.intro rfl (trivial)))))) (fun _ hh => (And.intro (fun q => absurd q c1) (fun _ => (And.intro (fun _ => hh) (fun q => absurd c2 q))))) (hk0 _ rfl)
theorem w_XLaRe_readSum_j61 (d : Nat) {o : ax_O} (x1 : Int32) (x2 : Int32) (x3 : Int32) (x4 : Int32) (x5 : Int32) (y0 : Int32) (s : ax_S) (r : ax_S) (h : XLaRe_readSum_j61 x1 x2 x3 x4 x5 y0 s = some r) (hk0 : ∀ (t0 : ax_S), r = t0 → ax_go true none (ax_ev true (d + 2)) ax_m48 77 [some (.ref 54), some (.int x1), some (.int x2), some (.int x3), some (.int x4), some (.int x5)] [] t0 o) : ax_go true none (ax_ev true (d + 2)) ax_m48 61 [some (.ref 54), some (.int x1), some (.int x2), some (.int x3), some (.int x4), some (.int x5)] [.int y0] s o := by
  unfold XLaRe_readSum_j61 at h
  by_cases c1 : y0 = 0
  · rw [if_pos c1] at h
    have h := Option.some.inj h
    subst r
    exact ax_cut (pc' := 77) (la := [some (.ref 54), some (.int x1), some (.int x2), some (.int x3), some (.int x4), some (.int x5)]) [some (.ref 54), some (.int x1), some (.int x2), some (.int x3), some (.int x4), some (.int x5)] (st' := []) (σ' := s) 1 (And.intro rfl (And.intro rfl (And.intro rfl (And.intro rfl (And.intro rfl (And.intro rfl (trivial))))))) (fun _ hh => (And.intro (fun _ => hh) (fun q => absurd c1 q))) (hk0 _ rfl)
  · rw [if_neg c1] at h
    by_cases c2 : x2 = 0
    · rw [if_pos c2] at h
      have h := Option.some.inj h
      subst r
      exact ax_cut (pc' := 77) (la := [some (.ref 54), some (.int x1), some (.int x2), some (.int x3), some (.int x4), some (.int x5)]) [some (.ref 54), some (.int x1), some (.int x2), some (.int x3), some (.int x4), some (.int x5)] (st' := []) (σ' := s) 3 (And.intro rfl (And.intro rfl (And.intro rfl (And.intro rfl (And.intro rfl (And.intro rfl (trivial))))))) (fun _ hh => (And.intro (fun q => absurd q c1) (fun _ => (And.intro (fun _ => hh) (fun q => absurd c2 q))))) (hk0 _ rfl)
    · rw [if_neg c2] at h
      cases hz3 : XLa_add_44 x2 (0 : Int32) s with
      | none => rw [hz3] at h; cases h
      | some s4 =>
      rw [hz3] at h
      dsimp only at h
      have h := Option.some.inj h
      subst r
      exact ax_cut (pc' := 77) (la := [some (.ref 54), some (.int x1), some (.int x2), some (.int x3), some (.int x4), some (.int x5)]) [some (.ref 54), some (.int x1), some (.int x2), some (.int x3), some (.int x4), some (.int x5)] (st' := []) (σ' := s4) 8 (And.intro rfl (And.intro rfl (And.intro rfl (And.intro rfl (And.intro rfl (And.intro rfl (trivial))))))) (fun _ hh => (And.intro (fun q => absurd q c1) (fun _ => (And.intro (fun q => absurd q c2) (fun _ => (Exists.intro (none, s4) (And.intro (e_XLa_add_44 (d + 1) hz3) hh))))))) (hk0 _ rfl)
theorem w_XLaRe_readSum_j84 (d : Nat) {o : ax_O} (x1 : Int32) (x2 : Int32) (x3 : Int32) (x4 : Int32) (y0 : Int32) (s : ax_S) (r : Int32 × ax_S) (h : XLaRe_readSum_j84 x1 x2 x3 x4 y0 s = some r) (hk0 : ∀ (t0 : Int32) (t1 : ax_S), r = (t0, t1) → ax_go true none (ax_ev true (d + 2)) ax_m48 101 [some (.ref 54), some (.int x1), some (.int t0), none, some (.int x4), none] [] t1 o) : ax_go true none (ax_ev true (d + 2)) ax_m48 84 [some (.ref 54), some (.int x1), some (.int x2), some (.int x3), some (.int x4), none] [.int y0] s o := by
  unfold XLaRe_readSum_j84 at h
  by_cases c1 : y0 = 0
  · rw [if_pos c1] at h
    cases hz2 : XLa_add_44 x3 (0 : Int32) s with
    | none => rw [hz2] at h; cases h
    | some s7 =>
    rw [hz2] at h
    dsimp only at h
    have h := Option.some.inj h
    subst r
    exact ax_cut (pc' := 101) (la := [some (.ref 54), some (.int x1), some (.int x2), some (.int x3), some (.int x4), none]) [some (.ref 54), some (.int x1), some (.int x2), none, some (.int x4), none] (st' := []) (σ' := s7) 6 (And.intro rfl (And.intro rfl (And.intro rfl (And.intro rfl (trivial))))) (fun _ hh => (And.intro (fun _ => (Exists.intro (none, s7) (And.intro (e_XLa_add_44 (d + 1) hz2) hh))) (fun q => absurd c1 q))) (hk0 _ _ rfl)
  · rw [if_neg c1] at h
    have h := Option.some.inj h
    subst r
    exact ax_cut (pc' := 101) (la := [some (.ref 54), some (.int x1), some (.int x3), some (.int x3), some (.int x4), none]) [some (.ref 54), some (.int x1), some (.int x3), none, some (.int x4), none] (st' := []) (σ' := s) 4 (And.intro rfl (And.intro rfl (And.intro rfl (And.intro rfl (trivial))))) (fun _ hh => (And.intro (fun q => absurd q c1) (fun _ => hh))) (hk0 _ _ rfl)
theorem w_XLaRe_readSum_l18 (d : Nat) (rec : Nat → Int32 → Int32 → ax_S → Option ax_S) (hrec : ∀ w a b s s', rec w a b s = some s' → ax_ev true (d + 2) (XLaRe_nu w) (XLaRe_as w a b) s (none, s')) {o : ax_O} : ∀ (n : Nat) (x1 : Int32) (x2 : Int32) (x3 : Int32) (x4 : Int32) (s : ax_S) (r : Int32 × ax_S) (h : XLaRe_readSum_l18 rec n x1 x2 x3 x4 s = some r) (hk0 : ∀ (t0 : Int32) (t1 : ax_S), r = (t0, t1) → ax_go true none (ax_ev true (d + 2)) ax_m48 115 [some (.ref 54), none, some (.int t0), none, none, none] [] t1 o), ax_go true none (ax_ev true (d + 2)) ax_m48 18 [some (.ref 54), some (.int x1), some (.int x2), some (.int x3), some (.int x4), none] [] s o := by
  intro n
  induction n with
  | zero => intro x1 x2 x3 x4 s r h hk0; cases h
  | succ n ih =>
    intro x1 x2 x3 x4 s r h hk0
    rw [XLaRe_readSum_l18] at h
    by_cases c1 : (240 : Int32) ≤ x4
    · rw [if_pos c1] at h
      have h := Option.some.inj h
      subst r
      exact ax_cut (pc' := 115) (la := [some (.ref 54), some (.int x1), some (.int x2), some (.int x3), some (.int x4), none]) [some (.ref 54), none, some (.int x2), none, none, none] (st' := []) (σ' := s) 3 (And.intro rfl (And.intro rfl (trivial))) (fun _ hh => (And.intro (fun _ => hh) (fun q => absurd c1 q))) (hk0 _ _ rfl)
    · rw [if_neg c1] at h
      by_cases c2 : (XLaRe_joinsNumbers x3 s) = 0
      · rw [if_pos c2] at h
        have h := Option.some.inj h
        subst r
        exact ax_cut (pc' := 115) (la := [some (.ref 54), some (.int x1), some (.int x2), some (.int x3), some (.int x4), none]) [some (.ref 54), none, some (.int x2), none, none, none] (st' := []) (σ' := s) 6 (And.intro rfl (And.intro rfl (trivial))) (fun _ hh => (And.intro (fun q => absurd q c1) (fun _ => (Exists.intro (some (.int (XLaRe_joinsNumbers x3 s)), s) (And.intro (e_XLaRe_joinsNumbers (d + 1) x3 s) (And.intro (fun _ => hh) (fun q => absurd c2 q))))))) (hk0 _ _ rfl)
      · rw [if_neg c2] at h
        refine ax_cut (pc' := 43) (la := [some (.ref 54), some (.int x1), some (.int x2), some (.int x3), some (.int x4), none]) [some (.ref 54), some (.int x1), some (.int x2), some (.int x3), some (.int x4), none] (st' := [.int (43 : Int32), .int x3]) (σ' := (XTa_step s)) 11 (And.intro rfl (And.intro rfl (And.intro rfl (And.intro rfl (And.intro rfl (trivial)))))) (fun _ hh => (And.intro (fun q => absurd q c1) (fun _ => (Exists.intro (some (.int (XLaRe_joinsNumbers x3 s)), s) (And.intro (e_XLaRe_joinsNumbers (d + 1) x3 s) (And.intro (fun q => absurd q c2) (fun _ => (Exists.intro (none, (XTa_step s)) (And.intro (e_XTa_step (d + 1)  s) hh))))))))) (w_XLaRe_readSum_j43 d x1 x2 x3 x4 x3 (XTa_step s) _ rfl (fun v3 hq => ?_))
        obtain rfl : v3 = (XLaRe_readSum_j43 x1 x2 x3 x4 x3 (XTa_step s)) := hq.symm
        cases hz3 : XLaRe_readSum_j61 x1 x2 x3 x4 (XLaRe_readSum_j43 x1 x2 x3 x4 x3 (XTa_step s)) (XLaRe_readSum_j43 x1 x2 x3 x4 x3 (XTa_step s)) (XTa_step s) with
        | none => rw [hz3] at h; cases h
        | some z3 =>
        rw [hz3] at h
        refine ax_cut (pc' := 61) (la := [some (.ref 54), some (.int x1), some (.int x2), some (.int x3), some (.int x4), some (.int (XLaRe_readSum_j43 x1 x2 x3 x4 x3 (XTa_step s)))]) [some (.ref 54), some (.int x1), some (.int x2), some (.int x3), some (.int x4), some (.int (XLaRe_readSum_j43 x1 x2 x3 x4 x3 (XTa_step s)))] (st' := [.int (XLaRe_readSum_j43 x1 x2 x3 x4 x3 (XTa_step s))]) (σ' := (XTa_step s)) 2 (And.intro rfl (And.intro rfl (And.intro rfl (And.intro rfl (And.intro rfl (And.intro rfl (trivial))))))) (fun _ hh => hh) (w_XLaRe_readSum_j61 d x1 x2 x3 x4 (XLaRe_readSum_j43 x1 x2 x3 x4 x3 (XTa_step s)) (XLaRe_readSum_j43 x1 x2 x3 x4 x3 (XTa_step s)) (XTa_step s) _ hz3 ?_)
        · intro s5 hq
          subst z3
          dsimp only at h
          cases hz4 : rec 4 x1 0 s5 with
          | none => rw [hz4] at h; cases h
          | some s6 =>
          rw [hz4] at h
          dsimp only at h
          cases hz5 : XLaRe_readSum_j84 x1 x2 x3 x4 (XLaRe_readSum_j43 x1 x2 x3 x4 x3 (XTa_step s)) s6 with
          | none => rw [hz5] at h; cases h
          | some z5 =>
          rw [hz5] at h
          refine ax_cut (pc' := 84) (la := [some (.ref 54), some (.int x1), some (.int x2), some (.int x3), some (.int x4), some (.int (XLaRe_readSum_j43 x1 x2 x3 x4 x3 (XTa_step s)))]) [some (.ref 54), some (.int x1), some (.int x2), some (.int x3), some (.int x4), none] (st' := [.int (XLaRe_readSum_j43 x1 x2 x3 x4 x3 (XTa_step s))]) (σ' := s6) 4 (And.intro rfl (And.intro rfl (And.intro rfl (And.intro rfl (And.intro rfl (trivial)))))) (fun _ hh => (Exists.intro (none, s6) (And.intro (hrec _ _ _ _ _ hz4) hh))) (w_XLaRe_readSum_j84 d x1 x2 x3 x4 (XLaRe_readSum_j43 x1 x2 x3 x4 x3 (XTa_step s)) s6 _ hz5 ?_)
          · intro v8 s9 hq
            subst z5
            dsimp only at h
            cases hz6 : XTa_peek s9 with
            | none => rw [hz6] at h; cases h
            | some v10 =>
            rw [hz6] at h
            dsimp only at h
            exact ax_cut (pc' := 18) (la := [some (.ref 54), some (.int x1), some (.int v8), some (.int v10), some (.int (x4 + (1))), none]) [some (.ref 54), some (.int x1), some (.int v8), some (.int v10), some (.int (x4 + (1))), none] (st' := []) (σ' := s9) 6 (And.intro rfl (And.intro rfl (And.intro rfl (And.intro rfl (And.intro rfl (trivial)))))) (fun _ hh => (Exists.intro (some (.int v10), s9) (And.intro (e_XTa_peek (d + 1) hz6) hh))) (ih x1 v8 v10 (x4 + (1)) s9 _ h hk0)
theorem e_XLaRe_readSum (d : Nat) (rec : Nat → Int32 → Int32 → ax_S → Option ax_S) (hrec : ∀ w a b s s', rec w a b s = some s' → ax_ev true (d + 2) (XLaRe_nu w) (XLaRe_as w a b) s (none, s')) {x1 : Int32} {s : ax_S} {r : ax_S} (h : XLaRe_readSum rec x1 s = some r) : ax_ev true (d + 3) 48 [.ref 54, .int x1] s (none, r) := by
  refine ⟨Nat.le_of_ble_eq_true rfl, ?_⟩
  show ax_go true none (ax_ev true (d + 2)) ax_m48 0 [some (.ref 54), some (.int x1), none, none, none, none] [] s _
  unfold XLaRe_readSum at h
  cases hz1 : rec 4 x1 0 s with
  | none => rw [hz1] at h; cases h
  | some s1 =>
  rw [hz1] at h
  dsimp only at h
  cases hz2 : XTa_peek s1 with
  | none => rw [hz2] at h; cases h
  | some v2 =>
  rw [hz2] at h
  dsimp only at h
  cases hz3 : XLaRe_readSum_l18 rec 70000 x1 (0 : Int32) v2 (0 : Int32) s1 with
  | none => rw [hz3] at h; cases h
  | some z3 =>
  rw [hz3] at h
  refine ax_cut (pc' := 18) (la := [some (.ref 54), some (.int x1), some (.int (0 : Int32)), some (.int v2), some (.int (0 : Int32)), none]) [some (.ref 54), some (.int x1), some (.int (0 : Int32)), some (.int v2), some (.int (0 : Int32)), none] (st' := []) (σ' := s1) 11 (And.intro rfl (And.intro rfl (And.intro rfl (And.intro rfl (And.intro rfl (trivial)))))) (fun _ hh => (Exists.intro (none, s1) (And.intro (hrec _ _ _ _ _ hz1) (Exists.intro (some (.int v2), s1) (And.intro (e_XTa_peek (d + 1) hz2) hh))))) (w_XLaRe_readSum_l18 d rec hrec 70000 x1 (0 : Int32) v2 (0 : Int32) s1 _ hz3 ?_)
  · intro v11 s12 hq
    subst z3
    dsimp only at h
    by_cases c4 : v11 = 0
    · rw [if_pos c4] at h
      have h := Option.some.inj h
      subst r
      exact ax_end 3 (And.intro (fun _ => rfl) (fun q => absurd c4 q))
    · rw [if_neg c4] at h
      cases hz5 : XLa_add_44 v11 (0 : Int32) s12 with
      | none => rw [hz5] at h; cases h
      | some s13 =>
      rw [hz5] at h
      dsimp only at h
      have h := Option.some.inj h
      subst r
      exact ax_end 8 (And.intro (fun q => absurd q c4) (fun _ => (Exists.intro (none, s13) (And.intro (e_XLa_add_44 (d + 1) hz5) rfl))))
def XLa_isLetter (x0 : Int32)  (s : ax_S) : Int32 :=
  if x0 = (112 : Int32) then (
    (1 : Int32)) else
  if x0 = (118 : Int32) then (
    (1 : Int32)) else
  if x0 = (110 : Int32) then (
    (1 : Int32)) else
  if x0 = (115 : Int32) then (
    (1 : Int32)) else
  if x0 = (100 : Int32) then (
    (1 : Int32)) else
  if x0 = (116 : Int32) then (
    (1 : Int32)) else
  (0 : Int32)
theorem e_XLa_isLetter (d : Nat) (x0 : Int32) (s : ax_S) : ax_ev true (d + 1) 52 [.int x0] s (some (.int (XLa_isLetter x0 s)), s) := by
  refine ⟨Nat.le_of_ble_eq_true rfl, ?_⟩
  generalize h : XLa_isLetter x0 s = r
  show ax_go true none (ax_ev true (d + 0)) ax_m52 0 [some (.int x0)] [] s _
  unfold XLa_isLetter at h
  by_cases c1 : x0 = (112 : Int32)
  · rw [if_pos c1] at h
    have h := h
    subst r
    exact ax_end 6 (And.intro (fun _ => (And.intro (Or.inr rfl) rfl)) (fun q => absurd c1 q))
  · rw [if_neg c1] at h
    by_cases c2 : x0 = (118 : Int32)
    · rw [if_pos c2] at h
      have h := h
      subst r
      exact ax_end 9 (And.intro (fun q => absurd q c1) (fun _ => (And.intro (fun _ => (And.intro (Or.inr rfl) rfl)) (fun q => absurd c2 q))))
    · rw [if_neg c2] at h
      by_cases c3 : x0 = (110 : Int32)
      · rw [if_pos c3] at h
        have h := h
        subst r
        exact ax_end 12 (And.intro (fun q => absurd q c1) (fun _ => (And.intro (fun q => absurd q c2) (fun _ => (And.intro (fun _ => (And.intro (Or.inr rfl) rfl)) (fun q => absurd c3 q))))))
      · rw [if_neg c3] at h
        by_cases c4 : x0 = (115 : Int32)
        · rw [if_pos c4] at h
          have h := h
          subst r
          exact ax_end 15 (And.intro (fun q => absurd q c1) (fun _ => (And.intro (fun q => absurd q c2) (fun _ => (And.intro (fun q => absurd q c3) (fun _ => (And.intro (fun _ => (And.intro (Or.inr rfl) rfl)) (fun q => absurd c4 q))))))))
        · rw [if_neg c4] at h
          by_cases c5 : x0 = (100 : Int32)
          · rw [if_pos c5] at h
            refine ax_cut (pc' := 37) (la := [some (.int x0)]) [none] (st' := [.int (1 : Int32)]) (σ' := s) 16 (trivial) (fun _ hh => (And.intro (fun q => absurd q c1) (fun _ => (And.intro (fun q => absurd q c2) (fun _ => (And.intro (fun q => absurd q c3) (fun _ => (And.intro (fun q => absurd q c4) (fun _ => (And.intro (fun _ => hh) (fun q => absurd c5 q))))))))))) ?_
            have h := h
            subst r
            exact ax_end 2 (And.intro (Or.inr rfl) rfl)
          · rw [if_neg c5] at h
            refine ax_cut (pc' := 31) (la := [some (.int x0)]) [none] (st' := [.int x0]) (σ' := s) 16 (trivial) (fun _ hh => (And.intro (fun q => absurd q c1) (fun _ => (And.intro (fun q => absurd q c2) (fun _ => (And.intro (fun q => absurd q c3) (fun _ => (And.intro (fun q => absurd q c4) (fun _ => (And.intro (fun q => absurd q c5) (fun _ => hh))))))))))) ?_
            by_cases c6 : x0 = (116 : Int32)
            · rw [if_pos c6] at h
              have h := h
              subst r
              exact ax_end 5 (And.intro (fun q => absurd c6 q) (fun _ => (And.intro (Or.inr rfl) rfl)))
            · rw [if_neg c6] at h
              have h := h
              subst r
              exact ax_end 4 (And.intro (fun _ => (And.intro (Or.inl rfl) rfl)) (fun q => absurd c6 q))
def XTa_isAtDigit  (s : ax_S) : Option (Int32) :=
  if (s.2.1 1 3) < 0 then (
    some (0 : Int32)) else
  if (s.2.1 1 2) ≤ (s.2.1 1 3) then (
    some (0 : Int32)) else
  if (260 : Int32) ≤ (s.2.1 1 3) then (
    some (0 : Int32)) else
  if ((s.2.1 1 3) < 0 ∨ 260 ≤ ((s.2.1 1 3)).toNatClampNeg) then none else
  if (s.2.1 2 ((s.2.1 1 3)).toNatClampNeg) < (48 : Int32) then (
    some (0 : Int32)) else
  if ((s.2.1 1 3) < 0 ∨ 260 ≤ ((s.2.1 1 3)).toNatClampNeg) then none else
  if (57 : Int32) < (s.2.1 2 ((s.2.1 1 3)).toNatClampNeg) then (
    some (0 : Int32)) else
  some (1 : Int32)
theorem e_XTa_isAtDigit (d : Nat)  {s : ax_S} {r : Int32} (h : XTa_isAtDigit s = some r) : ax_ev true (d + 1) 37 [.ref 1] s (some (.int r), s) := by
  refine ⟨Nat.le_of_ble_eq_true rfl, ?_⟩
  show ax_go true none (ax_ev true (d + 0)) ax_m37 0 [some (.ref 1)] [] s _
  unfold XTa_isAtDigit at h
  by_cases c1 : (s.2.1 1 3) < 0
  · rw [if_pos c1] at h
    have h := Option.some.inj h
    subst r
    exact ax_end 5 (And.intro (fun _ => (And.intro (Or.inl rfl) rfl)) (fun q => absurd c1 q))
  · rw [if_neg c1] at h
    by_cases c2 : (s.2.1 1 2) ≤ (s.2.1 1 3)
    · rw [if_pos c2] at h
      have h := Option.some.inj h
      subst r
      exact ax_end 10 (And.intro (fun q => absurd q c1) (fun _ => (And.intro (fun _ => (And.intro (Or.inl rfl) rfl)) (fun q => absurd c2 q))))
    · rw [if_neg c2] at h
      by_cases c3 : (260 : Int32) ≤ (s.2.1 1 3)
      · rw [if_pos c3] at h
        have h := Option.some.inj h
        subst r
        exact ax_end 16 (And.intro (fun q => absurd q c1) (fun _ => (And.intro (fun q => absurd q c2) (fun _ => (And.intro (fun _ => (And.intro (Or.inl rfl) rfl)) (fun q => absurd c3 q))))))
      · rw [if_neg c3] at h
        refine ax_cut (pc' := 34) (la := [some (.ref 1)]) [some (.ref 1)] (st' := [.ref 2]) (σ' := s) 16 (And.intro rfl (trivial)) (fun _ hh => (And.intro (fun q => absurd q c1) (fun _ => (And.intro (fun q => absurd q c2) (fun _ => (And.intro (fun q => absurd q c3) (fun _ => hh))))))) ?_
        by_cases c4 : ((s.2.1 1 3) < 0 ∨ 260 ≤ ((s.2.1 1 3)).toNatClampNeg)
        · rw [if_pos c4] at h; cases h
        · rw [if_neg c4] at h
          by_cases c5 : (s.2.1 2 ((s.2.1 1 3)).toNatClampNeg) < (48 : Int32)
          · rw [if_pos c5] at h
            have h := Option.some.inj h
            subst r
            exact ax_end 7 (And.intro c4 (And.intro (fun _ => (And.intro (Or.inl rfl) rfl)) (fun q => absurd c5 q)))
          · rw [if_neg c5] at h
            by_cases c6 : ((s.2.1 1 3) < 0 ∨ 260 ≤ ((s.2.1 1 3)).toNatClampNeg)
            · rw [if_pos c6] at h; cases h
            · rw [if_neg c6] at h
              by_cases c7 : (57 : Int32) < (s.2.1 2 ((s.2.1 1 3)).toNatClampNeg)
              · rw [if_pos c7] at h
                have h := Option.some.inj h
                subst r
                exact ax_end 14 (And.intro c4 (And.intro (fun q => absurd q c5) (fun _ => (And.intro c6 (And.intro (fun _ => (And.intro (Or.inl rfl) rfl)) (fun q => absurd c7 q))))))
              · rw [if_neg c7] at h
                have h := Option.some.inj h
                subst r
                exact ax_end 15 (And.intro c4 (And.intro (fun q => absurd q c5) (fun _ => (And.intro c6 (And.intro (fun q => absurd q c7) (fun _ => (And.intro (Or.inr rfl) rfl)))))))
def XTa_readNumber_l12 : Nat → Int32 → Int32 → Int32 → ax_S → Option (Int32 × ax_S)
  | 0, _, _, _, _ => none
  | n + 1, x1, x2, x3, s =>
    if x1 ≤ x3 then (
      some (x2, s)) else
    match XTa_isAtDigit s with
    | none => none
    | some v1 =>
      if v1 = 0 then (
        some (x2, s)) else
      match XTa_peek s with
      | none => none
      | some v2 =>
        XTa_readNumber_l12 n x1 ((((10 : Int32) * x2) + v2) - (48 : Int32)) (x3 + (1)) (ax_sI s 1 3 ((s.2.1 1 3) + (1 : Int32)))
def XTa_readNumber (x1 : Int32)  (s : ax_S) : Option (Int32 × ax_S) :=
  match XTa_readNumber_l12 70000 x1 (0 : Int32) (0 : Int32) (ax_sI s 1 4 (s.2.1 1 3)) with
  | none => none
  | some (v3, s4) =>
    if (s4.2.1 1 3) = (s4.2.1 1 4) then (
      some (v3, (XTa_refuseAt (1 : Int32) (s4.2.1 1 3) s4))) else
    match XTa_isAtDigit s4 with
    | none => none
    | some v5 =>
      if v5 = 0 then (
        some (v3, s4)) else
      some (v3, (XTa_refuseAt (2 : Int32) (s4.2.1 1 3) s4))
theorem w_XTa_readNumber_l12 (d : Nat) {o : ax_O} : ∀ (n : Nat) (x1 : Int32) (x2 : Int32) (x3 : Int32) (s : ax_S) (r : Int32 × ax_S) (h : XTa_readNumber_l12 n x1 x2 x3 s = some r) (hk0 : ∀ (t0 : Int32) (t1 : ax_S), r = (t0, t1) → ax_go true none (ax_ev true (d + 1)) ax_m36 53 [some (.ref 1), none, some (.int t0), none] [] t1 o), ax_go true none (ax_ev true (d + 1)) ax_m36 12 [some (.ref 1), some (.int x1), some (.int x2), some (.int x3)] [] s o := by
  intro n
  induction n with
  | zero => intro x1 x2 x3 s r h hk0; cases h
  | succ n ih =>
    intro x1 x2 x3 s r h hk0
    rw [XTa_readNumber_l12] at h
    by_cases c1 : x1 ≤ x3
    · rw [if_pos c1] at h
      have h := Option.some.inj h
      subst r
      exact ax_cut (pc' := 53) (la := [some (.ref 1), some (.int x1), some (.int x2), some (.int x3)]) [some (.ref 1), none, some (.int x2), none] (st' := []) (σ' := s) 3 (And.intro rfl (And.intro rfl (trivial))) (fun _ hh => (And.intro (fun _ => hh) (fun q => absurd c1 q))) (hk0 _ _ rfl)
    · rw [if_neg c1] at h
      cases hz2 : XTa_isAtDigit s with
      | none => rw [hz2] at h; cases h
      | some v1 =>
      rw [hz2] at h
      dsimp only at h
      by_cases c3 : v1 = 0
      · rw [if_pos c3] at h
        have h := Option.some.inj h
        subst r
        exact ax_cut (pc' := 53) (la := [some (.ref 1), some (.int x1), some (.int x2), some (.int x3)]) [some (.ref 1), none, some (.int x2), none] (st' := []) (σ' := s) 6 (And.intro rfl (And.intro rfl (trivial))) (fun _ hh => (And.intro (fun q => absurd q c1) (fun _ => (Exists.intro (some (.int v1), s) (And.intro (e_XTa_isAtDigit d hz2) (And.intro (fun _ => hh) (fun q => absurd c3 q))))))) (hk0 _ _ rfl)
      · rw [if_neg c3] at h
        cases hz4 : XTa_peek s with
        | none => rw [hz4] at h; cases h
        | some v2 =>
        rw [hz4] at h
        dsimp only at h
        refine ax_cut (pc' := 38) (la := [some (.ref 1), some (.int x1), some (.int ((((10 : Int32) * x2) + v2) - (48 : Int32))), some (.int x3)]) [some (.ref 1), some (.int x1), some (.int ((((10 : Int32) * x2) + v2) - (48 : Int32))), some (.int x3)] (st' := [.ref 1]) (σ' := s) 16 (And.intro rfl (And.intro rfl (And.intro rfl (And.intro rfl (trivial))))) (fun _ hh => (And.intro (fun q => absurd q c1) (fun _ => (Exists.intro (some (.int v1), s) (And.intro (e_XTa_isAtDigit d hz2) (And.intro (fun q => absurd q c3) (fun _ => (Exists.intro (some (.int v2), s) (And.intro (e_XTa_peek d hz4) hh))))))))) ?_
        exact ax_cut (pc' := 12) (la := [some (.ref 1), some (.int x1), some (.int ((((10 : Int32) * x2) + v2) - (48 : Int32))), some (.int (x3 + (1)))]) [some (.ref 1), some (.int x1), some (.int ((((10 : Int32) * x2) + v2) - (48 : Int32))), some (.int (x3 + (1)))] (st' := []) (σ' := (ax_sI s 1 3 ((s.2.1 1 3) + (1 : Int32)))) 7 (And.intro rfl (And.intro rfl (And.intro rfl (And.intro rfl (trivial))))) (fun _ hh => hh) (ih x1 ((((10 : Int32) * x2) + v2) - (48 : Int32)) (x3 + (1)) (ax_sI s 1 3 ((s.2.1 1 3) + (1 : Int32))) _ h hk0)
theorem e_XTa_readNumber (d : Nat) {x1 : Int32} {s : ax_S} {r : Int32 × ax_S} (h : XTa_readNumber x1 s = some r) : ax_ev true (d + 2) 36 [.ref 1, .int x1] s (some (.int r.1), r.2) := by
  refine ⟨Nat.le_of_ble_eq_true rfl, ?_⟩
  show ax_go true none (ax_ev true (d + 1)) ax_m36 0 [some (.ref 1), some (.int x1), none, none] [] s _
  unfold XTa_readNumber at h
  cases hz1 : XTa_readNumber_l12 70000 x1 (0 : Int32) (0 : Int32) (ax_sI s 1 4 (s.2.1 1 3)) with
  | none => rw [hz1] at h; cases h
  | some z1 =>
  rw [hz1] at h
  refine ax_cut (pc' := 12) (la := [some (.ref 1), some (.int x1), some (.int (0 : Int32)), some (.int (0 : Int32))]) [some (.ref 1), some (.int x1), some (.int (0 : Int32)), some (.int (0 : Int32))] (st' := []) (σ' := (ax_sI s 1 4 (s.2.1 1 3))) 8 (And.intro rfl (And.intro rfl (And.intro rfl (And.intro rfl (trivial))))) (fun _ hh => hh) (w_XTa_readNumber_l12 d 70000 x1 (0 : Int32) (0 : Int32) (ax_sI s 1 4 (s.2.1 1 3)) _ hz1 ?_)
  · intro v3 s4 hq
    subst z1
    dsimp only at h
    by_cases c2 : (s4.2.1 1 3) = (s4.2.1 1 4)
    · rw [if_pos c2] at h
      have h := Option.some.inj h
      subst r
      exact ax_end 13 (And.intro (fun q => absurd c2 q) (fun _ => (Exists.intro (none, (XTa_refuseAt (1 : Int32) (s4.2.1 1 3) s4)) (And.intro (e_XTa_refuseAt d (1 : Int32) (s4.2.1 1 3) s4) rfl))))
    · rw [if_neg c2] at h
      cases hz3 : XTa_isAtDigit s4 with
      | none => rw [hz3] at h; cases h
      | some v5 =>
      rw [hz3] at h
      dsimp only at h
      by_cases c4 : v5 = 0
      · rw [if_pos c4] at h
        have h := Option.some.inj h
        subst r
        exact ax_end 10 (And.intro (fun _ => (Exists.intro (some (.int v5), s4) (And.intro (e_XTa_isAtDigit d hz3) (And.intro (fun _ => rfl) (fun q => absurd c4 q))))) (fun q => absurd c2 q))
      · rw [if_neg c4] at h
        have h := Option.some.inj h
        subst r
        exact ax_end 15 (And.intro (fun _ => (Exists.intro (some (.int v5), s4) (And.intro (e_XTa_isAtDigit d hz3) (And.intro (fun q => absurd q c4) (fun _ => (Exists.intro (none, (XTa_refuseAt (2 : Int32) (s4.2.1 1 3) s4)) (And.intro (e_XTa_refuseAt d (2 : Int32) (s4.2.1 1 3) s4) rfl))))))) (fun q => absurd c2 q))
def XLaRe_readFactor (rec : Nat → Int32 → Int32 → ax_S → Option ax_S) (x1 : Int32)  (s : ax_S) : Option (ax_S) :=
  match XTa_peek s with
  | none => none
  | some v1 =>
    if v1 = (91 : Int32) then (
      if x1 < (6 : Int32) then (
        match rec 3 (x1 + (1 : Int32)) 0 (XTa_step s) with
        | none => none
        | some s7 =>
          match XTa_take (93 : Int32) s7 with
          | none => none
          | some (v8, s9) =>
            some s9) else
      some (XTa_refuse (5 : Int32) s)) else
    if v1 < (48 : Int32) then (
      if (XLa_isLetter v1 s) = 0 then (
        some (XTa_refuse (1 : Int32) s)) else
      match XLa_add_44 v1 (0 : Int32) s with
      | none => none
      | some s2 =>
        some (XTa_step s2)) else
    if (57 : Int32) < v1 then (
      if (XLa_isLetter v1 s) = 0 then (
        some (XTa_refuse (1 : Int32) s)) else
      match XLa_add_44 v1 (0 : Int32) s with
      | none => none
      | some s3 =>
        some (XTa_step s3)) else
    match XTa_readNumber (5 : Int32) s with
    | none => none
    | some (v4, s5) =>
      match XLa_add_44 (0 : Int32) v4 s5 with
      | none => none
      | some s6 =>
        some s6
theorem e_XLaRe_readFactor (d : Nat) (rec : Nat → Int32 → Int32 → ax_S → Option ax_S) (hrec : ∀ w a b s s', rec w a b s = some s' → ax_ev true (d + 2) (XLaRe_nu w) (XLaRe_as w a b) s (none, s')) {x1 : Int32} {s : ax_S} {r : ax_S} (h : XLaRe_readFactor rec x1 s = some r) : ax_ev true (d + 3) 49 [.ref 54, .int x1] s (none, r) := by
  refine ⟨Nat.le_of_ble_eq_true rfl, ?_⟩
  show ax_go true none (ax_ev true (d + 2)) ax_m49 0 [some (.ref 54), some (.int x1), none] [] s _
  unfold XLaRe_readFactor at h
  cases hz1 : XTa_peek s with
  | none => rw [hz1] at h; cases h
  | some v1 =>
  rw [hz1] at h
  dsimp only at h
  by_cases c2 : v1 = (91 : Int32)
  · rw [if_pos c2] at h
    by_cases c3 : x1 < (6 : Int32)
    · rw [if_pos c3] at h
      refine ax_cut (pc' := 39) (la := [some (.ref 54), some (.int x1), some (.int v1)]) [some (.ref 54), none, none] (st' := [.int (1 : Int32), .int x1, .ref 54]) (σ' := (XTa_step s)) 16 (And.intro rfl (trivial)) (fun _ hh => (Exists.intro (some (.int v1), s) (And.intro (e_XTa_peek (d + 1) hz1) (And.intro (fun q => absurd c2 q) (fun _ => (And.intro (fun _ => (Exists.intro (none, (XTa_step s)) (And.intro (e_XTa_step (d + 1)  s) hh))) (fun q => absurd c3 q))))))) ?_
      cases hz4 : rec 3 (x1 + (1 : Int32)) 0 (XTa_step s) with
      | none => rw [hz4] at h; cases h
      | some s7 =>
      rw [hz4] at h
      dsimp only at h
      cases hz5 : XTa_take (93 : Int32) s7 with
      | none => rw [hz5] at h; cases h
      | some z5 =>
      rw [hz5] at h
      obtain ⟨v8, s9⟩ := z5
      dsimp only at h
      have h := Option.some.inj h
      subst r
      exact ax_end 9 (Exists.intro (none, s7) (And.intro (hrec _ _ _ _ _ hz4) (Exists.intro (some (.int v8), s9) (And.intro (e_XTa_take d hz5) rfl))))
    · rw [if_neg c3] at h
      have h := Option.some.inj h
      subst r
      exact ax_end 15 (Exists.intro (some (.int v1), s) (And.intro (e_XTa_peek (d + 1) hz1) (And.intro (fun q => absurd c2 q) (fun _ => (And.intro (fun q => absurd q c3) (fun _ => (Exists.intro (none, (XTa_refuse (5 : Int32) s)) (And.intro (e_XTa_refuse d (5 : Int32) s) rfl))))))))
  · rw [if_neg c2] at h
    by_cases c6 : v1 < (48 : Int32)
    · rw [if_pos c6] at h
      by_cases c7 : (XLa_isLetter v1 s) = 0
      · rw [if_pos c7] at h
        refine ax_cut (pc' := 118) (la := [some (.ref 54), some (.int x1), some (.int v1)]) [none, none, none] (st' := [.int (1 : Int32), .ref 1]) (σ' := s) 16 (trivial) (fun _ hh => (Exists.intro (some (.int v1), s) (And.intro (e_XTa_peek (d + 1) hz1) (And.intro (fun _ => (And.intro (fun _ => (Exists.intro (some (.int (XLa_isLetter v1 s)), s) (And.intro (e_XLa_isLetter (d + 1) v1 s) (And.intro (fun _ => hh) (fun q => absurd c7 q))))) (fun q => absurd c6 q))) (fun q => absurd c2 q))))) ?_
        have h := Option.some.inj h
        subst r
        exact ax_end 2 (Exists.intro (none, (XTa_refuse (1 : Int32) s)) (And.intro (e_XTa_refuse d (1 : Int32) s) rfl))
      · rw [if_neg c7] at h
        refine ax_cut (pc' := 99) (la := [some (.ref 54), some (.int x1), some (.int v1)]) [some (.ref 54), none, none] (st' := [.int v1, .ref 44]) (σ' := s) 16 (And.intro rfl (trivial)) (fun _ hh => (Exists.intro (some (.int v1), s) (And.intro (e_XTa_peek (d + 1) hz1) (And.intro (fun _ => (And.intro (fun _ => (Exists.intro (some (.int (XLa_isLetter v1 s)), s) (And.intro (e_XLa_isLetter (d + 1) v1 s) (And.intro (fun q => absurd q c7) (fun _ => hh))))) (fun q => absurd c6 q))) (fun q => absurd c2 q))))) ?_
        cases hz8 : XLa_add_44 v1 (0 : Int32) s with
        | none => rw [hz8] at h; cases h
        | some s2 =>
        rw [hz8] at h
        dsimp only at h
        have h := Option.some.inj h
        subst r
        exact ax_end 7 (Exists.intro (none, s2) (And.intro (e_XLa_add_44 (d + 1) hz8) (Exists.intro (none, (XTa_step s2)) (And.intro (e_XTa_step (d + 1)  s2) rfl))))
    · rw [if_neg c6] at h
      by_cases c9 : (57 : Int32) < v1
      · rw [if_pos c9] at h
        by_cases c10 : (XLa_isLetter v1 s) = 0
        · rw [if_pos c10] at h
          refine ax_cut (pc' := 113) (la := [some (.ref 54), some (.int x1), some (.int v1)]) [some (.ref 54), none, none] (st' := []) (σ' := s) 16 (And.intro rfl (trivial)) (fun _ hh => (Exists.intro (some (.int v1), s) (And.intro (e_XTa_peek (d + 1) hz1) (And.intro (fun _ => (And.intro (fun q => absurd q c6) (fun _ => (And.intro (fun _ => (Exists.intro (some (.int (XLa_isLetter v1 s)), s) (And.intro (e_XLa_isLetter (d + 1) v1 s) (And.intro (fun _ => hh) (fun q => absurd c10 q))))) (fun q => absurd c9 q))))) (fun q => absurd c2 q))))) ?_
          have h := Option.some.inj h
          subst r
          exact ax_end 5 (Exists.intro (none, (XTa_refuse (1 : Int32) s)) (And.intro (e_XTa_refuse d (1 : Int32) s) rfl))
        · rw [if_neg c10] at h
          refine ax_cut (pc' := 94) (la := [some (.ref 54), some (.int x1), some (.int v1)]) [some (.ref 54), none, some (.int v1)] (st' := []) (σ' := s) 16 (And.intro rfl (And.intro rfl (trivial))) (fun _ hh => (Exists.intro (some (.int v1), s) (And.intro (e_XTa_peek (d + 1) hz1) (And.intro (fun _ => (And.intro (fun q => absurd q c6) (fun _ => (And.intro (fun _ => (Exists.intro (some (.int (XLa_isLetter v1 s)), s) (And.intro (e_XLa_isLetter (d + 1) v1 s) (And.intro (fun q => absurd q c10) (fun _ => hh))))) (fun q => absurd c9 q))))) (fun q => absurd c2 q))))) ?_
          cases hz11 : XLa_add_44 v1 (0 : Int32) s with
          | none => rw [hz11] at h; cases h
          | some s3 =>
          rw [hz11] at h
          dsimp only at h
          have h := Option.some.inj h
          subst r
          exact ax_end 10 (Exists.intro (none, s3) (And.intro (e_XLa_add_44 (d + 1) hz11) (Exists.intro (none, (XTa_step s3)) (And.intro (e_XTa_step (d + 1)  s3) rfl))))
      · rw [if_neg c9] at h
        refine ax_cut (pc' := 73) (la := [some (.ref 54), some (.int x1), some (.int v1)]) [some (.ref 54), none, none] (st' := [.int (0 : Int32), .ref 44]) (σ' := s) 16 (And.intro rfl (trivial)) (fun _ hh => (Exists.intro (some (.int v1), s) (And.intro (e_XTa_peek (d + 1) hz1) (And.intro (fun _ => (And.intro (fun q => absurd q c6) (fun _ => (And.intro (fun q => absurd q c9) (fun _ => hh))))) (fun q => absurd c2 q))))) ?_
        cases hz12 : XTa_readNumber (5 : Int32) s with
        | none => rw [hz12] at h; cases h
        | some z12 =>
        rw [hz12] at h
        obtain ⟨v4, s5⟩ := z12
        dsimp only at h
        cases hz13 : XLa_add_44 (0 : Int32) v4 s5 with
        | none => rw [hz13] at h; cases h
        | some s6 =>
        rw [hz13] at h
        dsimp only at h
        have h := Option.some.inj h
        subst r
        exact ax_end 7 (Exists.intro (some (.int v4), s5) (And.intro (e_XTa_readNumber d hz12) (Exists.intro (none, s6) (And.intro (e_XLa_add_44 (d + 1) hz13) rfl))))
def XLaRe_rec : Nat → Nat → Int32 → Int32 → ax_S → Option ax_S
  | 0, _, _, _, _ => none
  | n + 1, 0, a, _, s => XLaRe_readCondition (XLaRe_rec n) a s
  | n + 1, 1, a, _, s => XLaRe_readTest (XLaRe_rec n) a s
  | n + 1, 2, a, b, s => XLaRe_readOpenTest (XLaRe_rec n) a b s
  | n + 1, 3, a, _, s => XLaRe_readSum (XLaRe_rec n) a s
  | n + 1, _ + 4, a, _, s => XLaRe_readFactor (XLaRe_rec n) a s
theorem e_XLaRe_rec (d : Nat) : ∀ (n w : Nat) (a b : Int32) (s s' : ax_S), XLaRe_rec n w a b s = some s' → ax_ev true (d + (n + 2)) (XLaRe_nu w) (XLaRe_as w a b) s (none, s') := by
  intro n
  induction n with
  | zero => intro w a b s s' h; cases h
  | succ n ih =>
    intro w a b s s' h
    match w, h with
    | 0, h => exact e_XLaRe_readCondition (d + n) (XLaRe_rec n) ih h
    | 1, h => exact e_XLaRe_readTest (d + n) (XLaRe_rec n) ih h
    | 2, h => exact e_XLaRe_readOpenTest (d + n) (XLaRe_rec n) ih h
    | 3, h => exact e_XLaRe_readSum (d + n) (XLaRe_rec n) ih h
    | _ + 4, h => exact e_XLaRe_readFactor (d + n) (XLaRe_rec n) ih h
def X_isWithin (x0 : Int32) (x1 : Int32) (x2 : Int32)  (s : ax_S) : Int32 :=
  if x0 < x1 then (
    (0 : Int32)) else
  if x2 < x0 then (
    (0 : Int32)) else
  (1 : Int32)
theorem e_X_isWithin (d : Nat) (x0 : Int32) (x1 : Int32) (x2 : Int32) (s : ax_S) : ax_ev true (d + 1) 15 [.int x0, .int x1, .int x2] s (some (.int (X_isWithin x0 x1 x2 s)), s) := by
  refine ⟨Nat.le_of_ble_eq_true rfl, ?_⟩
  generalize h : X_isWithin x0 x1 x2 s = r
  show ax_go true none (ax_ev true (d + 0)) ax_m15 0 [some (.int x0), some (.int x1), some (.int x2)] [] s _
  unfold X_isWithin at h
  by_cases c1 : x0 < x1
  · rw [if_pos c1] at h
    have h := h
    subst r
    exact ax_end 5 (And.intro (fun _ => (And.intro (Or.inl rfl) rfl)) (fun q => absurd c1 q))
  · rw [if_neg c1] at h
    by_cases c2 : x2 < x0
    · rw [if_pos c2] at h
      have h := h
      subst r
      exact ax_end 8 (And.intro (fun q => absurd q c1) (fun _ => (And.intro (fun _ => (And.intro (Or.inl rfl) rfl)) (fun q => absurd c2 q))))
    · rw [if_neg c2] at h
      have h := h
      subst r
      exact ax_end 9 (And.intro (fun q => absurd q c1) (fun _ => (And.intro (fun q => absurd q c2) (fun _ => (And.intro (Or.inr rfl) rfl)))))
def X_isPerson (x0 : Int32)  (s : ax_S) : Int32 :=
  (X_isWithin x0 (0 : Int32) (15 : Int32) s)
theorem e_X_isPerson (d : Nat) (x0 : Int32) (s : ax_S) : ax_ev true (d + 2) 14 [.int x0] s (some (.int (X_isPerson x0 s)), s) := by
  refine ⟨Nat.le_of_ble_eq_true rfl, ?_⟩
  generalize h : X_isPerson x0 s = r
  show ax_go true none (ax_ev true (d + 1)) ax_m14 0 [some (.int x0)] [] s _
  unfold X_isPerson at h
  have h := h
  subst r
  exact ax_end 5 (Exists.intro (some (.int (X_isWithin x0 (0 : Int32) (15 : Int32) s)), s) (And.intro (e_X_isWithin d x0 (0 : Int32) (15 : Int32) s) (And.intro (ax_ev_bool rfl (e_X_isWithin d x0 (0 : Int32) (15 : Int32) s)) rfl)))
def XSt_setPain_3 (x1 : Int32) (x2 : Int32)  (s : ax_S) : Option (ax_S) :=
  if (X_isPerson x1 s) = 0 then (
    some s) else
  if (x1 < 0 ∨ 16 ≤ (x1).toNatClampNeg) then none else
  some (ax_sI s 10 (x1).toNatClampNeg (if (0 : Int32) < (if x2 < (99 : Int32) then x2 else (99 : Int32)) then (if x2 < (99 : Int32) then x2 else (99 : Int32)) else (0 : Int32)))
theorem e_XSt_setPain_3 (d : Nat) {x1 : Int32} {x2 : Int32} {s : ax_S} {r : ax_S} (h : XSt_setPain_3 x1 x2 s = some r) : ax_ev true (d + 3) 16 [.ref 3, .int x1, .int x2] s (none, r) := by
  refine ⟨Nat.le_of_ble_eq_true rfl, ?_⟩
  show ax_go true none (ax_ev true (d + 2)) ax_m16 0 [some (.ref 3), some (.int x1), some (.int x2)] [] s _
  unfold XSt_setPain_3 at h
  by_cases c1 : (X_isPerson x1 s) = 0
  · rw [if_pos c1] at h
    have h := Option.some.inj h
    subst r
    exact ax_end 4 (Exists.intro (some (.int (X_isPerson x1 s)), s) (And.intro (e_X_isPerson d x1 s) (And.intro (fun _ => rfl) (fun q => absurd c1 q))))
  · rw [if_neg c1] at h
    by_cases c2 : (x1 < 0 ∨ 16 ≤ (x1).toNatClampNeg)
    · rw [if_pos c2] at h; cases h
    · rw [if_neg c2] at h
      have h := Option.some.inj h
      subst r
      exact ax_end 13 (Exists.intro (some (.int (X_isPerson x1 s)), s) (And.intro (e_X_isPerson d x1 s) (And.intro (fun q => absurd q c1) (fun _ => (And.intro c2 rfl)))))
def X_pain (x1 : Int32) (x2 : Int32)  (s : ax_S) : Option (Int32 × ax_S) :=
  if (X_isPerson x1 s) = 0 then (
    some ((0 : Int32), s)) else
  if (X_isWithin x2 (0 : Int32) (99 : Int32) s) = 0 then (
    some ((0 : Int32), s)) else
  match XSt_setPain_3 x1 x2 s with
  | none => none
  | some s1 =>
    some ((1 : Int32), s1)
theorem e_X_pain (d : Nat) {x1 : Int32} {x2 : Int32} {s : ax_S} {r : Int32 × ax_S} (h : X_pain x1 x2 s = some r) : ax_ev true (d + 4) 13 [.ref 0, .int x1, .int x2] s (some (.int r.1), r.2) := by
  refine ⟨Nat.le_of_ble_eq_true rfl, ?_⟩
  show ax_go true none (ax_ev true (d + 3)) ax_m13 0 [some (.ref 0), some (.int x1), some (.int x2)] [] s _
  unfold X_pain at h
  by_cases c1 : (X_isPerson x1 s) = 0
  · rw [if_pos c1] at h
    have h := Option.some.inj h
    subst r
    exact ax_end 5 (Exists.intro (some (.int (X_isPerson x1 s)), s) (And.intro (e_X_isPerson (d + 1) x1 s) (And.intro (fun _ => (And.intro (Or.inl rfl) rfl)) (fun q => absurd c1 q))))
  · rw [if_neg c1] at h
    by_cases c2 : (X_isWithin x2 (0 : Int32) (99 : Int32) s) = 0
    · rw [if_pos c2] at h
      have h := Option.some.inj h
      subst r
      exact ax_end 10 (Exists.intro (some (.int (X_isPerson x1 s)), s) (And.intro (e_X_isPerson (d + 1) x1 s) (And.intro (fun q => absurd q c1) (fun _ => (Exists.intro (some (.int (X_isWithin x2 (0 : Int32) (99 : Int32) s)), s) (And.intro (e_X_isWithin (d + 2) x2 (0 : Int32) (99 : Int32) s) (And.intro (fun q => absurd c2 q) (fun _ => (And.intro (Or.inl rfl) rfl)))))))))
    · rw [if_neg c2] at h
      cases hz3 : XSt_setPain_3 x1 x2 s with
      | none => rw [hz3] at h; cases h
      | some s1 =>
      rw [hz3] at h
      dsimp only at h
      have h := Option.some.inj h
      subst r
      exact ax_end 15 (Exists.intro (some (.int (X_isPerson x1 s)), s) (And.intro (e_X_isPerson (d + 1) x1 s) (And.intro (fun q => absurd q c1) (fun _ => (Exists.intro (some (.int (X_isWithin x2 (0 : Int32) (99 : Int32) s)), s) (And.intro (e_X_isWithin (d + 2) x2 (0 : Int32) (99 : Int32) s) (And.intro (fun _ => (Exists.intro (none, s1) (And.intro (e_XSt_setPain_3 d hz3) (And.intro (Or.inr rfl) rfl)))) (fun q => absurd c2 q))))))))
def M_in (x0 : Int32) (x1 : Int32) (x2 : Int32)  (s : ax_S) : Int32 :=
  if x0 < x1 then (
    (0 : Int32)) else
  if x2 < x0 then (
    (0 : Int32)) else
  (1 : Int32)
theorem e_M_in (d : Nat) (x0 : Int32) (x1 : Int32) (x2 : Int32) (s : ax_S) : ax_ev true (d + 1) 179 [.int x0, .int x1, .int x2] s (some (.int (M_in x0 x1 x2 s)), s) := by
  refine ⟨Nat.le_of_ble_eq_true rfl, ?_⟩
  generalize h : M_in x0 x1 x2 s = r
  show ax_go true none (ax_ev true (d + 0)) ax_m179 0 [some (.int x0), some (.int x1), some (.int x2)] [] s _
  unfold M_in at h
  by_cases c1 : x0 < x1
  · rw [if_pos c1] at h
    have h := h
    subst r
    exact ax_end 5 (And.intro (fun _ => (And.intro (Or.inl rfl) rfl)) (fun q => absurd c1 q))
  · rw [if_neg c1] at h
    by_cases c2 : x2 < x0
    · rw [if_pos c2] at h
      have h := h
      subst r
      exact ax_end 8 (And.intro (fun q => absurd q c1) (fun _ => (And.intro (fun _ => (And.intro (Or.inl rfl) rfl)) (fun q => absurd c2 q))))
    · rw [if_neg c2] at h
      have h := h
      subst r
      exact ax_end 9 (And.intro (fun q => absurd q c1) (fun _ => (And.intro (fun q => absurd q c2) (fun _ => (And.intro (Or.inr rfl) rfl)))))
def M_isPerson (x0 : Int32)  (s : ax_S) : Int32 :=
  (M_in x0 (0 : Int32) (15 : Int32) s)
theorem e_M_isPerson (d : Nat) (x0 : Int32) (s : ax_S) : ax_ev true (d + 2) 178 [.int x0] s (some (.int (M_isPerson x0 s)), s) := by
  refine ⟨Nat.le_of_ble_eq_true rfl, ?_⟩
  generalize h : M_isPerson x0 s = r
  show ax_go true none (ax_ev true (d + 1)) ax_m178 0 [some (.int x0)] [] s _
  unfold M_isPerson at h
  have h := h
  subst r
  exact ax_end 5 (Exists.intro (some (.int (M_in x0 (0 : Int32) (15 : Int32) s)), s) (And.intro (e_M_in d x0 (0 : Int32) (15 : Int32) s) (And.intro (ax_ev_bool rfl (e_M_in d x0 (0 : Int32) (15 : Int32) s)) rfl)))
def M_pain (x1 : Int32) (x2 : Int32)  (s : ax_S) : Option (Int32 × ax_S) :=
  if (M_isPerson x1 s) = 0 then (
    some ((0 : Int32), s)) else
  if (M_in x2 (0 : Int32) (99 : Int32) s) = 0 then (
    some ((0 : Int32), s)) else
  if (((60 : Int32) + x1) < 0 ∨ 291 ≤ (((60 : Int32) + x1)).toNatClampNeg) then none else
  some ((1 : Int32), (ax_sI s 64 (((60 : Int32) + x1)).toNatClampNeg x2))
theorem e_M_pain (d : Nat) {x1 : Int32} {x2 : Int32} {s : ax_S} {r : Int32 × ax_S} (h : M_pain x1 x2 s = some r) : ax_ev true (d + 3) 177 [.ref 63, .int x1, .int x2] s (some (.int r.1), r.2) := by
  refine ⟨Nat.le_of_ble_eq_true rfl, ?_⟩
  show ax_go true none (ax_ev true (d + 2)) ax_m177 0 [some (.ref 63), some (.int x1), some (.int x2)] [] s _
  unfold M_pain at h
  by_cases c1 : (M_isPerson x1 s) = 0
  · rw [if_pos c1] at h
    have h := Option.some.inj h
    subst r
    exact ax_end 5 (Exists.intro (some (.int (M_isPerson x1 s)), s) (And.intro (e_M_isPerson d x1 s) (And.intro (fun _ => (And.intro (Or.inl rfl) rfl)) (fun q => absurd c1 q))))
  · rw [if_neg c1] at h
    by_cases c2 : (M_in x2 (0 : Int32) (99 : Int32) s) = 0
    · rw [if_pos c2] at h
      have h := Option.some.inj h
      subst r
      exact ax_end 10 (Exists.intro (some (.int (M_isPerson x1 s)), s) (And.intro (e_M_isPerson d x1 s) (And.intro (fun q => absurd q c1) (fun _ => (Exists.intro (some (.int (M_in x2 (0 : Int32) (99 : Int32) s)), s) (And.intro (e_M_in (d + 1) x2 (0 : Int32) (99 : Int32) s) (And.intro (fun q => absurd c2 q) (fun _ => (And.intro (Or.inl rfl) rfl)))))))))
    · rw [if_neg c2] at h
      by_cases c3 : (((60 : Int32) + x1) < 0 ∨ 291 ≤ (((60 : Int32) + x1)).toNatClampNeg)
      · rw [if_pos c3] at h; cases h
      · rw [if_neg c3] at h
        refine ax_cut (pc' := 30) (la := [some (.ref 63), some (.int x1), some (.int x2)]) [none, none, none] (st' := [.int (1 : Int32)]) (σ' := (ax_sI s 64 (((60 : Int32) + x1)).toNatClampNeg x2)) 16 (trivial) (fun _ hh => (Exists.intro (some (.int (M_isPerson x1 s)), s) (And.intro (e_M_isPerson d x1 s) (And.intro (fun q => absurd q c1) (fun _ => (Exists.intro (some (.int (M_in x2 (0 : Int32) (99 : Int32) s)), s) (And.intro (e_M_in (d + 1) x2 (0 : Int32) (99 : Int32) s) (And.intro (fun _ => (And.intro c3 hh)) (fun q => absurd c2 q))))))))) ?_
        have h := Option.some.inj h
        subst r
        exact ax_end 1 (And.intro (Or.inr rfl) rfl)
def X_bound (x1 : Int32)  (s : ax_S) : Int32 × ax_S :=
  if (X_isWithin x1 (0 : Int32) (99 : Int32) s) = 0 then (
    ((0 : Int32), s)) else
  ((1 : Int32), (ax_sI s 0 12 x1))
theorem e_X_bound (d : Nat) (x1 : Int32) (s : ax_S) : ax_ev true (d + 2) 17 [.ref 0, .int x1] s (some (.int (X_bound x1 s).1), (X_bound x1 s).2) := by
  refine ⟨Nat.le_of_ble_eq_true rfl, ?_⟩
  generalize h : X_bound x1 s = r
  show ax_go true none (ax_ev true (d + 1)) ax_m17 0 [some (.ref 0), some (.int x1)] [] s _
  unfold X_bound at h
  by_cases c1 : (X_isWithin x1 (0 : Int32) (99 : Int32) s) = 0
  · rw [if_pos c1] at h
    have h := h
    subst r
    exact ax_end 7 (Exists.intro (some (.int (X_isWithin x1 (0 : Int32) (99 : Int32) s)), s) (And.intro (e_X_isWithin d x1 (0 : Int32) (99 : Int32) s) (And.intro (fun q => absurd c1 q) (fun _ => (And.intro (Or.inl rfl) rfl)))))
  · rw [if_neg c1] at h
    have h := h
    subst r
    exact ax_end 10 (Exists.intro (some (.int (X_isWithin x1 (0 : Int32) (99 : Int32) s)), s) (And.intro (e_X_isWithin d x1 (0 : Int32) (99 : Int32) s) (And.intro (fun _ => (And.intro (Or.inr rfl) rfl)) (fun q => absurd c1 q))))
def M_bound (x1 : Int32)  (s : ax_S) : Int32 × ax_S :=
  if (M_in x1 (0 : Int32) (99 : Int32) s) = 0 then (
    ((0 : Int32), s)) else
  ((1 : Int32), (ax_sI s 63 3 x1))
theorem e_M_bound (d : Nat) (x1 : Int32) (s : ax_S) : ax_ev true (d + 2) 180 [.ref 63, .int x1] s (some (.int (M_bound x1 s).1), (M_bound x1 s).2) := by
  refine ⟨Nat.le_of_ble_eq_true rfl, ?_⟩
  generalize h : M_bound x1 s = r
  show ax_go true none (ax_ev true (d + 1)) ax_m180 0 [some (.ref 63), some (.int x1)] [] s _
  unfold M_bound at h
  by_cases c1 : (M_in x1 (0 : Int32) (99 : Int32) s) = 0
  · rw [if_pos c1] at h
    have h := h
    subst r
    exact ax_end 7 (Exists.intro (some (.int (M_in x1 (0 : Int32) (99 : Int32) s)), s) (And.intro (e_M_in d x1 (0 : Int32) (99 : Int32) s) (And.intro (fun q => absurd c1 q) (fun _ => (And.intro (Or.inl rfl) rfl)))))
  · rw [if_neg c1] at h
    have h := h
    subst r
    exact ax_end 10 (Exists.intro (some (.int (M_in x1 (0 : Int32) (99 : Int32) s)), s) (And.intro (e_M_in d x1 (0 : Int32) (99 : Int32) s) (And.intro (fun _ => (And.intro (Or.inr rfl) rfl)) (fun q => absurd c1 q))))
def XTa_length  (s : ax_S) : Int32 :=
  (s.2.1 1 1)
theorem e_XTa_length (d : Nat)  (s : ax_S) : ax_ev true (d + 1) 19 [.ref 1] s (some (.int (XTa_length s)), s) := by
  refine ⟨Nat.le_of_ble_eq_true rfl, ?_⟩
  generalize h : XTa_length s = r
  show ax_go true none (ax_ev true (d + 0)) ax_m19 0 [some (.ref 1)] [] s _
  unfold XTa_length at h
  have h := h
  subst r
  exact ax_end 3 rfl
