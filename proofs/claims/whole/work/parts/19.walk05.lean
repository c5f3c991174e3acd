def XFi_howMany_4  (s : ax_S) : Option (Int32) :=
  match XFi_bits_4 s with
  | none => none
  | some v1 =>
    some (J_bitCount v1 s)
theorem e_XFi_howMany_4 (d : Nat)  {s : ax_S} {r : Int32} (h : XFi_howMany_4 s = some r) : ax_ev true (d + 2) 74 [.ref 4] s (some (.int r), s) := by
  refine ⟨Nat.le_of_ble_eq_true rfl, ?_⟩
  show ax_go true none (ax_ev true (d + 1)) ax_m74 0 [some (.ref 4)] [] s _
  unfold XFi_howMany_4 at h
  cases hz1 : XFi_bits_4 s with
  | none => rw [hz1] at h; cases h
  | some v1 =>
  rw [hz1] at h
  dsimp only at h
  have h := Option.some.inj h
  subst r
  exact ax_end 4 (Exists.intro (some (.int v1), s) (And.intro (e_XFi_bits_4 d hz1) (Exists.intro (some (.int (J_bitCount v1 s)), s) (And.intro (e_J_bitCount d v1 s) rfl))))
def X_mirror  (s : ax_S) : Option (Int32 × ax_S) :=
  match XFi_turnOver_4 s with
  | none => none
  | some s1 =>
    match XFi_howMany_4 s1 with
    | none => none
    | some v2 =>
      some (v2, s1)
theorem e_X_mirror (d : Nat)  {s : ax_S} {r : Int32 × ax_S} (h : X_mirror s = some r) : ax_ev true (d + 3) 72 [.ref 0] s (some (.int r.1), r.2) := by
  refine ⟨Nat.le_of_ble_eq_true rfl, ?_⟩
  show ax_go true none (ax_ev true (d + 2)) ax_m72 0 [some (.ref 0)] [] s _
  unfold X_mirror at h
  cases hz1 : XFi_turnOver_4 s with
  | none => rw [hz1] at h; cases h
  | some s1 =>
  rw [hz1] at h
  dsimp only at h
  cases hz2 : XFi_howMany_4 s1 with
  | none => rw [hz2] at h; cases h
  | some v2 =>
  rw [hz2] at h
  dsimp only at h
  have h := Option.some.inj h
  subst r
  exact ax_end 9 (Exists.intro (none, s1) (And.intro (e_XFi_turnOver_4 (d + 1) hz1) (Exists.intro (some (.int v2), s1) (And.intro (e_XFi_howMany_4 d hz2) rfl))))
def M_right (x1 : Int32)  (s : ax_S) : Option (Int32) :=
  if (((12 : Int32) + x1) < 0 ∨ 291 ≤ (((12 : Int32) + x1)).toNatClampNeg) then none else
  if (((36 : Int32) + x1) < 0 ∨ 291 ≤ (((36 : Int32) + x1)).toNatClampNeg) then none else
  some ((s.2.1 64 (((12 : Int32) + x1)).toNatClampNeg) + (s.2.1 64 (((36 : Int32) + x1)).toNatClampNeg))
theorem e_M_right (d : Nat) {x1 : Int32} {s : ax_S} {r : Int32} (h : M_right x1 s = some r) : ax_ev true (d + 1) 218 [.ref 63, .int x1] s (some (.int r), s) := by
  refine ⟨Nat.le_of_ble_eq_true rfl, ?_⟩
  show ax_go true none (ax_ev true (d + 0)) ax_m218 0 [some (.ref 63), some (.int x1)] [] s _
  unfold M_right at h
  by_cases c1 : (((12 : Int32) + x1) < 0 ∨ 291 ≤ (((12 : Int32) + x1)).toNatClampNeg)
  · rw [if_pos c1] at h; cases h
  · rw [if_neg c1] at h
    by_cases c2 : (((36 : Int32) + x1) < 0 ∨ 291 ≤ (((36 : Int32) + x1)).toNatClampNeg)
    · rw [if_pos c2] at h; cases h
    · rw [if_neg c2] at h
      have h := Option.some.inj h
      subst r
      exact ax_end 14 (And.intro c1 (And.intro c2 rfl))
def M_mirror_l4 : Nat → Int32 → Int32 → ax_S → Option (Int32 × ax_S)
  | 0, _, _, _ => none
  | n + 1, x1, x2, s =>
    if (12 : Int32) ≤ x2 then (
      some (x1, s)) else
    match M_isFigure x2 s with
    | none => none
    | some v1 =>
      if v1 = 0 then (
        M_mirror_l4 n x1 (x2 + (1)) s) else
      match M_right x2 s with
      | none => none
      | some v2 =>
        if (((12 : Int32) + x2) < 0 ∨ 291 ≤ (((12 : Int32) + x2)).toNatClampNeg) then none else
        M_mirror_l4 n (x1 + (1 : Int32)) (x2 + (1)) (ax_sI s 64 (((12 : Int32) + x2)).toNatClampNeg ((16 : Int32) - v2))
def M_mirror  (s : ax_S) : Option (Int32 × ax_S) :=
  match M_mirror_l4 70000 (0 : Int32) (0 : Int32) s with
  | none => none
  | some (v3, s4) =>
    some (v3, s4)
theorem w_M_mirror_l4 (d : Nat) {o : ax_O} : ∀ (n : Nat) (x1 : Int32) (x2 : Int32) (s : ax_S) (r : Int32 × ax_S) (h : M_mirror_l4 n x1 x2 s = some r) (hk0 : ∀ (t0 : Int32) (t1 : ax_S), r = (t0, t1) → ax_go true none (ax_ev true (d + 2)) ax_m217 48 [none, some (.int t0), none] [] t1 o), ax_go true none (ax_ev true (d + 2)) ax_m217 4 [some (.ref 63), some (.int x1), some (.int x2)] [] s o := by
  intro n
  induction n with
  | zero => intro x1 x2 s r h hk0; cases h
  | succ n ih =>
    intro x1 x2 s r h hk0
    rw [M_mirror_l4] at h
    by_cases c1 : (12 : Int32) ≤ x2
    · rw [if_pos c1] at h
      have h := Option.some.inj h
      subst r
      exact ax_cut (pc' := 48) (la := [some (.ref 63), some (.int x1), some (.int x2)]) [none, some (.int x1), none] (st' := []) (σ' := s) 3 (And.intro rfl (trivial)) (fun _ hh => (And.intro (fun _ => hh) (fun q => absurd c1 q))) (hk0 _ _ rfl)
    · rw [if_neg c1] at h
      cases hz2 : M_isFigure x2 s with
      | none => rw [hz2] at h; cases h
      | some v1 =>
      rw [hz2] at h
      dsimp only at h
      by_cases c3 : v1 = 0
      · rw [if_pos c3] at h
        exact ax_cut (pc' := 4) (la := [some (.ref 63), some (.int x1), some (.int (x2 + (1)))]) [some (.ref 63), some (.int x1), some (.int (x2 + (1)))] (st' := []) (σ' := s) 10 (And.intro rfl (And.intro rfl (And.intro rfl (trivial)))) (fun _ hh => (And.intro (fun q => absurd q c1) (fun _ => (Exists.intro (some (.int v1), s) (And.intro (e_M_isFigure d hz2) (And.intro (fun q => absurd c3 q) (fun _ => hh))))))) (ih x1 (x2 + (1)) s _ h hk0)
      · rw [if_neg c3] at h
        cases hz4 : M_right x2 s with
        | none => rw [hz4] at h; cases h
        | some v2 =>
        rw [hz4] at h
        dsimp only at h
        refine ax_cut (pc' := 36) (la := [some (.ref 63), some (.int x1), some (.int x2)]) [some (.ref 63), some (.int x1), some (.int x2)] (st' := [.int v2, .int (16 : Int32), .int ((12 : Int32) + x2), .ref 64]) (σ' := s) 16 (And.intro rfl (And.intro rfl (And.intro rfl (trivial)))) (fun _ hh => (And.intro (fun q => absurd q c1) (fun _ => (Exists.intro (some (.int v1), s) (And.intro (e_M_isFigure d hz2) (And.intro (fun _ => (Exists.intro (some (.int v2), s) (And.intro (e_M_right (d + 1) hz4) hh))) (fun q => absurd c3 q))))))) ?_
        by_cases c5 : (((12 : Int32) + x2) < 0 ∨ 291 ≤ (((12 : Int32) + x2)).toNatClampNeg)
        · rw [if_pos c5] at h; cases h
        · rw [if_neg c5] at h
          exact ax_cut (pc' := 4) (la := [some (.ref 63), some (.int (x1 + (1 : Int32))), some (.int (x2 + (1)))]) [some (.ref 63), some (.int (x1 + (1 : Int32))), some (.int (x2 + (1)))] (st' := []) (σ' := (ax_sI s 64 (((12 : Int32) + x2)).toNatClampNeg ((16 : Int32) - v2))) 8 (And.intro rfl (And.intro rfl (And.intro rfl (trivial)))) (fun _ hh => (And.intro c5 hh)) (ih (x1 + (1 : Int32)) (x2 + (1)) (ax_sI s 64 (((12 : Int32) + x2)).toNatClampNeg ((16 : Int32) - v2)) _ h hk0)
theorem e_M_mirror (d : Nat)  {s : ax_S} {r : Int32 × ax_S} (h : M_mirror s = some r) : ax_ev true (d + 3) 217 [.ref 63] s (some (.int r.1), r.2) := by
  refine ⟨Nat.le_of_ble_eq_true rfl, ?_⟩
  show ax_go true none (ax_ev true (d + 2)) ax_m217 0 [some (.ref 63), none, none] [] s _
  unfold M_mirror at h
  cases hz1 : M_mirror_l4 70000 (0 : Int32) (0 : Int32) s with
  | none => rw [hz1] at h; cases h
  | some z1 =>
  rw [hz1] at h
  refine ax_cut (pc' := 4) (la := [some (.ref 63), some (.int (0 : Int32)), some (.int (0 : Int32))]) [some (.ref 63), some (.int (0 : Int32)), some (.int (0 : Int32))] (st' := []) (σ' := s) 4 (And.intro rfl (And.intro rfl (And.intro rfl (trivial)))) (fun _ hh => hh) (w_M_mirror_l4 d 70000 (0 : Int32) (0 : Int32) s _ hz1 ?_)
  · intro v3 s4 hq
    subst z1
    dsimp only at h
    have h := Option.some.inj h
    subst r
    exact ax_end 2 rfl
def XLa_setDay_36 (x1 : Int32)  (s : ax_S) : ax_S :=
  (ax_sI s 36 13 x1)
theorem e_XLa_setDay_36 (d : Nat) (x1 : Int32) (s : ax_S) : ax_ev true (d + 1) 79 [.ref 36, .int x1] s (none, (XLa_setDay_36 x1 s)) := by
  refine ⟨Nat.le_of_ble_eq_true rfl, ?_⟩
  generalize h : XLa_setDay_36 x1 s = r
  show ax_go true none (ax_ev true (d + 0)) ax_m79 0 [some (.ref 36), some (.int x1)] [] s _
  unfold XLa_setDay_36 at h
  have h := h
  subst r
  exact ax_end 4 rfl
def XSt_painOf_3 (x1 : Int32)  (s : ax_S) : Option (Int32) :=
  if (X_isPerson x1 s) = 0 then (
    some (0 : Int32)) else
  if (x1 < 0 ∨ 16 ≤ (x1).toNatClampNeg) then none else
  some (s.2.1 10 (x1).toNatClampNeg)
theorem e_XSt_painOf_3 (d : Nat) {x1 : Int32} {s : ax_S} {r : Int32} (h : XSt_painOf_3 x1 s = some r) : ax_ev true (d + 3) 45 [.ref 3, .int x1] s (some (.int r), s) := by
  refine ⟨Nat.le_of_ble_eq_true rfl, ?_⟩
  show ax_go true none (ax_ev true (d + 2)) ax_m45 0 [some (.ref 3), some (.int x1)] [] s _
  unfold XSt_painOf_3 at h
  by_cases c1 : (X_isPerson x1 s) = 0
  · rw [if_pos c1] at h
    have h := Option.some.inj h
    subst r
    exact ax_end 5 (Exists.intro (some (.int (X_isPerson x1 s)), s) (And.intro (e_X_isPerson d x1 s) (And.intro (fun _ => rfl) (fun q => absurd c1 q))))
  · rw [if_neg c1] at h
    by_cases c2 : (x1 < 0 ∨ 16 ≤ (x1).toNatClampNeg)
    · rw [if_pos c2] at h; cases h
    · rw [if_neg c2] at h
      have h := Option.some.inj h
      subst r
      exact ax_end 9 (Exists.intro (some (.int (X_isPerson x1 s)), s) (And.intro (e_X_isPerson d x1 s) (And.intro (fun q => absurd q c1) (fun _ => (And.intro c2 rfl)))))
def XFi_howManyOf_4_l4 : Nat → Int32 → Int32 → Int32 → ax_S → Option (Int32)
  | 0, _, _, _, _ => none
  | n + 1, x1, x2, x3, s =>
    if (12 : Int32) ≤ x3 then (
      some x2) else
    if (x3 < 0 ∨ 12 ≤ (x3).toNatClampNeg) then none else
    if (s.2.1 5 (x3).toNatClampNeg) = x1 then (
      XFi_howManyOf_4_l4 n x1 (x2 + (1)) (x3 + (1)) s) else
    XFi_howManyOf_4_l4 n x1 x2 (x3 + (1)) s
def XFi_howManyOf_4 (x1 : Int32)  (s : ax_S) : Option (Int32) :=
  match XFi_howManyOf_4_l4 70000 x1 (0 : Int32) (0 : Int32) s with
  | none => none
  | some v1 =>
    some v1
theorem w_XFi_howManyOf_4_l4 (d : Nat) {o : ax_O} : ∀ (n : Nat) (x1 : Int32) (x2 : Int32) (x3 : Int32) (s : ax_S) (r : Int32) (h : XFi_howManyOf_4_l4 n x1 x2 x3 s = some r) (hk0 : ∀ (t0 : Int32), r = t0 → ax_go true none (ax_ev true (d + 0)) ax_m82 29 [none, none, some (.int t0), none] [] s o), ax_go true none (ax_ev true (d + 0)) ax_m82 4 [some (.ref 4), some (.int x1), some (.int x2), some (.int x3)] [] s o := by
  intro n
  induction n with
  | zero => intro x1 x2 x3 s r h hk0; cases h
  | succ n ih =>
    intro x1 x2 x3 s r h hk0
    rw [XFi_howManyOf_4_l4] at h
    by_cases c1 : (12 : Int32) ≤ x3
    · rw [if_pos c1] at h
      have h := Option.some.inj h
      subst r
      exact ax_cut (pc' := 29) (la := [some (.ref 4), some (.int x1), some (.int x2), some (.int x3)]) [none, none, some (.int x2), none] (st' := []) (σ' := s) 3 (And.intro rfl (trivial)) (fun _ hh => (And.intro (fun _ => hh) (fun q => absurd c1 q))) (hk0 _ rfl)
    · rw [if_neg c1] at h
      by_cases c2 : (x3 < 0 ∨ 12 ≤ (x3).toNatClampNeg)
      · rw [if_pos c2] at h; cases h
      · rw [if_neg c2] at h
        by_cases c3 : (s.2.1 5 (x3).toNatClampNeg) = x1
        · rw [if_pos c3] at h
          exact ax_cut (pc' := 4) (la := [some (.ref 4), some (.int x1), some (.int (x2 + (1))), some (.int (x3 + (1)))]) [some (.ref 4), some (.int x1), some (.int (x2 + (1))), some (.int (x3 + (1)))] (st' := []) (σ' := s) 12 (And.intro rfl (And.intro rfl (And.intro rfl (And.intro rfl (trivial))))) (fun _ hh => (And.intro (fun q => absurd q c1) (fun _ => (And.intro c2 (And.intro (fun q => absurd c3 q) (fun _ => hh)))))) (ih x1 (x2 + (1)) (x3 + (1)) s _ h hk0)
        · rw [if_neg c3] at h
          exact ax_cut (pc' := 4) (la := [some (.ref 4), some (.int x1), some (.int x2), some (.int (x3 + (1)))]) [some (.ref 4), some (.int x1), some (.int x2), some (.int (x3 + (1)))] (st' := []) (σ' := s) 11 (And.intro rfl (And.intro rfl (And.intro rfl (And.intro rfl (trivial))))) (fun _ hh => (And.intro (fun q => absurd q c1) (fun _ => (And.intro c2 (And.intro (fun _ => hh) (fun q => absurd c3 q)))))) (ih x1 x2 (x3 + (1)) s _ h hk0)
theorem e_XFi_howManyOf_4 (d : Nat) {x1 : Int32} {s : ax_S} {r : Int32} (h : XFi_howManyOf_4 x1 s = some r) : ax_ev true (d + 1) 82 [.ref 4, .int x1] s (some (.int r), s) := by
  refine ⟨Nat.le_of_ble_eq_true rfl, ?_⟩
  show ax_go true none (ax_ev true (d + 0)) ax_m82 0 [some (.ref 4), some (.int x1), none, none] [] s _
  unfold XFi_howManyOf_4 at h
  cases hz1 : XFi_howManyOf_4_l4 70000 x1 (0 : Int32) (0 : Int32) s with
  | none => rw [hz1] at h; cases h
  | some z1 =>
  rw [hz1] at h
  refine ax_cut (pc' := 4) (la := [some (.ref 4), some (.int x1), some (.int (0 : Int32)), some (.int (0 : Int32))]) [some (.ref 4), some (.int x1), some (.int (0 : Int32)), some (.int (0 : Int32))] (st' := []) (σ' := s) 4 (And.intro rfl (And.intro rfl (And.intro rfl (And.intro rfl (trivial))))) (fun _ hh => hh) (w_XFi_howManyOf_4_l4 d 70000 x1 (0 : Int32) (0 : Int32) s _ hz1 ?_)
  · intro v1 hq
    subst z1
    dsimp only at h
    have h := Option.some.inj h
    subst r
    exact ax_end 2 rfl
def XSt_shownOf_3 (x1 : Int32)  (s : ax_S) : Option (Int32) :=
  if (X_isPerson x1 s) = 0 then (
    some (0 : Int32)) else
  if (x1 < 0 ∨ 16 ≤ (x1).toNatClampNeg) then none else
  some (s.2.1 11 (x1).toNatClampNeg)
theorem e_XSt_shownOf_3 (d : Nat) {x1 : Int32} {s : ax_S} {r : Int32} (h : XSt_shownOf_3 x1 s = some r) : ax_ev true (d + 3) 83 [.ref 3, .int x1] s (some (.int r), s) := by
  refine ⟨Nat.le_of_ble_eq_true rfl, ?_⟩
  show ax_go true none (ax_ev true (d + 2)) ax_m83 0 [some (.ref 3), some (.int x1)] [] s _
  unfold XSt_shownOf_3 at h
  by_cases c1 : (X_isPerson x1 s) = 0
  · rw [if_pos c1] at h
    have h := Option.some.inj h
    subst r
    exact ax_end 5 (Exists.intro (some (.int (X_isPerson x1 s)), s) (And.intro (e_X_isPerson d x1 s) (And.intro (fun _ => rfl) (fun q => absurd c1 q))))
  · rw [if_neg c1] at h
    by_cases c2 : (x1 < 0 ∨ 16 ≤ (x1).toNatClampNeg)
    · rw [if_pos c2] at h; cases h
    · rw [if_neg c2] at h
      have h := Option.some.inj h
      subst r
      exact ax_end 9 (Exists.intro (some (.int (X_isPerson x1 s)), s) (And.intro (e_X_isPerson d x1 s) (And.intro (fun q => absurd q c1) (fun _ => (And.intro c2 rfl)))))
def XSt_daysSinceShown_3 (x1 : Int32)  (s : ax_S) : Option (Int32) :=
  if (X_isPerson x1 s) = 0 then (
    some (99 : Int32)) else
  if (x1 < 0 ∨ 16 ≤ (x1).toNatClampNeg) then none else
  if (s.2.1 12 (x1).toNatClampNeg) = 0 then (
    some (99 : Int32)) else
  if (x1 < 0 ∨ 16 ≤ (x1).toNatClampNeg) then none else
  some (if (((s.2.1 3 5) - (s.2.1 12 (x1).toNatClampNeg)) + (1 : Int32)) < (99 : Int32) then (((s.2.1 3 5) - (s.2.1 12 (x1).toNatClampNeg)) + (1 : Int32)) else (99 : Int32))
theorem e_XSt_daysSinceShown_3 (d : Nat) {x1 : Int32} {s : ax_S} {r : Int32} (h : XSt_daysSinceShown_3 x1 s = some r) : ax_ev true (d + 3) 84 [.ref 3, .int x1] s (some (.int r), s) := by
  refine ⟨Nat.le_of_ble_eq_true rfl, ?_⟩
  show ax_go true none (ax_ev true (d + 2)) ax_m84 0 [some (.ref 3), some (.int x1)] [] s _
  unfold XSt_daysSinceShown_3 at h
  by_cases c1 : (X_isPerson x1 s) = 0
  · rw [if_pos c1] at h
    have h := Option.some.inj h
    subst r
    exact ax_end 5 (Exists.intro (some (.int (X_isPerson x1 s)), s) (And.intro (e_X_isPerson d x1 s) (And.intro (fun _ => rfl) (fun q => absurd c1 q))))
  · rw [if_neg c1] at h
    by_cases c2 : (x1 < 0 ∨ 16 ≤ (x1).toNatClampNeg)
    · rw [if_pos c2] at h; cases h
    · rw [if_neg c2] at h
      by_cases c3 : (s.2.1 12 (x1).toNatClampNeg) = 0
      · rw [if_pos c3] at h
        have h := Option.some.inj h
        subst r
        exact ax_end 10 (Exists.intro (some (.int (X_isPerson x1 s)), s) (And.intro (e_X_isPerson d x1 s) (And.intro (fun q => absurd q c1) (fun _ => (And.intro c2 (And.intro (fun q => absurd c3 q) (fun _ => rfl)))))))
      · rw [if_neg c3] at h
        by_cases c4 : (x1 < 0 ∨ 16 ≤ (x1).toNatClampNeg)
        · rw [if_pos c4] at h; cases h
        · rw [if_neg c4] at h
          refine ax_cut (pc' := 32) (la := [some (.ref 3), some (.int x1)]) [none, none] (st' := [.int ((s.2.1 3 5) - (s.2.1 12 (x1).toNatClampNeg)), .int (99 : Int32)]) (σ' := s) 16 (trivial) (fun _ hh => (Exists.intro (some (.int (X_isPerson x1 s)), s) (And.intro (e_X_isPerson d x1 s) (And.intro (fun q => absurd q c1) (fun _ => (And.intro c2 (And.intro (fun _ => (And.intro c4 hh)) (fun q => absurd c3 q)))))))) ?_
          have h := Option.some.inj h
          subst r
          exact ax_end 4 rfl
def XLa_setPerson_36 (x1 : Int32) (x2 : Int32) (x3 : Int32) (x4 : Int32) (x5 : Int32)  (s : ax_S) : ax_S :=
  (ax_sI (ax_sI (ax_sI (ax_sI (ax_sI s 36 9 x1) 36 10 x2) 36 11 x3) 36 12 x4) 36 14 x5)
theorem e_XLa_setPerson_36 (d : Nat) (x1 : Int32) (x2 : Int32) (x3 : Int32) (x4 : Int32) (x5 : Int32) (s : ax_S) : ax_ev true (d + 1) 85 [.ref 36, .int x1, .int x2, .int x3, .int x4, .int x5] s (none, (XLa_setPerson_36 x1 x2 x3 x4 x5 s)) := by
  refine ⟨Nat.le_of_ble_eq_true rfl, ?_⟩
  generalize h : XLa_setPerson_36 x1 x2 x3 x4 x5 s = r
  show ax_go true none (ax_ev true (d + 0)) ax_m85 0 [some (.ref 36), some (.int x1), some (.int x2), some (.int x3), some (.int x4), some (.int x5)] [] s _
  unfold XLa_setPerson_36 at h
  have h := h
  subst r
  exact ax_end 16 rfl
def XSt_tellOf_3_36 (x1 : Int32)  (s : ax_S) : Option (ax_S) :=
  match XSt_painOf_3 x1 s with
  | none => none
  | some v1 =>
    match XFi_howManyOf_4 x1 s with
    | none => none
    | some v2 =>
      match XSt_shownOf_3 x1 s with
      | none => none
      | some v3 =>
        match XSt_daysSinceShown_3 x1 s with
        | none => none
        | some v4 =>
          some (XLa_setPerson_36 x1 v1 v2 v3 v4 s)
theorem e_XSt_tellOf_3_36 (d : Nat) {x1 : Int32} {s : ax_S} {r : ax_S} (h : XSt_tellOf_3_36 x1 s = some r) : ax_ev true (d + 4) 81 [.ref 3, .int x1, .ref 36] s (none, r) := by
  refine ⟨Nat.le_of_ble_eq_true rfl, ?_⟩
  show ax_go true none (ax_ev true (d + 3)) ax_m81 0 [some (.ref 3), some (.int x1), some (.ref 36)] [] s _
  unfold XSt_tellOf_3_36 at h
  cases hz1 : XSt_painOf_3 x1 s with
  | none => rw [hz1] at h; cases h
  | some v1 =>
  rw [hz1] at h
  dsimp only at h
  cases hz2 : XFi_howManyOf_4 x1 s with
  | none => rw [hz2] at h; cases h
  | some v2 =>
  rw [hz2] at h
  dsimp only at h
  cases hz3 : XSt_shownOf_3 x1 s with
  | none => rw [hz3] at h; cases h
  | some v3 =>
  rw [hz3] at h
  dsimp only at h
  cases hz4 : XSt_daysSinceShown_3 x1 s with
  | none => rw [hz4] at h; cases h
  | some v4 =>
  rw [hz4] at h
  dsimp only at h
  refine ax_cut (pc' := 28) (la := [some (.ref 3), some (.int x1), some (.ref 36)]) [none, none, none] (st' := []) (σ' := (XLa_setPerson_36 x1 v1 v2 v3 v4 s)) 16 (trivial) (fun _ hh => (Exists.intro (some (.int v1), s) (And.intro (e_XSt_painOf_3 d hz1) (Exists.intro (some (.int v2), s) (And.intro (e_XFi_howManyOf_4 (d + 2) hz2) (Exists.intro (some (.int v3), s) (And.intro (e_XSt_shownOf_3 d hz3) (Exists.intro (some (.int v4), s) (And.intro (e_XSt_daysSinceShown_3 d hz4) (Exists.intro (none, (XLa_setPerson_36 x1 v1 v2 v3 v4 s)) (And.intro (e_XLa_setPerson_36 (d + 2) x1 v1 v2 v3 v4 s) hh))))))))))) ?_
  have h := Option.some.inj h
  subst r
  exact ax_end 1 rfl
def XLa_letterValue_36 (x1 : Int32)  (s : ax_S) : Int64 :=
  if x1 = (100) then (
    ((s.2.1 36 13)).toInt64) else
  if x1 = (110) then (
    ((s.2.1 36 11)).toInt64) else
  if x1 = (112) then (
    ((s.2.1 36 9)).toInt64) else
  if x1 = (115) then (
    ((s.2.1 36 12)).toInt64) else
  if x1 = (118) then (
    ((s.2.1 36 10)).toInt64) else
  ((s.2.1 36 14)).toInt64
theorem e_XLa_letterValue_36 (d : Nat) (x1 : Int32) (s : ax_S) : ax_ev true (d + 1) 89 [.ref 36, .int x1] s (some (.long (XLa_letterValue_36 x1 s)), s) := by
  refine ⟨Nat.le_of_ble_eq_true rfl, ?_⟩
  generalize h : XLa_letterValue_36 x1 s = r
  show ax_go true none (ax_ev true (d + 0)) ax_m89 0 [some (.ref 36), some (.int x1)] [] s _
  unfold XLa_letterValue_36 at h
  by_cases c1_0 : x1 = (100)
  · rw [if_pos c1_0] at h
    have h := h
    subst r
    exact ax_end 6 (And.intro (List.forall_mem_cons.mpr ⟨fun _ => rfl, List.forall_mem_cons.mpr ⟨fun e => absurd (e.symm.trans (congrArg Int32.toInt c1_0)) (by decide), List.forall_mem_cons.mpr ⟨fun e => absurd (e.symm.trans (congrArg Int32.toInt c1_0)) (by decide), List.forall_mem_cons.mpr ⟨fun e => absurd (e.symm.trans (congrArg Int32.toInt c1_0)) (by decide), List.forall_mem_cons.mpr ⟨fun e => absurd (e.symm.trans (congrArg Int32.toInt c1_0)) (by decide), fun _ h0 => absurd h0 List.not_mem_nil⟩⟩⟩⟩⟩) (fun q => absurd (congrArg Int32.toInt c1_0) (q (100, 75) (by decide))))
  rw [if_neg c1_0] at h
  by_cases c1_1 : x1 = (110)
  · rw [if_pos c1_1] at h
    have h := h
    subst r
    exact ax_end 6 (And.intro (List.forall_mem_cons.mpr ⟨fun e => absurd (e.symm.trans (congrArg Int32.toInt c1_1)) (by decide), List.forall_mem_cons.mpr ⟨fun _ => rfl, List.forall_mem_cons.mpr ⟨fun e => absurd (e.symm.trans (congrArg Int32.toInt c1_1)) (by decide), List.forall_mem_cons.mpr ⟨fun e => absurd (e.symm.trans (congrArg Int32.toInt c1_1)) (by decide), List.forall_mem_cons.mpr ⟨fun e => absurd (e.symm.trans (congrArg Int32.toInt c1_1)) (by decide), fun _ h0 => absurd h0 List.not_mem_nil⟩⟩⟩⟩⟩) (fun q => absurd (congrArg Int32.toInt c1_1) (q (110, 63) (by decide))))
  rw [if_neg c1_1] at h
  by_cases c1_2 : x1 = (112)
  · rw [if_pos c1_2] at h
    have h := h
    subst r
    exact ax_end 6 (And.intro (List.forall_mem_cons.mpr ⟨fun e => absurd (e.symm.trans (congrArg Int32.toInt c1_2)) (by decide), List.forall_mem_cons.mpr ⟨fun e => absurd (e.symm.trans (congrArg Int32.toInt c1_2)) (by decide), List.forall_mem_cons.mpr ⟨fun _ => rfl, List.forall_mem_cons.mpr ⟨fun e => absurd (e.symm.trans (congrArg Int32.toInt c1_2)) (by decide), List.forall_mem_cons.mpr ⟨fun e => absurd (e.symm.trans (congrArg Int32.toInt c1_2)) (by decide), fun _ h0 => absurd h0 List.not_mem_nil⟩⟩⟩⟩⟩) (fun q => absurd (congrArg Int32.toInt c1_2) (q (112, 51) (by decide))))
  rw [if_neg c1_2] at h
  by_cases c1_3 : x1 = (115)
  · rw [if_pos c1_3] at h
    have h := h
    subst r
    exact ax_end 6 (And.intro (List.forall_mem_cons.mpr ⟨fun e => absurd (e.symm.trans (congrArg Int32.toInt c1_3)) (by decide), List.forall_mem_cons.mpr ⟨fun e => absurd (e.symm.trans (congrArg Int32.toInt c1_3)) (by decide), List.forall_mem_cons.mpr ⟨fun e => absurd (e.symm.trans (congrArg Int32.toInt c1_3)) (by decide), List.forall_mem_cons.mpr ⟨fun _ => rfl, List.forall_mem_cons.mpr ⟨fun e => absurd (e.symm.trans (congrArg Int32.toInt c1_3)) (by decide), fun _ h0 => absurd h0 List.not_mem_nil⟩⟩⟩⟩⟩) (fun q => absurd (congrArg Int32.toInt c1_3) (q (115, 69) (by decide))))
  rw [if_neg c1_3] at h
  by_cases c1_4 : x1 = (118)
  · rw [if_pos c1_4] at h
    have h := h
    subst r
    exact ax_end 6 (And.intro (List.forall_mem_cons.mpr ⟨fun e => absurd (e.symm.trans (congrArg Int32.toInt c1_4)) (by decide), List.forall_mem_cons.mpr ⟨fun e => absurd (e.symm.trans (congrArg Int32.toInt c1_4)) (by decide), List.forall_mem_cons.mpr ⟨fun e => absurd (e.symm.trans (congrArg Int32.toInt c1_4)) (by decide), List.forall_mem_cons.mpr ⟨fun e => absurd (e.symm.trans (congrArg Int32.toInt c1_4)) (by decide), List.forall_mem_cons.mpr ⟨fun _ => rfl, fun _ h0 => absurd h0 List.not_mem_nil⟩⟩⟩⟩⟩) (fun q => absurd (congrArg Int32.toInt c1_4) (q (118, 57) (by decide))))
  rw [if_neg c1_4] at h
  have h := h
  subst r
  exact ax_end 6 (And.intro (List.forall_mem_cons.mpr ⟨fun e => absurd (Int32.toInt_inj.mp e) c1_0, List.forall_mem_cons.mpr ⟨fun e => absurd (Int32.toInt_inj.mp e) c1_1, List.forall_mem_cons.mpr ⟨fun e => absurd (Int32.toInt_inj.mp e) c1_2, List.forall_mem_cons.mpr ⟨fun e => absurd (Int32.toInt_inj.mp e) c1_3, List.forall_mem_cons.mpr ⟨fun e => absurd (Int32.toInt_inj.mp e) c1_4, fun _ h0 => absurd h0 List.not_mem_nil⟩⟩⟩⟩⟩) (fun _ => rfl))
def XLa_joined (x0 : Int32) (x1 : Int64) (x3 : Int64)  (s : ax_S) : Option (Int64) :=
  if x0 = (38 : Int32) then (
    if (lg_cmp x1 (1 : Int64)) = 0 then (
      some x3) else
    some x1) else
  if x0 = (124 : Int32) then (
    if (lg_cmp x1 (0 : Int64)) = 0 then (
      some x3) else
    some x1) else
  if (lg_cmp x1 (1099511627776 : Int64)) = 0 then (
    some (1099511627776 : Int64)) else
  if (lg_cmp x3 (1099511627776 : Int64)) = 0 then (
    some (1099511627776 : Int64)) else
  if x0 = (37) then (
    if (x3).toInt32 = 0 then (
      some (1099511627776 : Int64)) else
    if (x3).toInt32 = 0 then none else
    some (((x1).toInt32 - (x1).toInt32 / (x3).toInt32 * (x3).toInt32)).toInt64) else
  if x0 = (42) then (
    some (((x1).toInt32 * (x3).toInt32)).toInt64) else
  if x0 = (43) then (
    some (((x1).toInt32 + (x3).toInt32)).toInt64) else
  if x0 = (45) then (
    some (((x1).toInt32 - (x3).toInt32)).toInt64) else
  if x0 = (47) then (
    if (x3).toInt32 = 0 then (
      some (1099511627776 : Int64)) else
    if (x3).toInt32 = 0 then none else
    some (((x1).toInt32 / (x3).toInt32)).toInt64) else
  if x0 = (60) then (
    if (x3).toInt32 ≤ (x1).toInt32 then (
      some (0 : Int64)) else
    some (1 : Int64)) else
  if x0 = (62) then (
    if (x1).toInt32 ≤ (x3).toInt32 then (
      some (0 : Int64)) else
    some (1 : Int64)) else
  if (x1).toInt32 = (x3).toInt32 then (
    some (1 : Int64)) else
  some (0 : Int64)
theorem e_XLa_joined (d : Nat) {x0 : Int32} {x1 : Int64} {x3 : Int64} {s : ax_S} {r : Int64} (h : XLa_joined x0 x1 x3 s = some r) : ax_ev true (d + 1) 90 [.int x0, .long x1, .long x3] s (some (.long r), s) := by
  refine ⟨Nat.le_of_ble_eq_true rfl, ?_⟩
  show ax_go true none (ax_ev true (d + 0)) ax_m90 0 [some (.int x0), some (.long x1), none, some (.long x3), none, none, none] [] s _
  unfold XLa_joined at h
  by_cases c1 : x0 = (38 : Int32)
  · rw [if_pos c1] at h
    by_cases c2 : (lg_cmp x1 (1 : Int64)) = 0
    · rw [if_pos c2] at h
      have h := Option.some.inj h
      subst r
      exact ax_end 10 (And.intro (fun q => absurd c1 q) (fun _ => (And.intro (fun q => absurd c2 q) (fun _ => rfl))))
    · rw [if_neg c2] at h
      have h := Option.some.inj h
      subst r
      exact ax_end 9 (And.intro (fun q => absurd c1 q) (fun _ => (And.intro (fun _ => rfl) (fun q => absurd c2 q))))
  · rw [if_neg c1] at h
    by_cases c3 : x0 = (124 : Int32)
    · rw [if_pos c3] at h
      by_cases c4 : (lg_cmp x1 (0 : Int64)) = 0
      · rw [if_pos c4] at h
        have h := Option.some.inj h
        subst r
        exact ax_end 13 (And.intro (fun _ => (And.intro (fun q => absurd c3 q) (fun _ => (And.intro (fun q => absurd c4 q) (fun _ => rfl))))) (fun q => absurd c1 q))
      · rw [if_neg c4] at h
        have h := Option.some.inj h
        subst r
        exact ax_end 12 (And.intro (fun _ => (And.intro (fun q => absurd c3 q) (fun _ => (And.intro (fun _ => rfl) (fun q => absurd c4 q))))) (fun q => absurd c1 q))
    · rw [if_neg c3] at h
      by_cases c5 : (lg_cmp x1 (1099511627776 : Int64)) = 0
      · rw [if_pos c5] at h
        have h := Option.some.inj h
        subst r
        exact ax_end 12 (And.intro (fun _ => (And.intro (fun _ => (And.intro (fun _ => rfl) (fun q => absurd c5 q))) (fun q => absurd c3 q))) (fun q => absurd c1 q))
      · rw [if_neg c5] at h
        by_cases c6 : (lg_cmp x3 (1099511627776 : Int64)) = 0
        · rw [if_pos c6] at h
          have h := Option.some.inj h
          subst r
          exact ax_end 16 (And.intro (fun _ => (And.intro (fun _ => (And.intro (fun q => absurd q c5) (fun _ => (And.intro (fun q => absurd c6 q) (fun _ => rfl))))) (fun q => absurd c3 q))) (fun q => absurd c1 q))
        · rw [if_neg c6] at h
          refine ax_cut (pc' := 58) (la := [some (.int x0), some (.long x1), none, some (.long x3), none, none, none]) [some (.int x0), none, none, some (.long x3), none, none, none] (st' := [.int (x1).toInt32]) (σ' := s) 16 (And.intro rfl (And.intro rfl (trivial))) (fun _ hh => (And.intro (fun _ => (And.intro (fun _ => (And.intro (fun q => absurd q c5) (fun _ => (And.intro (fun _ => hh) (fun q => absurd c6 q))))) (fun q => absurd c3 q))) (fun q => absurd c1 q))) ?_
          by_cases c7_0 : x0 = (37)
          · rw [if_pos c7_0] at h
            by_cases c8 : (x3).toInt32 = 0
            · rw [if_pos c8] at h
              have h := Option.some.inj h
              subst r
              exact ax_end 11 (And.intro (List.forall_mem_cons.mpr ⟨fun _ => (And.intro (fun q => absurd c8 q) (fun _ => rfl)), List.forall_mem_cons.mpr ⟨fun e => absurd (e.symm.trans (congrArg Int32.toInt c7_0)) (by decide), List.forall_mem_cons.mpr ⟨fun e => absurd (e.symm.trans (congrArg Int32.toInt c7_0)) (by decide), List.forall_mem_cons.mpr ⟨fun e => absurd (e.symm.trans (congrArg Int32.toInt c7_0)) (by decide), List.forall_mem_cons.mpr ⟨fun e => absurd (e.symm.trans (congrArg Int32.toInt c7_0)) (by decide), List.forall_mem_cons.mpr ⟨fun e => absurd (e.symm.trans (congrArg Int32.toInt c7_0)) (by decide), List.forall_mem_cons.mpr ⟨fun e => absurd (e.symm.trans (congrArg Int32.toInt c7_0)) (by decide), fun _ h0 => absurd h0 List.not_mem_nil⟩⟩⟩⟩⟩⟩⟩) (fun q => absurd (congrArg Int32.toInt c7_0) (q (37, 106) (by decide))))
            · rw [if_neg c8] at h
              by_cases c9 : (x3).toInt32 = 0
              · rw [if_pos c9] at h; cases h
              · rw [if_neg c9] at h
                have h := Option.some.inj h
                subst r
                exact ax_end 13 (And.intro (List.forall_mem_cons.mpr ⟨fun _ => (And.intro (fun _ => (And.intro c9 rfl)) (fun q => absurd c8 q)), List.forall_mem_cons.mpr ⟨fun e => absurd (e.symm.trans (congrArg Int32.toInt c7_0)) (by decide), List.forall_mem_cons.mpr ⟨fun e => absurd (e.symm.trans (congrArg Int32.toInt c7_0)) (by decide), List.forall_mem_cons.mpr ⟨fun e => absurd (e.symm.trans (congrArg Int32.toInt c7_0)) (by decide), List.forall_mem_cons.mpr ⟨fun e => absurd (e.symm.trans (congrArg Int32.toInt c7_0)) (by decide), List.forall_mem_cons.mpr ⟨fun e => absurd (e.symm.trans (congrArg Int32.toInt c7_0)) (by decide), List.forall_mem_cons.mpr ⟨fun e => absurd (e.symm.trans (congrArg Int32.toInt c7_0)) (by decide), fun _ h0 => absurd h0 List.not_mem_nil⟩⟩⟩⟩⟩⟩⟩) (fun q => absurd (congrArg Int32.toInt c7_0) (q (37, 106) (by decide))))
          rw [if_neg c7_0] at h
          by_cases c7_1 : x0 = (42)
          · rw [if_pos c7_1] at h
            have h := Option.some.inj h
            subst r
            exact ax_end 11 (And.intro (List.forall_mem_cons.mpr ⟨fun e => absurd (e.symm.trans (congrArg Int32.toInt c7_1)) (by decide), List.forall_mem_cons.mpr ⟨fun _ => rfl, List.forall_mem_cons.mpr ⟨fun e => absurd (e.symm.trans (congrArg Int32.toInt c7_1)) (by decide), List.forall_mem_cons.mpr ⟨fun e => absurd (e.symm.trans (congrArg Int32.toInt c7_1)) (by decide), List.forall_mem_cons.mpr ⟨fun e => absurd (e.symm.trans (congrArg Int32.toInt c7_1)) (by decide), List.forall_mem_cons.mpr ⟨fun e => absurd (e.symm.trans (congrArg Int32.toInt c7_1)) (by decide), List.forall_mem_cons.mpr ⟨fun e => absurd (e.symm.trans (congrArg Int32.toInt c7_1)) (by decide), fun _ h0 => absurd h0 List.not_mem_nil⟩⟩⟩⟩⟩⟩⟩) (fun q => absurd (congrArg Int32.toInt c7_1) (q (42, 81) (by decide))))
          rw [if_neg c7_1] at h
          by_cases c7_2 : x0 = (43)
          · rw [if_pos c7_2] at h
            have h := Option.some.inj h
            subst r
            exact ax_end 11 (And.intro (List.forall_mem_cons.mpr ⟨fun e => absurd (e.symm.trans (congrArg Int32.toInt c7_2)) (by decide), List.forall_mem_cons.mpr ⟨fun e => absurd (e.symm.trans (congrArg Int32.toInt c7_2)) (by decide), List.forall_mem_cons.mpr ⟨fun _ => rfl, List.forall_mem_cons.mpr ⟨fun e => absurd (e.symm.trans (congrArg Int32.toInt c7_2)) (by decide), List.forall_mem_cons.mpr ⟨fun e => absurd (e.symm.trans (congrArg Int32.toInt c7_2)) (by decide), List.forall_mem_cons.mpr ⟨fun e => absurd (e.symm.trans (congrArg Int32.toInt c7_2)) (by decide), List.forall_mem_cons.mpr ⟨fun e => absurd (e.symm.trans (congrArg Int32.toInt c7_2)) (by decide), fun _ h0 => absurd h0 List.not_mem_nil⟩⟩⟩⟩⟩⟩⟩) (fun q => absurd (congrArg Int32.toInt c7_2) (q (43, 67) (by decide))))
          rw [if_neg c7_2] at h
          by_cases c7_3 : x0 = (45)
          · rw [if_pos c7_3] at h
            have h := Option.some.inj h
            subst r
            exact ax_end 11 (And.intro (List.forall_mem_cons.mpr ⟨fun e => absurd (e.symm.trans (congrArg Int32.toInt c7_3)) (by decide), List.forall_mem_cons.mpr ⟨fun e => absurd (e.symm.trans (congrArg Int32.toInt c7_3)) (by decide), List.forall_mem_cons.mpr ⟨fun e => absurd (e.symm.trans (congrArg Int32.toInt c7_3)) (by decide), List.forall_mem_cons.mpr ⟨fun _ => rfl, List.forall_mem_cons.mpr ⟨fun e => absurd (e.symm.trans (congrArg Int32.toInt c7_3)) (by decide), List.forall_mem_cons.mpr ⟨fun e => absurd (e.symm.trans (congrArg Int32.toInt c7_3)) (by decide), List.forall_mem_cons.mpr ⟨fun e => absurd (e.symm.trans (congrArg Int32.toInt c7_3)) (by decide), fun _ h0 => absurd h0 List.not_mem_nil⟩⟩⟩⟩⟩⟩⟩) (fun q => absurd (congrArg Int32.toInt c7_3) (q (45, 74) (by decide))))
          rw [if_neg c7_3] at h
          by_cases c7_4 : x0 = (47)
          · rw [if_pos c7_4] at h
            by_cases c10 : (x3).toInt32 = 0
            · rw [if_pos c10] at h
              have h := Option.some.inj h
              subst r
              exact ax_end 11 (And.intro (List.forall_mem_cons.mpr ⟨fun e => absurd (e.symm.trans (congrArg Int32.toInt c7_4)) (by decide), List.forall_mem_cons.mpr ⟨fun e => absurd (e.symm.trans (congrArg Int32.toInt c7_4)) (by decide), List.forall_mem_cons.mpr ⟨fun e => absurd (e.symm.trans (congrArg Int32.toInt c7_4)) (by decide), List.forall_mem_cons.mpr ⟨fun e => absurd (e.symm.trans (congrArg Int32.toInt c7_4)) (by decide), List.forall_mem_cons.mpr ⟨fun _ => (And.intro (fun q => absurd c10 q) (fun _ => rfl)), List.forall_mem_cons.mpr ⟨fun e => absurd (e.symm.trans (congrArg Int32.toInt c7_4)) (by decide), List.forall_mem_cons.mpr ⟨fun e => absurd (e.symm.trans (congrArg Int32.toInt c7_4)) (by decide), fun _ h0 => absurd h0 List.not_mem_nil⟩⟩⟩⟩⟩⟩⟩) (fun q => absurd (congrArg Int32.toInt c7_4) (q (47, 88) (by decide))))
            · rw [if_neg c10] at h
              by_cases c11 : (x3).toInt32 = 0
              · rw [if_pos c11] at h; cases h
              · rw [if_neg c11] at h
                have h := Option.some.inj h
                subst r
                exact ax_end 13 (And.intro (List.forall_mem_cons.mpr ⟨fun e => absurd (e.symm.trans (congrArg Int32.toInt c7_4)) (by decide), List.forall_mem_cons.mpr ⟨fun e => absurd (e.symm.trans (congrArg Int32.toInt c7_4)) (by decide), List.forall_mem_cons.mpr ⟨fun e => absurd (e.symm.trans (congrArg Int32.toInt c7_4)) (by decide), List.forall_mem_cons.mpr ⟨fun e => absurd (e.symm.trans (congrArg Int32.toInt c7_4)) (by decide), List.forall_mem_cons.mpr ⟨fun _ => (And.intro (fun _ => (And.intro c11 rfl)) (fun q => absurd c10 q)), List.forall_mem_cons.mpr ⟨fun e => absurd (e.symm.trans (congrArg Int32.toInt c7_4)) (by decide), List.forall_mem_cons.mpr ⟨fun e => absurd (e.symm.trans (congrArg Int32.toInt c7_4)) (by decide), fun _ h0 => absurd h0 List.not_mem_nil⟩⟩⟩⟩⟩⟩⟩) (fun q => absurd (congrArg Int32.toInt c7_4) (q (47, 88) (by decide))))
          rw [if_neg c7_4] at h
          by_cases c7_5 : x0 = (60)
          · rw [if_pos c7_5] at h
            by_cases c12 : (x3).toInt32 ≤ (x1).toInt32
            · rw [if_pos c12] at h
              have h := Option.some.inj h
              subst r
              exact ax_end 11 (And.intro (List.forall_mem_cons.mpr ⟨fun e => absurd (e.symm.trans (congrArg Int32.toInt c7_5)) (by decide), List.forall_mem_cons.mpr ⟨fun e => absurd (e.symm.trans (congrArg Int32.toInt c7_5)) (by decide), List.forall_mem_cons.mpr ⟨fun e => absurd (e.symm.trans (congrArg Int32.toInt c7_5)) (by decide), List.forall_mem_cons.mpr ⟨fun e => absurd (e.symm.trans (congrArg Int32.toInt c7_5)) (by decide), List.forall_mem_cons.mpr ⟨fun e => absurd (e.symm.trans (congrArg Int32.toInt c7_5)) (by decide), List.forall_mem_cons.mpr ⟨fun _ => (And.intro (fun _ => rfl) (fun q => absurd c12 q)), List.forall_mem_cons.mpr ⟨fun e => absurd (e.symm.trans (congrArg Int32.toInt c7_5)) (by decide), fun _ h0 => absurd h0 List.not_mem_nil⟩⟩⟩⟩⟩⟩⟩) (fun q => absurd (congrArg Int32.toInt c7_5) (q (60, 124) (by decide))))
            · rw [if_neg c12] at h
              have h := Option.some.inj h
              subst r
              exact ax_end 12 (And.intro (List.forall_mem_cons.mpr ⟨fun e => absurd (e.symm.trans (congrArg Int32.toInt c7_5)) (by decide), List.forall_mem_cons.mpr ⟨fun e => absurd (e.symm.trans (congrArg Int32.toInt c7_5)) (by decide), List.forall_mem_cons.mpr ⟨fun e => absurd (e.symm.trans (congrArg Int32.toInt c7_5)) (by decide), List.forall_mem_cons.mpr ⟨fun e => absurd (e.symm.trans (congrArg Int32.toInt c7_5)) (by decide), List.forall_mem_cons.mpr ⟨fun e => absurd (e.symm.trans (congrArg Int32.toInt c7_5)) (by decide), List.forall_mem_cons.mpr ⟨fun _ => (And.intro (fun q => absurd q c12) (fun _ => rfl)), List.forall_mem_cons.mpr ⟨fun e => absurd (e.symm.trans (congrArg Int32.toInt c7_5)) (by decide), fun _ h0 => absurd h0 List.not_mem_nil⟩⟩⟩⟩⟩⟩⟩) (fun q => absurd (congrArg Int32.toInt c7_5) (q (60, 124) (by decide))))
          rw [if_neg c7_5] at h
          by_cases c7_6 : x0 = (62)
          · rw [if_pos c7_6] at h
            by_cases c13 : (x1).toInt32 ≤ (x3).toInt32
            · rw [if_pos c13] at h
              have h := Option.some.inj h
              subst r
              exact ax_end 11 (And.intro (List.forall_mem_cons.mpr ⟨fun e => absurd (e.symm.trans (congrArg Int32.toInt c7_6)) (by decide), List.forall_mem_cons.mpr ⟨fun e => absurd (e.symm.trans (congrArg Int32.toInt c7_6)) (by decide), List.forall_mem_cons.mpr ⟨fun e => absurd (e.symm.trans (congrArg Int32.toInt c7_6)) (by decide), List.forall_mem_cons.mpr ⟨fun e => absurd (e.symm.trans (congrArg Int32.toInt c7_6)) (by decide), List.forall_mem_cons.mpr ⟨fun e => absurd (e.symm.trans (congrArg Int32.toInt c7_6)) (by decide), List.forall_mem_cons.mpr ⟨fun e => absurd (e.symm.trans (congrArg Int32.toInt c7_6)) (by decide), List.forall_mem_cons.mpr ⟨fun _ => (And.intro (fun _ => rfl) (fun q => absurd c13 q)), fun _ h0 => absurd h0 List.not_mem_nil⟩⟩⟩⟩⟩⟩⟩) (fun q => absurd (congrArg Int32.toInt c7_6) (q (62, 137) (by decide))))
            · rw [if_neg c13] at h
              have h := Option.some.inj h
              subst r
              exact ax_end 12 (And.intro (List.forall_mem_cons.mpr ⟨fun e => absurd (e.symm.trans (congrArg Int32.toInt c7_6)) (by decide), List.forall_mem_cons.mpr ⟨fun e => absurd (e.symm.trans (congrArg Int32.toInt c7_6)) (by decide), List.forall_mem_cons.mpr ⟨fun e => absurd (e.symm.trans (congrArg Int32.toInt c7_6)) (by decide), List.forall_mem_cons.mpr ⟨fun e => absurd (e.symm.trans (congrArg Int32.toInt c7_6)) (by decide), List.forall_mem_cons.mpr ⟨fun e => absurd (e.symm.trans (congrArg Int32.toInt c7_6)) (by decide), List.forall_mem_cons.mpr ⟨fun e => absurd (e.symm.trans (congrArg Int32.toInt c7_6)) (by decide), List.forall_mem_cons.mpr ⟨fun _ => (And.intro (fun q => absurd q c13) (fun _ => rfl)), fun _ h0 => absurd h0 List.not_mem_nil⟩⟩⟩⟩⟩⟩⟩) (fun q => absurd (congrArg Int32.toInt c7_6) (q (62, 137) (by decide))))
          rw [if_neg c7_6] at h
          by_cases c14 : (x1).toInt32 = (x3).toInt32
          · rw [if_pos c14] at h
            have h := Option.some.inj h
            subst r
            exact ax_end 12 (And.intro (List.forall_mem_cons.mpr ⟨fun e => absurd (Int32.toInt_inj.mp e) c7_0, List.forall_mem_cons.mpr ⟨fun e => absurd (Int32.toInt_inj.mp e) c7_1, List.forall_mem_cons.mpr ⟨fun e => absurd (Int32.toInt_inj.mp e) c7_2, List.forall_mem_cons.mpr ⟨fun e => absurd (Int32.toInt_inj.mp e) c7_3, List.forall_mem_cons.mpr ⟨fun e => absurd (Int32.toInt_inj.mp e) c7_4, List.forall_mem_cons.mpr ⟨fun e => absurd (Int32.toInt_inj.mp e) c7_5, List.forall_mem_cons.mpr ⟨fun e => absurd (Int32.toInt_inj.mp e) c7_6, fun _ h0 => absurd h0 List.not_mem_nil⟩⟩⟩⟩⟩⟩⟩) (fun _ => (And.intro (fun q => absurd c14 q) (fun _ => rfl))))
          · rw [if_neg c14] at h
            have h := Option.some.inj h
            subst r
            exact ax_end 11 (And.intro (List.forall_mem_cons.mpr ⟨fun e => absurd (Int32.toInt_inj.mp e) c7_0, List.forall_mem_cons.mpr ⟨fun e => absurd (Int32.toInt_inj.mp e) c7_1, List.forall_mem_cons.mpr ⟨fun e => absurd (Int32.toInt_inj.mp e) c7_2, List.forall_mem_cons.mpr ⟨fun e => absurd (Int32.toInt_inj.mp e) c7_3, List.forall_mem_cons.mpr ⟨fun e => absurd (Int32.toInt_inj.mp e) c7_4, List.forall_mem_cons.mpr ⟨fun e => absurd (Int32.toInt_inj.mp e) c7_5, List.forall_mem_cons.mpr ⟨fun e => absurd (Int32.toInt_inj.mp e) c7_6, fun _ h0 => absurd h0 List.not_mem_nil⟩⟩⟩⟩⟩⟩⟩) (fun _ => (And.intro (fun _ => rfl) (fun q => absurd c14 q))))
def XLa_reckon_36_l9 : Nat → Int32 → Int32 → Int32 → ax_S → Option (Int32 × ax_S)
  | 0, _, _, _, _ => none
  | n + 1, x2, x3, x4, s =>
    if x2 ≤ x4 then (
      some (x3, s)) else
    if (256 : Int32) ≤ x4 then (
      some (x3, s)) else
    if (x4 < 0 ∨ 256 ≤ (x4).toNatClampNeg) then none else
    if (s.2.1 41 (x4).toNatClampNeg) = 0 then (
      if (64 : Int32) ≤ x3 then (
        XLa_reckon_36_l9 n x2 x3 (x4 + (1)) s) else
      if (s.2.1 41 (x4).toNatClampNeg) = 0 then (
        if (x4 < 0 ∨ 256 ≤ (x4).toNatClampNeg) then none else
        if (x3 < 0 ∨ 64 ≤ (x3).toNatClampNeg) then none else
        XLa_reckon_36_l9 n x2 (x3 + (1)) (x4 + (1)) (ax_sL s 43 (x3).toNatClampNeg ((s.2.1 42 (x4).toNatClampNeg)).toInt64)) else
      if (x3 < 0 ∨ 64 ≤ (x3).toNatClampNeg) then none else
      XLa_reckon_36_l9 n x2 (x3 + (1)) (x4 + (1)) (ax_sL s 43 (x3).toNatClampNeg (XLa_letterValue_36 (s.2.1 41 (x4).toNatClampNeg) s))) else
    if (XLa_isLetter (s.2.1 41 (x4).toNatClampNeg) s) = 0 then (
      if (s.2.1 41 (x4).toNatClampNeg) = (33 : Int32) then (
        if x3 < (1 : Int32) then (
          XLa_reckon_36_l9 n x2 x3 (x4 + (1)) s) else
        if (64 : Int32) < x3 then (
          XLa_reckon_36_l9 n x2 x3 (x4 + (1)) s) else
        if ((x3 - (1 : Int32)) < 0 ∨ 64 ≤ ((x3 - (1 : Int32))).toNatClampNeg) then none else
        if (lg_cmp (s.2.2 43 ((x3 - (1 : Int32))).toNatClampNeg) (1099511627776 : Int64)) = 0 then (
          XLa_reckon_36_l9 n x2 x3 (x4 + (1)) s) else
        if ((x3 - (1 : Int32)) < 0 ∨ 64 ≤ ((x3 - (1 : Int32))).toNatClampNeg) then none else
        if ((x3 - (1 : Int32)) < 0 ∨ 64 ≤ ((x3 - (1 : Int32))).toNatClampNeg) then none else
        XLa_reckon_36_l9 n x2 x3 (x4 + (1)) (ax_sL s 43 ((x3 - (1 : Int32))).toNatClampNeg ((1 : Int64) - (s.2.2 43 ((x3 - (1 : Int32))).toNatClampNeg)))) else
      if x3 < (2 : Int32) then (
        XLa_reckon_36_l9 n x2 x3 (x4 + (1)) s) else
      if (64 : Int32) < x3 then (
        XLa_reckon_36_l9 n x2 x3 (x4 + (1)) s) else
      if (((x3 + (-1)) - (1 : Int32)) < 0 ∨ 64 ≤ (((x3 + (-1)) - (1 : Int32))).toNatClampNeg) then none else
      if ((x3 + (-1)) < 0 ∨ 64 ≤ ((x3 + (-1))).toNatClampNeg) then none else
      match XLa_joined (s.2.1 41 (x4).toNatClampNeg) (s.2.2 43 (((x3 + (-1)) - (1 : Int32))).toNatClampNeg) (s.2.2 43 ((x3 + (-1))).toNatClampNeg) s with
      | none => none
      | some v1 =>
        if (((x3 + (-1)) - (1 : Int32)) < 0 ∨ 64 ≤ (((x3 + (-1)) - (1 : Int32))).toNatClampNeg) then none else
        XLa_reckon_36_l9 n x2 (x3 + (-1)) (x4 + (1)) (ax_sL s 43 (((x3 + (-1)) - (1 : Int32))).toNatClampNeg v1)) else
    if (64 : Int32) ≤ x3 then (
      XLa_reckon_36_l9 n x2 x3 (x4 + (1)) s) else
    if (s.2.1 41 (x4).toNatClampNeg) = 0 then (
      if (x4 < 0 ∨ 256 ≤ (x4).toNatClampNeg) then none else
      if (x3 < 0 ∨ 64 ≤ (x3).toNatClampNeg) then none else
      XLa_reckon_36_l9 n x2 (x3 + (1)) (x4 + (1)) (ax_sL s 43 (x3).toNatClampNeg ((s.2.1 42 (x4).toNatClampNeg)).toInt64)) else
    if (x3 < 0 ∨ 64 ≤ (x3).toNatClampNeg) then none else
    XLa_reckon_36_l9 n x2 (x3 + (1)) (x4 + (1)) (ax_sL s 43 (x3).toNatClampNeg (XLa_letterValue_36 (s.2.1 41 (x4).toNatClampNeg) s))
def XLa_reckon_36 (x1 : Int32) (x2 : Int32)  (s : ax_S) : Option (Int64 × ax_S) :=
  match XLa_reckon_36_l9 70000 x2 (0 : Int32) (if (0 : Int32) < x1 then x1 else (0 : Int32)) s with
  | none => none
  | some (v2, s3) =>
    if v2 ≤ 0 then (
      some ((0 : Int64), s3)) else
    some ((s3.2.2 43 0), s3)
theorem w_XLa_reckon_36_l9 (d : Nat) {o : ax_O} : ∀ (n : Nat) (x2 : Int32) (x3 : Int32) (x4 : Int32) (s : ax_S) (r : Int32 × ax_S) (h : XLa_reckon_36_l9 n x2 x3 x4 s = some r) (hk0 : ∀ (t0 : Int32) (t1 : ax_S), r = (t0, t1) → ax_go true none (ax_ev true (d + 1)) ax_m88 197 [some (.ref 36), none, none, some (.int t0), none, none] [] t1 o), ax_go true none (ax_ev true (d + 1)) ax_m88 9 [some (.ref 36), none, some (.int x2), some (.int x3), some (.int x4), none] [] s o := by
  intro n
  induction n with
  | zero => intro x2 x3 x4 s r h hk0; cases h
  | succ n ih =>
    intro x2 x3 x4 s r h hk0
    rw [XLa_reckon_36_l9] at h
    by_cases c1 : x2 ≤ x4
    · rw [if_pos c1] at h
      have h := Option.some.inj h
      subst r
      exact ax_cut (pc' := 197) (la := [some (.ref 36), none, some (.int x2), some (.int x3), some (.int x4), none]) [some (.ref 36), none, none, some (.int x3), none, none] (st' := []) (σ' := s) 3 (And.intro rfl (And.intro rfl (trivial))) (fun _ hh => (And.intro (fun _ => hh) (fun q => absurd c1 q))) (hk0 _ _ rfl)
    · rw [if_neg c1] at h
      by_cases c2 : (256 : Int32) ≤ x4
      · rw [if_pos c2] at h
        have h := Option.some.inj h
        subst r
        exact ax_cut (pc' := 197) (la := [some (.ref 36), none, some (.int x2), some (.int x3), some (.int x4), none]) [some (.ref 36), none, none, some (.int x3), none, none] (st' := []) (σ' := s) 8 (And.intro rfl (And.intro rfl (trivial))) (fun _ hh => (And.intro (fun q => absurd q c1) (fun _ => (And.intro (fun _ => hh) (fun q => absurd c2 q))))) (hk0 _ _ rfl)
      · rw [if_neg c2] at h
        by_cases c3 : (x4 < 0 ∨ 256 ≤ (x4).toNatClampNeg)
        · rw [if_pos c3] at h; cases h
        · rw [if_neg c3] at h
          by_cases c4 : (s.2.1 41 (x4).toNatClampNeg) = 0
          · rw [if_pos c4] at h
            refine ax_cut (pc' := 48) (la := [some (.ref 36), none, some (.int x2), some (.int x3), some (.int x4), some (.int (s.2.1 41 (x4).toNatClampNeg))]) [some (.ref 36), none, some (.int x2), some (.int x3), some (.int x4), some (.int (s.2.1 41 (x4).toNatClampNeg))] (st' := [.int x3]) (σ' := s) 16 (And.intro rfl (And.intro rfl (And.intro rfl (And.intro rfl (And.intro rfl (trivial)))))) (fun _ hh => (And.intro (fun q => absurd q c1) (fun _ => (And.intro (fun q => absurd q c2) (fun _ => (And.intro c3 (And.intro (fun _ => hh) (fun q => absurd c4 q)))))))) ?_
            by_cases c5 : (64 : Int32) ≤ x3
            · rw [if_pos c5] at h
              exact ax_cut (pc' := 9) (la := [some (.ref 36), none, some (.int x2), some (.int x3), some (.int (x4 + (1))), some (.int (s.2.1 41 (x4).toNatClampNeg))]) [some (.ref 36), none, some (.int x2), some (.int x3), some (.int (x4 + (1))), none] (st' := []) (σ' := s) 6 (And.intro rfl (And.intro rfl (And.intro rfl (And.intro rfl (trivial))))) (fun _ hh => (And.intro (fun _ => hh) (fun q => absurd c5 q))) (ih x2 x3 (x4 + (1)) s _ h hk0)
            · rw [if_neg c5] at h
              by_cases c6 : (s.2.1 41 (x4).toNatClampNeg) = 0
              · rw [if_pos c6] at h
                by_cases c7 : (x4 < 0 ∨ 256 ≤ (x4).toNatClampNeg)
                · rw [if_pos c7] at h; cases h
                · rw [if_neg c7] at h
                  by_cases c8 : (x3 < 0 ∨ 64 ≤ (x3).toNatClampNeg)
                  · rw [if_pos c8] at h; cases h
                  · rw [if_neg c8] at h
                    refine ax_cut (pc' := 84) (la := [some (.ref 36), none, some (.int x2), some (.int x3), some (.int x4), some (.int (s.2.1 41 (x4).toNatClampNeg))]) [some (.ref 36), none, some (.int x2), some (.int x3), some (.int x4), none] (st' := []) (σ' := (ax_sL s 43 (x3).toNatClampNeg ((s.2.1 42 (x4).toNatClampNeg)).toInt64)) 16 (And.intro rfl (And.intro rfl (And.intro rfl (And.intro rfl (trivial))))) (fun _ hh => (And.intro (fun q => absurd q c5) (fun _ => (And.intro (fun q => absurd c6 q) (fun _ => (And.intro c7 (And.intro c8 hh))))))) ?_
                    exact ax_cut (pc' := 9) (la := [some (.ref 36), none, some (.int x2), some (.int (x3 + (1))), some (.int (x4 + (1))), none]) [some (.ref 36), none, some (.int x2), some (.int (x3 + (1))), some (.int (x4 + (1))), none] (st' := []) (σ' := (ax_sL s 43 (x3).toNatClampNeg ((s.2.1 42 (x4).toNatClampNeg)).toInt64)) 4 (And.intro rfl (And.intro rfl (And.intro rfl (And.intro rfl (trivial))))) (fun _ hh => hh) (ih x2 (x3 + (1)) (x4 + (1)) (ax_sL s 43 (x3).toNatClampNeg ((s.2.1 42 (x4).toNatClampNeg)).toInt64) _ h hk0)
              · rw [if_neg c6] at h
                by_cases c9 : (x3 < 0 ∨ 64 ≤ (x3).toNatClampNeg)
                · rw [if_pos c9] at h; cases h
                · rw [if_neg c9] at h
                  refine ax_cut (pc' := 194) (la := [some (.ref 36), none, some (.int x2), some (.int (x3 + (1))), some (.int (x4 + (1))), some (.int (s.2.1 41 (x4).toNatClampNeg))]) [some (.ref 36), none, some (.int x2), some (.int (x3 + (1))), some (.int (x4 + (1))), none] (st' := []) (σ' := (ax_sL s 43 (x3).toNatClampNeg (XLa_letterValue_36 (s.2.1 41 (x4).toNatClampNeg) s))) 16 (And.intro rfl (And.intro rfl (And.intro rfl (And.intro rfl (trivial))))) (fun _ hh => (And.intro (fun q => absurd q c5) (fun _ => (And.intro (fun _ => (Exists.intro (some (.long (XLa_letterValue_36 (s.2.1 41 (x4).toNatClampNeg) s)), s) (And.intro (e_XLa_letterValue_36 d (s.2.1 41 (x4).toNatClampNeg) s) (And.intro c9 hh)))) (fun q => absurd c6 q))))) ?_
                  exact ax_cut (pc' := 9) (la := [some (.ref 36), none, some (.int x2), some (.int (x3 + (1))), some (.int (x4 + (1))), none]) [some (.ref 36), none, some (.int x2), some (.int (x3 + (1))), some (.int (x4 + (1))), none] (st' := []) (σ' := (ax_sL s 43 (x3).toNatClampNeg (XLa_letterValue_36 (s.2.1 41 (x4).toNatClampNeg) s))) 1 (And.intro rfl (And.intro rfl (And.intro rfl (And.intro rfl (trivial))))) (fun _ hh => hh) (ih x2 (x3 + (1)) (x4 + (1)) (ax_sL s 43 (x3).toNatClampNeg (XLa_letterValue_36 (s.2.1 41 (x4).toNatClampNeg) s)) _ h hk0)
          · rw [if_neg c4] at h
            refine ax_cut (pc' := 41) (la := [some (.ref 36), none, some (.int x2), some (.int x3), some (.int x4), some (.int (s.2.1 41 (x4).toNatClampNeg))]) [some (.ref 36), none, some (.int x2), some (.int x3), some (.int x4), some (.int (s.2.1 41 (x4).toNatClampNeg))] (st' := [.int (s.2.1 41 (x4).toNatClampNeg)]) (σ' := s) 16 (And.intro rfl (And.intro rfl (And.intro rfl (And.intro rfl (And.intro rfl (trivial)))))) (fun _ hh => (And.intro (fun q => absurd q c1) (fun _ => (And.intro (fun q => absurd q c2) (fun _ => (And.intro c3 (And.intro (fun q => absurd q c4) (fun _ => hh)))))))) ?_
            by_cases c10 : (XLa_isLetter (s.2.1 41 (x4).toNatClampNeg) s) = 0
            · rw [if_pos c10] at h
              by_cases c11 : (s.2.1 41 (x4).toNatClampNeg) = (33 : Int32)
              · rw [if_pos c11] at h
                by_cases c12 : x3 < (1 : Int32)
                · rw [if_pos c12] at h
                  exact ax_cut (pc' := 9) (la := [some (.ref 36), none, some (.int x2), some (.int x3), some (.int (x4 + (1))), some (.int (s.2.1 41 (x4).toNatClampNeg))]) [some (.ref 36), none, some (.int x2), some (.int x3), some (.int (x4 + (1))), none] (st' := []) (σ' := s) 10 (And.intro rfl (And.intro rfl (And.intro rfl (And.intro rfl (trivial))))) (fun _ hh => (Exists.intro (some (.int (XLa_isLetter (s.2.1 41 (x4).toNatClampNeg) s)), s) (And.intro (e_XLa_isLetter d (s.2.1 41 (x4).toNatClampNeg) s) (And.intro (fun _ => (And.intro (fun q => absurd c11 q) (fun _ => (And.intro (fun _ => hh) (fun q => absurd c12 q))))) (fun q => absurd c10 q))))) (ih x2 x3 (x4 + (1)) s _ h hk0)
                · rw [if_neg c12] at h
                  by_cases c13 : (64 : Int32) < x3
                  · rw [if_pos c13] at h
                    exact ax_cut (pc' := 9) (la := [some (.ref 36), none, some (.int x2), some (.int x3), some (.int (x4 + (1))), some (.int (s.2.1 41 (x4).toNatClampNeg))]) [some (.ref 36), none, some (.int x2), some (.int x3), some (.int (x4 + (1))), none] (st' := []) (σ' := s) 15 (And.intro rfl (And.intro rfl (And.intro rfl (And.intro rfl (trivial))))) (fun _ hh => (Exists.intro (some (.int (XLa_isLetter (s.2.1 41 (x4).toNatClampNeg) s)), s) (And.intro (e_XLa_isLetter d (s.2.1 41 (x4).toNatClampNeg) s) (And.intro (fun _ => (And.intro (fun q => absurd c11 q) (fun _ => (And.intro (fun q => absurd q c12) (fun _ => (And.intro (fun _ => hh) (fun q => absurd c13 q))))))) (fun q => absurd c10 q))))) (ih x2 x3 (x4 + (1)) s _ h hk0)
                  · rw [if_neg c13] at h
                    refine ax_cut (pc' := 116) (la := [some (.ref 36), none, some (.int x2), some (.int x3), some (.int x4), some (.int (s.2.1 41 (x4).toNatClampNeg))]) [some (.ref 36), none, some (.int x2), some (.int x3), some (.int x4), none] (st' := [.int x3, .ref 43]) (σ' := s) 16 (And.intro rfl (And.intro rfl (And.intro rfl (And.intro rfl (trivial))))) (fun _ hh => (Exists.intro (some (.int (XLa_isLetter (s.2.1 41 (x4).toNatClampNeg) s)), s) (And.intro (e_XLa_isLetter d (s.2.1 41 (x4).toNatClampNeg) s) (And.intro (fun _ => (And.intro (fun q => absurd c11 q) (fun _ => (And.intro (fun q => absurd q c12) (fun _ => (And.intro (fun q => absurd q c13) (fun _ => hh))))))) (fun q => absurd c10 q))))) ?_
                    by_cases c14 : ((x3 - (1 : Int32)) < 0 ∨ 64 ≤ ((x3 - (1 : Int32))).toNatClampNeg)
                    · rw [if_pos c14] at h; cases h
                    · rw [if_neg c14] at h
                      by_cases c15 : (lg_cmp (s.2.2 43 ((x3 - (1 : Int32))).toNatClampNeg) (1099511627776 : Int64)) = 0
                      · rw [if_pos c15] at h
                        exact ax_cut (pc' := 9) (la := [some (.ref 36), none, some (.int x2), some (.int x3), some (.int (x4 + (1))), none]) [some (.ref 36), none, some (.int x2), some (.int x3), some (.int (x4 + (1))), none] (st' := []) (σ' := s) 8 (And.intro rfl (And.intro rfl (And.intro rfl (And.intro rfl (trivial))))) (fun _ hh => (And.intro c14 (And.intro (fun _ => hh) (fun q => absurd c15 q)))) (ih x2 x3 (x4 + (1)) s _ h hk0)
                      · rw [if_neg c15] at h
                        refine ax_cut (pc' := 140) (la := [some (.ref 36), none, some (.int x2), some (.int x3), some (.int x4), none]) [some (.ref 36), none, some (.int x2), some (.int x3), some (.int x4), none] (st' := [.int (1 : Int32), .int x3, .ref 43, .long (1 : Int64), .int (x3 - (1 : Int32)), .ref 43]) (σ' := s) 16 (And.intro rfl (And.intro rfl (And.intro rfl (And.intro rfl (trivial))))) (fun _ hh => (And.intro c14 (And.intro (fun q => absurd q c15) (fun _ => hh)))) ?_
                        by_cases c16 : ((x3 - (1 : Int32)) < 0 ∨ 64 ≤ ((x3 - (1 : Int32))).toNatClampNeg)
                        · rw [if_pos c16] at h; cases h
                        · rw [if_neg c16] at h
                          by_cases c17 : ((x3 - (1 : Int32)) < 0 ∨ 64 ≤ ((x3 - (1 : Int32))).toNatClampNeg)
                          · rw [if_pos c17] at h; cases h
                          · rw [if_neg c17] at h
                            exact ax_cut (pc' := 9) (la := [some (.ref 36), none, some (.int x2), some (.int x3), some (.int (x4 + (1))), none]) [some (.ref 36), none, some (.int x2), some (.int x3), some (.int (x4 + (1))), none] (st' := []) (σ' := (ax_sL s 43 ((x3 - (1 : Int32))).toNatClampNeg ((1 : Int64) - (s.2.2 43 ((x3 - (1 : Int32))).toNatClampNeg)))) 7 (And.intro rfl (And.intro rfl (And.intro rfl (And.intro rfl (trivial))))) (fun _ hh => (And.intro c16 (And.intro c17 hh))) (ih x2 x3 (x4 + (1)) (ax_sL s 43 ((x3 - (1 : Int32))).toNatClampNeg ((1 : Int64) - (s.2.2 43 ((x3 - (1 : Int32))).toNatClampNeg))) _ h hk0)
              · rw [if_neg c11] at h
                by_cases c18 : x3 < (2 : Int32)
                · rw [if_pos c18] at h
                  exact ax_cut (pc' := 9) (la := [some (.ref 36), none, some (.int x2), some (.int x3), some (.int (x4 + (1))), some (.int (s.2.1 41 (x4).toNatClampNeg))]) [some (.ref 36), none, some (.int x2), some (.int x3), some (.int (x4 + (1))), none] (st' := []) (σ' := s) 10 (And.intro rfl (And.intro rfl (And.intro rfl (And.intro rfl (trivial))))) (fun _ hh => (Exists.intro (some (.int (XLa_isLetter (s.2.1 41 (x4).toNatClampNeg) s)), s) (And.intro (e_XLa_isLetter d (s.2.1 41 (x4).toNatClampNeg) s) (And.intro (fun _ => (And.intro (fun _ => (And.intro (fun _ => hh) (fun q => absurd c18 q))) (fun q => absurd c11 q))) (fun q => absurd c10 q))))) (ih x2 x3 (x4 + (1)) s _ h hk0)
                · rw [if_neg c18] at h
                  by_cases c19 : (64 : Int32) < x3
                  · rw [if_pos c19] at h
                    exact ax_cut (pc' := 9) (la := [some (.ref 36), none, some (.int x2), some (.int x3), some (.int (x4 + (1))), some (.int (s.2.1 41 (x4).toNatClampNeg))]) [some (.ref 36), none, some (.int x2), some (.int x3), some (.int (x4 + (1))), none] (st' := []) (σ' := s) 15 (And.intro rfl (And.intro rfl (And.intro rfl (And.intro rfl (trivial))))) (fun _ hh => (Exists.intro (some (.int (XLa_isLetter (s.2.1 41 (x4).toNatClampNeg) s)), s) (And.intro (e_XLa_isLetter d (s.2.1 41 (x4).toNatClampNeg) s) (And.intro (fun _ => (And.intro (fun _ => (And.intro (fun q => absurd q c18) (fun _ => (And.intro (fun _ => hh) (fun q => absurd c19 q))))) (fun q => absurd c11 q))) (fun q => absurd c10 q))))) (ih x2 x3 (x4 + (1)) s _ h hk0)
                  · rw [if_neg c19] at h
                    refine ax_cut (pc' := 168) (la := [some (.ref 36), none, some (.int x2), some (.int (x3 + (-1))), some (.int x4), some (.int (s.2.1 41 (x4).toNatClampNeg))]) [some (.ref 36), none, some (.int x2), some (.int (x3 + (-1))), some (.int x4), some (.int (s.2.1 41 (x4).toNatClampNeg))] (st' := [.ref 43]) (σ' := s) 16 (And.intro rfl (And.intro rfl (And.intro rfl (And.intro rfl (And.intro rfl (trivial)))))) (fun _ hh => (Exists.intro (some (.int (XLa_isLetter (s.2.1 41 (x4).toNatClampNeg) s)), s) (And.intro (e_XLa_isLetter d (s.2.1 41 (x4).toNatClampNeg) s) (And.intro (fun _ => (And.intro (fun _ => (And.intro (fun q => absurd q c18) (fun _ => (And.intro (fun q => absurd q c19) (fun _ => hh))))) (fun q => absurd c11 q))) (fun q => absurd c10 q))))) ?_
                    by_cases c20 : (((x3 + (-1)) - (1 : Int32)) < 0 ∨ 64 ≤ (((x3 + (-1)) - (1 : Int32))).toNatClampNeg)
                    · rw [if_pos c20] at h; cases h
                    · rw [if_neg c20] at h
                      by_cases c21 : ((x3 + (-1)) < 0 ∨ 64 ≤ ((x3 + (-1))).toNatClampNeg)
                      · rw [if_pos c21] at h; cases h
                      · rw [if_neg c21] at h
                        cases hz22 : XLa_joined (s.2.1 41 (x4).toNatClampNeg) (s.2.2 43 (((x3 + (-1)) - (1 : Int32))).toNatClampNeg) (s.2.2 43 ((x3 + (-1))).toNatClampNeg) s with
                        | none => rw [hz22] at h; cases h
                        | some v1 =>
                        rw [hz22] at h
                        dsimp only at h
                        by_cases c23 : (((x3 + (-1)) - (1 : Int32)) < 0 ∨ 64 ≤ (((x3 + (-1)) - (1 : Int32))).toNatClampNeg)
                        · rw [if_pos c23] at h; cases h
                        · rw [if_neg c23] at h
                          refine ax_cut (pc' := 191) (la := [some (.ref 36), none, some (.int x2), some (.int (x3 + (-1))), some (.int x4), some (.int (s.2.1 41 (x4).toNatClampNeg))]) [some (.ref 36), none, some (.int x2), some (.int (x3 + (-1))), some (.int x4), none] (st' := []) (σ' := (ax_sL s 43 (((x3 + (-1)) - (1 : Int32))).toNatClampNeg v1)) 16 (And.intro rfl (And.intro rfl (And.intro rfl (And.intro rfl (trivial))))) (fun _ hh => (And.intro c20 (And.intro c21 (Exists.intro (some (.long v1), s) (And.intro (e_XLa_joined d hz22) (And.intro c23 hh)))))) ?_
                          exact ax_cut (pc' := 9) (la := [some (.ref 36), none, some (.int x2), some (.int (x3 + (-1))), some (.int (x4 + (1))), none]) [some (.ref 36), none, some (.int x2), some (.int (x3 + (-1))), some (.int (x4 + (1))), none] (st' := []) (σ' := (ax_sL s 43 (((x3 + (-1)) - (1 : Int32))).toNatClampNeg v1)) 2 (And.intro rfl (And.intro rfl (And.intro rfl (And.intro rfl (trivial))))) (fun _ hh => hh) (ih x2 (x3 + (-1)) (x4 + (1)) (ax_sL s 43 (((x3 + (-1)) - (1 : Int32))).toNatClampNeg v1) _ h hk0)
            · rw [if_neg c10] at h
              by_cases c24 : (64 : Int32) ≤ x3
              · rw [if_pos c24] at h
                exact ax_cut (pc' := 9) (la := [some (.ref 36), none, some (.int x2), some (.int x3), some (.int (x4 + (1))), some (.int (s.2.1 41 (x4).toNatClampNeg))]) [some (.ref 36), none, some (.int x2), some (.int x3), some (.int (x4 + (1))), none] (st' := []) (σ' := s) 9 (And.intro rfl (And.intro rfl (And.intro rfl (And.intro rfl (trivial))))) (fun _ hh => (Exists.intro (some (.int (XLa_isLetter (s.2.1 41 (x4).toNatClampNeg) s)), s) (And.intro (e_XLa_isLetter d (s.2.1 41 (x4).toNatClampNeg) s) (And.intro (fun q => absurd q c10) (fun _ => (And.intro (fun _ => hh) (fun q => absurd c24 q))))))) (ih x2 x3 (x4 + (1)) s _ h hk0)
              · rw [if_neg c24] at h
                by_cases c25 : (s.2.1 41 (x4).toNatClampNeg) = 0
                · rw [if_pos c25] at h
                  by_cases c26 : (x4 < 0 ∨ 256 ≤ (x4).toNatClampNeg)
                  · rw [if_pos c26] at h; cases h
                  · rw [if_neg c26] at h
                    refine ax_cut (pc' := 73) (la := [some (.ref 36), none, some (.int x2), some (.int x3), some (.int x4), some (.int (s.2.1 41 (x4).toNatClampNeg))]) [some (.ref 36), none, some (.int x2), some (.int x3), some (.int x4), none] (st' := [.int (s.2.1 42 (x4).toNatClampNeg), .int x3, .ref 43]) (σ' := s) 16 (And.intro rfl (And.intro rfl (And.intro rfl (And.intro rfl (trivial))))) (fun _ hh => (Exists.intro (some (.int (XLa_isLetter (s.2.1 41 (x4).toNatClampNeg) s)), s) (And.intro (e_XLa_isLetter d (s.2.1 41 (x4).toNatClampNeg) s) (And.intro (fun q => absurd q c10) (fun _ => (And.intro (fun q => absurd q c24) (fun _ => (And.intro (fun q => absurd c25 q) (fun _ => (And.intro c26 hh)))))))))) ?_
                    by_cases c27 : (x3 < 0 ∨ 64 ≤ (x3).toNatClampNeg)
                    · rw [if_pos c27] at h; cases h
                    · rw [if_neg c27] at h
                      exact ax_cut (pc' := 9) (la := [some (.ref 36), none, some (.int x2), some (.int (x3 + (1))), some (.int (x4 + (1))), none]) [some (.ref 36), none, some (.int x2), some (.int (x3 + (1))), some (.int (x4 + (1))), none] (st' := []) (σ' := (ax_sL s 43 (x3).toNatClampNeg ((s.2.1 42 (x4).toNatClampNeg)).toInt64)) 7 (And.intro rfl (And.intro rfl (And.intro rfl (And.intro rfl (trivial))))) (fun _ hh => (And.intro c27 hh)) (ih x2 (x3 + (1)) (x4 + (1)) (ax_sL s 43 (x3).toNatClampNeg ((s.2.1 42 (x4).toNatClampNeg)).toInt64) _ h hk0)
                · rw [if_neg c25] at h
                  by_cases c28 : (x3 < 0 ∨ 64 ≤ (x3).toNatClampNeg)
                  · rw [if_pos c28] at h; cases h
                  · rw [if_neg c28] at h
                    refine ax_cut (pc' := 84) (la := [some (.ref 36), none, some (.int x2), some (.int x3), some (.int x4), some (.int (s.2.1 41 (x4).toNatClampNeg))]) [some (.ref 36), none, some (.int x2), some (.int x3), some (.int x4), none] (st' := []) (σ' := (ax_sL s 43 (x3).toNatClampNeg (XLa_letterValue_36 (s.2.1 41 (x4).toNatClampNeg) s))) 16 (And.intro rfl (And.intro rfl (And.intro rfl (And.intro rfl (trivial))))) (fun _ hh => (Exists.intro (some (.int (XLa_isLetter (s.2.1 41 (x4).toNatClampNeg) s)), s) (And.intro (e_XLa_isLetter d (s.2.1 41 (x4).toNatClampNeg) s) (And.intro (fun q => absurd q c10) (fun _ => (And.intro (fun q => absurd q c24) (fun _ => (And.intro (fun _ => (Exists.intro (some (.long (XLa_letterValue_36 (s.2.1 41 (x4).toNatClampNeg) s)), s) (And.intro (e_XLa_letterValue_36 d (s.2.1 41 (x4).toNatClampNeg) s) (And.intro c28 hh)))) (fun q => absurd c25 q))))))))) ?_
                    exact ax_cut (pc' := 9) (la := [some (.ref 36), none, some (.int x2), some (.int (x3 + (1))), some (.int (x4 + (1))), none]) [some (.ref 36), none, some (.int x2), some (.int (x3 + (1))), some (.int (x4 + (1))), none] (st' := []) (σ' := (ax_sL s 43 (x3).toNatClampNeg (XLa_letterValue_36 (s.2.1 41 (x4).toNatClampNeg) s))) 4 (And.intro rfl (And.intro rfl (And.intro rfl (And.intro rfl (trivial))))) (fun _ hh => hh) (ih x2 (x3 + (1)) (x4 + (1)) (ax_sL s 43 (x3).toNatClampNeg (XLa_letterValue_36 (s.2.1 41 (x4).toNatClampNeg) s)) _ h hk0)
theorem e_XLa_reckon_36 (d : Nat) {x1 : Int32} {x2 : Int32} {s : ax_S} {r : Int64 × ax_S} (h : XLa_reckon_36 x1 x2 s = some r) : ax_ev true (d + 2) 88 [.ref 36, .int x1, .int x2] s (some (.long r.1), r.2) := by
  refine ⟨Nat.le_of_ble_eq_true rfl, ?_⟩
  show ax_go true none (ax_ev true (d + 1)) ax_m88 0 [some (.ref 36), some (.int x1), some (.int x2), none, none, none] [] s _
  unfold XLa_reckon_36 at h
  cases hz1 : XLa_reckon_36_l9 70000 x2 (0 : Int32) (if (0 : Int32) < x1 then x1 else (0 : Int32)) s with
  | none => rw [hz1] at h; cases h
  | some z1 =>
  rw [hz1] at h
  refine ax_cut (pc' := 9) (la := [some (.ref 36), some (.int x1), some (.int x2), some (.int (0 : Int32)), some (.int (if (0 : Int32) < x1 then x1 else (0 : Int32))), none]) [some (.ref 36), none, some (.int x2), some (.int (0 : Int32)), some (.int (if (0 : Int32) < x1 then x1 else (0 : Int32))), none] (st' := []) (σ' := s) 6 (And.intro rfl (And.intro rfl (And.intro rfl (And.intro rfl (trivial))))) (fun _ hh => hh) (w_XLa_reckon_36_l9 d 70000 x2 (0 : Int32) (if (0 : Int32) < x1 then x1 else (0 : Int32)) s _ hz1 ?_)
  · intro v2 s3 hq
    subst z1
    dsimp only at h
    by_cases c2 : v2 ≤ 0
    · rw [if_pos c2] at h
      have h := Option.some.inj h
      subst r
      exact ax_end 4 (And.intro (fun _ => rfl) (fun q => absurd c2 q))
    · rw [if_neg c2] at h
      have h := Option.some.inj h
      subst r
      exact ax_end 8 (And.intro (fun q => absurd q c2) (fun _ => (And.intro (show ¬ ((0 : Int32) < 0 ∨ 64 ≤ ((0 : Int32)).toNatClampNeg) by decide) rfl)))
def XLa_holds_36 (x1 : Int32)  (s : ax_S) : Option (Int32 × ax_S) :=
  if x1 < 0 then (
    some ((0 : Int32), s)) else
  if (16 : Int32) ≤ x1 then (
    some ((0 : Int32), s)) else
  if (x1 < 0 ∨ 16 ≤ (x1).toNatClampNeg) then none else
  if (x1 < 0 ∨ 16 ≤ (x1).toNatClampNeg) then none else
  match XLa_reckon_36 (s.2.1 39 (x1).toNatClampNeg) (s.2.1 40 (x1).toNatClampNeg) s with
  | none => none
  | some (v1, s2) =>
    if (lg_cmp v1 (1 : Int64)) = 0 then (
      some ((1 : Int32), s2)) else
    some ((0 : Int32), s2)
theorem e_XLa_holds_36 (d : Nat) {x1 : Int32} {s : ax_S} {r : Int32 × ax_S} (h : XLa_holds_36 x1 s = some r) : ax_ev true (d + 3) 87 [.ref 36, .int x1] s (some (.int r.1), r.2) := by
  refine ⟨Nat.le_of_ble_eq_true rfl, ?_⟩
  show ax_go true none (ax_ev true (d + 2)) ax_m87 0 [some (.ref 36), some (.int x1)] [] s _
  unfold XLa_holds_36 at h
  by_cases c1 : x1 < 0
  · rw [if_pos c1] at h
    have h := Option.some.inj h
    subst r
    exact ax_end 4 (And.intro (fun _ => (And.intro (Or.inl rfl) rfl)) (fun q => absurd c1 q))
  · rw [if_neg c1] at h
    by_cases c2 : (16 : Int32) ≤ x1
    · rw [if_pos c2] at h
      have h := Option.some.inj h
      subst r
      exact ax_end 7 (And.intro (fun q => absurd q c1) (fun _ => (And.intro (fun _ => (And.intro (Or.inl rfl) rfl)) (fun q => absurd c2 q))))
    · rw [if_neg c2] at h
      by_cases c3 : (x1 < 0 ∨ 16 ≤ (x1).toNatClampNeg)
      · rw [if_pos c3] at h; cases h
      · rw [if_neg c3] at h
        by_cases c4 : (x1 < 0 ∨ 16 ≤ (x1).toNatClampNeg)
        · rw [if_pos c4] at h; cases h
        · rw [if_neg c4] at h
          cases hz5 : XLa_reckon_36 (s.2.1 39 (x1).toNatClampNeg) (s.2.1 40 (x1).toNatClampNeg) s with
          | none => rw [hz5] at h; cases h
          | some z5 =>
          rw [hz5] at h
          obtain ⟨v1, s2⟩ := z5
          dsimp only at h
          refine ax_cut (pc' := 27) (la := [some (.ref 36), some (.int x1)]) [none, none] (st' := [.long (1 : Int64), .long v1]) (σ' := s2) 16 (trivial) (fun _ hh => (And.intro (fun q => absurd q c1) (fun _ => (And.intro (fun q => absurd q c2) (fun _ => (And.intro c3 (And.intro c4 (Exists.intro (some (.long v1), s2) (And.intro (e_XLa_reckon_36 d hz5) hh))))))))) ?_
          by_cases c6 : (lg_cmp v1 (1 : Int64)) = 0
          · rw [if_pos c6] at h
            have h := Option.some.inj h
            subst r
            exact ax_end 5 (And.intro (fun q => absurd c6 q) (fun _ => (And.intro (Or.inr rfl) rfl)))
          · rw [if_neg c6] at h
            have h := Option.some.inj h
            subst r
            exact ax_end 4 (And.intro (fun _ => (And.intro (Or.inl rfl) rfl)) (fun q => absurd c6 q))
def XLa_ask_36_l2 : Nat → Int32 → Int32 → Int32 → ax_S → Option ((Int32 × ax_S) ⊕ (Int32 × ax_S))
  | 0, _, _, _, _ => none
  | n + 1, x1, x2, x3, s =>
    if (s.2.1 36 7) ≤ x3 then (
      some (.inr ((0 : Int32), s))) else
    if (16 : Int32) ≤ x3 then (
      some (.inr ((0 : Int32), s))) else
    if (x3 < 0 ∨ 16 ≤ (x3).toNatClampNeg) then none else
    if (s.2.1 37 (x3).toNatClampNeg) = x1 then (
      match XLa_holds_36 x3 s with
      | none => none
      | some (v1, s2) =>
        if v1 = 0 then (
          XLa_ask_36_l2 n x1 x2 (x3 + (1)) s2) else
        some (.inl (x3, s2))) else
    XLa_ask_36_l2 n x1 x2 (x3 + (1)) s
def XLa_ask_36 (x1 : Int32) (x2 : Int32)  (s : ax_S) : Option (Int32 × ax_S) :=
  match XLa_ask_36_l2 70000 x1 x2 (0 : Int32) s with
  | none => none
  | some (.inl (v3, s4)) =>
    if (v3 < 0 ∨ 16 ≤ (v3).toNatClampNeg) then none else
    if (v3 < 0 ∨ 16 ≤ (v3).toNatClampNeg) then none else
    match XLa_reckon_36 (s4.2.1 38 (v3).toNatClampNeg) (s4.2.1 39 (v3).toNatClampNeg) s4 with
    | none => none
    | some (v5, s6) =>
      if (lg_cmp v5 (1099511627776 : Int64)) = 0 then (
        some ((0 : Int32), s6)) else
      some (((if (if v5 < (x2).toInt64 then v5 else (x2).toInt64) < (0 : Int64) then (0 : Int64) else (if v5 < (x2).toInt64 then v5 else (x2).toInt64))).toInt32, s6)
  | some (.inr r) => some r
theorem w_XLa_ask_36_l2 (d : Nat) {o : ax_O} : ∀ (n : Nat) (x1 : Int32) (x2 : Int32) (x3 : Int32) (s : ax_S) (r : (Int32 × ax_S) ⊕ (Int32 × ax_S)) (h : XLa_ask_36_l2 n x1 x2 x3 s = some r) (hk0 : ∀ (t0 : Int32) (t1 : ax_S), r = (.inl (t0, t1)) → ax_go true none (ax_ev true (d + 3)) ax_m86 34 [some (.ref 36), none, some (.int x2), some (.int t0), none, none] [] t1 o) (hkr : ∀ q, r = (.inr q) → o = (some (.int q.1), q.2)), ax_go true none (ax_ev true (d + 3)) ax_m86 2 [some (.ref 36), some (.int x1), some (.int x2), some (.int x3), none, none] [] s o := by
  intro n
  induction n with
  | zero => intro x1 x2 x3 s r h hk0 hkr; cases h
  | succ n ih =>
    intro x1 x2 x3 s r h hk0 hkr
    rw [XLa_ask_36_l2] at h
    by_cases c1 : (s.2.1 36 7) ≤ x3
    · rw [if_pos c1] at h
      have h := Option.some.inj h
      subst r
      exact ax_end 6 (And.intro (fun _ => (hkr _ rfl)) (fun q => absurd c1 q))
    · rw [if_neg c1] at h
      by_cases c2 : (16 : Int32) ≤ x3
      · rw [if_pos c2] at h
        have h := Option.some.inj h
        subst r
        exact ax_end 9 (And.intro (fun q => absurd q c1) (fun _ => (And.intro (fun _ => (hkr _ rfl)) (fun q => absurd c2 q))))
      · rw [if_neg c2] at h
        by_cases c3 : (x3 < 0 ∨ 16 ≤ (x3).toNatClampNeg)
        · rw [if_pos c3] at h; cases h
        · rw [if_neg c3] at h
          by_cases c4 : (s.2.1 37 (x3).toNatClampNeg) = x1
          · rw [if_pos c4] at h
            cases hz5 : XLa_holds_36 x3 s with
            | none => rw [hz5] at h; cases h
            | some z5 =>
            rw [hz5] at h
            obtain ⟨v1, s2⟩ := z5
            dsimp only at h
            refine ax_cut (pc' := 31) (la := [some (.ref 36), some (.int x1), some (.int x2), some (.int x3), none, none]) [some (.ref 36), some (.int x1), some (.int x2), some (.int x3), none, none] (st' := [.int v1]) (σ' := s2) 16 (And.intro rfl (And.intro rfl (And.intro rfl (And.intro rfl (trivial))))) (fun _ hh => (And.intro (fun q => absurd q c1) (fun _ => (And.intro (fun q => absurd q c2) (fun _ => (And.intro c3 (And.intro (fun q => absurd c4 q) (fun _ => (Exists.intro (some (.int v1), s2) (And.intro (e_XLa_holds_36 d hz5) hh)))))))))) ?_
            by_cases c6 : v1 = 0
            · rw [if_pos c6] at h
              exact ax_cut (pc' := 2) (la := [some (.ref 36), some (.int x1), some (.int x2), some (.int (x3 + (1))), none, none]) [some (.ref 36), some (.int x1), some (.int x2), some (.int (x3 + (1))), none, none] (st' := []) (σ' := s2) 3 (And.intro rfl (And.intro rfl (And.intro rfl (And.intro rfl (trivial))))) (fun _ hh => (And.intro (fun _ => hh) (fun q => absurd c6 q))) (ih x1 x2 (x3 + (1)) s2 _ h hk0 hkr)
            · rw [if_neg c6] at h
              have h := Option.some.inj h
              subst r
              exact ax_cut (pc' := 34) (la := [some (.ref 36), some (.int x1), some (.int x2), some (.int x3), none, none]) [some (.ref 36), none, some (.int x2), some (.int x3), none, none] (st' := []) (σ' := s2) 1 (And.intro rfl (And.intro rfl (And.intro rfl (trivial)))) (fun _ hh => (And.intro (fun q => absurd q c6) (fun _ => hh))) (hk0 _ _ rfl)
          · rw [if_neg c4] at h
            exact ax_cut (pc' := 2) (la := [some (.ref 36), some (.int x1), some (.int x2), some (.int (x3 + (1))), none, none]) [some (.ref 36), some (.int x1), some (.int x2), some (.int (x3 + (1))), none, none] (st' := []) (σ' := s) 15 (And.intro rfl (And.intro rfl (And.intro rfl (And.intro rfl (trivial))))) (fun _ hh => (And.intro (fun q => absurd q c1) (fun _ => (And.intro (fun q => absurd q c2) (fun _ => (And.intro c3 (And.intro (fun _ => hh) (fun q => absurd c4 q)))))))) (ih x1 x2 (x3 + (1)) s _ h hk0 hkr)
theorem e_XLa_ask_36 (d : Nat) {x1 : Int32} {x2 : Int32} {s : ax_S} {r : Int32 × ax_S} (h : XLa_ask_36 x1 x2 s = some r) : ax_ev true (d + 4) 86 [.ref 36, .int x1, .int x2] s (some (.int r.1), r.2) := by
  refine ⟨Nat.le_of_ble_eq_true rfl, ?_⟩
  show ax_go true none (ax_ev true (d + 3)) ax_m86 0 [some (.ref 36), some (.int x1), some (.int x2), none, none, none] [] s _
  unfold XLa_ask_36 at h
  cases hz1 : XLa_ask_36_l2 70000 x1 x2 (0 : Int32) s with
  | none => rw [hz1] at h; cases h
  | some z1 =>
  rw [hz1] at h
  refine ax_cut (pc' := 2) (la := [some (.ref 36), some (.int x1), some (.int x2), some (.int (0 : Int32)), none, none]) [some (.ref 36), some (.int x1), some (.int x2), some (.int (0 : Int32)), none, none] (st' := []) (σ' := s) 2 (And.intro rfl (And.intro rfl (And.intro rfl (And.intro rfl (trivial))))) (fun _ hh => hh) (w_XLa_ask_36_l2 d 70000 x1 x2 (0 : Int32) s _ hz1 ?_ ?_)
  · intro v3 s4 hq
    subst z1
    dsimp only at h
    by_cases c2 : (v3 < 0 ∨ 16 ≤ (v3).toNatClampNeg)
    · rw [if_pos c2] at h; cases h
    · rw [if_neg c2] at h
      by_cases c3 : (v3 < 0 ∨ 16 ≤ (v3).toNatClampNeg)
      · rw [if_pos c3] at h; cases h
      · rw [if_neg c3] at h
        cases hz4 : XLa_reckon_36 (s4.2.1 38 (v3).toNatClampNeg) (s4.2.1 39 (v3).toNatClampNeg) s4 with
        | none => rw [hz4] at h; cases h
        | some z4 =>
        rw [hz4] at h
        obtain ⟨v5, s6⟩ := z4
        dsimp only at h
        by_cases c5 : (lg_cmp v5 (1099511627776 : Int64)) = 0
        · rw [if_pos c5] at h
          refine ax_cut (pc' := 62) (la := [some (.ref 36), none, some (.int x2), some (.int v3), some (.long v5), none]) [none, none, none, none, none, none] (st' := [.int (0 : Int32)]) (σ' := s6) 16 (trivial) (fun _ hh => (And.intro c2 (And.intro c3 (Exists.intro (some (.long v5), s6) (And.intro (e_XLa_reckon_36 (d + 1) hz4) (And.intro (fun q => absurd c5 q) (fun _ => hh))))))) ?_
          have h := Option.some.inj h
          subst r
          exact ax_end 2 rfl
        · rw [if_neg c5] at h
          refine ax_cut (pc' := 66) (la := [some (.ref 36), none, some (.int x2), some (.int v3), some (.long v5), none]) [none, none, some (.int x2), none, some (.long v5), none] (st' := [.long (0 : Int64)]) (σ' := s6) 16 (And.intro rfl (And.intro rfl (trivial))) (fun _ hh => (And.intro c2 (And.intro c3 (Exists.intro (some (.long v5), s6) (And.intro (e_XLa_reckon_36 (d + 1) hz4) (And.intro (fun _ => hh) (fun q => absurd c5 q))))))) ?_
          have h := Option.some.inj h
          subst r
          exact ax_end 7 rfl
  · intro q hq
    subst z1
    dsimp only at h
    cases h
    rfl
def XSt_changePain_3_36_l2 : Nat → Int32 → ax_S → Option (ax_S)
  | 0, _, _ => none
  | n + 1, x2, s =>
    if (16 : Int32) ≤ x2 then (
      some s) else
    match XSt_tellOf_3_36 x2 s with
    | none => none
    | some s1 =>
      match XLa_ask_36 (119 : Int32) (99 : Int32) s1 with
      | none => none
      | some (v2, s3) =>
        match XLa_ask_36 (108 : Int32) (99 : Int32) s3 with
        | none => none
        | some (v4, s5) =>
          if (x2 < 0 ∨ 16 ≤ (x2).toNatClampNeg) then none else
          match XSt_setPain_3 x2 (((s5.2.1 10 (x2).toNatClampNeg) + v2) - v4) s5 with
          | none => none
          | some s6 =>
            XSt_changePain_3_36_l2 n (x2 + (1)) s6
def XSt_changePain_3_36  (s : ax_S) : Option (ax_S) :=
  match XSt_changePain_3_36_l2 70000 (0 : Int32) s with
  | none => none
  | some s7 =>
    some s7
theorem w_XSt_changePain_3_36_l2 (d : Nat) {o : ax_O} : ∀ (n : Nat) (x2 : Int32) (s : ax_S) (r : ax_S) (h : XSt_changePain_3_36_l2 n x2 s = some r) (hk0 : ∀ (t0 : ax_S), r = t0 → ax_go true none (ax_ev true (d + 4)) ax_m80 55 [none, none, none, none, none] [] t0 o), ax_go true none (ax_ev true (d + 4)) ax_m80 2 [some (.ref 3), some (.ref 36), some (.int x2), none, none] [] s o := by
  intro n
  induction n with
  | zero => intro x2 s r h hk0; cases h
  | succ n ih =>
    intro x2 s r h hk0
    rw [XSt_changePain_3_36_l2] at h
    by_cases c1 : (16 : Int32) ≤ x2
    · rw [if_pos c1] at h
      have h := Option.some.inj h
      subst r
      exact ax_cut (pc' := 55) (la := [some (.ref 3), some (.ref 36), some (.int x2), none, none]) [none, none, none, none, none] (st' := []) (σ' := s) 3 (trivial) (fun _ hh => (And.intro (fun _ => hh) (fun q => absurd c1 q))) (hk0 _ rfl)
    · rw [if_neg c1] at h
      cases hz2 : XSt_tellOf_3_36 x2 s with
      | none => rw [hz2] at h; cases h
      | some s1 =>
      rw [hz2] at h
      dsimp only at h
      cases hz3 : XLa_ask_36 (119 : Int32) (99 : Int32) s1 with
      | none => rw [hz3] at h; cases h
      | some z3 =>
      rw [hz3] at h
      obtain ⟨v2, s3⟩ := z3
      dsimp only at h
      cases hz4 : XLa_ask_36 (108 : Int32) (99 : Int32) s3 with
      | none => rw [hz4] at h; cases h
      | some z4 =>
      rw [hz4] at h
      obtain ⟨v4, s5⟩ := z4
      dsimp only at h
      refine ax_cut (pc' := 31) (la := [some (.ref 3), some (.ref 36), some (.int x2), some (.int v2), none]) [some (.ref 3), some (.ref 36), some (.int x2), some (.int v2), none] (st' := [.int v4]) (σ' := s5) 16 (And.intro rfl (And.intro rfl (And.intro rfl (And.intro rfl (trivial))))) (fun _ hh => (And.intro (fun q => absurd q c1) (fun _ => (Exists.intro (none, s1) (And.intro (e_XSt_tellOf_3_36 d hz2) (Exists.intro (some (.int v2), s3) (And.intro (e_XLa_ask_36 d hz3) (Exists.intro (some (.int v4), s5) (And.intro (e_XLa_ask_36 d hz4) hh))))))))) ?_
      by_cases c5 : (x2 < 0 ∨ 16 ≤ (x2).toNatClampNeg)
      · rw [if_pos c5] at h; cases h
      · rw [if_neg c5] at h
        cases hz6 : XSt_setPain_3 x2 (((s5.2.1 10 (x2).toNatClampNeg) + v2) - v4) s5 with
        | none => rw [hz6] at h; cases h
        | some s6 =>
        rw [hz6] at h
        dsimp only at h
        exact ax_cut (pc' := 2) (la := [some (.ref 3), some (.ref 36), some (.int (x2 + (1))), some (.int v2), some (.int v4)]) [some (.ref 3), some (.ref 36), some (.int (x2 + (1))), none, none] (st' := []) (σ' := s6) 14 (And.intro rfl (And.intro rfl (And.intro rfl (trivial)))) (fun _ hh => (And.intro c5 (Exists.intro (none, s6) (And.intro (e_XSt_setPain_3 (d + 1) hz6) hh)))) (ih (x2 + (1)) s6 _ h hk0)
theorem e_XSt_changePain_3_36 (d : Nat)  {s : ax_S} {r : ax_S} (h : XSt_changePain_3_36 s = some r) : ax_ev true (d + 5) 80 [.ref 3, .ref 36] s (none, r) := by
  refine ⟨Nat.le_of_ble_eq_true rfl, ?_⟩
  show ax_go true none (ax_ev true (d + 4)) ax_m80 0 [some (.ref 3), some (.ref 36), none, none, none] [] s _
  unfold XSt_changePain_3_36 at h
  cases hz1 : XSt_changePain_3_36_l2 70000 (0 : Int32) s with
  | none => rw [hz1] at h; cases h
  | some z1 =>
  rw [hz1] at h
  refine ax_cut (pc' := 2) (la := [some (.ref 3), some (.ref 36), some (.int (0 : Int32)), none, none]) [some (.ref 3), some (.ref 36), some (.int (0 : Int32)), none, none] (st' := []) (σ' := s) 2 (And.intro rfl (And.intro rfl (And.intro rfl (trivial)))) (fun _ hh => hh) (w_XSt_changePain_3_36_l2 d 70000 (0 : Int32) s _ hz1 ?_)
  · intro s7 hq
    subst z1
    dsimp only at h
    have h := Option.some.inj h
    subst r
    exact ax_end 1 rfl
def XSt_painfulAbove_3_l4 : Nat → Int32 → Int32 → Int32 → ax_S → Option (Int32)
  | 0, _, _, _, _ => none
  | n + 1, x1, x2, x3, s =>
    if (16 : Int32) ≤ x3 then (
      some x2) else
    if (x3 < 0 ∨ 16 ≤ (x3).toNatClampNeg) then none else
    if (s.2.1 10 (x3).toNatClampNeg) ≤ x1 then (
      XSt_painfulAbove_3_l4 n x1 x2 (x3 + (1)) s) else
    XSt_painfulAbove_3_l4 n x1 (x2 ||| ((1 : Int32) <<< (x3 &&& 31))) (x3 + (1)) s
def XSt_painfulAbove_3 (x1 : Int32)  (s : ax_S) : Option (Int32) :=
  match XSt_painfulAbove_3_l4 70000 x1 (0 : Int32) (0 : Int32) s with
  | none => none
  | some v1 =>
    some v1
theorem w_XSt_painfulAbove_3_l4 (d : Nat) {o : ax_O} : ∀ (n : Nat) (x1 : Int32) (x2 : Int32) (x3 : Int32) (s : ax_S) (r : Int32) (h : XSt_painfulAbove_3_l4 n x1 x2 x3 s = some r) (hk0 : ∀ (t0 : Int32), r = t0 → ax_go true none (ax_ev true (d + 0)) ax_m91 32 [none, none, some (.int t0), none] [] s o), ax_go true none (ax_ev true (d + 0)) ax_m91 4 [some (.ref 3), some (.int x1), some (.int x2), some (.int x3)] [] s o := by
  intro n
  induction n with
  | zero => intro x1 x2 x3 s r h hk0; cases h
  | succ n ih =>
    intro x1 x2 x3 s r h hk0
    rw [XSt_painfulAbove_3_l4] at h
    by_cases c1 : (16 : Int32) ≤ x3
    · rw [if_pos c1] at h
      have h := Option.some.inj h
      subst r
      exact ax_cut (pc' := 32) (la := [some (.ref 3), some (.int x1), some (.int x2), some (.int x3)]) [none, none, some (.int x2), none] (st' := []) (σ' := s) 3 (And.intro rfl (trivial)) (fun _ hh => (And.intro (fun _ => hh) (fun q => absurd c1 q))) (hk0 _ rfl)
    · rw [if_neg c1] at h
      by_cases c2 : (x3 < 0 ∨ 16 ≤ (x3).toNatClampNeg)
      · rw [if_pos c2] at h; cases h
      · rw [if_neg c2] at h
        by_cases c3 : (s.2.1 10 (x3).toNatClampNeg) ≤ x1
        · rw [if_pos c3] at h
          exact ax_cut (pc' := 4) (la := [some (.ref 3), some (.int x1), some (.int x2), some (.int (x3 + (1)))]) [some (.ref 3), some (.int x1), some (.int x2), some (.int (x3 + (1)))] (st' := []) (σ' := s) 11 (And.intro rfl (And.intro rfl (And.intro rfl (And.intro rfl (trivial))))) (fun _ hh => (And.intro (fun q => absurd q c1) (fun _ => (And.intro c2 (And.intro (fun _ => hh) (fun q => absurd c3 q)))))) (ih x1 x2 (x3 + (1)) s _ h hk0)
        · rw [if_neg c3] at h
          refine ax_cut (pc' := 29) (la := [some (.ref 3), some (.int x1), some (.int (x2 ||| ((1 : Int32) <<< (x3 &&& 31)))), some (.int (x3 + (1)))]) [some (.ref 3), some (.int x1), some (.int (x2 ||| ((1 : Int32) <<< (x3 &&& 31)))), some (.int (x3 + (1)))] (st' := []) (σ' := s) 16 (And.intro rfl (And.intro rfl (And.intro rfl (And.intro rfl (trivial))))) (fun _ hh => (And.intro (fun q => absurd q c1) (fun _ => (And.intro c2 (And.intro (fun q => absurd q c3) (fun _ => hh)))))) ?_
          exact ax_cut (pc' := 4) (la := [some (.ref 3), some (.int x1), some (.int (x2 ||| ((1 : Int32) <<< (x3 &&& 31)))), some (.int (x3 + (1)))]) [some (.ref 3), some (.int x1), some (.int (x2 ||| ((1 : Int32) <<< (x3 &&& 31)))), some (.int (x3 + (1)))] (st' := []) (σ' := s) 1 (And.intro rfl (And.intro rfl (And.intro rfl (And.intro rfl (trivial))))) (fun _ hh => hh) (ih x1 (x2 ||| ((1 : Int32) <<< (x3 &&& 31))) (x3 + (1)) s _ h hk0)
theorem e_XSt_painfulAbove_3 (d : Nat) {x1 : Int32} {s : ax_S} {r : Int32} (h : XSt_painfulAbove_3 x1 s = some r) : ax_ev true (d + 1) 91 [.ref 3, .int x1] s (some (.int r), s) := by
  refine ⟨Nat.le_of_ble_eq_true rfl, ?_⟩
  show ax_go true none (ax_ev true (d + 0)) ax_m91 0 [some (.ref 3), some (.int x1), none, none] [] s _
  unfold XSt_painfulAbove_3 at h
  cases hz1 : XSt_painfulAbove_3_l4 70000 x1 (0 : Int32) (0 : Int32) s with
  | none => rw [hz1] at h; cases h
  | some z1 =>
  rw [hz1] at h
  refine ax_cut (pc' := 4) (la := [some (.ref 3), some (.int x1), some (.int (0 : Int32)), some (.int (0 : Int32))]) [some (.ref 3), some (.int x1), some (.int (0 : Int32)), some (.int (0 : Int32))] (st' := []) (σ' := s) 4 (And.intro rfl (And.intro rfl (And.intro rfl (And.intro rfl (trivial))))) (fun _ hh => hh) (w_XSt_painfulAbove_3_l4 d 70000 x1 (0 : Int32) (0 : Int32) s _ hz1 ?_)
  · intro v1 hq
    subst z1
    dsimp only at h
    have h := Option.some.inj h
    subst r
    exact ax_end 2 rfl
def XLa_isLeftOut_36_l2 : Nat → Int32 → ax_S → Option (Int32 × ax_S)
  | 0, _, _ => none
  | n + 1, x1, s =>
    if (s.2.1 36 7) ≤ x1 then (
      some ((0 : Int32), s)) else
    if (16 : Int32) ≤ x1 then (
      some ((0 : Int32), s)) else
    if (x1 < 0 ∨ 16 ≤ (x1).toNatClampNeg) then none else
    if (s.2.1 37 (x1).toNatClampNeg) = (99 : Int32) then (
      match XLa_holds_36 x1 s with
      | none => none
      | some (v1, s2) =>
        if v1 = 0 then (
          XLa_isLeftOut_36_l2 n (x1 + (1)) s2) else
        some ((1 : Int32), s2)) else
    XLa_isLeftOut_36_l2 n (x1 + (1)) s
def XLa_isLeftOut_36  (s : ax_S) : Option (Int32 × ax_S) :=
  match XLa_isLeftOut_36_l2 70000 (0 : Int32) s with
  | none => none
  | some r => some r
theorem w_XLa_isLeftOut_36_l2 (d : Nat) {o : ax_O} : ∀ (n : Nat) (x1 : Int32) (s : ax_S) (r : Int32 × ax_S) (h : XLa_isLeftOut_36_l2 n x1 s = some r) (hkr : ∀ q, r = q → o = (some (.int q.1), q.2)), ax_go true none (ax_ev true (d + 3)) ax_m93 2 [some (.ref 36), some (.int x1)] [] s o := by
  intro n
  induction n with
  | zero => intro x1 s r h hkr; cases h
  | succ n ih =>
    intro x1 s r h hkr
    rw [XLa_isLeftOut_36_l2] at h
    by_cases c1 : (s.2.1 36 7) ≤ x1
    · rw [if_pos c1] at h
      have h := Option.some.inj h
      subst r
      exact ax_end 6 (And.intro (fun _ => (And.intro (Or.inl rfl) (hkr _ rfl))) (fun q => absurd c1 q))
    · rw [if_neg c1] at h
      by_cases c2 : (16 : Int32) ≤ x1
      · rw [if_pos c2] at h
        have h := Option.some.inj h
        subst r
        exact ax_end 9 (And.intro (fun q => absurd q c1) (fun _ => (And.intro (fun _ => (And.intro (Or.inl rfl) (hkr _ rfl))) (fun q => absurd c2 q))))
      · rw [if_neg c2] at h
        by_cases c3 : (x1 < 0 ∨ 16 ≤ (x1).toNatClampNeg)
        · rw [if_pos c3] at h; cases h
        · rw [if_neg c3] at h
          by_cases c4 : (s.2.1 37 (x1).toNatClampNeg) = (99 : Int32)
          · rw [if_pos c4] at h
            cases hz5 : XLa_holds_36 x1 s with
            | none => rw [hz5] at h; cases h
            | some z5 =>
            rw [hz5] at h
            obtain ⟨v1, s2⟩ := z5
            dsimp only at h
            refine ax_cut (pc' := 32) (la := [some (.ref 36), some (.int x1)]) [some (.ref 36), some (.int x1)] (st' := [.int v1]) (σ' := s2) 16 (And.intro rfl (And.intro rfl (trivial))) (fun _ hh => (And.intro (fun q => absurd q c1) (fun _ => (And.intro (fun q => absurd q c2) (fun _ => (And.intro c3 (And.intro (fun q => absurd c4 q) (fun _ => (Exists.intro (some (.int v1), s2) (And.intro (e_XLa_holds_36 d hz5) hh)))))))))) ?_
            by_cases c6 : v1 = 0
            · rw [if_pos c6] at h
              exact ax_cut (pc' := 2) (la := [some (.ref 36), some (.int (x1 + (1)))]) [some (.ref 36), some (.int (x1 + (1)))] (st' := []) (σ' := s2) 3 (And.intro rfl (And.intro rfl (trivial))) (fun _ hh => (And.intro (fun _ => hh) (fun q => absurd c6 q))) (ih (x1 + (1)) s2 _ h hkr)
            · rw [if_neg c6] at h
              have h := Option.some.inj h
              subst r
              exact ax_end 3 (And.intro (fun q => absurd q c6) (fun _ => (And.intro (Or.inr rfl) (hkr _ rfl))))
          · rw [if_neg c4] at h
            exact ax_cut (pc' := 2) (la := [some (.ref 36), some (.int (x1 + (1)))]) [some (.ref 36), some (.int (x1 + (1)))] (st' := []) (σ' := s) 15 (And.intro rfl (And.intro rfl (trivial))) (fun _ hh => (And.intro (fun q => absurd q c1) (fun _ => (And.intro (fun q => absurd q c2) (fun _ => (And.intro c3 (And.intro (fun _ => hh) (fun q => absurd c4 q)))))))) (ih (x1 + (1)) s _ h hkr)
theorem e_XLa_isLeftOut_36 (d : Nat)  {s : ax_S} {r : Int32 × ax_S} (h : XLa_isLeftOut_36 s = some r) : ax_ev true (d + 4) 93 [.ref 36] s (some (.int r.1), r.2) := by
  refine ⟨Nat.le_of_ble_eq_true rfl, ?_⟩
  show ax_go true none (ax_ev true (d + 3)) ax_m93 0 [some (.ref 36), none] [] s _
  unfold XLa_isLeftOut_36 at h
  cases hz1 : XLa_isLeftOut_36_l2 70000 (0 : Int32) s with
  | none => rw [hz1] at h; cases h
  | some z1 =>
  rw [hz1] at h
  refine ax_cut (pc' := 2) (la := [some (.ref 36), some (.int (0 : Int32))]) [some (.ref 36), some (.int (0 : Int32))] (st' := []) (σ' := s) 2 (And.intro rfl (And.intro rfl (trivial))) (fun _ hh => hh) (w_XLa_isLeftOut_36_l2 d 70000 (0 : Int32) s _ hz1 ?_)
  · intro q hq
    subst z1
    dsimp only at h
    cases h
    rfl
def XSt_leftOut_3_36_l4 : Nat → Int32 → Int32 → ax_S → Option (Int32 × ax_S)
  | 0, _, _, _ => none
  | n + 1, x2, x3, s =>
    if (16 : Int32) ≤ x3 then (
      some (x2, s)) else
    match XSt_tellOf_3_36 x3 s with
    | none => none
    | some s1 =>
      match XLa_isLeftOut_36 s1 with
      | none => none
      | some (v2, s3) =>
        if v2 = 0 then (
          XSt_leftOut_3_36_l4 n x2 (x3 + (1)) s3) else
        XSt_leftOut_3_36_l4 n (x2 ||| ((1 : Int32) <<< (x3 &&& 31))) (x3 + (1)) s3
def XSt_leftOut_3_36  (s : ax_S) : Option (Int32 × ax_S) :=
  match XSt_leftOut_3_36_l4 70000 (0 : Int32) (0 : Int32) s with
  | none => none
  | some (v4, s5) =>
    some (v4, s5)
theorem w_XSt_leftOut_3_36_l4 (d : Nat) {o : ax_O} : ∀ (n : Nat) (x2 : Int32) (x3 : Int32) (s : ax_S) (r : Int32 × ax_S) (h : XSt_leftOut_3_36_l4 n x2 x3 s = some r) (hk0 : ∀ (t0 : Int32) (t1 : ax_S), r = (t0, t1) → ax_go true none (ax_ev true (d + 4)) ax_m92 35 [none, none, some (.int t0), none] [] t1 o), ax_go true none (ax_ev true (d + 4)) ax_m92 4 [some (.ref 3), some (.ref 36), some (.int x2), some (.int x3)] [] s o := by
  intro n
  induction n with
  | zero => intro x2 x3 s r h hk0; cases h
  | succ n ih =>
    intro x2 x3 s r h hk0
    rw [XSt_leftOut_3_36_l4] at h
    by_cases c1 : (16 : Int32) ≤ x3
    · rw [if_pos c1] at h
      have h := Option.some.inj h
      subst r
      exact ax_cut (pc' := 35) (la := [some (.ref 3), some (.ref 36), some (.int x2), some (.int x3)]) [none, none, some (.int x2), none] (st' := []) (σ' := s) 3 (And.intro rfl (trivial)) (fun _ hh => (And.intro (fun _ => hh) (fun q => absurd c1 q))) (hk0 _ _ rfl)
    · rw [if_neg c1] at h
      cases hz2 : XSt_tellOf_3_36 x3 s with
      | none => rw [hz2] at h; cases h
      | some s1 =>
      rw [hz2] at h
      dsimp only at h
      cases hz3 : XLa_isLeftOut_36 s1 with
      | none => rw [hz3] at h; cases h
      | some z3 =>
      rw [hz3] at h
      obtain ⟨v2, s3⟩ := z3
      dsimp only at h
      by_cases c4 : v2 = 0
      · rw [if_pos c4] at h
        exact ax_cut (pc' := 4) (la := [some (.ref 3), some (.ref 36), some (.int x2), some (.int (x3 + (1)))]) [some (.ref 3), some (.ref 36), some (.int x2), some (.int (x3 + (1)))] (st' := []) (σ' := s3) 12 (And.intro rfl (And.intro rfl (And.intro rfl (And.intro rfl (trivial))))) (fun _ hh => (And.intro (fun q => absurd q c1) (fun _ => (Exists.intro (none, s1) (And.intro (e_XSt_tellOf_3_36 d hz2) (Exists.intro (some (.int v2), s3) (And.intro (e_XLa_isLeftOut_36 d hz3) (And.intro (fun _ => hh) (fun q => absurd c4 q))))))))) (ih x2 (x3 + (1)) s3 _ h hk0)
      · rw [if_neg c4] at h
        refine ax_cut (pc' := 29) (la := [some (.ref 3), some (.ref 36), some (.int (x2 ||| ((1 : Int32) <<< (x3 &&& 31)))), some (.int x3)]) [some (.ref 3), some (.ref 36), some (.int (x2 ||| ((1 : Int32) <<< (x3 &&& 31)))), some (.int x3)] (st' := []) (σ' := s3) 16 (And.intro rfl (And.intro rfl (And.intro rfl (And.intro rfl (trivial))))) (fun _ hh => (And.intro (fun q => absurd q c1) (fun _ => (Exists.intro (none, s1) (And.intro (e_XSt_tellOf_3_36 d hz2) (Exists.intro (some (.int v2), s3) (And.intro (e_XLa_isLeftOut_36 d hz3) (And.intro (fun q => absurd q c4) (fun _ => hh))))))))) ?_
        exact ax_cut (pc' := 4) (la := [some (.ref 3), some (.ref 36), some (.int (x2 ||| ((1 : Int32) <<< (x3 &&& 31)))), some (.int (x3 + (1)))]) [some (.ref 3), some (.ref 36), some (.int (x2 ||| ((1 : Int32) <<< (x3 &&& 31)))), some (.int (x3 + (1)))] (st' := []) (σ' := s3) 2 (And.intro rfl (And.intro rfl (And.intro rfl (And.intro rfl (trivial))))) (fun _ hh => hh) (ih (x2 ||| ((1 : Int32) <<< (x3 &&& 31))) (x3 + (1)) s3 _ h hk0)
theorem e_XSt_leftOut_3_36 (d : Nat)  {s : ax_S} {r : Int32 × ax_S} (h : XSt_leftOut_3_36 s = some r) : ax_ev true (d + 5) 92 [.ref 3, .ref 36] s (some (.int r.1), r.2) := by
  refine ⟨Nat.le_of_ble_eq_true rfl, ?_⟩
  show ax_go true none (ax_ev true (d + 4)) ax_m92 0 [some (.ref 3), some (.ref 36), none, none] [] s _
  unfold XSt_leftOut_3_36 at h
  cases hz1 : XSt_leftOut_3_36_l4 70000 (0 : Int32) (0 : Int32) s with
  | none => rw [hz1] at h; cases h
  | some z1 =>
  rw [hz1] at h
  refine ax_cut (pc' := 4) (la := [some (.ref 3), some (.ref 36), some (.int (0 : Int32)), some (.int (0 : Int32))]) [some (.ref 3), some (.ref 36), some (.int (0 : Int32)), some (.int (0 : Int32))] (st' := []) (σ' := s) 4 (And.intro rfl (And.intro rfl (And.intro rfl (And.intro rfl (trivial))))) (fun _ hh => hh) (w_XSt_leftOut_3_36_l4 d 70000 (0 : Int32) (0 : Int32) s _ hz1 ?_)
  · intro v4 s5 hq
    subst z1
    dsimp only at h
    have h := Option.some.inj h
    subst r
    exact ax_end 2 rfl
