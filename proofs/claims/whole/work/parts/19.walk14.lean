def M_family (x1 : Int32)  (s : ax_S) : Option (Int32) :=
  if x1 = (0) then (
    match M_aloneSet s with
    | none => none
    | some v1 =>
      some v1) else
  if x1 = (1) then (
    match M_middleOne s with
    | none => none
    | some v2 =>
      some v2) else
  if x1 = (2) then (
    match M_straight (16 : Int32) (0 : Int32) s with
    | none => none
    | some v3 =>
      some v3) else
  if x1 = (3) then (
    match M_straight (12 : Int32) (1 : Int32) s with
    | none => none
    | some v4 =>
      some v4) else
  some (-1 : Int32)
theorem e_M_family (d : Nat) {x1 : Int32} {s : ax_S} {r : Int32} (h : M_family x1 s = some r) : ax_ev true (d + 5) 264 [.ref 63, .int x1] s (some (.int r), s) := by
  refine ⟨Nat.le_of_ble_eq_true rfl, ?_⟩
  show ax_go true none (ax_ev true (d + 4)) ax_m264 0 [some (.ref 63), some (.int x1)] [] s _
  unfold M_family at h
  by_cases c1_0 : x1 = (0)
  · rw [if_pos c1_0] at h
    cases hz2 : M_aloneSet s with
    | none => rw [hz2] at h; cases h
    | some v1 =>
    rw [hz2] at h
    dsimp only at h
    have h := Option.some.inj h
    subst r
    exact ax_end 5 (ax_tabT (lo := 0) (hg := 3) (j0 := 0) (congrArg Int32.toInt c1_0) (by rw [c1_0]; decide) (Exists.intro (some (.int v1), s) (And.intro (e_M_aloneSet d hz2) rfl)))
  rw [if_neg c1_0] at h
  by_cases c1_1 : x1 = (1)
  · rw [if_pos c1_1] at h
    cases hz3 : M_middleOne s with
    | none => rw [hz3] at h; cases h
    | some v2 =>
    rw [hz3] at h
    dsimp only at h
    have h := Option.some.inj h
    subst r
    exact ax_end 5 (ax_tabT (lo := 0) (hg := 3) (j0 := 1) (congrArg Int32.toInt c1_1) (by rw [c1_1]; decide) (Exists.intro (some (.int v2), s) (And.intro (e_M_middleOne (d + 1) hz3) rfl)))
  rw [if_neg c1_1] at h
  by_cases c1_2 : x1 = (2)
  · rw [if_pos c1_2] at h
    cases hz4 : M_straight (16 : Int32) (0 : Int32) s with
    | none => rw [hz4] at h; cases h
    | some v3 =>
    rw [hz4] at h
    dsimp only at h
    have h := Option.some.inj h
    subst r
    exact ax_end 7 (ax_tabT (lo := 0) (hg := 3) (j0 := 2) (congrArg Int32.toInt c1_2) (by rw [c1_2]; decide) (Exists.intro (some (.int v3), s) (And.intro (e_M_straight (d + 1) hz4) rfl)))
  rw [if_neg c1_2] at h
  by_cases c1_3 : x1 = (3)
  · rw [if_pos c1_3] at h
    cases hz5 : M_straight (12 : Int32) (1 : Int32) s with
    | none => rw [hz5] at h; cases h
    | some v4 =>
    rw [hz5] at h
    dsimp only at h
    have h := Option.some.inj h
    subst r
    exact ax_end 7 (ax_tabT (lo := 0) (hg := 3) (j0 := 3) (congrArg Int32.toInt c1_3) (by rw [c1_3]; decide) (Exists.intro (some (.int v4), s) (And.intro (e_M_straight (d + 1) hz5) rfl)))
  rw [if_neg c1_3] at h
  have c1_r : (x1).toInt < 0 ∨ 3 < (x1).toInt := by
    have := ax_ne_toInt c1_0
    have := ax_ne_toInt c1_1
    have := ax_ne_toInt c1_2
    have := ax_ne_toInt c1_3
    simp only [show ∀ y : Int32, y.toInt = y.toInt from fun _ => rfl, show ((0) : Int32).toInt = 0 by decide, show ((1) : Int32).toInt = 1 by decide, show ((2) : Int32).toInt = 2 by decide, show ((3) : Int32).toInt = 3 by decide] at *
    omega
  have h := Option.some.inj h
  subst r
  exact ax_end 4 (ax_tabF (lo := 0) (hg := 3) rfl c1_r rfl)
def XSt_pasted_3 (x1 : Int32) (x2 : Int32)  (s : ax_S) : Option (Int32) :=
  if x1 < (1 : Int32) then (
    some (-2 : Int32)) else
  if x1 ≤ (s.2.1 3 5) then (
    if ((XSt_cutPlace ((s.2.1 3 5) - x1) s) + x2) < 0 then (
      some (-2 : Int32)) else
    if (180 : Int32) ≤ ((XSt_cutPlace ((s.2.1 3 5) - x1) s) + x2) then (
      some (-2 : Int32)) else
    if (((XSt_cutPlace ((s.2.1 3 5) - x1) s) + x2) < 0 ∨ 180 ≤ (((XSt_cutPlace ((s.2.1 3 5) - x1) s) + x2)).toNatClampNeg) then none else
    some (s.2.1 13 (((XSt_cutPlace ((s.2.1 3 5) - x1) s) + x2)).toNatClampNeg)) else
  some (-2 : Int32)
theorem e_XSt_pasted_3 (d : Nat) {x1 : Int32} {x2 : Int32} {s : ax_S} {r : Int32} (h : XSt_pasted_3 x1 x2 s = some r) : ax_ev true (d + 2) 145 [.ref 3, .int x1, .int x2] s (some (.int r), s) := by
  refine ⟨Nat.le_of_ble_eq_true rfl, ?_⟩
  show ax_go true none (ax_ev true (d + 1)) ax_m145 0 [some (.ref 3), some (.int x1), some (.int x2), none] [] s _
  unfold XSt_pasted_3 at h
  by_cases c1 : x1 < (1 : Int32)
  · rw [if_pos c1] at h
    have h := Option.some.inj h
    subst r
    exact ax_end 5 (And.intro (fun _ => rfl) (fun q => absurd c1 q))
  · rw [if_neg c1] at h
    by_cases c2 : x1 ≤ (s.2.1 3 5)
    · rw [if_pos c2] at h
      refine ax_cut (pc' := 29) (la := [some (.ref 3), some (.int x1), some (.int x2), some (.int ((XSt_cutPlace ((s.2.1 3 5) - x1) s) + x2))]) [some (.ref 3), none, none, some (.int ((XSt_cutPlace ((s.2.1 3 5) - x1) s) + x2))] (st' := [.int ((XSt_cutPlace ((s.2.1 3 5) - x1) s) + x2)]) (σ' := s) 16 (And.intro rfl (And.intro rfl (trivial))) (fun _ hh => (And.intro (fun q => absurd q c1) (fun _ => (And.intro (fun _ => (Exists.intro (some (.int (XSt_cutPlace ((s.2.1 3 5) - x1) s)), s) (And.intro (e_XSt_cutPlace d ((s.2.1 3 5) - x1) s) hh))) (fun q => absurd c2 q))))) ?_
      by_cases c3 : ((XSt_cutPlace ((s.2.1 3 5) - x1) s) + x2) < 0
      · rw [if_pos c3] at h
        have h := Option.some.inj h
        subst r
        exact ax_end 3 (And.intro (fun _ => rfl) (fun q => absurd c3 q))
      · rw [if_neg c3] at h
        by_cases c4 : (180 : Int32) ≤ ((XSt_cutPlace ((s.2.1 3 5) - x1) s) + x2)
        · rw [if_pos c4] at h
          have h := Option.some.inj h
          subst r
          exact ax_end 8 (And.intro (fun q => absurd q c3) (fun _ => (And.intro (fun _ => rfl) (fun q => absurd c4 q))))
        · rw [if_neg c4] at h
          by_cases c5 : (((XSt_cutPlace ((s.2.1 3 5) - x1) s) + x2) < 0 ∨ 180 ≤ (((XSt_cutPlace ((s.2.1 3 5) - x1) s) + x2)).toNatClampNeg)
          · rw [if_pos c5] at h; cases h
          · rw [if_neg c5] at h
            have h := Option.some.inj h
            subst r
            exact ax_end 12 (And.intro (fun q => absurd q c3) (fun _ => (And.intro (fun q => absurd q c4) (fun _ => (And.intro c5 rfl)))))
    · rw [if_neg c2] at h
      have h := Option.some.inj h
      subst r
      exact ax_end 9 (And.intro (fun q => absurd q c1) (fun _ => (And.intro (fun q => absurd q c2) (fun _ => rfl))))
def X_album (x1 : Int32) (x2 : Int32)  (s : ax_S) : Option (Int32) :=
  if (X_isWithin x1 (1 : Int32) (30 : Int32) s) = 0 then (
    some (-1 : Int32)) else
  if (X_isWithin x2 (0 : Int32) (5 : Int32) s) = 0 then (
    some (-1 : Int32)) else
  match XSt_pasted_3 x1 x2 s with
  | none => none
  | some v1 =>
    some v1
theorem e_X_album (d : Nat) {x1 : Int32} {x2 : Int32} {s : ax_S} {r : Int32} (h : X_album x1 x2 s = some r) : ax_ev true (d + 3) 144 [.ref 0, .int x1, .int x2] s (some (.int r), s) := by
  refine ⟨Nat.le_of_ble_eq_true rfl, ?_⟩
  show ax_go true none (ax_ev true (d + 2)) ax_m144 0 [some (.ref 0), some (.int x1), some (.int x2)] [] s _
  unfold X_album at h
  by_cases c1 : (X_isWithin x1 (1 : Int32) (30 : Int32) s) = 0
  · rw [if_pos c1] at h
    have h := Option.some.inj h
    subst r
    exact ax_end 7 (Exists.intro (some (.int (X_isWithin x1 (1 : Int32) (30 : Int32) s)), s) (And.intro (e_X_isWithin (d + 1) x1 (1 : Int32) (30 : Int32) s) (And.intro (fun _ => rfl) (fun q => absurd c1 q))))
  · rw [if_neg c1] at h
    by_cases c2 : (X_isWithin x2 (0 : Int32) (5 : Int32) s) = 0
    · rw [if_pos c2] at h
      have h := Option.some.inj h
      subst r
      exact ax_end 12 (Exists.intro (some (.int (X_isWithin x1 (1 : Int32) (30 : Int32) s)), s) (And.intro (e_X_isWithin (d + 1) x1 (1 : Int32) (30 : Int32) s) (And.intro (fun q => absurd q c1) (fun _ => (Exists.intro (some (.int (X_isWithin x2 (0 : Int32) (5 : Int32) s)), s) (And.intro (e_X_isWithin (d + 1) x2 (0 : Int32) (5 : Int32) s) (And.intro (fun q => absurd c2 q) (fun _ => rfl))))))))
    · rw [if_neg c2] at h
      cases hz3 : XSt_pasted_3 x1 x2 s with
      | none => rw [hz3] at h; cases h
      | some v1 =>
      rw [hz3] at h
      dsimp only at h
      have h := Option.some.inj h
      subst r
      exact ax_end 16 (Exists.intro (some (.int (X_isWithin x1 (1 : Int32) (30 : Int32) s)), s) (And.intro (e_X_isWithin (d + 1) x1 (1 : Int32) (30 : Int32) s) (And.intro (fun q => absurd q c1) (fun _ => (Exists.intro (some (.int (X_isWithin x2 (0 : Int32) (5 : Int32) s)), s) (And.intro (e_X_isWithin (d + 1) x2 (0 : Int32) (5 : Int32) s) (And.intro (fun _ => (Exists.intro (some (.int v1), s) (And.intro (e_XSt_pasted_3 d hz3) rfl))) (fun q => absurd c2 q))))))))
def M_album (x1 : Int32) (x2 : Int32)  (s : ax_S) : Option (Int32) :=
  if (M_in x1 (1 : Int32) (30 : Int32) s) = 0 then (
    some (-1 : Int32)) else
  if (M_in x2 (0 : Int32) (5 : Int32) s) = 0 then (
    some (-1 : Int32)) else
  if x1 ≤ (s.2.1 64 288) then (
    if ((((108 : Int32) + ((30 : Int32) * x2)) + (((s.2.1 64 288) - x1) - ((s.2.1 64 288) - x1) / (30 : Int32) * (30 : Int32))) < 0 ∨ 291 ≤ ((((108 : Int32) + ((30 : Int32) * x2)) + (((s.2.1 64 288) - x1) - ((s.2.1 64 288) - x1) / (30 : Int32) * (30 : Int32)))).toNatClampNeg) then none else
    some (s.2.1 64 ((((108 : Int32) + ((30 : Int32) * x2)) + (((s.2.1 64 288) - x1) - ((s.2.1 64 288) - x1) / (30 : Int32) * (30 : Int32)))).toNatClampNeg)) else
  some (-2 : Int32)
theorem e_M_album (d : Nat) {x1 : Int32} {x2 : Int32} {s : ax_S} {r : Int32} (h : M_album x1 x2 s = some r) : ax_ev true (d + 2) 269 [.ref 63, .int x1, .int x2] s (some (.int r), s) := by
  refine ⟨Nat.le_of_ble_eq_true rfl, ?_⟩
  show ax_go true none (ax_ev true (d + 1)) ax_m269 0 [some (.ref 63), some (.int x1), some (.int x2)] [] s _
  unfold M_album at h
  by_cases c1 : (M_in x1 (1 : Int32) (30 : Int32) s) = 0
  · rw [if_pos c1] at h
    have h := Option.some.inj h
    subst r
    exact ax_end 7 (Exists.intro (some (.int (M_in x1 (1 : Int32) (30 : Int32) s)), s) (And.intro (e_M_in d x1 (1 : Int32) (30 : Int32) s) (And.intro (fun _ => rfl) (fun q => absurd c1 q))))
  · rw [if_neg c1] at h
    by_cases c2 : (M_in x2 (0 : Int32) (5 : Int32) s) = 0
    · rw [if_pos c2] at h
      have h := Option.some.inj h
      subst r
      exact ax_end 12 (Exists.intro (some (.int (M_in x1 (1 : Int32) (30 : Int32) s)), s) (And.intro (e_M_in d x1 (1 : Int32) (30 : Int32) s) (And.intro (fun q => absurd q c1) (fun _ => (Exists.intro (some (.int (M_in x2 (0 : Int32) (5 : Int32) s)), s) (And.intro (e_M_in d x2 (0 : Int32) (5 : Int32) s) (And.intro (fun q => absurd c2 q) (fun _ => rfl))))))))
    · rw [if_neg c2] at h
      by_cases c3 : x1 ≤ (s.2.1 64 288)
      · rw [if_pos c3] at h
        refine ax_cut (pc' := 36) (la := [some (.ref 63), some (.int x1), some (.int x2)]) [some (.ref 63), some (.int x1), some (.int x2)] (st' := []) (σ' := s) 16 (And.intro rfl (And.intro rfl (And.intro rfl (trivial)))) (fun _ hh => (Exists.intro (some (.int (M_in x1 (1 : Int32) (30 : Int32) s)), s) (And.intro (e_M_in d x1 (1 : Int32) (30 : Int32) s) (And.intro (fun q => absurd q c1) (fun _ => (Exists.intro (some (.int (M_in x2 (0 : Int32) (5 : Int32) s)), s) (And.intro (e_M_in d x2 (0 : Int32) (5 : Int32) s) (And.intro (fun _ => (And.intro (show ¬ ((288 : Int32) < 0 ∨ 291 ≤ ((288 : Int32)).toNatClampNeg) by decide) (And.intro (fun _ => hh) (fun q => absurd c3 q)))) (fun q => absurd c2 q))))))))) ?_
        refine ax_cut (pc' := 61) (la := [some (.ref 63), some (.int x1), some (.int x2)]) [none, none, none] (st' := [.int (((108 : Int32) + ((30 : Int32) * x2)) + (((s.2.1 64 288) - x1) - ((s.2.1 64 288) - x1) / (30 : Int32) * (30 : Int32))), .ref 64]) (σ' := s) 16 (trivial) (fun _ hh => (And.intro (show ¬ ((288 : Int32) < 0 ∨ 291 ≤ ((288 : Int32)).toNatClampNeg) by decide) (And.intro (show ¬ (30 : Int32) = 0 by decide) hh))) ?_
        by_cases c4 : ((((108 : Int32) + ((30 : Int32) * x2)) + (((s.2.1 64 288) - x1) - ((s.2.1 64 288) - x1) / (30 : Int32) * (30 : Int32))) < 0 ∨ 291 ≤ ((((108 : Int32) + ((30 : Int32) * x2)) + (((s.2.1 64 288) - x1) - ((s.2.1 64 288) - x1) / (30 : Int32) * (30 : Int32)))).toNatClampNeg)
        · rw [if_pos c4] at h; cases h
        · rw [if_neg c4] at h
          have h := Option.some.inj h
          subst r
          exact ax_end 2 (And.intro c4 rfl)
      · rw [if_neg c3] at h
        refine ax_cut (pc' := 33) (la := [some (.ref 63), some (.int x1), some (.int x2)]) [none, none, none] (st' := []) (σ' := s) 16 (trivial) (fun _ hh => (Exists.intro (some (.int (M_in x1 (1 : Int32) (30 : Int32) s)), s) (And.intro (e_M_in d x1 (1 : Int32) (30 : Int32) s) (And.intro (fun q => absurd q c1) (fun _ => (Exists.intro (some (.int (M_in x2 (0 : Int32) (5 : Int32) s)), s) (And.intro (e_M_in d x2 (0 : Int32) (5 : Int32) s) (And.intro (fun _ => (And.intro (show ¬ ((288 : Int32) < 0 ∨ 291 ≤ ((288 : Int32)).toNatClampNeg) by decide) (And.intro (fun q => absurd q c3) (fun _ => hh)))) (fun q => absurd c2 q))))))))) ?_
        have h := Option.some.inj h
        subst r
        exact ax_end 2 rfl
def XTa_byteAt (x1 : Int32)  (s : ax_S) : Option (Int32) :=
  if x1 < 0 then (
    some (-1 : Int32)) else
  if (s.2.1 1 1) ≤ x1 then (
    some (-1 : Int32)) else
  if (260 : Int32) ≤ x1 then (
    some (-1 : Int32)) else
  if (x1 < 0 ∨ 260 ≤ (x1).toNatClampNeg) then none else
  some (s.2.1 2 (x1).toNatClampNeg)
theorem e_XTa_byteAt (d : Nat) {x1 : Int32} {s : ax_S} {r : Int32} (h : XTa_byteAt x1 s = some r) : ax_ev true (d + 1) 149 [.ref 1, .int x1] s (some (.int r), s) := by
  refine ⟨Nat.le_of_ble_eq_true rfl, ?_⟩
  show ax_go true none (ax_ev true (d + 0)) ax_m149 0 [some (.ref 1), some (.int x1)] [] s _
  unfold XTa_byteAt at h
  by_cases c1 : x1 < 0
  · rw [if_pos c1] at h
    have h := Option.some.inj h
    subst r
    exact ax_end 4 (And.intro (fun _ => rfl) (fun q => absurd c1 q))
  · rw [if_neg c1] at h
    by_cases c2 : (s.2.1 1 1) ≤ x1
    · rw [if_pos c2] at h
      have h := Option.some.inj h
      subst r
      exact ax_end 8 (And.intro (fun q => absurd q c1) (fun _ => (And.intro (fun _ => rfl) (fun q => absurd c2 q))))
    · rw [if_neg c2] at h
      by_cases c3 : (260 : Int32) ≤ x1
      · rw [if_pos c3] at h
        have h := Option.some.inj h
        subst r
        exact ax_end 13 (And.intro (fun q => absurd q c1) (fun _ => (And.intro (fun q => absurd q c2) (fun _ => (And.intro (fun _ => rfl) (fun q => absurd c3 q))))))
      · rw [if_neg c3] at h
        by_cases c4 : (x1 < 0 ∨ 260 ≤ (x1).toNatClampNeg)
        · rw [if_pos c4] at h; cases h
        · rw [if_neg c4] at h
          refine ax_cut (pc' := 31) (la := [some (.ref 1), some (.int x1)]) [none, none] (st' := [.int (s.2.1 2 (x1).toNatClampNeg)]) (σ' := s) 16 (trivial) (fun _ hh => (And.intro (fun q => absurd q c1) (fun _ => (And.intro (fun q => absurd q c2) (fun _ => (And.intro (fun q => absurd q c3) (fun _ => (And.intro c4 hh)))))))) ?_
          have h := Option.some.inj h
          subst r
          exact ax_end 1 rfl
def XSh_readSizes_l2 : Nat → Int32 → Int32 → ax_S → Option (ax_S)
  | 0, _, _, _ => none
  | n + 1, x1, x2, s =>
    if x1 ≤ x2 then (
      some s) else
    if (10 : Int32) ≤ x2 then (
      some s) else
    match XTa_byteAt ((2 : Int32) * x2) s with
    | none => none
    | some v1 =>
      if (x2 < 0 ∨ 10 ≤ (x2).toNatClampNeg) then none else
      match XTa_byteAt (((2 : Int32) * x2) + (1 : Int32)) (ax_sI s 60 (x2).toNatClampNeg v1) with
      | none => none
      | some v2 =>
        if (x2 < 0 ∨ 10 ≤ (x2).toNatClampNeg) then none else
        XSh_readSizes_l2 n x1 (x2 + (1)) (ax_sI (ax_sI s 60 (x2).toNatClampNeg v1) 61 (x2).toNatClampNeg v2)
def XSh_readSizes (x1 : Int32)  (s : ax_S) : Option (ax_S) :=
  match XSh_readSizes_l2 70000 x1 (0 : Int32) s with
  | none => none
  | some s3 =>
    some s3
theorem w_XSh_readSizes_l2 (d : Nat) {o : ax_O} : ∀ (n : Nat) (x1 : Int32) (x2 : Int32) (s : ax_S) (r : ax_S) (h : XSh_readSizes_l2 n x1 x2 s = some r) (hk0 : ∀ (t0 : ax_S), r = t0 → ax_go true none (ax_ev true (d + 1)) ax_m148 53 [none, none, none] [] t0 o), ax_go true none (ax_ev true (d + 1)) ax_m148 2 [some (.ref 59), some (.int x1), some (.int x2)] [] s o := by
  intro n
  induction n with
  | zero => intro x1 x2 s r h hk0; cases h
  | succ n ih =>
    intro x1 x2 s r h hk0
    rw [XSh_readSizes_l2] at h
    by_cases c1 : x1 ≤ x2
    · rw [if_pos c1] at h
      have h := Option.some.inj h
      subst r
      exact ax_cut (pc' := 53) (la := [some (.ref 59), some (.int x1), some (.int x2)]) [none, none, none] (st' := []) (σ' := s) 3 (trivial) (fun _ hh => (And.intro (fun _ => hh) (fun q => absurd c1 q))) (hk0 _ rfl)
    · rw [if_neg c1] at h
      by_cases c2 : (10 : Int32) ≤ x2
      · rw [if_pos c2] at h
        have h := Option.some.inj h
        subst r
        exact ax_cut (pc' := 53) (la := [some (.ref 59), some (.int x1), some (.int x2)]) [none, none, none] (st' := []) (σ' := s) 6 (trivial) (fun _ hh => (And.intro (fun q => absurd q c1) (fun _ => (And.intro (fun _ => hh) (fun q => absurd c2 q))))) (hk0 _ rfl)
      · rw [if_neg c2] at h
        cases hz3 : XTa_byteAt ((2 : Int32) * x2) s with
        | none => rw [hz3] at h; cases h
        | some v1 =>
        rw [hz3] at h
        dsimp only at h
        by_cases c4 : (x2 < 0 ∨ 10 ≤ (x2).toNatClampNeg)
        · rw [if_pos c4] at h; cases h
        · rw [if_neg c4] at h
          refine ax_cut (pc' := 29) (la := [some (.ref 59), some (.int x1), some (.int x2)]) [some (.ref 59), some (.int x1), some (.int x2)] (st' := []) (σ' := (ax_sI s 60 (x2).toNatClampNeg v1)) 16 (And.intro rfl (And.intro rfl (And.intro rfl (trivial)))) (fun _ hh => (And.intro (fun q => absurd q c1) (fun _ => (And.intro (fun q => absurd q c2) (fun _ => (Exists.intro (some (.int v1), s) (And.intro (e_XTa_byteAt d hz3) (And.intro c4 hh)))))))) ?_
          cases hz5 : XTa_byteAt (((2 : Int32) * x2) + (1 : Int32)) (ax_sI s 60 (x2).toNatClampNeg v1) with
          | none => rw [hz5] at h; cases h
          | some v2 =>
          rw [hz5] at h
          dsimp only at h
          by_cases c6 : (x2 < 0 ∨ 10 ≤ (x2).toNatClampNeg)
          · rw [if_pos c6] at h; cases h
          · rw [if_neg c6] at h
            exact ax_cut (pc' := 2) (la := [some (.ref 59), some (.int x1), some (.int (x2 + (1)))]) [some (.ref 59), some (.int x1), some (.int (x2 + (1)))] (st' := []) (σ' := (ax_sI (ax_sI s 60 (x2).toNatClampNeg v1) 61 (x2).toNatClampNeg v2)) 14 (And.intro rfl (And.intro rfl (And.intro rfl (trivial)))) (fun _ hh => (Exists.intro (some (.int v2), (ax_sI s 60 (x2).toNatClampNeg v1)) (And.intro (e_XTa_byteAt d hz5) (And.intro c6 hh)))) (ih x1 (x2 + (1)) (ax_sI (ax_sI s 60 (x2).toNatClampNeg v1) 61 (x2).toNatClampNeg v2) _ h hk0)
theorem e_XSh_readSizes (d : Nat) {x1 : Int32} {s : ax_S} {r : ax_S} (h : XSh_readSizes x1 s = some r) : ax_ev true (d + 2) 148 [.ref 59, .int x1] s (none, r) := by
  refine ⟨Nat.le_of_ble_eq_true rfl, ?_⟩
  show ax_go true none (ax_ev true (d + 1)) ax_m148 0 [some (.ref 59), some (.int x1), none] [] s _
  unfold XSh_readSizes at h
  cases hz1 : XSh_readSizes_l2 70000 x1 (0 : Int32) s with
  | none => rw [hz1] at h; cases h
  | some z1 =>
  rw [hz1] at h
  refine ax_cut (pc' := 2) (la := [some (.ref 59), some (.int x1), some (.int (0 : Int32))]) [some (.ref 59), some (.int x1), some (.int (0 : Int32))] (st' := []) (σ' := s) 2 (And.intro rfl (And.intro rfl (And.intro rfl (trivial)))) (fun _ hh => hh) (w_XSh_readSizes_l2 d 70000 x1 (0 : Int32) s _ hz1 ?_)
  · intro s3 hq
    subst z1
    dsimp only at h
    have h := Option.some.inj h
    subst r
    exact ax_end 1 rfl
def XSh_bitOf_l4 : Nat → Int32 → Int32 → Int32 → Int32 → ax_S → Option (Int32)
  | 0, _, _, _, _, _ => none
  | n + 1, x0, x1, x2, x3, s =>
    if (6 : Int32) ≤ x3 then (
      some (0 : Int32)) else
    if ((x0 >>> (x3 &&& 31)) &&& (1 : Int32)) = (1 : Int32) then (
      if x2 = x1 then (
        some x3) else
      XSh_bitOf_l4 n x0 x1 (x2 + (1)) (x3 + (1)) s) else
    XSh_bitOf_l4 n x0 x1 x2 (x3 + (1)) s
def XSh_bitOf (x0 : Int32) (x1 : Int32)  (s : ax_S) : Option (Int32) :=
  match XSh_bitOf_l4 70000 x0 x1 (0 : Int32) (0 : Int32) s with
  | none => none
  | some r => some r
theorem w_XSh_bitOf_l4 (d : Nat) {o : ax_O} : ∀ (n : Nat) (x0 : Int32) (x1 : Int32) (x2 : Int32) (x3 : Int32) (s : ax_S) (r : Int32) (h : XSh_bitOf_l4 n x0 x1 x2 x3 s = some r) (hkr : ∀ q, r = q → o = (some (.int q), s)), ax_go true none (ax_ev true (d + 0)) ax_m151 4 [some (.int x0), some (.int x1), some (.int x2), some (.int x3)] [] s o := by
  intro n
  induction n with
  | zero => intro x0 x1 x2 x3 s r h hkr; cases h
  | succ n ih =>
    intro x0 x1 x2 x3 s r h hkr
    rw [XSh_bitOf_l4] at h
    by_cases c1 : (6 : Int32) ≤ x3
    · rw [if_pos c1] at h
      have h := Option.some.inj h
      subst r
      exact ax_end 5 (And.intro (fun _ => (hkr _ rfl)) (fun q => absurd c1 q))
    · rw [if_neg c1] at h
      by_cases c2 : ((x0 >>> (x3 &&& 31)) &&& (1 : Int32)) = (1 : Int32)
      · rw [if_pos c2] at h
        by_cases c3 : x2 = x1
        · rw [if_pos c3] at h
          have h := Option.some.inj h
          subst r
          exact ax_end 15 (And.intro (fun q => absurd q c1) (fun _ => (And.intro (fun q => absurd c2 q) (fun _ => (And.intro (fun q => absurd c3 q) (fun _ => (hkr _ rfl)))))))
        · rw [if_neg c3] at h
          exact ax_cut (pc' := 4) (la := [some (.int x0), some (.int x1), some (.int (x2 + (1))), some (.int (x3 + (1)))]) [some (.int x0), some (.int x1), some (.int (x2 + (1))), some (.int (x3 + (1)))] (st' := []) (σ' := s) 16 (And.intro rfl (And.intro rfl (And.intro rfl (And.intro rfl (trivial))))) (fun _ hh => (And.intro (fun q => absurd q c1) (fun _ => (And.intro (fun q => absurd c2 q) (fun _ => (And.intro (fun _ => hh) (fun q => absurd c3 q))))))) (ih x0 x1 (x2 + (1)) (x3 + (1)) s _ h hkr)
      · rw [if_neg c2] at h
        exact ax_cut (pc' := 4) (la := [some (.int x0), some (.int x1), some (.int x2), some (.int (x3 + (1)))]) [some (.int x0), some (.int x1), some (.int x2), some (.int (x3 + (1)))] (st' := []) (σ' := s) 12 (And.intro rfl (And.intro rfl (And.intro rfl (And.intro rfl (trivial))))) (fun _ hh => (And.intro (fun q => absurd q c1) (fun _ => (And.intro (fun _ => hh) (fun q => absurd c2 q))))) (ih x0 x1 x2 (x3 + (1)) s _ h hkr)
theorem e_XSh_bitOf (d : Nat) {x0 : Int32} {x1 : Int32} {s : ax_S} {r : Int32} (h : XSh_bitOf x0 x1 s = some r) : ax_ev true (d + 1) 151 [.int x0, .int x1] s (some (.int r), s) := by
  refine ⟨Nat.le_of_ble_eq_true rfl, ?_⟩
  show ax_go true none (ax_ev true (d + 0)) ax_m151 0 [some (.int x0), some (.int x1), none, none] [] s _
  unfold XSh_bitOf at h
  cases hz1 : XSh_bitOf_l4 70000 x0 x1 (0 : Int32) (0 : Int32) s with
  | none => rw [hz1] at h; cases h
  | some z1 =>
  rw [hz1] at h
  refine ax_cut (pc' := 4) (la := [some (.int x0), some (.int x1), some (.int (0 : Int32)), some (.int (0 : Int32))]) [some (.int x0), some (.int x1), some (.int (0 : Int32)), some (.int (0 : Int32))] (st' := []) (σ' := s) 4 (And.intro rfl (And.intro rfl (And.intro rfl (And.intro rfl (trivial))))) (fun _ hh => hh) (w_XSh_bitOf_l4 d 70000 x0 x1 (0 : Int32) (0 : Int32) s _ hz1 ?_)
  · intro q hq
    subst z1
    dsimp only at h
    cases h
    rfl
def XSh_pasteNext_j94 (x1 : Int32) (y0 : Int32)  (s : ax_S) : ax_S :=
  if (12 : Int32) < y0 then (
    (ax_sI (ax_sI s 59 7 ((s.2.1 59 7) + (1 : Int32))) 59 5 (0 : Int32))) else
  (ax_sI s 59 5 ((s.2.1 59 5) + (s.2.1 59 6)))
def XSh_pasteNext_j94_1 (x1 : Int32) (y0 : Int32)  (s : ax_S) : ax_S :=
  if (12 : Int32) < y0 then (
    (ax_sI (ax_sI s 59 7 ((s.2.1 59 7) + (1 : Int32))) 59 5 (0 : Int32))) else
  (ax_sI s 59 5 ((s.2.1 59 5) + (s.2.1 59 6)))
def XSh_pasteNext (x1 : Int32)  (s : ax_S) : Option (ax_S) :=
  if x1 < 0 then (
    some s) else
  if x1 < (10 : Int32) then (
    if (x1 < 0 ∨ 10 ≤ (x1).toNatClampNeg) then none else
    if (16 : Int32) < ((s.2.1 59 4) + (s.2.1 60 (x1).toNatClampNeg)) then (
      if (x1 < 0 ∨ 10 ≤ (x1).toNatClampNeg) then none else
      if (x1 < 0 ∨ 10 ≤ (x1).toNatClampNeg) then none else
      if (x1 < 0 ∨ 10 ≤ (x1).toNatClampNeg) then none else
      some (ax_sI (ax_sI (XSh_pasteNext_j94 x1 (((s.2.1 59 5) + (s.2.1 59 6)) + (s.2.1 61 (x1).toNatClampNeg)) s) 59 4 ((XSh_pasteNext_j94 x1 (((s.2.1 59 5) + (s.2.1 59 6)) + (s.2.1 61 (x1).toNatClampNeg)) s).2.1 60 (x1).toNatClampNeg)) 59 6 ((XSh_pasteNext_j94 x1 (((s.2.1 59 5) + (s.2.1 59 6)) + (s.2.1 61 (x1).toNatClampNeg)) s).2.1 61 (x1).toNatClampNeg))) else
    if (x1 < 0 ∨ 10 ≤ (x1).toNatClampNeg) then none else
    if (12 : Int32) < ((s.2.1 59 5) + (s.2.1 61 (x1).toNatClampNeg)) then (
      if (x1 < 0 ∨ 10 ≤ (x1).toNatClampNeg) then none else
      if (x1 < 0 ∨ 10 ≤ (x1).toNatClampNeg) then none else
      if (x1 < 0 ∨ 10 ≤ (x1).toNatClampNeg) then none else
      some (ax_sI (ax_sI (XSh_pasteNext_j94_1 x1 (((s.2.1 59 5) + (s.2.1 59 6)) + (s.2.1 61 (x1).toNatClampNeg)) s) 59 4 ((XSh_pasteNext_j94_1 x1 (((s.2.1 59 5) + (s.2.1 59 6)) + (s.2.1 61 (x1).toNatClampNeg)) s).2.1 60 (x1).toNatClampNeg)) 59 6 ((XSh_pasteNext_j94_1 x1 (((s.2.1 59 5) + (s.2.1 59 6)) + (s.2.1 61 (x1).toNatClampNeg)) s).2.1 61 (x1).toNatClampNeg))) else
    if (x1 < 0 ∨ 10 ≤ (x1).toNatClampNeg) then none else
    if (x1 < 0 ∨ 10 ≤ (x1).toNatClampNeg) then none else
    some (ax_sI (ax_sI s 59 4 ((s.2.1 59 4) + (s.2.1 60 (x1).toNatClampNeg))) 59 6 (if (s.2.1 59 6) < (s.2.1 61 (x1).toNatClampNeg) then (s.2.1 61 (x1).toNatClampNeg) else (s.2.1 59 6)))) else
  some s
theorem w_XSh_pasteNext_j94 (d : Nat) {o : ax_O} (x1 : Int32) (y0 : Int32) (s : ax_S) (r : ax_S) (h : XSh_pasteNext_j94 x1 y0 s = r) (hk0 : ∀ (t0 : ax_S), r = t0 → ax_go true none (ax_ev true (d + 0)) ax_m152 128 [some (.ref 59), some (.int x1)] [] t0 o) : ax_go true none (ax_ev true (d + 0)) ax_m152 94 [some (.ref 59), some (.int x1)] [.int (12 : Int32), .int y0] s o := by
  unfold XSh_pasteNext_j94 at h
  by_cases c1 : (12 : Int32) < y0
  · rw [if_pos c1] at h
    have h := h
    subst r
    exact ax_cut (pc' := 128) (la := [some (.ref 59), some (.int x1)]) [some (.ref 59), some (.int x1)] (st' := []) (σ' := (ax_sI (ax_sI s 59 7 ((s.2.1 59 7) + (1 : Int32))) 59 5 (0 : Int32))) 10 (And.intro rfl (And.intro rfl (trivial))) (fun _ hh => (And.intro (fun _ => hh) (fun q => absurd c1 q))) (hk0 _ rfl)
  · rw [if_neg c1] at h
    have h := h
    subst r
    exact ax_cut (pc' := 128) (la := [some (.ref 59), some (.int x1)]) [some (.ref 59), some (.int x1)] (st' := []) (σ' := (ax_sI s 59 5 ((s.2.1 59 5) + (s.2.1 59 6)))) 9 (And.intro rfl (And.intro rfl (trivial))) (fun _ hh => (And.intro (fun q => absurd q c1) (fun _ => hh))) (hk0 _ rfl)
theorem w_XSh_pasteNext_j94_1 (d : Nat) {o : ax_O} (x1 : Int32) (y0 : Int32) (s : ax_S) (r : ax_S) (h : XSh_pasteNext_j94_1 x1 y0 s = r) (hk0 : ∀ (t0 : ax_S), r = t0 → ax_go true none (ax_ev true (d + 0)) ax_m152 128 [some (.ref 59), some (.int x1)] [] t0 o) : ax_go true none (ax_ev true (d + 0)) ax_m152 94 [some (.ref 59), some (.int x1)] [.int (12 : Int32), .int y0] s o := by
  unfold XSh_pasteNext_j94_1 at h
  by_cases c1 : (12 : Int32) < y0
  · rw [if_pos c1] at h
    have h := h
    subst r
    exact ax_cut (pc' := 128) (la := [some (.ref 59), some (.int x1)]) [some (.ref 59), some (.int x1)] (st' := []) (σ' := (ax_sI (ax_sI s 59 7 ((s.2.1 59 7) + (1 : Int32))) 59 5 (0 : Int32))) 10 (And.intro rfl (And.intro rfl (trivial))) (fun _ hh => (And.intro (fun _ => hh) (fun q => absurd c1 q))) (hk0 _ rfl)
  · rw [if_neg c1] at h
    have h := h
    subst r
    exact ax_cut (pc' := 128) (la := [some (.ref 59), some (.int x1)]) [some (.ref 59), some (.int x1)] (st' := []) (σ' := (ax_sI s 59 5 ((s.2.1 59 5) + (s.2.1 59 6)))) 9 (And.intro rfl (And.intro rfl (trivial))) (fun _ hh => (And.intro (fun q => absurd q c1) (fun _ => hh))) (hk0 _ rfl)
theorem e_XSh_pasteNext (d : Nat) {x1 : Int32} {s : ax_S} {r : ax_S} (h : XSh_pasteNext x1 s = some r) : ax_ev true (d + 1) 152 [.ref 59, .int x1] s (none, r) := by
  refine ⟨Nat.le_of_ble_eq_true rfl, ?_⟩
  show ax_go true none (ax_ev true (d + 0)) ax_m152 0 [some (.ref 59), some (.int x1)] [] s _
  unfold XSh_pasteNext at h
  by_cases c1 : x1 < 0
  · rw [if_pos c1] at h
    have h := Option.some.inj h
    subst r
    exact ax_end 3 (And.intro (fun _ => rfl) (fun q => absurd c1 q))
  · rw [if_neg c1] at h
    by_cases c2 : x1 < (10 : Int32)
    · rw [if_pos c2] at h
      by_cases c3 : (x1 < 0 ∨ 10 ≤ (x1).toNatClampNeg)
      · rw [if_pos c3] at h; cases h
      · rw [if_neg c3] at h
        by_cases c4 : (16 : Int32) < ((s.2.1 59 4) + (s.2.1 60 (x1).toNatClampNeg))
        · rw [if_pos c4] at h
          refine ax_cut (pc' := 80) (la := [some (.ref 59), some (.int x1)]) [some (.ref 59), some (.int x1)] (st' := [.int (s.2.1 59 5)]) (σ' := s) 16 (And.intro rfl (And.intro rfl (trivial))) (fun _ hh => (And.intro (fun q => absurd q c1) (fun _ => (And.intro (fun _ => (And.intro c3 (And.intro (fun _ => hh) (fun q => absurd c4 q)))) (fun q => absurd c2 q))))) ?_
          by_cases c5 : (x1 < 0 ∨ 10 ≤ (x1).toNatClampNeg)
          · rw [if_pos c5] at h; cases h
          · rw [if_neg c5] at h
            refine ax_cut (pc' := 94) (la := [some (.ref 59), some (.int x1)]) [some (.ref 59), some (.int x1)] (st' := [.int (12 : Int32), .int (((s.2.1 59 5) + (s.2.1 59 6)) + (s.2.1 61 (x1).toNatClampNeg))]) (σ' := s) 9 (And.intro rfl (And.intro rfl (trivial))) (fun _ hh => (And.intro c5 hh)) (w_XSh_pasteNext_j94 d x1 (((s.2.1 59 5) + (s.2.1 59 6)) + (s.2.1 61 (x1).toNatClampNeg)) s _ rfl (fun s1 hq => ?_))
            obtain rfl : s1 = (XSh_pasteNext_j94 x1 (((s.2.1 59 5) + (s.2.1 59 6)) + (s.2.1 61 (x1).toNatClampNeg)) s) := hq.symm
            by_cases c6 : (x1 < 0 ∨ 10 ≤ (x1).toNatClampNeg)
            · rw [if_pos c6] at h; cases h
            · rw [if_neg c6] at h
              by_cases c7 : (x1 < 0 ∨ 10 ≤ (x1).toNatClampNeg)
              · rw [if_pos c7] at h; cases h
              · rw [if_neg c7] at h
                have h := Option.some.inj h
                subst r
                exact ax_end 13 (And.intro c6 (And.intro c7 rfl))
        · rw [if_neg c4] at h
          refine ax_cut (pc' := 31) (la := [some (.ref 59), some (.int x1)]) [some (.ref 59), some (.int x1)] (st' := [.int (s.2.1 59 5)]) (σ' := s) 16 (And.intro rfl (And.intro rfl (trivial))) (fun _ hh => (And.intro (fun q => absurd q c1) (fun _ => (And.intro (fun _ => (And.intro c3 (And.intro (fun q => absurd q c4) (fun _ => hh)))) (fun q => absurd c2 q))))) ?_
          by_cases c8 : (x1 < 0 ∨ 10 ≤ (x1).toNatClampNeg)
          · rw [if_pos c8] at h; cases h
          · rw [if_neg c8] at h
            by_cases c9 : (12 : Int32) < ((s.2.1 59 5) + (s.2.1 61 (x1).toNatClampNeg))
            · rw [if_pos c9] at h
              by_cases c10 : (x1 < 0 ∨ 10 ≤ (x1).toNatClampNeg)
              · rw [if_pos c10] at h; cases h
              · rw [if_neg c10] at h
                refine ax_cut (pc' := 91) (la := [some (.ref 59), some (.int x1)]) [some (.ref 59), some (.int x1)] (st' := [.int (s.2.1 61 (x1).toNatClampNeg), .int ((s.2.1 59 5) + (s.2.1 59 6))]) (σ' := s) 16 (And.intro rfl (And.intro rfl (trivial))) (fun _ hh => (And.intro c8 (And.intro (fun _ => (And.intro c10 hh)) (fun q => absurd c9 q)))) ?_
                refine ax_cut (pc' := 94) (la := [some (.ref 59), some (.int x1)]) [some (.ref 59), some (.int x1)] (st' := [.int (12 : Int32), .int (((s.2.1 59 5) + (s.2.1 59 6)) + (s.2.1 61 (x1).toNatClampNeg))]) (σ' := s) 2 (And.intro rfl (And.intro rfl (trivial))) (fun _ hh => hh) (w_XSh_pasteNext_j94_1 d x1 (((s.2.1 59 5) + (s.2.1 59 6)) + (s.2.1 61 (x1).toNatClampNeg)) s _ rfl (fun s2 hq => ?_))
                obtain rfl : s2 = (XSh_pasteNext_j94_1 x1 (((s.2.1 59 5) + (s.2.1 59 6)) + (s.2.1 61 (x1).toNatClampNeg)) s) := hq.symm
                by_cases c11 : (x1 < 0 ∨ 10 ≤ (x1).toNatClampNeg)
                · rw [if_pos c11] at h; cases h
                · rw [if_neg c11] at h
                  by_cases c12 : (x1 < 0 ∨ 10 ≤ (x1).toNatClampNeg)
                  · rw [if_pos c12] at h; cases h
                  · rw [if_neg c12] at h
                    have h := Option.some.inj h
                    subst r
                    exact ax_end 13 (And.intro c11 (And.intro c12 rfl))
            · rw [if_neg c9] at h
              by_cases c13 : (x1 < 0 ∨ 10 ≤ (x1).toNatClampNeg)
              · rw [if_pos c13] at h; cases h
              · rw [if_neg c13] at h
                refine ax_cut (pc' := 58) (la := [some (.ref 59), some (.int x1)]) [some (.ref 59), some (.int x1)] (st' := []) (σ' := (ax_sI s 59 4 ((s.2.1 59 4) + (s.2.1 60 (x1).toNatClampNeg)))) 16 (And.intro rfl (And.intro rfl (trivial))) (fun _ hh => (And.intro c8 (And.intro (fun q => absurd q c9) (fun _ => (And.intro c13 hh))))) ?_
                by_cases c14 : (x1 < 0 ∨ 10 ≤ (x1).toNatClampNeg)
                · rw [if_pos c14] at h; cases h
                · rw [if_neg c14] at h
                  have h := Option.some.inj h
                  subst r
                  exact ax_end 10 (And.intro c14 rfl)
    · rw [if_neg c2] at h
      have h := Option.some.inj h
      subst r
      exact ax_end 6 (And.intro (fun q => absurd q c1) (fun _ => (And.intro (fun q => absurd q c2) (fun _ => rfl))))
def XSh_pagesInOrder_l32 : Nat → Int32 → Int32 → Int32 → ax_S → Option (ax_S)
  | 0, _, _, _, _ => none
  | n + 1, x3, x4, x5, s =>
    if x5 < (1 : Int32) then (
      some s) else
    if x5 = 0 then none else
    match XSh_bitOf x3 (x4 - x4 / x5 * x5) s with
    | none => none
    | some v1 =>
      if x5 = 0 then none else
      match XSh_pasteNext v1 s with
      | none => none
      | some s2 =>
        XSh_pagesInOrder_l32 n (x3 &&& (((1 : Int32) <<< (v1 &&& 31)) ^^^ (-1 : Int32))) (x4 / x5) (x5 + Int32.ofInt (-1)) s2
def XSh_pagesInOrder (x1 : Int32) (x2 : Int32)  (s : ax_S) : Option (Int32 × ax_S) :=
  match XSh_pagesInOrder_l32 70000 (((1 : Int32) <<< (x1 &&& 31)) - (1 : Int32)) x2 x1 (ax_sI (ax_sI (ax_sI (ax_sI s 59 4 (0 : Int32)) 59 5 (0 : Int32)) 59 6 (0 : Int32)) 59 7 (1 : Int32)) with
  | none => none
  | some s4 =>
    some ((s4.2.1 59 7), s4)
theorem w_XSh_pagesInOrder_l32 (d : Nat) {o : ax_O} : ∀ (n : Nat) (x3 : Int32) (x4 : Int32) (x5 : Int32) (s : ax_S) (r : ax_S) (h : XSh_pagesInOrder_l32 n x3 x4 x5 s = some r) (hk0 : ∀ (t0 : ax_S), r = t0 → ax_go true none (ax_ev true (d + 1)) ax_m150 77 [some (.ref 59), none, none, none, none, none, none] [] t0 o), ax_go true none (ax_ev true (d + 1)) ax_m150 32 [some (.ref 59), none, none, some (.int x3), some (.int x4), some (.int x5), none] [] s o := by
  intro n
  induction n with
  | zero => intro x3 x4 x5 s r h hk0; cases h
  | succ n ih =>
    intro x3 x4 x5 s r h hk0
    rw [XSh_pagesInOrder_l32] at h
    by_cases c1 : x5 < (1 : Int32)
    · rw [if_pos c1] at h
      have h := Option.some.inj h
      subst r
      exact ax_cut (pc' := 77) (la := [some (.ref 59), none, none, some (.int x3), some (.int x4), some (.int x5), none]) [some (.ref 59), none, none, none, none, none, none] (st' := []) (σ' := s) 3 (And.intro rfl (trivial)) (fun _ hh => (And.intro (fun _ => hh) (fun q => absurd c1 q))) (hk0 _ rfl)
    · rw [if_neg c1] at h
      by_cases c2 : x5 = 0
      · rw [if_pos c2] at h; cases h
      · rw [if_neg c2] at h
        cases hz3 : XSh_bitOf x3 (x4 - x4 / x5 * x5) s with
        | none => rw [hz3] at h; cases h
        | some v1 =>
        rw [hz3] at h
        dsimp only at h
        by_cases c4 : x5 = 0
        · rw [if_pos c4] at h; cases h
        · rw [if_neg c4] at h
          refine ax_cut (pc' := 60) (la := [some (.ref 59), none, none, some (.int x3), some (.int (x4 / x5)), some (.int x5), some (.int v1)]) [some (.ref 59), none, none, none, some (.int (x4 / x5)), some (.int x5), some (.int v1)] (st' := [.int v1, .int (1 : Int32), .int x3]) (σ' := s) 16 (And.intro rfl (And.intro rfl (And.intro rfl (And.intro rfl (trivial))))) (fun _ hh => (And.intro (fun q => absurd q c1) (fun _ => (And.intro c2 (Exists.intro (some (.int v1), s) (And.intro (e_XSh_bitOf d hz3) (And.intro c4 hh))))))) ?_
          cases hz5 : XSh_pasteNext v1 s with
          | none => rw [hz5] at h; cases h
          | some s2 =>
          rw [hz5] at h
          dsimp only at h
          refine ax_cut (pc' := 71) (la := [some (.ref 59), none, none, some (.int (x3 &&& (((1 : Int32) <<< (v1 &&& 31)) ^^^ (-1 : Int32)))), some (.int (x4 / x5)), some (.int x5), some (.int v1)]) [some (.ref 59), none, none, some (.int (x3 &&& (((1 : Int32) <<< (v1 &&& 31)) ^^^ (-1 : Int32)))), some (.int (x4 / x5)), some (.int x5), none] (st' := []) (σ' := s2) 8 (And.intro rfl (And.intro rfl (And.intro rfl (And.intro rfl (trivial))))) (fun _ hh => (Exists.intro (none, s2) (And.intro (e_XSh_pasteNext d hz5) hh))) ?_
          obtain ⟨w3, hw3⟩ : ∃ w, w = x5 + Int32.ofInt (-1) := ⟨_, rfl⟩
          refine ax_iincK (ls' := [some (.ref 59), none, none, some (.int (x3 &&& (((1 : Int32) <<< (v1 &&& 31)) ^^^ (-1 : Int32)))), some (.int (x4 / x5)), some (.int w3), none]) (w := w3) rfl rfl hw3 rfl ?_
          subst hw3
          exact ax_cut (pc' := 32) (la := [some (.ref 59), none, none, some (.int (x3 &&& (((1 : Int32) <<< (v1 &&& 31)) ^^^ (-1 : Int32)))), some (.int (x4 / x5)), some (.int (x5 + Int32.ofInt (-1))), none]) [some (.ref 59), none, none, some (.int (x3 &&& (((1 : Int32) <<< (v1 &&& 31)) ^^^ (-1 : Int32)))), some (.int (x4 / x5)), some (.int (x5 + Int32.ofInt (-1))), none] (st' := []) (σ' := s2) 1 (And.intro rfl (And.intro rfl (And.intro rfl (And.intro rfl (trivial))))) (fun _ hh => hh) (ih (x3 &&& (((1 : Int32) <<< (v1 &&& 31)) ^^^ (-1 : Int32))) (x4 / x5) (x5 + Int32.ofInt (-1)) s2 _ h hk0)
theorem e_XSh_pagesInOrder (d : Nat) {x1 : Int32} {x2 : Int32} {s : ax_S} {r : Int32 × ax_S} (h : XSh_pagesInOrder x1 x2 s = some r) : ax_ev true (d + 2) 150 [.ref 59, .int x1, .int x2] s (some (.int r.1), r.2) := by
  refine ⟨Nat.le_of_ble_eq_true rfl, ?_⟩
  show ax_go true none (ax_ev true (d + 1)) ax_m150 0 [some (.ref 59), some (.int x1), some (.int x2), none, none, none, none] [] s _
  unfold XSh_pagesInOrder at h
  refine ax_cut (pc' := 24) (la := [some (.ref 59), some (.int x1), some (.int x2), none, none, none, none]) [some (.ref 59), some (.int x1), some (.int x2), none, none, none, none] (st' := [.int (1 : Int32), .int ((1 : Int32) <<< (x1 &&& 31))]) (σ' := (ax_sI (ax_sI (ax_sI (ax_sI s 59 4 (0 : Int32)) 59 5 (0 : Int32)) 59 6 (0 : Int32)) 59 7 (1 : Int32))) 16 (And.intro rfl (And.intro rfl (And.intro rfl (trivial)))) (fun _ hh => hh) ?_
  cases hz1 : XSh_pagesInOrder_l32 70000 (((1 : Int32) <<< (x1 &&& 31)) - (1 : Int32)) x2 x1 (ax_sI (ax_sI (ax_sI (ax_sI s 59 4 (0 : Int32)) 59 5 (0 : Int32)) 59 6 (0 : Int32)) 59 7 (1 : Int32)) with
  | none => rw [hz1] at h; cases h
  | some z1 =>
  rw [hz1] at h
  refine ax_cut (pc' := 32) (la := [some (.ref 59), some (.int x1), some (.int x2), some (.int (((1 : Int32) <<< (x1 &&& 31)) - (1 : Int32))), some (.int x2), some (.int x1), none]) [some (.ref 59), none, none, some (.int (((1 : Int32) <<< (x1 &&& 31)) - (1 : Int32))), some (.int x2), some (.int x1), none] (st' := []) (σ' := (ax_sI (ax_sI (ax_sI (ax_sI s 59 4 (0 : Int32)) 59 5 (0 : Int32)) 59 6 (0 : Int32)) 59 7 (1 : Int32))) 6 (And.intro rfl (And.intro rfl (And.intro rfl (And.intro rfl (trivial))))) (fun _ hh => hh) (w_XSh_pagesInOrder_l32 d 70000 (((1 : Int32) <<< (x1 &&& 31)) - (1 : Int32)) x2 x1 (ax_sI (ax_sI (ax_sI (ax_sI s 59 4 (0 : Int32)) 59 5 (0 : Int32)) 59 6 (0 : Int32)) 59 7 (1 : Int32)) _ hz1 ?_)
  · intro s4 hq
    subst z1
    dsimp only at h
    have h := Option.some.inj h
    subst r
    exact ax_end 3 rfl
def XSh_paste_l7 : Nat → Int32 → Int32 → Int32 → ax_S → Option ((Unit) ⊕ (Int32 × ax_S))
  | 0, _, _, _, _ => none
  | n + 1, x1, x2, x3, s =>
    if x1 ≤ x3 then (
      some (.inl ())) else
    if (10 : Int32) ≤ x3 then (
      some (.inl ())) else
    if (x3 < 0 ∨ 10 ≤ (x3).toNatClampNeg) then none else
    if (x3 < 0 ∨ 10 ≤ (x3).toNatClampNeg) then none else
    if (X_isOnPrint (0 : Int32) (0 : Int32) (s.2.1 60 (x3).toNatClampNeg) (s.2.1 61 (x3).toNatClampNeg) s) = 0 then (
      some (.inr ((-2 : Int32), s))) else
    XSh_paste_l7 n x1 x2 (x3 + (1)) s
def XSh_paste_l52 : Nat → Int32 → Int32 → Int32 → Int32 → ax_S → Option (Int32)
  | 0, _, _, _, _, _ => none
  | n + 1, x1, x2, x3, x4, s =>
    if x2 = 0 then (
      some x3) else
    if x1 < x4 then (
      some x3) else
    XSh_paste_l52 n x1 x2 (x3 * x4) (x4 + (1)) s
def XSh_paste_l79 : Nat → Int32 → Int32 → Int32 → Int32 → ax_S → Option (Int32 × ax_S)
  | 0, _, _, _, _, _ => none
  | n + 1, x1, x3, x4, x5, s =>
    if x3 ≤ x5 then (
      some (x4, s)) else
    match XSh_pagesInOrder x1 x5 s with
    | none => none
    | some (v3, s4) =>
      XSh_paste_l79 n x1 x3 (if v3 < x4 then v3 else x4) (x5 + (1)) s4
def XSh_paste (x1 : Int32) (x2 : Int32)  (s : ax_S) : Option (Int32 × ax_S) :=
  match XSh_readSizes x1 s with
  | none => none
  | some s1 =>
    match XSh_paste_l7 70000 x1 x2 (0 : Int32) s1 with
    | none => none
    | some (.inl _) =>
      match XSh_paste_l52 70000 x1 x2 (1 : Int32) (2 : Int32) s1 with
      | none => none
      | some v2 =>
        match XSh_paste_l79 70000 x1 v2 x1 (0 : Int32) s1 with
        | none => none
        | some (v5, s6) =>
          some (v5, s6)
    | some (.inr r) => some r
theorem w_XSh_paste_l7 (d : Nat) {o : ax_O} : ∀ (n : Nat) (x1 : Int32) (x2 : Int32) (x3 : Int32) (s : ax_S) (r : (Unit) ⊕ (Int32 × ax_S)) (h : XSh_paste_l7 n x1 x2 x3 s = some r) (hk0 : r = (.inl ()) → ax_go true none (ax_ev true (d + 2)) ax_m147 47 [some (.ref 59), some (.int x1), some (.int x2), none, none, none] [] s o) (hkr : ∀ q, r = (.inr q) → o = (some (.int q.1), q.2)), ax_go true none (ax_ev true (d + 2)) ax_m147 7 [some (.ref 59), some (.int x1), some (.int x2), some (.int x3), none, none] [] s o := by
  intro n
  induction n with
  | zero => intro x1 x2 x3 s r h hk0 hkr; cases h
  | succ n ih =>
    intro x1 x2 x3 s r h hk0 hkr
    rw [XSh_paste_l7] at h
    by_cases c1 : x1 ≤ x3
    · rw [if_pos c1] at h
      have h := Option.some.inj h
      subst r
      exact ax_cut (pc' := 47) (la := [some (.ref 59), some (.int x1), some (.int x2), some (.int x3), none, none]) [some (.ref 59), some (.int x1), some (.int x2), none, none, none] (st' := []) (σ' := s) 3 (And.intro rfl (And.intro rfl (And.intro rfl (trivial)))) (fun _ hh => (And.intro (fun _ => hh) (fun q => absurd c1 q))) (hk0 rfl)
    · rw [if_neg c1] at h
      by_cases c2 : (10 : Int32) ≤ x3
      · rw [if_pos c2] at h
        have h := Option.some.inj h
        subst r
        exact ax_cut (pc' := 47) (la := [some (.ref 59), some (.int x1), some (.int x2), some (.int x3), none, none]) [some (.ref 59), some (.int x1), some (.int x2), none, none, none] (st' := []) (σ' := s) 6 (And.intro rfl (And.intro rfl (And.intro rfl (trivial)))) (fun _ hh => (And.intro (fun q => absurd q c1) (fun _ => (And.intro (fun _ => hh) (fun q => absurd c2 q))))) (hk0 rfl)
      · rw [if_neg c2] at h
        by_cases c3 : (x3 < 0 ∨ 10 ≤ (x3).toNatClampNeg)
        · rw [if_pos c3] at h; cases h
        · rw [if_neg c3] at h
          by_cases c4 : (x3 < 0 ∨ 10 ≤ (x3).toNatClampNeg)
          · rw [if_pos c4] at h; cases h
          · rw [if_neg c4] at h
            refine ax_cut (pc' := 32) (la := [some (.ref 59), some (.int x1), some (.int x2), some (.int x3), none, none]) [some (.ref 59), some (.int x1), some (.int x2), some (.int x3), none, none] (st' := [.int (s.2.1 61 (x3).toNatClampNeg), .int (s.2.1 60 (x3).toNatClampNeg), .int (0 : Int32), .int (0 : Int32)]) (σ' := s) 16 (And.intro rfl (And.intro rfl (And.intro rfl (And.intro rfl (trivial))))) (fun _ hh => (And.intro (fun q => absurd q c1) (fun _ => (And.intro (fun q => absurd q c2) (fun _ => (And.intro c3 (And.intro c4 hh))))))) ?_
            by_cases c5 : (X_isOnPrint (0 : Int32) (0 : Int32) (s.2.1 60 (x3).toNatClampNeg) (s.2.1 61 (x3).toNatClampNeg) s) = 0
            · rw [if_pos c5] at h
              have h := Option.some.inj h
              subst r
              exact ax_end 4 (Exists.intro (some (.int (X_isOnPrint (0 : Int32) (0 : Int32) (s.2.1 60 (x3).toNatClampNeg) (s.2.1 61 (x3).toNatClampNeg) s)), s) (And.intro (e_X_isOnPrint d (0 : Int32) (0 : Int32) (s.2.1 60 (x3).toNatClampNeg) (s.2.1 61 (x3).toNatClampNeg) s) (And.intro (fun q => absurd c5 q) (fun _ => (hkr _ rfl)))))
            · rw [if_neg c5] at h
              exact ax_cut (pc' := 7) (la := [some (.ref 59), some (.int x1), some (.int x2), some (.int (x3 + (1))), none, none]) [some (.ref 59), some (.int x1), some (.int x2), some (.int (x3 + (1))), none, none] (st' := []) (σ' := s) 4 (And.intro rfl (And.intro rfl (And.intro rfl (And.intro rfl (trivial))))) (fun _ hh => (Exists.intro (some (.int (X_isOnPrint (0 : Int32) (0 : Int32) (s.2.1 60 (x3).toNatClampNeg) (s.2.1 61 (x3).toNatClampNeg) s)), s) (And.intro (e_X_isOnPrint d (0 : Int32) (0 : Int32) (s.2.1 60 (x3).toNatClampNeg) (s.2.1 61 (x3).toNatClampNeg) s) (And.intro (fun _ => hh) (fun q => absurd c5 q))))) (ih x1 x2 (x3 + (1)) s _ h hk0 hkr)
theorem w_XSh_paste_l52 (d : Nat) {o : ax_O} : ∀ (n : Nat) (x1 : Int32) (x2 : Int32) (x3 : Int32) (x4 : Int32) (s : ax_S) (r : Int32) (h : XSh_paste_l52 n x1 x2 x3 x4 s = some r) (hk0 : ∀ (t0 : Int32), r = t0 → ax_go true none (ax_ev true (d + 2)) ax_m147 73 [some (.ref 59), some (.int x1), none, some (.int t0), none, none] [] s o), ax_go true none (ax_ev true (d + 2)) ax_m147 52 [some (.ref 59), some (.int x1), some (.int x2), some (.int x3), some (.int x4), none] [] s o := by
  intro n
  induction n with
  | zero => intro x1 x2 x3 x4 s r h hk0; cases h
  | succ n ih =>
    intro x1 x2 x3 x4 s r h hk0
    rw [XSh_paste_l52] at h
    by_cases c1 : x2 = 0
    · rw [if_pos c1] at h
      have h := Option.some.inj h
      subst r
      exact ax_cut (pc' := 73) (la := [some (.ref 59), some (.int x1), some (.int x2), some (.int x3), some (.int x4), none]) [some (.ref 59), some (.int x1), none, some (.int x3), none, none] (st' := []) (σ' := s) 2 (And.intro rfl (And.intro rfl (And.intro rfl (trivial)))) (fun _ hh => (And.intro (fun _ => hh) (fun q => absurd c1 q))) (hk0 _ rfl)
    · rw [if_neg c1] at h
      by_cases c2 : x1 < x4
      · rw [if_pos c2] at h
        have h := Option.some.inj h
        subst r
        exact ax_cut (pc' := 73) (la := [some (.ref 59), some (.int x1), some (.int x2), some (.int x3), some (.int x4), none]) [some (.ref 59), some (.int x1), none, some (.int x3), none, none] (st' := []) (σ' := s) 5 (And.intro rfl (And.intro rfl (And.intro rfl (trivial)))) (fun _ hh => (And.intro (fun q => absurd q c1) (fun _ => (And.intro (fun _ => hh) (fun q => absurd c2 q))))) (hk0 _ rfl)
      · rw [if_neg c2] at h
        exact ax_cut (pc' := 52) (la := [some (.ref 59), some (.int x1), some (.int x2), some (.int (x3 * x4)), some (.int (x4 + (1))), none]) [some (.ref 59), some (.int x1), some (.int x2), some (.int (x3 * x4)), some (.int (x4 + (1))), none] (st' := []) (σ' := s) 11 (And.intro rfl (And.intro rfl (And.intro rfl (And.intro rfl (And.intro rfl (trivial)))))) (fun _ hh => (And.intro (fun q => absurd q c1) (fun _ => (And.intro (fun q => absurd q c2) (fun _ => hh))))) (ih x1 x2 (x3 * x4) (x4 + (1)) s _ h hk0)
theorem w_XSh_paste_l79 (d : Nat) {o : ax_O} : ∀ (n : Nat) (x1 : Int32) (x3 : Int32) (x4 : Int32) (x5 : Int32) (s : ax_S) (r : Int32 × ax_S) (h : XSh_paste_l79 n x1 x3 x4 x5 s = some r) (hk0 : ∀ (t0 : Int32) (t1 : ax_S), r = (t0, t1) → ax_go true none (ax_ev true (d + 2)) ax_m147 105 [none, none, none, none, some (.int t0), none] [] t1 o), ax_go true none (ax_ev true (d + 2)) ax_m147 79 [some (.ref 59), some (.int x1), none, some (.int x3), some (.int x4), some (.int x5)] [] s o := by
  intro n
  induction n with
  | zero => intro x1 x3 x4 x5 s r h hk0; cases h
  | succ n ih =>
    intro x1 x3 x4 x5 s r h hk0
    rw [XSh_paste_l79] at h
    by_cases c1 : x3 ≤ x5
    · rw [if_pos c1] at h
      have h := Option.some.inj h
      subst r
      exact ax_cut (pc' := 105) (la := [some (.ref 59), some (.int x1), none, some (.int x3), some (.int x4), some (.int x5)]) [none, none, none, none, some (.int x4), none] (st' := []) (σ' := s) 3 (And.intro rfl (trivial)) (fun _ hh => (And.intro (fun _ => hh) (fun q => absurd c1 q))) (hk0 _ _ rfl)
    · rw [if_neg c1] at h
      cases hz2 : XSh_pagesInOrder x1 x5 s with
      | none => rw [hz2] at h; cases h
      | some z2 =>
      rw [hz2] at h
      obtain ⟨v3, s4⟩ := z2
      dsimp only at h
      exact ax_cut (pc' := 79) (la := [some (.ref 59), some (.int x1), none, some (.int x3), some (.int (if v3 < x4 then v3 else x4)), some (.int (x5 + (1)))]) [some (.ref 59), some (.int x1), none, some (.int x3), some (.int (if v3 < x4 then v3 else x4)), some (.int (x5 + (1)))] (st' := []) (σ' := s4) 12 (And.intro rfl (And.intro rfl (And.intro rfl (And.intro rfl (And.intro rfl (trivial)))))) (fun _ hh => (And.intro (fun q => absurd q c1) (fun _ => (Exists.intro (some (.int v3), s4) (And.intro (e_XSh_pagesInOrder d hz2) hh))))) (ih x1 x3 (if v3 < x4 then v3 else x4) (x5 + (1)) s4 _ h hk0)
theorem e_XSh_paste (d : Nat) {x1 : Int32} {x2 : Int32} {s : ax_S} {r : Int32 × ax_S} (h : XSh_paste x1 x2 s = some r) : ax_ev true (d + 3) 147 [.ref 59, .int x1, .int x2] s (some (.int r.1), r.2) := by
  refine ⟨Nat.le_of_ble_eq_true rfl, ?_⟩
  show ax_go true none (ax_ev true (d + 2)) ax_m147 0 [some (.ref 59), some (.int x1), some (.int x2), none, none, none] [] s _
  unfold XSh_paste at h
  cases hz1 : XSh_readSizes x1 s with
  | none => rw [hz1] at h; cases h
  | some s1 =>
  rw [hz1] at h
  dsimp only at h
  cases hz2 : XSh_paste_l7 70000 x1 x2 (0 : Int32) s1 with
  | none => rw [hz2] at h; cases h
  | some z2 =>
  rw [hz2] at h
  refine ax_cut (pc' := 7) (la := [some (.ref 59), some (.int x1), some (.int x2), some (.int (0 : Int32)), none, none]) [some (.ref 59), some (.int x1), some (.int x2), some (.int (0 : Int32)), none, none] (st' := []) (σ' := s1) 5 (And.intro rfl (And.intro rfl (And.intro rfl (And.intro rfl (trivial))))) (fun _ hh => (Exists.intro (none, s1) (And.intro (e_XSh_readSizes d hz1) hh))) (w_XSh_paste_l7 d 70000 x1 x2 (0 : Int32) s1 _ hz2 ?_ ?_)
  · intro  hq
    subst z2
    dsimp only at h
    cases hz3 : XSh_paste_l52 70000 x1 x2 (1 : Int32) (2 : Int32) s1 with
    | none => rw [hz3] at h; cases h
    | some z3 =>
    rw [hz3] at h
    refine ax_cut (pc' := 52) (la := [some (.ref 59), some (.int x1), some (.int x2), some (.int (1 : Int32)), some (.int (2 : Int32)), none]) [some (.ref 59), some (.int x1), some (.int x2), some (.int (1 : Int32)), some (.int (2 : Int32)), none] (st' := []) (σ' := s1) 4 (And.intro rfl (And.intro rfl (And.intro rfl (And.intro rfl (And.intro rfl (trivial)))))) (fun _ hh => hh) (w_XSh_paste_l52 d 70000 x1 x2 (1 : Int32) (2 : Int32) s1 _ hz3 ?_)
    · intro v2 hq
      subst z3
      dsimp only at h
      cases hz4 : XSh_paste_l79 70000 x1 v2 x1 (0 : Int32) s1 with
      | none => rw [hz4] at h; cases h
      | some z4 =>
      rw [hz4] at h
      refine ax_cut (pc' := 79) (la := [some (.ref 59), some (.int x1), none, some (.int v2), some (.int x1), some (.int (0 : Int32))]) [some (.ref 59), some (.int x1), none, some (.int v2), some (.int x1), some (.int (0 : Int32))] (st' := []) (σ' := s1) 4 (And.intro rfl (And.intro rfl (And.intro rfl (And.intro rfl (And.intro rfl (trivial)))))) (fun _ hh => hh) (w_XSh_paste_l79 d 70000 x1 v2 x1 (0 : Int32) s1 _ hz4 ?_)
      · intro v5 s6 hq
        subst z4
        dsimp only at h
        have h := Option.some.inj h
        subst r
        exact ax_end 2 rfl
  · intro q hq
    subst z2
    dsimp only at h
    cases h
    rfl
def X_pages_j41 (y1 : Int32) (y2 : Int32)  (s : ax_S) : Int32 :=
  if y2 = (1 : Int32) then (
    (1 : Int32)) else
  (0 : Int32)
def X_pages (x1 : Int32) (x2 : Int32)  (s : ax_S) : Option (Int32 × ax_S) :=
  if (X_isWithin x1 (1 : Int32) (6 : Int32) s) = 0 then (
    some ((-1 : Int32), s)) else
  if (X_isWithin x2 (0 : Int32) (1 : Int32) s) = 0 then (
    some ((-1 : Int32), s)) else
  if (XTa_holds ((2 : Int32) * x1) s) = 0 then (
    some ((-1 : Int32), s)) else
  match XSh_paste x1 (X_pages_j41 x1 x2 s) s with
  | none => none
  | some (v2, s3) =>
    some (v2, (XTa_clear s3))
theorem w_X_pages_j41 (d : Nat) {o : ax_O} (y1 : Int32) (y2 : Int32) (s : ax_S) (r : Int32) (h : X_pages_j41 y1 y2 s = r) (hk0 : ∀ (t0 : Int32), r = t0 → ax_go true none (ax_ev true (d + 3)) ax_m146 49 [some (.ref 0), none, none, none] [.int t0, .int y1, .ref 59] s o) : ax_go true none (ax_ev true (d + 3)) ax_m146 41 [some (.ref 0), none, none, none] [.int (1 : Int32), .int y2, .int y1, .ref 59] s o := by
  unfold X_pages_j41 at h
  by_cases c1 : y2 = (1 : Int32)
  · rw [if_pos c1] at h
    have h := h
    subst r
    exact ax_cut (pc' := 49) (la := [some (.ref 0), none, none, none]) [some (.ref 0), none, none, none] (st' := [.int (1 : Int32), .int y1, .ref 59]) (σ' := s) 3 (And.intro rfl (trivial)) (fun _ hh => (And.intro (fun q => absurd c1 q) (fun _ => hh))) (hk0 _ rfl)
  · rw [if_neg c1] at h
    have h := h
    subst r
    exact ax_cut (pc' := 49) (la := [some (.ref 0), none, none, none]) [some (.ref 0), none, none, none] (st' := [.int (0 : Int32), .int y1, .ref 59]) (σ' := s) 2 (And.intro rfl (trivial)) (fun _ hh => (And.intro (fun _ => hh) (fun q => absurd c1 q))) (hk0 _ rfl)
theorem e_X_pages (d : Nat) {x1 : Int32} {x2 : Int32} {s : ax_S} {r : Int32 × ax_S} (h : X_pages x1 x2 s = some r) : ax_ev true (d + 4) 146 [.ref 0, .int x1, .int x2] s (some (.int r.1), r.2) := by
  refine ⟨Nat.le_of_ble_eq_true rfl, ?_⟩
  show ax_go true none (ax_ev true (d + 3)) ax_m146 0 [some (.ref 0), some (.int x1), some (.int x2), none] [] s _
  unfold X_pages at h
  by_cases c1 : (X_isWithin x1 (1 : Int32) (6 : Int32) s) = 0
  · rw [if_pos c1] at h
    have h := Option.some.inj h
    subst r
    exact ax_end 7 (Exists.intro (some (.int (X_isWithin x1 (1 : Int32) (6 : Int32) s)), s) (And.intro (e_X_isWithin (d + 2) x1 (1 : Int32) (6 : Int32) s) (And.intro (fun _ => rfl) (fun q => absurd c1 q))))
  · rw [if_neg c1] at h
    by_cases c2 : (X_isWithin x2 (0 : Int32) (1 : Int32) s) = 0
    · rw [if_pos c2] at h
      have h := Option.some.inj h
      subst r
      exact ax_end 12 (Exists.intro (some (.int (X_isWithin x1 (1 : Int32) (6 : Int32) s)), s) (And.intro (e_X_isWithin (d + 2) x1 (1 : Int32) (6 : Int32) s) (And.intro (fun q => absurd q c1) (fun _ => (Exists.intro (some (.int (X_isWithin x2 (0 : Int32) (1 : Int32) s)), s) (And.intro (e_X_isWithin (d + 2) x2 (0 : Int32) (1 : Int32) s) (And.intro (fun _ => rfl) (fun q => absurd c2 q))))))))
    · rw [if_neg c2] at h
      refine ax_cut (pc' := 29) (la := [some (.ref 0), some (.int x1), some (.int x2), none]) [some (.ref 0), some (.int x1), some (.int x2), none] (st' := [.int (XTa_holds ((2 : Int32) * x1) s)]) (σ' := s) 16 (And.intro rfl (And.intro rfl (And.intro rfl (trivial)))) (fun _ hh => (Exists.intro (some (.int (X_isWithin x1 (1 : Int32) (6 : Int32) s)), s) (And.intro (e_X_isWithin (d + 2) x1 (1 : Int32) (6 : Int32) s) (And.intro (fun q => absurd q c1) (fun _ => (Exists.intro (some (.int (X_isWithin x2 (0 : Int32) (1 : Int32) s)), s) (And.intro (e_X_isWithin (d + 2) x2 (0 : Int32) (1 : Int32) s) (And.intro (fun q => absurd q c2) (fun _ => (Exists.intro (some (.int (XTa_holds ((2 : Int32) * x1) s)), s) (And.intro (e_XTa_holds (d + 2) ((2 : Int32) * x1) s) hh))))))))))) ?_
      by_cases c3 : (XTa_holds ((2 : Int32) * x1) s) = 0
      · rw [if_pos c3] at h
        have h := Option.some.inj h
        subst r
        exact ax_end 3 (And.intro (fun q => absurd c3 q) (fun _ => rfl))
      · rw [if_neg c3] at h
        refine ax_cut (pc' := 41) (la := [some (.ref 0), some (.int x1), some (.int x2), none]) [some (.ref 0), none, none, none] (st' := [.int (1 : Int32), .int x2, .int x1, .ref 59]) (σ' := s) 6 (And.intro rfl (trivial)) (fun _ hh => (And.intro (fun _ => hh) (fun q => absurd c3 q))) (w_X_pages_j41 d x1 x2 s _ rfl (fun v1 hq => ?_))
        obtain rfl : v1 = (X_pages_j41 x1 x2 s) := hq.symm
        cases hz4 : XSh_paste x1 (X_pages_j41 x1 x2 s) s with
        | none => rw [hz4] at h; cases h
        | some z4 =>
        rw [hz4] at h
        obtain ⟨v2, s3⟩ := z4
        dsimp only at h
        have h := Option.some.inj h
        subst r
        exact ax_end 7 (Exists.intro (some (.int v2), s3) (And.intro (e_XSh_paste d hz4) (Exists.intro (none, (XTa_clear s3)) (And.intro (e_XTa_clear (d + 2)  s3) rfl))))
def M_octet (x1 : Int32)  (s : ax_S) : Option (Int32) :=
  if (x1 < 0 ∨ 260 ≤ (x1).toNatClampNeg) then none else
  some ((s.2.1 67 (x1).toNatClampNeg) &&& (255 : Int32))
theorem e_M_octet (d : Nat) {x1 : Int32} {s : ax_S} {r : Int32} (h : M_octet x1 s = some r) : ax_ev true (d + 1) 271 [.ref 63, .int x1] s (some (.int r), s) := by
  refine ⟨Nat.le_of_ble_eq_true rfl, ?_⟩
  show ax_go true none (ax_ev true (d + 0)) ax_m271 0 [some (.ref 63), some (.int x1)] [] s _
  unfold M_octet at h
  by_cases c1 : (x1 < 0 ∨ 260 ≤ (x1).toNatClampNeg)
  · rw [if_pos c1] at h; cases h
  · rw [if_neg c1] at h
    have h := Option.some.inj h
    subst r
    exact ax_end 7 (And.intro c1 rfl)
def M_pagesNow_j57 (x1 : Int32) (x2 : Int32) (x3 : Int32) (x4 : Int32) (x5 : Int32) (x6 : Int32) (x7 : Int32) (x8 : Int32) (y0 : Int32)  (s : ax_S) : Int32 × Int32 × Int32 × Int32 :=
  if (16 : Int32) < y0 then (
    if ((x4 + x5) + x8) ≤ (12 : Int32) then (
      (x2, (0 : Int32), (x4 + x5), (0 : Int32))) else
    ((x2 + (1 : Int32)), (0 : Int32), (0 : Int32), (0 : Int32))) else
  if (x4 + x8) ≤ (12 : Int32) then (
    (x2, x3, x4, x5)) else
  if ((x4 + x5) + x8) ≤ (12 : Int32) then (
    (x2, (0 : Int32), (x4 + x5), (0 : Int32))) else
  ((x2 + (1 : Int32)), (0 : Int32), (0 : Int32), (0 : Int32))
def M_pagesNow_l13 : Nat → Int32 → Int32 → Int32 → Int32 → Int32 → Int32 → ax_S → Option (Int32)
  | 0, _, _, _, _, _, _, _ => none
  | n + 1, x1, x2, x3, x4, x5, x6, s =>
    if x1 ≤ x6 then (
      some x2) else
    if (x6 < 0 ∨ 6 ≤ (x6).toNatClampNeg) then none else
    match M_octet ((2 : Int32) * (s.2.1 81 (x6).toNatClampNeg)) s with
    | none => none
    | some v1 =>
      if (x6 < 0 ∨ 6 ≤ (x6).toNatClampNeg) then none else
      match M_octet (((2 : Int32) * (s.2.1 81 (x6).toNatClampNeg)) + (1 : Int32)) s with
      | none => none
      | some v2 =>
        M_pagesNow_l13 n x1 (M_pagesNow_j57 x1 x2 x3 x4 x5 x6 v1 v2 (x3 + v1) s).1 ((M_pagesNow_j57 x1 x2 x3 x4 x5 x6 v1 v2 (x3 + v1) s).2.1 + v1) (M_pagesNow_j57 x1 x2 x3 x4 x5 x6 v1 v2 (x3 + v1) s).2.2.1 (M_max (M_pagesNow_j57 x1 x2 x3 x4 x5 x6 v1 v2 (x3 + v1) s).2.2.2 v2 s) (x6 + (1)) s
def M_pagesNow (x1 : Int32)  (s : ax_S) : Option (Int32) :=
  match M_pagesNow_l13 70000 x1 (1 : Int32) (0 : Int32) (0 : Int32) (0 : Int32) (0 : Int32) s with
  | none => none
  | some v7 =>
    some v7
theorem w_M_pagesNow_j57 (d : Nat) {o : ax_O} (x1 : Int32) (x2 : Int32) (x3 : Int32) (x4 : Int32) (x5 : Int32) (x6 : Int32) (x7 : Int32) (x8 : Int32) (y0 : Int32) (s : ax_S) (r : Int32 × Int32 × Int32 × Int32) (h : M_pagesNow_j57 x1 x2 x3 x4 x5 x6 x7 x8 y0 s = r) (hk0 : ∀ (t0 : Int32) (t1 : Int32) (t2 : Int32) (t3 : Int32), r = (t0, t1, t2, t3) → ax_go true none (ax_ev true (d + 1)) ax_m272 99 [some (.ref 63), some (.int x1), some (.int t0), some (.int t1), some (.int t2), some (.int t3), some (.int x6), some (.int x7), some (.int x8)] [] s o) : ax_go true none (ax_ev true (d + 1)) ax_m272 57 [some (.ref 63), some (.int x1), some (.int x2), some (.int x3), some (.int x4), some (.int x5), some (.int x6), some (.int x7), some (.int x8)] [.int (16 : Int32), .int y0] s o := by
  unfold M_pagesNow_j57 at h
  by_cases c1 : (16 : Int32) < y0
  · rw [if_pos c1] at h
    by_cases c2 : ((x4 + x5) + x8) ≤ (12 : Int32)
    · rw [if_pos c2] at h
      have h := h
      subst r
      exact ax_cut (pc' := 99) (la := [some (.ref 63), some (.int x1), some (.int x2), some (.int (0 : Int32)), some (.int (x4 + x5)), some (.int (0 : Int32)), some (.int x6), some (.int x7), some (.int x8)]) [some (.ref 63), some (.int x1), some (.int x2), some (.int (0 : Int32)), some (.int (x4 + x5)), some (.int (0 : Int32)), some (.int x6), some (.int x7), some (.int x8)] (st' := []) (σ' := s) 14 (And.intro rfl (And.intro rfl (And.intro rfl (And.intro rfl (And.intro rfl (And.intro rfl (And.intro rfl (And.intro rfl (And.intro rfl (trivial)))))))))) (fun _ hh => (And.intro (fun _ => (And.intro (fun _ => hh) (fun q => absurd c2 q))) (fun q => absurd c1 q))) (hk0 _ _ _ _ rfl)
    · rw [if_neg c2] at h
      refine ax_cut (pc' := 94) (la := [some (.ref 63), some (.int x1), some (.int x2), some (.int (0 : Int32)), some (.int (x4 + x5)), some (.int (0 : Int32)), some (.int x6), some (.int x7), some (.int x8)]) [some (.ref 63), some (.int x1), none, some (.int (0 : Int32)), none, some (.int (0 : Int32)), some (.int x6), some (.int x7), some (.int x8)] (st' := [.int (1 : Int32), .int x2]) (σ' := s) 16 (And.intro rfl (And.intro rfl (And.intro rfl (And.intro rfl (And.intro rfl (And.intro rfl (And.intro rfl (trivial)))))))) (fun _ hh => (And.intro (fun _ => (And.intro (fun q => absurd q c2) (fun _ => hh))) (fun q => absurd c1 q))) ?_
      have h := h
      subst r
      exact ax_cut (pc' := 99) (la := [some (.ref 63), some (.int x1), some (.int (x2 + (1 : Int32))), some (.int (0 : Int32)), some (.int (0 : Int32)), some (.int (0 : Int32)), some (.int x6), some (.int x7), some (.int x8)]) [some (.ref 63), some (.int x1), some (.int (x2 + (1 : Int32))), some (.int (0 : Int32)), some (.int (0 : Int32)), some (.int (0 : Int32)), some (.int x6), some (.int x7), some (.int x8)] (st' := []) (σ' := s) 4 (And.intro rfl (And.intro rfl (And.intro rfl (And.intro rfl (And.intro rfl (And.intro rfl (And.intro rfl (And.intro rfl (And.intro rfl (trivial)))))))))) (fun _ hh => hh) (hk0 _ _ _ _ rfl)
  · rw [if_neg c1] at h
    by_cases c3 : (x4 + x8) ≤ (12 : Int32)
    · rw [if_pos c3] at h
      have h := h
      subst r
      exact ax_cut (pc' := 99) (la := [some (.ref 63), some (.int x1), some (.int x2), some (.int x3), some (.int x4), some (.int x5), some (.int x6), some (.int x7), some (.int x8)]) [some (.ref 63), some (.int x1), some (.int x2), some (.int x3), some (.int x4), some (.int x5), some (.int x6), some (.int x7), some (.int x8)] (st' := []) (σ' := s) 6 (And.intro rfl (And.intro rfl (And.intro rfl (And.intro rfl (And.intro rfl (And.intro rfl (And.intro rfl (And.intro rfl (And.intro rfl (trivial)))))))))) (fun _ hh => (And.intro (fun q => absurd q c1) (fun _ => (And.intro (fun _ => hh) (fun q => absurd c3 q))))) (hk0 _ _ _ _ rfl)
    · rw [if_neg c3] at h
      refine ax_cut (pc' := 86) (la := [some (.ref 63), some (.int x1), some (.int x2), some (.int (0 : Int32)), some (.int (x4 + x5)), some (.int (0 : Int32)), some (.int x6), some (.int x7), some (.int x8)]) [some (.ref 63), some (.int x1), some (.int x2), some (.int (0 : Int32)), some (.int (x4 + x5)), some (.int (0 : Int32)), some (.int x6), some (.int x7), some (.int x8)] (st' := [.int x8, .int (x4 + x5)]) (σ' := s) 16 (And.intro rfl (And.intro rfl (And.intro rfl (And.intro rfl (And.intro rfl (And.intro rfl (And.intro rfl (And.intro rfl (And.intro rfl (trivial)))))))))) (fun _ hh => (And.intro (fun q => absurd q c1) (fun _ => (And.intro (fun q => absurd q c3) (fun _ => hh))))) ?_
      by_cases c4 : ((x4 + x5) + x8) ≤ (12 : Int32)
      · rw [if_pos c4] at h
        have h := h
        subst r
        exact ax_cut (pc' := 99) (la := [some (.ref 63), some (.int x1), some (.int x2), some (.int (0 : Int32)), some (.int (x4 + x5)), some (.int (0 : Int32)), some (.int x6), some (.int x7), some (.int x8)]) [some (.ref 63), some (.int x1), some (.int x2), some (.int (0 : Int32)), some (.int (x4 + x5)), some (.int (0 : Int32)), some (.int x6), some (.int x7), some (.int x8)] (st' := []) (σ' := s) 3 (And.intro rfl (And.intro rfl (And.intro rfl (And.intro rfl (And.intro rfl (And.intro rfl (And.intro rfl (And.intro rfl (And.intro rfl (trivial)))))))))) (fun _ hh => (And.intro (fun _ => hh) (fun q => absurd c4 q))) (hk0 _ _ _ _ rfl)
      · rw [if_neg c4] at h
        have h := h
        subst r
        exact ax_cut (pc' := 99) (la := [some (.ref 63), some (.int x1), some (.int (x2 + (1 : Int32))), some (.int (0 : Int32)), some (.int (0 : Int32)), some (.int (0 : Int32)), some (.int x6), some (.int x7), some (.int x8)]) [some (.ref 63), some (.int x1), some (.int (x2 + (1 : Int32))), some (.int (0 : Int32)), some (.int (0 : Int32)), some (.int (0 : Int32)), some (.int x6), some (.int x7), some (.int x8)] (st' := []) (σ' := s) 9 (And.intro rfl (And.intro rfl (And.intro rfl (And.intro rfl (And.intro rfl (And.intro rfl (And.intro rfl (And.intro rfl (And.intro rfl (trivial)))))))))) (fun _ hh => (And.intro (fun q => absurd q c4) (fun _ => hh))) (hk0 _ _ _ _ rfl)
theorem w_M_pagesNow_l13 (d : Nat) {o : ax_O} : ∀ (n : Nat) (x1 : Int32) (x2 : Int32) (x3 : Int32) (x4 : Int32) (x5 : Int32) (x6 : Int32) (s : ax_S) (r : Int32) (h : M_pagesNow_l13 n x1 x2 x3 x4 x5 x6 s = some r) (hk0 : ∀ (t0 : Int32), r = t0 → ax_go true none (ax_ev true (d + 1)) ax_m272 119 [none, none, some (.int t0), none, none, none, none, none, none] [] s o), ax_go true none (ax_ev true (d + 1)) ax_m272 13 [some (.ref 63), some (.int x1), some (.int x2), some (.int x3), some (.int x4), some (.int x5), some (.int x6), none, none] [] s o := by
  intro n
  induction n with
  | zero => intro x1 x2 x3 x4 x5 x6 s r h hk0; cases h
  | succ n ih =>
    intro x1 x2 x3 x4 x5 x6 s r h hk0
    rw [M_pagesNow_l13] at h
    by_cases c1 : x1 ≤ x6
    · rw [if_pos c1] at h
      have h := Option.some.inj h
      subst r
      exact ax_cut (pc' := 119) (la := [some (.ref 63), some (.int x1), some (.int x2), some (.int x3), some (.int x4), some (.int x5), some (.int x6), none, none]) [none, none, some (.int x2), none, none, none, none, none, none] (st' := []) (σ' := s) 3 (And.intro rfl (trivial)) (fun _ hh => (And.intro (fun _ => hh) (fun q => absurd c1 q))) (hk0 _ rfl)
    · rw [if_neg c1] at h
      by_cases c2 : (x6 < 0 ∨ 6 ≤ (x6).toNatClampNeg)
      · rw [if_pos c2] at h; cases h
      · rw [if_neg c2] at h
        cases hz3 : M_octet ((2 : Int32) * (s.2.1 81 (x6).toNatClampNeg)) s with
        | none => rw [hz3] at h; cases h
        | some v1 =>
        rw [hz3] at h
        dsimp only at h
        refine ax_cut (pc' := 40) (la := [some (.ref 63), some (.int x1), some (.int x2), some (.int x3), some (.int x4), some (.int x5), some (.int x6), some (.int v1), none]) [some (.ref 63), some (.int x1), some (.int x2), some (.int x3), some (.int x4), some (.int x5), some (.int x6), some (.int v1), none] (st' := [.ref 81, .int (2 : Int32), .ref 63]) (σ' := s) 16 (And.intro rfl (And.intro rfl (And.intro rfl (And.intro rfl (And.intro rfl (And.intro rfl (And.intro rfl (And.intro rfl (trivial))))))))) (fun _ hh => (And.intro (fun q => absurd q c1) (fun _ => (And.intro c2 (Exists.intro (some (.int v1), s) (And.intro (e_M_octet d hz3) hh)))))) ?_
        by_cases c4 : (x6 < 0 ∨ 6 ≤ (x6).toNatClampNeg)
        · rw [if_pos c4] at h; cases h
        · rw [if_neg c4] at h
          cases hz5 : M_octet (((2 : Int32) * (s.2.1 81 (x6).toNatClampNeg)) + (1 : Int32)) s with
          | none => rw [hz5] at h; cases h
          | some v2 =>
          rw [hz5] at h
          dsimp only at h
          refine ax_cut (pc' := 57) (la := [some (.ref 63), some (.int x1), some (.int x2), some (.int x3), some (.int x4), some (.int x5), some (.int x6), some (.int v1), some (.int v2)]) [some (.ref 63), some (.int x1), some (.int x2), some (.int x3), some (.int x4), some (.int x5), some (.int x6), some (.int v1), some (.int v2)] (st' := [.int (16 : Int32), .int (x3 + v1)]) (σ' := s) 11 (And.intro rfl (And.intro rfl (And.intro rfl (And.intro rfl (And.intro rfl (And.intro rfl (And.intro rfl (And.intro rfl (And.intro rfl (trivial)))))))))) (fun _ hh => (And.intro c4 (Exists.intro (some (.int v2), s) (And.intro (e_M_octet d hz5) hh)))) (w_M_pagesNow_j57 d x1 x2 x3 x4 x5 x6 v1 v2 (x3 + v1) s _ rfl (fun v3 v4 v5 v6 hq => ?_))
          obtain rfl : v3 = (M_pagesNow_j57 x1 x2 x3 x4 x5 x6 v1 v2 (x3 + v1) s).1 := (congrArg (fun z => z.1) hq).symm
          obtain rfl : v4 = (M_pagesNow_j57 x1 x2 x3 x4 x5 x6 v1 v2 (x3 + v1) s).2.1 := (congrArg (fun z => z.2.1) hq).symm
          obtain rfl : v5 = (M_pagesNow_j57 x1 x2 x3 x4 x5 x6 v1 v2 (x3 + v1) s).2.2.1 := (congrArg (fun z => z.2.2.1) hq).symm
          obtain rfl : v6 = (M_pagesNow_j57 x1 x2 x3 x4 x5 x6 v1 v2 (x3 + v1) s).2.2.2 := (congrArg (fun z => z.2.2.2) hq).symm
          exact ax_cut (pc' := 13) (la := [some (.ref 63), some (.int x1), some (.int (M_pagesNow_j57 x1 x2 x3 x4 x5 x6 v1 v2 (x3 + v1) s).1), some (.int ((M_pagesNow_j57 x1 x2 x3 x4 x5 x6 v1 v2 (x3 + v1) s).2.1 + v1)), some (.int (M_pagesNow_j57 x1 x2 x3 x4 x5 x6 v1 v2 (x3 + v1) s).2.2.1), some (.int (M_max (M_pagesNow_j57 x1 x2 x3 x4 x5 x6 v1 v2 (x3 + v1) s).2.2.2 v2 s)), some (.int (x6 + (1))), some (.int v1), some (.int v2)]) [some (.ref 63), some (.int x1), some (.int (M_pagesNow_j57 x1 x2 x3 x4 x5 x6 v1 v2 (x3 + v1) s).1), some (.int ((M_pagesNow_j57 x1 x2 x3 x4 x5 x6 v1 v2 (x3 + v1) s).2.1 + v1)), some (.int (M_pagesNow_j57 x1 x2 x3 x4 x5 x6 v1 v2 (x3 + v1) s).2.2.1), some (.int (M_max (M_pagesNow_j57 x1 x2 x3 x4 x5 x6 v1 v2 (x3 + v1) s).2.2.2 v2 s)), some (.int (x6 + (1))), none, none] (st' := []) (σ' := s) 10 (And.intro rfl (And.intro rfl (And.intro rfl (And.intro rfl (And.intro rfl (And.intro rfl (And.intro rfl (trivial)))))))) (fun _ hh => (Exists.intro (some (.int (M_max (M_pagesNow_j57 x1 x2 x3 x4 x5 x6 v1 v2 (x3 + v1) s).2.2.2 v2 s)), s) (And.intro (e_M_max d (M_pagesNow_j57 x1 x2 x3 x4 x5 x6 v1 v2 (x3 + v1) s).2.2.2 v2 s) hh))) (ih x1 (M_pagesNow_j57 x1 x2 x3 x4 x5 x6 v1 v2 (x3 + v1) s).1 ((M_pagesNow_j57 x1 x2 x3 x4 x5 x6 v1 v2 (x3 + v1) s).2.1 + v1) (M_pagesNow_j57 x1 x2 x3 x4 x5 x6 v1 v2 (x3 + v1) s).2.2.1 (M_max (M_pagesNow_j57 x1 x2 x3 x4 x5 x6 v1 v2 (x3 + v1) s).2.2.2 v2 s) (x6 + (1)) s _ h hk0)
theorem e_M_pagesNow (d : Nat) {x1 : Int32} {s : ax_S} {r : Int32} (h : M_pagesNow x1 s = some r) : ax_ev true (d + 2) 272 [.ref 63, .int x1] s (some (.int r), s) := by
  refine ⟨Nat.le_of_ble_eq_true rfl, ?_⟩
  show ax_go true none (ax_ev true (d + 1)) ax_m272 0 [some (.ref 63), some (.int x1), none, none, none, none, none, none, none] [] s _
  unfold M_pagesNow at h
  cases hz1 : M_pagesNow_l13 70000 x1 (1 : Int32) (0 : Int32) (0 : Int32) (0 : Int32) (0 : Int32) s with
  | none => rw [hz1] at h; cases h
  | some z1 =>
  rw [hz1] at h
  refine ax_cut (pc' := 13) (la := [some (.ref 63), some (.int x1), some (.int (1 : Int32)), some (.int (0 : Int32)), some (.int (0 : Int32)), some (.int (0 : Int32)), some (.int (0 : Int32)), none, none]) [some (.ref 63), some (.int x1), some (.int (1 : Int32)), some (.int (0 : Int32)), some (.int (0 : Int32)), some (.int (0 : Int32)), some (.int (0 : Int32)), none, none] (st' := []) (σ' := s) 10 (And.intro rfl (And.intro rfl (And.intro rfl (And.intro rfl (And.intro rfl (And.intro rfl (And.intro rfl (trivial)))))))) (fun _ hh => hh) (w_M_pagesNow_l13 d 70000 x1 (1 : Int32) (0 : Int32) (0 : Int32) (0 : Int32) (0 : Int32) s _ hz1 ?_)
  · intro v7 hq
    subst z1
    dsimp only at h
    have h := Option.some.inj h
    subst r
    exact ax_end 2 rfl
def M_changesOrder (x1 : Int32) (x2 : Int32)  (s : ax_S) : Option (ax_S) :=
  if (x1 < 0 ∨ 6 ≤ (x1).toNatClampNeg) then none else
  if (x2 < 0 ∨ 6 ≤ (x2).toNatClampNeg) then none else
  if (x1 < 0 ∨ 6 ≤ (x1).toNatClampNeg) then none else
  if (x2 < 0 ∨ 6 ≤ (x2).toNatClampNeg) then none else
  some (ax_sI (ax_sI s 81 (x1).toNatClampNeg (s.2.1 81 (x2).toNatClampNeg)) 81 (x2).toNatClampNeg (s.2.1 81 (x1).toNatClampNeg))
theorem e_M_changesOrder (d : Nat) {x1 : Int32} {x2 : Int32} {s : ax_S} {r : ax_S} (h : M_changesOrder x1 x2 s = some r) : ax_ev true (d + 1) 274 [.ref 63, .int x1, .int x2] s (none, r) := by
  refine ⟨Nat.le_of_ble_eq_true rfl, ?_⟩
  show ax_go true none (ax_ev true (d + 0)) ax_m274 0 [some (.ref 63), some (.int x1), some (.int x2), none] [] s _
  unfold M_changesOrder at h
  by_cases c1 : (x1 < 0 ∨ 6 ≤ (x1).toNatClampNeg)
  · rw [if_pos c1] at h; cases h
  · rw [if_neg c1] at h
    by_cases c2 : (x2 < 0 ∨ 6 ≤ (x2).toNatClampNeg)
    · rw [if_pos c2] at h; cases h
    · rw [if_neg c2] at h
      by_cases c3 : (x1 < 0 ∨ 6 ≤ (x1).toNatClampNeg)
      · rw [if_pos c3] at h; cases h
      · rw [if_neg c3] at h
        refine ax_cut (pc' := 24) (la := [some (.ref 63), some (.int x1), some (.int x2), some (.int (s.2.1 81 (x1).toNatClampNeg))]) [none, none, none, some (.int (s.2.1 81 (x1).toNatClampNeg))] (st' := [.int x2, .ref 81]) (σ' := (ax_sI s 81 (x1).toNatClampNeg (s.2.1 81 (x2).toNatClampNeg))) 16 (And.intro rfl (trivial)) (fun _ hh => (And.intro c1 (And.intro c2 (And.intro c3 hh)))) ?_
        by_cases c4 : (x2 < 0 ∨ 6 ≤ (x2).toNatClampNeg)
        · rw [if_pos c4] at h; cases h
        · rw [if_neg c4] at h
          have h := Option.some.inj h
          subst r
          exact ax_end 3 (And.intro c4 rfl)
def M_nextOrder_l4 : Nat → Int32 → Int32 → ax_S → Option (Int32)
  | 0, _, _, _ => none
  | n + 1, x1, x2, s =>
    if x2 < 0 then (
      some x2) else
    if (x2 < 0 ∨ 6 ≤ (x2).toNatClampNeg) then none else
    if ((x2 + (1 : Int32)) < 0 ∨ 6 ≤ ((x2 + (1 : Int32))).toNatClampNeg) then none else
    if (s.2.1 81 (x2).toNatClampNeg) ≤ (s.2.1 81 ((x2 + (1 : Int32))).toNatClampNeg) then (
      some x2) else
    M_nextOrder_l4 n x1 (x2 - (1 : Int32)) s
def M_nextOrder_l42 : Nat → Int32 → Int32 → Int32 → ax_S → Option (Int32)
  | 0, _, _, _, _ => none
  | n + 1, x1, x2, x3, s =>
    if (x3 < 0 ∨ 6 ≤ (x3).toNatClampNeg) then none else
    if (x2 < 0 ∨ 6 ≤ (x2).toNatClampNeg) then none else
    if (s.2.1 81 (x2).toNatClampNeg) ≤ (s.2.1 81 (x3).toNatClampNeg) then (
      some x3) else
    M_nextOrder_l42 n x1 x2 (x3 - (1 : Int32)) s
def M_nextOrder_l80 : Nat → Int32 → Int32 → ax_S → Option (ax_S)
  | 0, _, _, _ => none
  | n + 1, x4, x5, s =>
    if x5 ≤ x4 then (
      some s) else
    match M_changesOrder x4 x5 s with
    | none => none
    | some s4 =>
      M_nextOrder_l80 n (x4 + (1)) (x5 + Int32.ofInt (-1)) s4
def M_nextOrder (x1 : Int32)  (s : ax_S) : Option (Int32 × ax_S) :=
  match M_nextOrder_l4 70000 x1 (x1 - (2 : Int32)) s with
  | none => none
  | some v1 =>
    if 0 ≤ v1 then (
      match M_nextOrder_l42 70000 x1 v1 (x1 - (1 : Int32)) s with
      | none => none
      | some v2 =>
        match M_changesOrder v1 v2 s with
        | none => none
        | some s3 =>
          match M_nextOrder_l80 70000 (v1 + (1 : Int32)) (x1 - (1 : Int32)) s3 with
          | none => none
          | some s6 =>
            some ((1 : Int32), s6)) else
    some ((0 : Int32), s)
theorem w_M_nextOrder_l4 (d : Nat) {o : ax_O} : ∀ (n : Nat) (x1 : Int32) (x2 : Int32) (s : ax_S) (r : Int32) (h : M_nextOrder_l4 n x1 x2 s = some r) (hk0 : ∀ (t0 : Int32), r = t0 → ax_go true none (ax_ev true (d + 1)) ax_m273 32 [some (.ref 63), some (.int x1), some (.int t0), none, none, none] [] s o), ax_go true none (ax_ev true (d + 1)) ax_m273 4 [some (.ref 63), some (.int x1), some (.int x2), none, none, none] [] s o := by
  intro n
  induction n with
  | zero => intro x1 x2 s r h hk0; cases h
  | succ n ih =>
    intro x1 x2 s r h hk0
    rw [M_nextOrder_l4] at h
    by_cases c1 : x2 < 0
    · rw [if_pos c1] at h
      have h := Option.some.inj h
      subst r
      exact ax_cut (pc' := 32) (la := [some (.ref 63), some (.int x1), some (.int x2), none, none, none]) [some (.ref 63), some (.int x1), some (.int x2), none, none, none] (st' := []) (σ' := s) 2 (And.intro rfl (And.intro rfl (And.intro rfl (trivial)))) (fun _ hh => (And.intro (fun _ => hh) (fun q => absurd c1 q))) (hk0 _ rfl)
    · rw [if_neg c1] at h
      by_cases c2 : (x2 < 0 ∨ 6 ≤ (x2).toNatClampNeg)
      · rw [if_pos c2] at h; cases h
      · rw [if_neg c2] at h
        by_cases c3 : ((x2 + (1 : Int32)) < 0 ∨ 6 ≤ ((x2 + (1 : Int32))).toNatClampNeg)
        · rw [if_pos c3] at h; cases h
        · rw [if_neg c3] at h
          by_cases c4 : (s.2.1 81 (x2).toNatClampNeg) ≤ (s.2.1 81 ((x2 + (1 : Int32))).toNatClampNeg)
          · rw [if_pos c4] at h
            have h := Option.some.inj h
            subst r
            exact ax_cut (pc' := 32) (la := [some (.ref 63), some (.int x1), some (.int x2), none, none, none]) [some (.ref 63), some (.int x1), some (.int x2), none, none, none] (st' := []) (σ' := s) 13 (And.intro rfl (And.intro rfl (And.intro rfl (trivial)))) (fun _ hh => (And.intro (fun q => absurd q c1) (fun _ => (And.intro c2 (And.intro c3 (And.intro (fun _ => hh) (fun q => absurd c4 q))))))) (hk0 _ rfl)
          · rw [if_neg c4] at h
            refine ax_cut (pc' := 28) (la := [some (.ref 63), some (.int x1), some (.int x2), none, none, none]) [some (.ref 63), some (.int x1), none, none, none, none] (st' := [.int (x2 - (1 : Int32))]) (σ' := s) 16 (And.intro rfl (And.intro rfl (trivial))) (fun _ hh => (And.intro (fun q => absurd q c1) (fun _ => (And.intro c2 (And.intro c3 (And.intro (fun q => absurd q c4) (fun _ => hh))))))) ?_
            exact ax_cut (pc' := 4) (la := [some (.ref 63), some (.int x1), some (.int (x2 - (1 : Int32))), none, none, none]) [some (.ref 63), some (.int x1), some (.int (x2 - (1 : Int32))), none, none, none] (st' := []) (σ' := s) 2 (And.intro rfl (And.intro rfl (And.intro rfl (trivial)))) (fun _ hh => hh) (ih x1 (x2 - (1 : Int32)) s _ h hk0)
theorem w_M_nextOrder_l42 (d : Nat) {o : ax_O} : ∀ (n : Nat) (x1 : Int32) (x2 : Int32) (x3 : Int32) (s : ax_S) (r : Int32) (h : M_nextOrder_l42 n x1 x2 x3 s = some r) (hk0 : ∀ (t0 : Int32), r = t0 → ax_go true none (ax_ev true (d + 1)) ax_m273 64 [some (.ref 63), some (.int x1), some (.int x2), some (.int t0), none, none] [] s o), ax_go true none (ax_ev true (d + 1)) ax_m273 42 [some (.ref 63), some (.int x1), some (.int x2), some (.int x3), none, none] [] s o := by
  intro n
  induction n with
  | zero => intro x1 x2 x3 s r h hk0; cases h
  | succ n ih =>
    intro x1 x2 x3 s r h hk0
    rw [M_nextOrder_l42] at h
    by_cases c1 : (x3 < 0 ∨ 6 ≤ (x3).toNatClampNeg)
    · rw [if_pos c1] at h; cases h
    · rw [if_neg c1] at h
      by_cases c2 : (x2 < 0 ∨ 6 ≤ (x2).toNatClampNeg)
      · rw [if_pos c2] at h; cases h
      · rw [if_neg c2] at h
        by_cases c3 : (s.2.1 81 (x2).toNatClampNeg) ≤ (s.2.1 81 (x3).toNatClampNeg)
        · rw [if_pos c3] at h
          have h := Option.some.inj h
          subst r
          exact ax_cut (pc' := 64) (la := [some (.ref 63), some (.int x1), some (.int x2), some (.int x3), none, none]) [some (.ref 63), some (.int x1), some (.int x2), some (.int x3), none, none] (st' := []) (σ' := s) 9 (And.intro rfl (And.intro rfl (And.intro rfl (And.intro rfl (trivial))))) (fun _ hh => (And.intro c1 (And.intro c2 (And.intro (fun _ => hh) (fun q => absurd c3 q))))) (hk0 _ rfl)
        · rw [if_neg c3] at h
          exact ax_cut (pc' := 42) (la := [some (.ref 63), some (.int x1), some (.int x2), some (.int (x3 - (1 : Int32))), none, none]) [some (.ref 63), some (.int x1), some (.int x2), some (.int (x3 - (1 : Int32))), none, none] (st' := []) (σ' := s) 14 (And.intro rfl (And.intro rfl (And.intro rfl (And.intro rfl (trivial))))) (fun _ hh => (And.intro c1 (And.intro c2 (And.intro (fun q => absurd q c3) (fun _ => hh))))) (ih x1 x2 (x3 - (1 : Int32)) s _ h hk0)
theorem w_M_nextOrder_l80 (d : Nat) {o : ax_O} : ∀ (n : Nat) (x4 : Int32) (x5 : Int32) (s : ax_S) (r : ax_S) (h : M_nextOrder_l80 n x4 x5 s = some r) (hk0 : ∀ (t0 : ax_S), r = t0 → ax_go true none (ax_ev true (d + 1)) ax_m273 104 [none, none, none, none, none, none] [] t0 o), ax_go true none (ax_ev true (d + 1)) ax_m273 80 [some (.ref 63), none, none, none, some (.int x4), some (.int x5)] [] s o := by
  intro n
  induction n with
  | zero => intro x4 x5 s r h hk0; cases h
  | succ n ih =>
    intro x4 x5 s r h hk0
    rw [M_nextOrder_l80] at h
    by_cases c1 : x5 ≤ x4
    · rw [if_pos c1] at h
      have h := Option.some.inj h
      subst r
      exact ax_cut (pc' := 104) (la := [some (.ref 63), none, none, none, some (.int x4), some (.int x5)]) [none, none, none, none, none, none] (st' := []) (σ' := s) 3 (trivial) (fun _ hh => (And.intro (fun _ => hh) (fun q => absurd c1 q))) (hk0 _ rfl)
    · rw [if_neg c1] at h
      cases hz2 : M_changesOrder x4 x5 s with
      | none => rw [hz2] at h; cases h
      | some s4 =>
      rw [hz2] at h
      dsimp only at h
      refine ax_cut (pc' := 98) (la := [some (.ref 63), none, none, none, some (.int (x4 + (1))), some (.int x5)]) [some (.ref 63), none, none, none, some (.int (x4 + (1))), some (.int x5)] (st' := []) (σ' := s4) 8 (And.intro rfl (And.intro rfl (And.intro rfl (trivial)))) (fun _ hh => (And.intro (fun q => absurd q c1) (fun _ => (Exists.intro (none, s4) (And.intro (e_M_changesOrder d hz2) hh))))) ?_
      obtain ⟨w5, hw5⟩ : ∃ w, w = x5 + Int32.ofInt (-1) := ⟨_, rfl⟩
      refine ax_iincK (ls' := [some (.ref 63), none, none, none, some (.int (x4 + (1))), some (.int w5)]) (w := w5) rfl rfl hw5 rfl ?_
      subst hw5
      exact ax_cut (pc' := 80) (la := [some (.ref 63), none, none, none, some (.int (x4 + (1))), some (.int (x5 + Int32.ofInt (-1)))]) [some (.ref 63), none, none, none, some (.int (x4 + (1))), some (.int (x5 + Int32.ofInt (-1)))] (st' := []) (σ' := s4) 1 (And.intro rfl (And.intro rfl (And.intro rfl (trivial)))) (fun _ hh => hh) (ih (x4 + (1)) (x5 + Int32.ofInt (-1)) s4 _ h hk0)
theorem e_M_nextOrder (d : Nat) {x1 : Int32} {s : ax_S} {r : Int32 × ax_S} (h : M_nextOrder x1 s = some r) : ax_ev true (d + 2) 273 [.ref 63, .int x1] s (some (.int r.1), r.2) := by
  refine ⟨Nat.le_of_ble_eq_true rfl, ?_⟩
  show ax_go true none (ax_ev true (d + 1)) ax_m273 0 [some (.ref 63), some (.int x1), none, none, none, none] [] s _
  unfold M_nextOrder at h
  cases hz1 : M_nextOrder_l4 70000 x1 (x1 - (2 : Int32)) s with
  | none => rw [hz1] at h; cases h
  | some z1 =>
  rw [hz1] at h
  refine ax_cut (pc' := 4) (la := [some (.ref 63), some (.int x1), some (.int (x1 - (2 : Int32))), none, none, none]) [some (.ref 63), some (.int x1), some (.int (x1 - (2 : Int32))), none, none, none] (st' := []) (σ' := s) 4 (And.intro rfl (And.intro rfl (And.intro rfl (trivial)))) (fun _ hh => hh) (w_M_nextOrder_l4 d 70000 x1 (x1 - (2 : Int32)) s _ hz1 ?_)
  · intro v1 hq
    subst z1
    dsimp only at h
    by_cases c2 : 0 ≤ v1
    · rw [if_pos c2] at h
      cases hz3 : M_nextOrder_l42 70000 x1 v1 (x1 - (1 : Int32)) s with
      | none => rw [hz3] at h; cases h
      | some z3 =>
      rw [hz3] at h
      refine ax_cut (pc' := 42) (la := [some (.ref 63), some (.int x1), some (.int v1), some (.int (x1 - (1 : Int32))), none, none]) [some (.ref 63), some (.int x1), some (.int v1), some (.int (x1 - (1 : Int32))), none, none] (st' := []) (σ' := s) 6 (And.intro rfl (And.intro rfl (And.intro rfl (And.intro rfl (trivial))))) (fun _ hh => (And.intro (fun _ => hh) (fun q => absurd c2 q))) (w_M_nextOrder_l42 d 70000 x1 v1 (x1 - (1 : Int32)) s _ hz3 ?_)
      · intro v2 hq
        subst z3
        dsimp only at h
        cases hz4 : M_changesOrder v1 v2 s with
        | none => rw [hz4] at h; cases h
        | some s3 =>
        rw [hz4] at h
        dsimp only at h
        cases hz5 : M_nextOrder_l80 70000 (v1 + (1 : Int32)) (x1 - (1 : Int32)) s3 with
        | none => rw [hz5] at h; cases h
        | some z5 =>
        rw [hz5] at h
        refine ax_cut (pc' := 80) (la := [some (.ref 63), some (.int x1), some (.int v1), some (.int v2), some (.int (v1 + (1 : Int32))), some (.int (x1 - (1 : Int32)))]) [some (.ref 63), none, none, none, some (.int (v1 + (1 : Int32))), some (.int (x1 - (1 : Int32)))] (st' := []) (σ' := s3) 12 (And.intro rfl (And.intro rfl (And.intro rfl (trivial)))) (fun _ hh => (Exists.intro (none, s3) (And.intro (e_M_changesOrder d hz4) hh))) (w_M_nextOrder_l80 d 70000 (v1 + (1 : Int32)) (x1 - (1 : Int32)) s3 _ hz5 ?_)
        · intro s6 hq
          subst z5
          dsimp only at h
          have h := Option.some.inj h
          subst r
          exact ax_end 2 (And.intro (Or.inr rfl) rfl)
    · rw [if_neg c2] at h
      have h := Option.some.inj h
      subst r
      exact ax_end 4 (And.intro (fun q => absurd q c2) (fun _ => (And.intro (Or.inl rfl) rfl)))
def M_pages_l38 : Nat → Int32 → Int32 → Int32 → ax_S → Option ((Unit) ⊕ (Int32 × ax_S))
  | 0, _, _, _, _ => none
  | n + 1, x1, x2, x3, s =>
    if x1 ≤ x3 then (
      some (.inl ())) else
    match M_octet ((2 : Int32) * x3) s with
    | none => none
    | some v1 =>
      if (M_in v1 (1 : Int32) (16 : Int32) s) = 0 then (
        some (.inr ((-2 : Int32), s))) else
      match M_octet (((2 : Int32) * x3) + (1 : Int32)) s with
      | none => none
      | some v2 =>
        if (M_in v2 (1 : Int32) (12 : Int32) s) = 0 then (
          some (.inr ((-2 : Int32), s))) else
        M_pages_l38 n x1 x2 (x3 + (1)) s
def M_pages_l88 : Nat → Int32 → Int32 → Int32 → ax_S → Option (ax_S)
  | 0, _, _, _, _ => none
  | n + 1, x1, x2, x3, s =>
    if x1 ≤ x3 then (
      some s) else
    if (x3 < 0 ∨ 6 ≤ (x3).toNatClampNeg) then none else
    M_pages_l88 n x1 x2 (x3 + (1)) (ax_sI s 81 (x3).toNatClampNeg x3)
def M_pages_j114 (x1 : Int32) (x3 : Int32) (y0 : Int32)  (s : ax_S) : Int32 :=
  if y0 = (1 : Int32) then (
    (1 : Int32)) else
  (0 : Int32)
def M_pages_l124 : Nat → Int32 → Int32 → Int32 → ax_S → Option (Int32 × ax_S)
  | 0, _, _, _, _ => none
  | n + 1, x1, x3, x4, s =>
    if x4 = 0 then (
      some (x3, s)) else
    match M_nextOrder x1 s with
    | none => none
    | some (v6, s7) =>
      match M_pagesNow x1 s7 with
      | none => none
      | some v8 =>
        M_pages_l124 n x1 (M_min x3 v8 s7) v6 s7
def M_pages (x1 : Int32) (x2 : Int32)  (s : ax_S) : Option (Int32 × ax_S) :=
  if (M_in x1 (1 : Int32) (6 : Int32) s) = 0 then (
    some ((-1 : Int32), s)) else
  if (M_in x2 (0 : Int32) (1 : Int32) s) = 0 then (
    some ((-1 : Int32), s)) else
  if ((2 : Int32) * x1) ≤ (s.2.1 63 5) then (
    match M_pages_l38 70000 x1 x2 (0 : Int32) (ax_sI s 63 5 (0 : Int32)) with
    | none => none
    | some (.inl _) =>
      match M_pages_l88 70000 x1 x2 (0 : Int32) (ax_sI s 63 5 (0 : Int32)) with
      | none => none
      | some s3 =>
        match M_pagesNow x1 s3 with
        | none => none
        | some v4 =>
          match M_pages_l124 70000 x1 v4 (M_pages_j114 x1 v4 x2 s3) s3 with
          | none => none
          | some (v9, s10) =>
            some (v9, s10)
    | some (.inr r) => some r) else
  some ((-1 : Int32), s)
theorem w_M_pages_l38 (d : Nat) {o : ax_O} : ∀ (n : Nat) (x1 : Int32) (x2 : Int32) (x3 : Int32) (s : ax_S) (r : (Unit) ⊕ (Int32 × ax_S)) (h : M_pages_l38 n x1 x2 x3 s = some r) (hk0 : r = (.inl ()) → ax_go true none (ax_ev true (d + 2)) ax_m270 86 [some (.ref 63), some (.int x1), some (.int x2), none, none] [] s o) (hkr : ∀ q, r = (.inr q) → o = (some (.int q.1), q.2)), ax_go true none (ax_ev true (d + 2)) ax_m270 38 [some (.ref 63), some (.int x1), some (.int x2), some (.int x3), none] [] s o := by
  intro n
  induction n with
  | zero => intro x1 x2 x3 s r h hk0 hkr; cases h
  | succ n ih =>
    intro x1 x2 x3 s r h hk0 hkr
    rw [M_pages_l38] at h
    by_cases c1 : x1 ≤ x3
    · rw [if_pos c1] at h
      have h := Option.some.inj h
      subst r
      exact ax_cut (pc' := 86) (la := [some (.ref 63), some (.int x1), some (.int x2), some (.int x3), none]) [some (.ref 63), some (.int x1), some (.int x2), none, none] (st' := []) (σ' := s) 3 (And.intro rfl (And.intro rfl (And.intro rfl (trivial)))) (fun _ hh => (And.intro (fun _ => hh) (fun q => absurd c1 q))) (hk0 rfl)
    · rw [if_neg c1] at h
      cases hz2 : M_octet ((2 : Int32) * x3) s with
      | none => rw [hz2] at h; cases h
      | some v1 =>
      rw [hz2] at h
      dsimp only at h
      by_cases c3 : (M_in v1 (1 : Int32) (16 : Int32) s) = 0
      · rw [if_pos c3] at h
        have h := Option.some.inj h
        subst r
        exact ax_end 14 (And.intro (fun q => absurd q c1) (fun _ => (Exists.intro (some (.int v1), s) (And.intro (e_M_octet (d + 1) hz2) (Exists.intro (some (.int (M_in v1 (1 : Int32) (16 : Int32) s)), s) (And.intro (e_M_in (d + 1) v1 (1 : Int32) (16 : Int32) s) (And.intro (fun _ => (hkr _ rfl)) (fun q => absurd c3 q))))))))
      · rw [if_neg c3] at h
        refine ax_cut (pc' := 63) (la := [some (.ref 63), some (.int x1), some (.int x2), some (.int x3), none]) [some (.ref 63), some (.int x1), some (.int x2), some (.int x3), none] (st' := [.int ((2 : Int32) * x3), .ref 63]) (σ' := s) 16 (And.intro rfl (And.intro rfl (And.intro rfl (And.intro rfl (trivial))))) (fun _ hh => (And.intro (fun q => absurd q c1) (fun _ => (Exists.intro (some (.int v1), s) (And.intro (e_M_octet (d + 1) hz2) (Exists.intro (some (.int (M_in v1 (1 : Int32) (16 : Int32) s)), s) (And.intro (e_M_in (d + 1) v1 (1 : Int32) (16 : Int32) s) (And.intro (fun q => absurd q c3) (fun _ => hh))))))))) ?_
        cases hz4 : M_octet (((2 : Int32) * x3) + (1 : Int32)) s with
        | none => rw [hz4] at h; cases h
        | some v2 =>
        rw [hz4] at h
        dsimp only at h
        by_cases c5 : (M_in v2 (1 : Int32) (12 : Int32) s) = 0
        · rw [if_pos c5] at h
          have h := Option.some.inj h
          subst r
          exact ax_end 9 (Exists.intro (some (.int v2), s) (And.intro (e_M_octet (d + 1) hz4) (Exists.intro (some (.int (M_in v2 (1 : Int32) (12 : Int32) s)), s) (And.intro (e_M_in (d + 1) v2 (1 : Int32) (12 : Int32) s) (And.intro (fun q => absurd c5 q) (fun _ => (hkr _ rfl)))))))
        · rw [if_neg c5] at h
          exact ax_cut (pc' := 38) (la := [some (.ref 63), some (.int x1), some (.int x2), some (.int (x3 + (1))), none]) [some (.ref 63), some (.int x1), some (.int x2), some (.int (x3 + (1))), none] (st' := []) (σ' := s) 9 (And.intro rfl (And.intro rfl (And.intro rfl (And.intro rfl (trivial))))) (fun _ hh => (Exists.intro (some (.int v2), s) (And.intro (e_M_octet (d + 1) hz4) (Exists.intro (some (.int (M_in v2 (1 : Int32) (12 : Int32) s)), s) (And.intro (e_M_in (d + 1) v2 (1 : Int32) (12 : Int32) s) (And.intro (fun _ => hh) (fun q => absurd c5 q))))))) (ih x1 x2 (x3 + (1)) s _ h hk0 hkr)
theorem w_M_pages_l88 (d : Nat) {o : ax_O} : ∀ (n : Nat) (x1 : Int32) (x2 : Int32) (x3 : Int32) (s : ax_S) (r : ax_S) (h : M_pages_l88 n x1 x2 x3 s = some r) (hk0 : ∀ (t0 : ax_S), r = t0 → ax_go true none (ax_ev true (d + 2)) ax_m270 106 [some (.ref 63), some (.int x1), some (.int x2), none, none] [] t0 o), ax_go true none (ax_ev true (d + 2)) ax_m270 88 [some (.ref 63), some (.int x1), some (.int x2), some (.int x3), none] [] s o := by
  intro n
  induction n with
  | zero => intro x1 x2 x3 s r h hk0; cases h
  | succ n ih =>
    intro x1 x2 x3 s r h hk0
    rw [M_pages_l88] at h
    by_cases c1 : x1 ≤ x3
    · rw [if_pos c1] at h
      have h := Option.some.inj h
      subst r
      exact ax_cut (pc' := 106) (la := [some (.ref 63), some (.int x1), some (.int x2), some (.int x3), none]) [some (.ref 63), some (.int x1), some (.int x2), none, none] (st' := []) (σ' := s) 3 (And.intro rfl (And.intro rfl (And.intro rfl (trivial)))) (fun _ hh => (And.intro (fun _ => hh) (fun q => absurd c1 q))) (hk0 _ rfl)
    · rw [if_neg c1] at h
      by_cases c2 : (x3 < 0 ∨ 6 ≤ (x3).toNatClampNeg)
      · rw [if_pos c2] at h; cases h
      · rw [if_neg c2] at h
        exact ax_cut (pc' := 88) (la := [some (.ref 63), some (.int x1), some (.int x2), some (.int (x3 + (1))), none]) [some (.ref 63), some (.int x1), some (.int x2), some (.int (x3 + (1))), none] (st' := []) (σ' := (ax_sI s 81 (x3).toNatClampNeg x3)) 10 (And.intro rfl (And.intro rfl (And.intro rfl (And.intro rfl (trivial))))) (fun _ hh => (And.intro (fun q => absurd q c1) (fun _ => (And.intro c2 hh)))) (ih x1 x2 (x3 + (1)) (ax_sI s 81 (x3).toNatClampNeg x3) _ h hk0)
theorem w_M_pages_j114 (d : Nat) {o : ax_O} (x1 : Int32) (x3 : Int32) (y0 : Int32) (s : ax_S) (r : Int32) (h : M_pages_j114 x1 x3 y0 s = r) (hk0 : ∀ (t0 : Int32), r = t0 → ax_go true none (ax_ev true (d + 2)) ax_m270 122 [some (.ref 63), some (.int x1), none, some (.int x3), none] [.int t0] s o) : ax_go true none (ax_ev true (d + 2)) ax_m270 114 [some (.ref 63), some (.int x1), none, some (.int x3), none] [.int (1 : Int32), .int y0] s o := by
  unfold M_pages_j114 at h
  by_cases c1 : y0 = (1 : Int32)
  · rw [if_pos c1] at h
    have h := h
    subst r
    exact ax_cut (pc' := 122) (la := [some (.ref 63), some (.int x1), none, some (.int x3), none]) [some (.ref 63), some (.int x1), none, some (.int x3), none] (st' := [.int (1 : Int32)]) (σ' := s) 3 (And.intro rfl (And.intro rfl (And.intro rfl (trivial)))) (fun _ hh => (And.intro (fun q => absurd c1 q) (fun _ => hh))) (hk0 _ rfl)
  · rw [if_neg c1] at h
    have h := h
    subst r
    exact ax_cut (pc' := 122) (la := [some (.ref 63), some (.int x1), none, some (.int x3), none]) [some (.ref 63), some (.int x1), none, some (.int x3), none] (st' := [.int (0 : Int32)]) (σ' := s) 2 (And.intro rfl (And.intro rfl (And.intro rfl (trivial)))) (fun _ hh => (And.intro (fun _ => hh) (fun q => absurd c1 q))) (hk0 _ rfl)
theorem w_M_pages_l124 (d : Nat) {o : ax_O} : ∀ (n : Nat) (x1 : Int32) (x3 : Int32) (x4 : Int32) (s : ax_S) (r : Int32 × ax_S) (h : M_pages_l124 n x1 x3 x4 s = some r) (hk0 : ∀ (t0 : Int32) (t1 : ax_S), r = (t0, t1) → ax_go true none (ax_ev true (d + 2)) ax_m270 149 [none, none, none, some (.int t0), none] [] t1 o), ax_go true none (ax_ev true (d + 2)) ax_m270 124 [some (.ref 63), some (.int x1), none, some (.int x3), some (.int x4)] [] s o := by
  intro n
  induction n with
  | zero => intro x1 x3 x4 s r h hk0; cases h
  | succ n ih =>
    intro x1 x3 x4 s r h hk0
    rw [M_pages_l124] at h
    by_cases c1 : x4 = 0
    · rw [if_pos c1] at h
      have h := Option.some.inj h
      subst r
      exact ax_cut (pc' := 149) (la := [some (.ref 63), some (.int x1), none, some (.int x3), some (.int x4)]) [none, none, none, some (.int x3), none] (st' := []) (σ' := s) 2 (And.intro rfl (trivial)) (fun _ hh => (And.intro (fun _ => hh) (fun q => absurd c1 q))) (hk0 _ _ rfl)
    · rw [if_neg c1] at h
      cases hz2 : M_nextOrder x1 s with
      | none => rw [hz2] at h; cases h
      | some z2 =>
      rw [hz2] at h
      obtain ⟨v6, s7⟩ := z2
      dsimp only at h
      cases hz3 : M_pagesNow x1 s7 with
      | none => rw [hz3] at h; cases h
      | some v8 =>
      rw [hz3] at h
      dsimp only at h
      exact ax_cut (pc' := 124) (la := [some (.ref 63), some (.int x1), none, some (.int (M_min x3 v8 s7)), some (.int v6)]) [some (.ref 63), some (.int x1), none, some (.int (M_min x3 v8 s7)), some (.int v6)] (st' := []) (σ' := s7) 13 (And.intro rfl (And.intro rfl (And.intro rfl (And.intro rfl (trivial))))) (fun _ hh => (And.intro (fun q => absurd q c1) (fun _ => (Exists.intro (some (.int v6), s7) (And.intro (e_M_nextOrder d hz2) (Exists.intro (some (.int v8), s7) (And.intro (e_M_pagesNow d hz3) (Exists.intro (some (.int (M_min x3 v8 s7)), s7) (And.intro (e_M_min (d + 1) x3 v8 s7) hh))))))))) (ih x1 (M_min x3 v8 s7) v6 s7 _ h hk0)
theorem e_M_pages (d : Nat) {x1 : Int32} {x2 : Int32} {s : ax_S} {r : Int32 × ax_S} (h : M_pages x1 x2 s = some r) : ax_ev true (d + 3) 270 [.ref 63, .int x1, .int x2] s (some (.int r.1), r.2) := by
  refine ⟨Nat.le_of_ble_eq_true rfl, ?_⟩
  show ax_go true none (ax_ev true (d + 2)) ax_m270 0 [some (.ref 63), some (.int x1), some (.int x2), none, none] [] s _
  unfold M_pages at h
  by_cases c1 : (M_in x1 (1 : Int32) (6 : Int32) s) = 0
  · rw [if_pos c1] at h
    have h := Option.some.inj h
    subst r
    exact ax_end 7 (Exists.intro (some (.int (M_in x1 (1 : Int32) (6 : Int32) s)), s) (And.intro (e_M_in (d + 1) x1 (1 : Int32) (6 : Int32) s) (And.intro (fun _ => rfl) (fun q => absurd c1 q))))
  · rw [if_neg c1] at h
    by_cases c2 : (M_in x2 (0 : Int32) (1 : Int32) s) = 0
    · rw [if_pos c2] at h
      have h := Option.some.inj h
      subst r
      exact ax_end 12 (Exists.intro (some (.int (M_in x1 (1 : Int32) (6 : Int32) s)), s) (And.intro (e_M_in (d + 1) x1 (1 : Int32) (6 : Int32) s) (And.intro (fun q => absurd q c1) (fun _ => (Exists.intro (some (.int (M_in x2 (0 : Int32) (1 : Int32) s)), s) (And.intro (e_M_in (d + 1) x2 (0 : Int32) (1 : Int32) s) (And.intro (fun _ => rfl) (fun q => absurd c2 q))))))))
    · rw [if_neg c2] at h
      by_cases c3 : ((2 : Int32) * x1) ≤ (s.2.1 63 5)
      · rw [if_pos c3] at h
        refine ax_cut (pc' := 31) (la := [some (.ref 63), some (.int x1), some (.int x2), none, none]) [some (.ref 63), some (.int x1), some (.int x2), none, none] (st' := []) (σ' := s) 16 (And.intro rfl (And.intro rfl (And.intro rfl (trivial)))) (fun _ hh => (Exists.intro (some (.int (M_in x1 (1 : Int32) (6 : Int32) s)), s) (And.intro (e_M_in (d + 1) x1 (1 : Int32) (6 : Int32) s) (And.intro (fun q => absurd q c1) (fun _ => (Exists.intro (some (.int (M_in x2 (0 : Int32) (1 : Int32) s)), s) (And.intro (e_M_in (d + 1) x2 (0 : Int32) (1 : Int32) s) (And.intro (fun q => absurd q c2) (fun _ => (And.intro (fun _ => hh) (fun q => absurd c3 q))))))))))) ?_
        cases hz4 : M_pages_l38 70000 x1 x2 (0 : Int32) (ax_sI s 63 5 (0 : Int32)) with
        | none => rw [hz4] at h; cases h
        | some z4 =>
        rw [hz4] at h
        refine ax_cut (pc' := 38) (la := [some (.ref 63), some (.int x1), some (.int x2), some (.int (0 : Int32)), none]) [some (.ref 63), some (.int x1), some (.int x2), some (.int (0 : Int32)), none] (st' := []) (σ' := (ax_sI s 63 5 (0 : Int32))) 5 (And.intro rfl (And.intro rfl (And.intro rfl (And.intro rfl (trivial))))) (fun _ hh => hh) (w_M_pages_l38 d 70000 x1 x2 (0 : Int32) (ax_sI s 63 5 (0 : Int32)) _ hz4 ?_ ?_)
        · intro  hq
          subst z4
          dsimp only at h
          cases hz5 : M_pages_l88 70000 x1 x2 (0 : Int32) (ax_sI s 63 5 (0 : Int32)) with
          | none => rw [hz5] at h; cases h
          | some z5 =>
          rw [hz5] at h
          refine ax_cut (pc' := 88) (la := [some (.ref 63), some (.int x1), some (.int x2), some (.int (0 : Int32)), none]) [some (.ref 63), some (.int x1), some (.int x2), some (.int (0 : Int32)), none] (st' := []) (σ' := (ax_sI s 63 5 (0 : Int32))) 2 (And.intro rfl (And.intro rfl (And.intro rfl (And.intro rfl (trivial))))) (fun _ hh => hh) (w_M_pages_l88 d 70000 x1 x2 (0 : Int32) (ax_sI s 63 5 (0 : Int32)) _ hz5 ?_)
          · intro s3 hq
            subst z5
            dsimp only at h
            cases hz6 : M_pagesNow x1 s3 with
            | none => rw [hz6] at h; cases h
            | some v4 =>
            rw [hz6] at h
            dsimp only at h
            refine ax_cut (pc' := 114) (la := [some (.ref 63), some (.int x1), some (.int x2), some (.int v4), none]) [some (.ref 63), some (.int x1), none, some (.int v4), none] (st' := [.int (1 : Int32), .int x2]) (σ' := s3) 6 (And.intro rfl (And.intro rfl (And.intro rfl (trivial)))) (fun _ hh => (Exists.intro (some (.int v4), s3) (And.intro (e_M_pagesNow d hz6) hh))) (w_M_pages_j114 d x1 v4 x2 s3 _ rfl (fun v5 hq => ?_))
            obtain rfl : v5 = (M_pages_j114 x1 v4 x2 s3) := hq.symm
            cases hz7 : M_pages_l124 70000 x1 v4 (M_pages_j114 x1 v4 x2 s3) s3 with
            | none => rw [hz7] at h; cases h
            | some z7 =>
            rw [hz7] at h
            refine ax_cut (pc' := 124) (la := [some (.ref 63), some (.int x1), none, some (.int v4), some (.int (M_pages_j114 x1 v4 x2 s3))]) [some (.ref 63), some (.int x1), none, some (.int v4), some (.int (M_pages_j114 x1 v4 x2 s3))] (st' := []) (σ' := s3) 1 (And.intro rfl (And.intro rfl (And.intro rfl (And.intro rfl (trivial))))) (fun _ hh => hh) (w_M_pages_l124 d 70000 x1 v4 (M_pages_j114 x1 v4 x2 s3) s3 _ hz7 ?_)
            · intro v9 s10 hq
              subst z7
              dsimp only at h
              have h := Option.some.inj h
              subst r
              exact ax_end 2 rfl
        · intro q hq
          subst z4
          dsimp only at h
          cases h
          rfl
      · rw [if_neg c3] at h
        refine ax_cut (pc' := 29) (la := [some (.ref 63), some (.int x1), some (.int x2), none, none]) [none, none, none, none, none] (st' := []) (σ' := s) 16 (trivial) (fun _ hh => (Exists.intro (some (.int (M_in x1 (1 : Int32) (6 : Int32) s)), s) (And.intro (e_M_in (d + 1) x1 (1 : Int32) (6 : Int32) s) (And.intro (fun q => absurd q c1) (fun _ => (Exists.intro (some (.int (M_in x2 (0 : Int32) (1 : Int32) s)), s) (And.intro (e_M_in (d + 1) x2 (0 : Int32) (1 : Int32) s) (And.intro (fun q => absurd q c2) (fun _ => (And.intro (fun q => absurd q c3) (fun _ => hh))))))))))) ?_
        have h := Option.some.inj h
        subst r
        exact ax_end 2 rfl
