def XFi_part_4 (x1 : Int32) (x2 : Int32)  (s : ax_S) : Option (Int32) :=
  match XFi_isTold_4 x1 s with
  | none => none
  | some v1 =>
    if v1 = 0 then (
      some (-1 : Int32)) else
    if x2 = (0) then (
      if (x1 < 0 ∨ 12 ≤ (x1).toNatClampNeg) then none else
      some (s.2.1 5 (x1).toNatClampNeg)) else
    if x2 = (1) then (
      if (x1 < 0 ∨ 12 ≤ (x1).toNatClampNeg) then none else
      some (s.2.1 6 (x1).toNatClampNeg)) else
    if x2 = (2) then (
      if (x1 < 0 ∨ 12 ≤ (x1).toNatClampNeg) then none else
      some (s.2.1 7 (x1).toNatClampNeg)) else
    if x2 = (3) then (
      if (x1 < 0 ∨ 12 ≤ (x1).toNatClampNeg) then none else
      some (s.2.1 8 (x1).toNatClampNeg)) else
    if x2 = (4) then (
      if (x1 < 0 ∨ 12 ≤ (x1).toNatClampNeg) then none else
      some (s.2.1 9 (x1).toNatClampNeg)) else
    some (-1 : Int32)
theorem e_XFi_part_4 (d : Nat) {x1 : Int32} {x2 : Int32} {s : ax_S} {r : Int32} (h : XFi_part_4 x1 x2 s = some r) : ax_ev true (d + 2) 113 [.ref 4, .int x1, .int x2] s (some (.int r), s) := by
  refine ⟨Nat.le_of_ble_eq_true rfl, ?_⟩
  show ax_go true none (ax_ev true (d + 1)) ax_m113 0 [some (.ref 4), some (.int x1), some (.int x2)] [] s _
  unfold XFi_part_4 at h
  cases hz1 : XFi_isTold_4 x1 s with
  | none => rw [hz1] at h; cases h
  | some v1 =>
  rw [hz1] at h
  dsimp only at h
  by_cases c2 : v1 = 0
  · rw [if_pos c2] at h
    have h := Option.some.inj h
    subst r
    exact ax_end 6 (Exists.intro (some (.int v1), s) (And.intro (e_XFi_isTold_4 d hz1) (And.intro (fun q => absurd c2 q) (fun _ => rfl))))
  · rw [if_neg c2] at h
    by_cases c3_0 : x2 = (0)
    · rw [if_pos c3_0] at h
      by_cases c4 : (x1 < 0 ∨ 12 ≤ (x1).toNatClampNeg)
      · rw [if_pos c4] at h; cases h
      · rw [if_neg c4] at h
        have h := Option.some.inj h
        subst r
        exact ax_end 11 (Exists.intro (some (.int v1), s) (And.intro (e_XFi_isTold_4 d hz1) (And.intro (fun _ => (ax_tabT (lo := 0) (hg := 4) (j0 := 0) (congrArg Int32.toInt c3_0) (by rw [c3_0]; decide) (And.intro c4 rfl))) (fun q => absurd c2 q))))
    rw [if_neg c3_0] at h
    by_cases c3_1 : x2 = (1)
    · rw [if_pos c3_1] at h
      by_cases c5 : (x1 < 0 ∨ 12 ≤ (x1).toNatClampNeg)
      · rw [if_pos c5] at h; cases h
      · rw [if_neg c5] at h
        have h := Option.some.inj h
        subst r
        exact ax_end 11 (Exists.intro (some (.int v1), s) (And.intro (e_XFi_isTold_4 d hz1) (And.intro (fun _ => (ax_tabT (lo := 0) (hg := 4) (j0 := 1) (congrArg Int32.toInt c3_1) (by rw [c3_1]; decide) (And.intro c5 rfl))) (fun q => absurd c2 q))))
    rw [if_neg c3_1] at h
    by_cases c3_2 : x2 = (2)
    · rw [if_pos c3_2] at h
      by_cases c6 : (x1 < 0 ∨ 12 ≤ (x1).toNatClampNeg)
      · rw [if_pos c6] at h; cases h
      · rw [if_neg c6] at h
        have h := Option.some.inj h
        subst r
        exact ax_end 11 (Exists.intro (some (.int v1), s) (And.intro (e_XFi_isTold_4 d hz1) (And.intro (fun _ => (ax_tabT (lo := 0) (hg := 4) (j0 := 2) (congrArg Int32.toInt c3_2) (by rw [c3_2]; decide) (And.intro c6 rfl))) (fun q => absurd c2 q))))
    rw [if_neg c3_2] at h
    by_cases c3_3 : x2 = (3)
    · rw [if_pos c3_3] at h
      by_cases c7 : (x1 < 0 ∨ 12 ≤ (x1).toNatClampNeg)
      · rw [if_pos c7] at h; cases h
      · rw [if_neg c7] at h
        have h := Option.some.inj h
        subst r
        exact ax_end 11 (Exists.intro (some (.int v1), s) (And.intro (e_XFi_isTold_4 d hz1) (And.intro (fun _ => (ax_tabT (lo := 0) (hg := 4) (j0 := 3) (congrArg Int32.toInt c3_3) (by rw [c3_3]; decide) (And.intro c7 rfl))) (fun q => absurd c2 q))))
    rw [if_neg c3_3] at h
    by_cases c3_4 : x2 = (4)
    · rw [if_pos c3_4] at h
      by_cases c8 : (x1 < 0 ∨ 12 ≤ (x1).toNatClampNeg)
      · rw [if_pos c8] at h; cases h
      · rw [if_neg c8] at h
        have h := Option.some.inj h
        subst r
        exact ax_end 11 (Exists.intro (some (.int v1), s) (And.intro (e_XFi_isTold_4 d hz1) (And.intro (fun _ => (ax_tabT (lo := 0) (hg := 4) (j0 := 4) (congrArg Int32.toInt c3_4) (by rw [c3_4]; decide) (And.intro c8 rfl))) (fun q => absurd c2 q))))
    rw [if_neg c3_4] at h
    have c3_r : (x2).toInt < 0 ∨ 4 < (x2).toInt := by
      have := ax_ne_toInt c3_0
      have := ax_ne_toInt c3_1
      have := ax_ne_toInt c3_2
      have := ax_ne_toInt c3_3
      have := ax_ne_toInt c3_4
      simp only [show ∀ y : Int32, y.toInt = y.toInt from fun _ => rfl, show ((0) : Int32).toInt = 0 by decide, show ((1) : Int32).toInt = 1 by decide, show ((2) : Int32).toInt = 2 by decide, show ((3) : Int32).toInt = 3 by decide, show ((4) : Int32).toInt = 4 by decide] at *
      omega
    have h := Option.some.inj h
    subst r
    exact ax_end 8 (Exists.intro (some (.int v1), s) (And.intro (e_XFi_isTold_4 d hz1) (And.intro (fun _ => (ax_tabF (lo := 0) (hg := 4) rfl c3_r rfl)) (fun q => absurd c2 q))))
def XCu_seen_4_l15 : Nat → Int32 → Int32 → Int32 → ax_S → Option (Int32)
  | 0, _, _, _, _ => none
  | n + 1, x2, x3, x4, s =>
    if (12 : Int32) ≤ x4 then (
      some x3) else
    match XFi_cellsInRow_4 x2 x4 s with
    | none => none
    | some v2 =>
      if (x4 < 0 ∨ 12 ≤ (x4).toNatClampNeg) then none else
      XCu_seen_4_l15 n x2 (x3 + (J_bitCount (v2 &&& ((s.2.1 56 (x4).toNatClampNeg) ^^^ (-1 : Int32))) s)) (x4 + (1)) s
def XCu_seen_4 (x2 : Int32)  (s : ax_S) : Option (Int32 × ax_S) :=
  match XCu_layOut_4 (65535 : Int32) (x2 + (1 : Int32)) s with
  | none => none
  | some s1 =>
    match XCu_seen_4_l15 70000 x2 (0 : Int32) (0 : Int32) s1 with
    | none => none
    | some v3 =>
      some (v3, s1)
theorem w_XCu_seen_4_l15 (d : Nat) {o : ax_O} : ∀ (n : Nat) (x2 : Int32) (x3 : Int32) (x4 : Int32) (s : ax_S) (r : Int32) (h : XCu_seen_4_l15 n x2 x3 x4 s = some r) (hk0 : ∀ (t0 : Int32), r = t0 → ax_go true none (ax_ev true (d + 3)) ax_m112 51 [none, none, none, some (.int t0), none] [] s o), ax_go true none (ax_ev true (d + 3)) ax_m112 15 [some (.ref 55), some (.ref 4), some (.int x2), some (.int x3), some (.int x4)] [] s o := by
  intro n
  induction n with
  | zero => intro x2 x3 x4 s r h hk0; cases h
  | succ n ih =>
    intro x2 x3 x4 s r h hk0
    rw [XCu_seen_4_l15] at h
    by_cases c1 : (12 : Int32) ≤ x4
    · rw [if_pos c1] at h
      have h := Option.some.inj h
      subst r
      exact ax_cut (pc' := 51) (la := [some (.ref 55), some (.ref 4), some (.int x2), some (.int x3), some (.int x4)]) [none, none, none, some (.int x3), none] (st' := []) (σ' := s) 3 (And.intro rfl (trivial)) (fun _ hh => (And.intro (fun _ => hh) (fun q => absurd c1 q))) (hk0 _ rfl)
    · rw [if_neg c1] at h
      cases hz2 : XFi_cellsInRow_4 x2 x4 s with
      | none => rw [hz2] at h; cases h
      | some v2 =>
      rw [hz2] at h
      dsimp only at h
      by_cases c3 : (x4 < 0 ∨ 12 ≤ (x4).toNatClampNeg)
      · rw [if_pos c3] at h; cases h
      · rw [if_neg c3] at h
        refine ax_cut (pc' := 43) (la := [some (.ref 55), some (.ref 4), some (.int x2), some (.int x3), some (.int x4)]) [some (.ref 55), some (.ref 4), some (.int x2), none, some (.int x4)] (st' := [.int (J_bitCount (v2 &&& ((s.2.1 56 (x4).toNatClampNeg) ^^^ (-1 : Int32))) s), .int x3]) (σ' := s) 16 (And.intro rfl (And.intro rfl (And.intro rfl (And.intro rfl (trivial))))) (fun _ hh => (And.intro (fun q => absurd q c1) (fun _ => (Exists.intro (some (.int v2), s) (And.intro (e_XFi_cellsInRow_4 (d + 1) hz2) (And.intro c3 (Exists.intro (some (.int (J_bitCount (v2 &&& ((s.2.1 56 (x4).toNatClampNeg) ^^^ (-1 : Int32))) s)), s) (And.intro (e_J_bitCount (d + 2) (v2 &&& ((s.2.1 56 (x4).toNatClampNeg) ^^^ (-1 : Int32))) s) hh)))))))) ?_
        exact ax_cut (pc' := 15) (la := [some (.ref 55), some (.ref 4), some (.int x2), some (.int (x3 + (J_bitCount (v2 &&& ((s.2.1 56 (x4).toNatClampNeg) ^^^ (-1 : Int32))) s))), some (.int (x4 + (1)))]) [some (.ref 55), some (.ref 4), some (.int x2), some (.int (x3 + (J_bitCount (v2 &&& ((s.2.1 56 (x4).toNatClampNeg) ^^^ (-1 : Int32))) s))), some (.int (x4 + (1)))] (st' := []) (σ' := s) 4 (And.intro rfl (And.intro rfl (And.intro rfl (And.intro rfl (And.intro rfl (trivial)))))) (fun _ hh => hh) (ih x2 (x3 + (J_bitCount (v2 &&& ((s.2.1 56 (x4).toNatClampNeg) ^^^ (-1 : Int32))) s)) (x4 + (1)) s _ h hk0)
theorem e_XCu_seen_4 (d : Nat) {x2 : Int32} {s : ax_S} {r : Int32 × ax_S} (h : XCu_seen_4 x2 s = some r) : ax_ev true (d + 4) 112 [.ref 55, .ref 4, .int x2] s (some (.int r.1), r.2) := by
  refine ⟨Nat.le_of_ble_eq_true rfl, ?_⟩
  show ax_go true none (ax_ev true (d + 3)) ax_m112 0 [some (.ref 55), some (.ref 4), some (.int x2), none, none] [] s _
  unfold XCu_seen_4 at h
  cases hz1 : XCu_layOut_4 (65535 : Int32) (x2 + (1 : Int32)) s with
  | none => rw [hz1] at h; cases h
  | some s1 =>
  rw [hz1] at h
  dsimp only at h
  cases hz2 : XCu_seen_4_l15 70000 x2 (0 : Int32) (0 : Int32) s1 with
  | none => rw [hz2] at h; cases h
  | some z2 =>
  rw [hz2] at h
  refine ax_cut (pc' := 15) (la := [some (.ref 55), some (.ref 4), some (.int x2), some (.int (0 : Int32)), some (.int (0 : Int32))]) [some (.ref 55), some (.ref 4), some (.int x2), some (.int (0 : Int32)), some (.int (0 : Int32))] (st' := []) (σ' := s1) 11 (And.intro rfl (And.intro rfl (And.intro rfl (And.intro rfl (And.intro rfl (trivial)))))) (fun _ hh => (Exists.intro (none, s1) (And.intro (e_XCu_layOut_4 d hz1) hh))) (w_XCu_seen_4_l15 d 70000 x2 (0 : Int32) (0 : Int32) s1 _ hz2 ?_)
  · intro v3 hq
    subst z2
    dsimp only at h
    have h := Option.some.inj h
    subst r
    exact ax_end 2 rfl
def X_figureIs (x1 : Int32) (x2 : Int32)  (s : ax_S) : Option (Int32 × ax_S) :=
  match XFi_isTold_4 x1 s with
  | none => none
  | some v1 =>
    if v1 = 0 then (
      some ((-1 : Int32), s)) else
    if x2 = (5 : Int32) then (
      match XCu_seen_4 x1 s with
      | none => none
      | some (v3, s4) =>
        some (v3, s4)) else
    match XFi_part_4 x1 x2 s with
    | none => none
    | some v2 =>
      some (v2, s)
theorem e_X_figureIs (d : Nat) {x1 : Int32} {x2 : Int32} {s : ax_S} {r : Int32 × ax_S} (h : X_figureIs x1 x2 s = some r) : ax_ev true (d + 5) 111 [.ref 0, .int x1, .int x2] s (some (.int r.1), r.2) := by
  refine ⟨Nat.le_of_ble_eq_true rfl, ?_⟩
  show ax_go true none (ax_ev true (d + 4)) ax_m111 0 [some (.ref 0), some (.int x1), some (.int x2)] [] s _
  unfold X_figureIs at h
  cases hz1 : XFi_isTold_4 x1 s with
  | none => rw [hz1] at h; cases h
  | some v1 =>
  rw [hz1] at h
  dsimp only at h
  by_cases c2 : v1 = 0
  · rw [if_pos c2] at h
    have h := Option.some.inj h
    subst r
    exact ax_end 8 (Exists.intro (some (.int v1), s) (And.intro (e_XFi_isTold_4 (d + 3) hz1) (And.intro (fun q => absurd c2 q) (fun _ => rfl))))
  · rw [if_neg c2] at h
    by_cases c3 : x2 = (5 : Int32)
    · rw [if_pos c3] at h
      cases hz4 : XCu_seen_4 x1 s with
      | none => rw [hz4] at h; cases h
      | some z4 =>
      rw [hz4] at h
      obtain ⟨v3, s4⟩ := z4
      dsimp only at h
      refine ax_cut (pc' := 36) (la := [some (.ref 0), some (.int x1), some (.int x2)]) [none, none, none] (st' := [.int v3]) (σ' := s4) 16 (trivial) (fun _ hh => (Exists.intro (some (.int v1), s) (And.intro (e_XFi_isTold_4 (d + 3) hz1) (And.intro (fun _ => (And.intro (fun q => absurd c3 q) (fun _ => (Exists.intro (some (.int v3), s4) (And.intro (e_XCu_seen_4 d hz4) hh))))) (fun q => absurd c2 q))))) ?_
      have h := Option.some.inj h
      subst r
      exact ax_end 2 rfl
    · rw [if_neg c3] at h
      cases hz5 : XFi_part_4 x1 x2 s with
      | none => rw [hz5] at h; cases h
      | some v2 =>
      rw [hz5] at h
      dsimp only at h
      have h := Option.some.inj h
      subst r
      exact ax_end 16 (Exists.intro (some (.int v1), s) (And.intro (e_XFi_isTold_4 (d + 3) hz1) (And.intro (fun _ => (And.intro (fun _ => (Exists.intro (some (.int v2), s) (And.intro (e_XFi_part_4 (d + 2) hz5) rfl))) (fun q => absurd c3 q))) (fun q => absurd c2 q))))
def M_covers (x1 : Int32) (x2 : Int32) (x3 : Int32)  (s : ax_S) : Option (Int32) :=
  match M_isFigure x1 s with
  | none => none
  | some v1 =>
    if v1 = 0 then (
      some (0 : Int32)) else
    match M_isIn x1 x2 x3 (1 : Int32) (1 : Int32) s with
    | none => none
    | some v2 =>
      if v2 = 0 then (
        some (0 : Int32)) else
      some (1 : Int32)
theorem e_M_covers (d : Nat) {x1 : Int32} {x2 : Int32} {x3 : Int32} {s : ax_S} {r : Int32} (h : M_covers x1 x2 x3 s = some r) : ax_ev true (d + 3) 241 [.ref 63, .int x1, .int x2, .int x3] s (some (.int r), s) := by
  refine ⟨Nat.le_of_ble_eq_true rfl, ?_⟩
  show ax_go true none (ax_ev true (d + 2)) ax_m241 0 [some (.ref 63), some (.int x1), some (.int x2), some (.int x3)] [] s _
  unfold M_covers at h
  cases hz1 : M_isFigure x1 s with
  | none => rw [hz1] at h; cases h
  | some v1 =>
  rw [hz1] at h
  dsimp only at h
  by_cases c2 : v1 = 0
  · rw [if_pos c2] at h
    have h := Option.some.inj h
    subst r
    exact ax_end 6 (Exists.intro (some (.int v1), s) (And.intro (e_M_isFigure d hz1) (And.intro (fun _ => (And.intro (Or.inl rfl) rfl)) (fun q => absurd c2 q))))
  · rw [if_neg c2] at h
    cases hz3 : M_isIn x1 x2 x3 (1 : Int32) (1 : Int32) s with
    | none => rw [hz3] at h; cases h
    | some v2 =>
    rw [hz3] at h
    dsimp only at h
    by_cases c4 : v2 = 0
    · rw [if_pos c4] at h
      have h := Option.some.inj h
      subst r
      exact ax_end 14 (Exists.intro (some (.int v1), s) (And.intro (e_M_isFigure d hz1) (And.intro (fun q => absurd q c2) (fun _ => (Exists.intro (some (.int v2), s) (And.intro (e_M_isIn d hz3) (And.intro (fun _ => (And.intro (Or.inl rfl) rfl)) (fun q => absurd c4 q))))))))
    · rw [if_neg c4] at h
      have h := Option.some.inj h
      subst r
      exact ax_end 15 (Exists.intro (some (.int v1), s) (And.intro (e_M_isFigure d hz1) (And.intro (fun q => absurd q c2) (fun _ => (Exists.intro (some (.int v2), s) (And.intro (e_M_isIn d hz3) (And.intro (fun q => absurd q c4) (fun _ => (And.intro (Or.inr rfl) rfl)))))))))
def M_seenOf_l50 : Nat → Int32 → Int32 → Int32 → Int32 → Int32 → Int32 → Int32 → ax_S → Option (Int32)
  | 0, _, _, _, _, _, _, _, _ => none
  | n + 1, x1, x2, x3, x4, x5, x6, x7, s =>
    if (12 : Int32) ≤ x7 then (
      some x6) else
    match M_covers x7 x5 x4 s with
    | none => none
    | some v3 =>
      if v3 = 0 then (
        M_seenOf_l50 n x1 x2 x3 x4 x5 x6 (x7 + (1)) s) else
      M_seenOf_l50 n x1 x2 x3 x4 x5 (0 : Int32) (x7 + (1)) s
def M_seenOf_l34 : Nat → Int32 → Int32 → Int32 → Int32 → Int32 → ax_S → Option (Int32)
  | 0, _, _, _, _, _, _ => none
  | n + 1, x1, x2, x3, x4, x5, s =>
    match M_right x1 s with
    | none => none
    | some v2 =>
      if v2 ≤ x5 then (
        some x3) else
      match M_seenOf_l50 70000 x1 x2 x3 x4 x5 (1 : Int32) x2 s with
      | none => none
      | some v4 =>
        if v4 = 0 then (
          M_seenOf_l34 n x1 x2 x3 x4 (x5 + (1)) s) else
        M_seenOf_l34 n x1 x2 (x3 + (1 : Int32)) x4 (x5 + (1)) s
def M_seenOf_l13 : Nat → Int32 → Int32 → Int32 → Int32 → ax_S → Option (Int32)
  | 0, _, _, _, _, _ => none
  | n + 1, x1, x2, x3, x4, s =>
    match M_below x1 s with
    | none => none
    | some v1 =>
      if v1 ≤ x4 then (
        some x3) else
      if (((12 : Int32) + x1) < 0 ∨ 291 ≤ (((12 : Int32) + x1)).toNatClampNeg) then none else
      match M_seenOf_l34 70000 x1 x2 x3 x4 (s.2.1 64 (((12 : Int32) + x1)).toNatClampNeg) s with
      | none => none
      | some v5 =>
        M_seenOf_l13 n x1 x2 v5 (x4 + (1)) s
def M_seenOf (x1 : Int32) (x2 : Int32)  (s : ax_S) : Option (Int32) :=
  if (((24 : Int32) + x1) < 0 ∨ 291 ≤ (((24 : Int32) + x1)).toNatClampNeg) then none else
  match M_seenOf_l13 70000 x1 x2 (0 : Int32) (s.2.1 64 (((24 : Int32) + x1)).toNatClampNeg) s with
  | none => none
  | some v6 =>
    some v6
theorem w_M_seenOf_l50 (d : Nat) {o : ax_O} : ∀ (n : Nat) (x1 : Int32) (x2 : Int32) (x3 : Int32) (x4 : Int32) (x5 : Int32) (x6 : Int32) (x7 : Int32) (s : ax_S) (r : Int32) (h : M_seenOf_l50 n x1 x2 x3 x4 x5 x6 x7 s = some r) (hk0 : ∀ (t0 : Int32), r = t0 → ax_go true none (ax_ev true (d + 3)) ax_m240 79 [some (.ref 63), some (.int x1), some (.int x2), some (.int x3), some (.int x4), some (.int x5), some (.int t0), none] [] s o), ax_go true none (ax_ev true (d + 3)) ax_m240 50 [some (.ref 63), some (.int x1), some (.int x2), some (.int x3), some (.int x4), some (.int x5), some (.int x6), some (.int x7)] [] s o := by
  intro n
  induction n with
  | zero => intro x1 x2 x3 x4 x5 x6 x7 s r h hk0; cases h
  | succ n ih =>
    intro x1 x2 x3 x4 x5 x6 x7 s r h hk0
    rw [M_seenOf_l50] at h
    by_cases c1 : (12 : Int32) ≤ x7
    · rw [if_pos c1] at h
      have h := Option.some.inj h
      subst r
      exact ax_cut (pc' := 79) (la := [some (.ref 63), some (.int x1), some (.int x2), some (.int x3), some (.int x4), some (.int x5), some (.int x6), some (.int x7)]) [some (.ref 63), some (.int x1), some (.int x2), some (.int x3), some (.int x4), some (.int x5), some (.int x6), none] (st' := []) (σ' := s) 3 (And.intro rfl (And.intro rfl (And.intro rfl (And.intro rfl (And.intro rfl (And.intro rfl (And.intro rfl (trivial)))))))) (fun _ hh => (And.intro (fun _ => hh) (fun q => absurd c1 q))) (hk0 _ rfl)
    · rw [if_neg c1] at h
      cases hz2 : M_covers x7 x5 x4 s with
      | none => rw [hz2] at h; cases h
      | some v3 =>
      rw [hz2] at h
      dsimp only at h
      by_cases c3 : v3 = 0
      · rw [if_pos c3] at h
        exact ax_cut (pc' := 50) (la := [some (.ref 63), some (.int x1), some (.int x2), some (.int x3), some (.int x4), some (.int x5), some (.int x6), some (.int (x7 + (1)))]) [some (.ref 63), some (.int x1), some (.int x2), some (.int x3), some (.int x4), some (.int x5), some (.int x6), some (.int (x7 + (1)))] (st' := []) (σ' := s) 11 (And.intro rfl (And.intro rfl (And.intro rfl (And.intro rfl (And.intro rfl (And.intro rfl (And.intro rfl (And.intro rfl (trivial))))))))) (fun _ hh => (And.intro (fun q => absurd q c1) (fun _ => (Exists.intro (some (.int v3), s) (And.intro (e_M_covers d hz2) (And.intro (fun _ => hh) (fun q => absurd c3 q))))))) (ih x1 x2 x3 x4 x5 x6 (x7 + (1)) s _ h hk0)
      · rw [if_neg c3] at h
        exact ax_cut (pc' := 50) (la := [some (.ref 63), some (.int x1), some (.int x2), some (.int x3), some (.int x4), some (.int x5), some (.int (0 : Int32)), some (.int (x7 + (1)))]) [some (.ref 63), some (.int x1), some (.int x2), some (.int x3), some (.int x4), some (.int x5), some (.int (0 : Int32)), some (.int (x7 + (1)))] (st' := []) (σ' := s) 13 (And.intro rfl (And.intro rfl (And.intro rfl (And.intro rfl (And.intro rfl (And.intro rfl (And.intro rfl (And.intro rfl (trivial))))))))) (fun _ hh => (And.intro (fun q => absurd q c1) (fun _ => (Exists.intro (some (.int v3), s) (And.intro (e_M_covers d hz2) (And.intro (fun q => absurd q c3) (fun _ => hh))))))) (ih x1 x2 x3 x4 x5 (0 : Int32) (x7 + (1)) s _ h hk0)
theorem w_M_seenOf_l34 (d : Nat) {o : ax_O} : ∀ (n : Nat) (x1 : Int32) (x2 : Int32) (x3 : Int32) (x4 : Int32) (x5 : Int32) (s : ax_S) (r : Int32) (h : M_seenOf_l34 n x1 x2 x3 x4 x5 s = some r) (hk0 : ∀ (t0 : Int32), r = t0 → ax_go true none (ax_ev true (d + 3)) ax_m240 94 [some (.ref 63), some (.int x1), some (.int x2), some (.int t0), some (.int x4), none, none, none] [] s o), ax_go true none (ax_ev true (d + 3)) ax_m240 34 [some (.ref 63), some (.int x1), some (.int x2), some (.int x3), some (.int x4), some (.int x5), none, none] [] s o := by
  intro n
  induction n with
  | zero => intro x1 x2 x3 x4 x5 s r h hk0; cases h
  | succ n ih =>
    intro x1 x2 x3 x4 x5 s r h hk0
    rw [M_seenOf_l34] at h
    cases hz1 : M_right x1 s with
    | none => rw [hz1] at h; cases h
    | some v2 =>
    rw [hz1] at h
    dsimp only at h
    by_cases c2 : v2 ≤ x5
    · rw [if_pos c2] at h
      have h := Option.some.inj h
      subst r
      exact ax_cut (pc' := 94) (la := [some (.ref 63), some (.int x1), some (.int x2), some (.int x3), some (.int x4), some (.int x5), none, none]) [some (.ref 63), some (.int x1), some (.int x2), some (.int x3), some (.int x4), none, none, none] (st' := []) (σ' := s) 5 (And.intro rfl (And.intro rfl (And.intro rfl (And.intro rfl (And.intro rfl (trivial)))))) (fun _ hh => (Exists.intro (some (.int v2), s) (And.intro (e_M_right (d + 2) hz1) (And.intro (fun _ => hh) (fun q => absurd c2 q))))) (hk0 _ rfl)
    · rw [if_neg c2] at h
      cases hz3 : M_seenOf_l50 70000 x1 x2 x3 x4 x5 (1 : Int32) x2 s with
      | none => rw [hz3] at h; cases h
      | some z3 =>
      rw [hz3] at h
      refine ax_cut (pc' := 50) (la := [some (.ref 63), some (.int x1), some (.int x2), some (.int x3), some (.int x4), some (.int x5), some (.int (1 : Int32)), some (.int x2)]) [some (.ref 63), some (.int x1), some (.int x2), some (.int x3), some (.int x4), some (.int x5), some (.int (1 : Int32)), some (.int x2)] (st' := []) (σ' := s) 9 (And.intro rfl (And.intro rfl (And.intro rfl (And.intro rfl (And.intro rfl (And.intro rfl (And.intro rfl (And.intro rfl (trivial))))))))) (fun _ hh => (Exists.intro (some (.int v2), s) (And.intro (e_M_right (d + 2) hz1) (And.intro (fun q => absurd q c2) (fun _ => hh))))) (w_M_seenOf_l50 d 70000 x1 x2 x3 x4 x5 (1 : Int32) x2 s _ hz3 ?_)
      · intro v4 hq
        subst z3
        dsimp only at h
        by_cases c4 : v4 = 0
        · rw [if_pos c4] at h
          exact ax_cut (pc' := 34) (la := [some (.ref 63), some (.int x1), some (.int x2), some (.int x3), some (.int x4), some (.int (x5 + (1))), some (.int v4), none]) [some (.ref 63), some (.int x1), some (.int x2), some (.int x3), some (.int x4), some (.int (x5 + (1))), none, none] (st' := []) (σ' := s) 4 (And.intro rfl (And.intro rfl (And.intro rfl (And.intro rfl (And.intro rfl (And.intro rfl (trivial))))))) (fun _ hh => (And.intro (fun _ => hh) (fun q => absurd c4 q))) (ih x1 x2 x3 x4 (x5 + (1)) s _ h hk0)
        · rw [if_neg c4] at h
          exact ax_cut (pc' := 34) (la := [some (.ref 63), some (.int x1), some (.int x2), some (.int (x3 + (1 : Int32))), some (.int x4), some (.int (x5 + (1))), some (.int v4), none]) [some (.ref 63), some (.int x1), some (.int x2), some (.int (x3 + (1 : Int32))), some (.int x4), some (.int (x5 + (1))), none, none] (st' := []) (σ' := s) 8 (And.intro rfl (And.intro rfl (And.intro rfl (And.intro rfl (And.intro rfl (And.intro rfl (trivial))))))) (fun _ hh => (And.intro (fun q => absurd q c4) (fun _ => hh))) (ih x1 x2 (x3 + (1 : Int32)) x4 (x5 + (1)) s _ h hk0)
theorem w_M_seenOf_l13 (d : Nat) {o : ax_O} : ∀ (n : Nat) (x1 : Int32) (x2 : Int32) (x3 : Int32) (x4 : Int32) (s : ax_S) (r : Int32) (h : M_seenOf_l13 n x1 x2 x3 x4 s = some r) (hk0 : ∀ (t0 : Int32), r = t0 → ax_go true none (ax_ev true (d + 3)) ax_m240 100 [none, none, none, some (.int t0), none, none, none, none] [] s o), ax_go true none (ax_ev true (d + 3)) ax_m240 13 [some (.ref 63), some (.int x1), some (.int x2), some (.int x3), some (.int x4), none, none, none] [] s o := by
  intro n
  induction n with
  | zero => intro x1 x2 x3 x4 s r h hk0; cases h
  | succ n ih =>
    intro x1 x2 x3 x4 s r h hk0
    rw [M_seenOf_l13] at h
    cases hz1 : M_below x1 s with
    | none => rw [hz1] at h; cases h
    | some v1 =>
    rw [hz1] at h
    dsimp only at h
    by_cases c2 : v1 ≤ x4
    · rw [if_pos c2] at h
      have h := Option.some.inj h
      subst r
      exact ax_cut (pc' := 100) (la := [some (.ref 63), some (.int x1), some (.int x2), some (.int x3), some (.int x4), none, none, none]) [none, none, none, some (.int x3), none, none, none, none] (st' := []) (σ' := s) 5 (And.intro rfl (trivial)) (fun _ hh => (Exists.intro (some (.int v1), s) (And.intro (e_M_below (d + 2) hz1) (And.intro (fun _ => hh) (fun q => absurd c2 q))))) (hk0 _ rfl)
    · rw [if_neg c2] at h
      by_cases c3 : (((12 : Int32) + x1) < 0 ∨ 291 ≤ (((12 : Int32) + x1)).toNatClampNeg)
      · rw [if_pos c3] at h; cases h
      · rw [if_neg c3] at h
        cases hz4 : M_seenOf_l34 70000 x1 x2 x3 x4 (s.2.1 64 (((12 : Int32) + x1)).toNatClampNeg) s with
        | none => rw [hz4] at h; cases h
        | some z4 =>
        rw [hz4] at h
        refine ax_cut (pc' := 34) (la := [some (.ref 63), some (.int x1), some (.int x2), some (.int x3), some (.int x4), some (.int (s.2.1 64 (((12 : Int32) + x1)).toNatClampNeg)), none, none]) [some (.ref 63), some (.int x1), some (.int x2), some (.int x3), some (.int x4), some (.int (s.2.1 64 (((12 : Int32) + x1)).toNatClampNeg)), none, none] (st' := []) (σ' := s) 12 (And.intro rfl (And.intro rfl (And.intro rfl (And.intro rfl (And.intro rfl (And.intro rfl (trivial))))))) (fun _ hh => (Exists.intro (some (.int v1), s) (And.intro (e_M_below (d + 2) hz1) (And.intro (fun q => absurd q c2) (fun _ => (And.intro c3 hh)))))) (w_M_seenOf_l34 d 70000 x1 x2 x3 x4 (s.2.1 64 (((12 : Int32) + x1)).toNatClampNeg) s _ hz4 ?_)
        · intro v5 hq
          subst z4
          dsimp only at h
          exact ax_cut (pc' := 13) (la := [some (.ref 63), some (.int x1), some (.int x2), some (.int v5), some (.int (x4 + (1))), none, none, none]) [some (.ref 63), some (.int x1), some (.int x2), some (.int v5), some (.int (x4 + (1))), none, none, none] (st' := []) (σ' := s) 2 (And.intro rfl (And.intro rfl (And.intro rfl (And.intro rfl (And.intro rfl (trivial)))))) (fun _ hh => hh) (ih x1 x2 v5 (x4 + (1)) s _ h hk0)
theorem e_M_seenOf (d : Nat) {x1 : Int32} {x2 : Int32} {s : ax_S} {r : Int32} (h : M_seenOf x1 x2 s = some r) : ax_ev true (d + 4) 240 [.ref 63, .int x1, .int x2] s (some (.int r), s) := by
  refine ⟨Nat.le_of_ble_eq_true rfl, ?_⟩
  show ax_go true none (ax_ev true (d + 3)) ax_m240 0 [some (.ref 63), some (.int x1), some (.int x2), none, none, none, none, none] [] s _
  unfold M_seenOf at h
  by_cases c1 : (((24 : Int32) + x1) < 0 ∨ 291 ≤ (((24 : Int32) + x1)).toNatClampNeg)
  · rw [if_pos c1] at h; cases h
  · rw [if_neg c1] at h
    cases hz2 : M_seenOf_l13 70000 x1 x2 (0 : Int32) (s.2.1 64 (((24 : Int32) + x1)).toNatClampNeg) s with
    | none => rw [hz2] at h; cases h
    | some z2 =>
    rw [hz2] at h
    refine ax_cut (pc' := 13) (la := [some (.ref 63), some (.int x1), some (.int x2), some (.int (0 : Int32)), some (.int (s.2.1 64 (((24 : Int32) + x1)).toNatClampNeg)), none, none, none]) [some (.ref 63), some (.int x1), some (.int x2), some (.int (0 : Int32)), some (.int (s.2.1 64 (((24 : Int32) + x1)).toNatClampNeg)), none, none, none] (st' := []) (σ' := s) 9 (And.intro rfl (And.intro rfl (And.intro rfl (And.intro rfl (And.intro rfl (trivial)))))) (fun _ hh => (And.intro c1 hh)) (w_M_seenOf_l13 d 70000 x1 x2 (0 : Int32) (s.2.1 64 (((24 : Int32) + x1)).toNatClampNeg) s _ hz2 ?_)
    · intro v6 hq
      subst z2
      dsimp only at h
      have h := Option.some.inj h
      subst r
      exact ax_end 2 rfl
def M_figureIs (x1 : Int32) (x2 : Int32)  (s : ax_S) : Option (Int32) :=
  match M_isFigure x1 s with
  | none => none
  | some v1 =>
    if v1 = 0 then (
      some (-1 : Int32)) else
    if (M_in x2 (0 : Int32) (5 : Int32) s) = 0 then (
      some (-1 : Int32)) else
    if x2 = (5 : Int32) then (
      match M_seenOf x1 (x1 + (1 : Int32)) s with
      | none => none
      | some v2 =>
        some v2) else
    if ((((0 : Int32) + ((12 : Int32) * x2)) + x1) < 0 ∨ 291 ≤ ((((0 : Int32) + ((12 : Int32) * x2)) + x1)).toNatClampNeg) then none else
    some (s.2.1 64 ((((0 : Int32) + ((12 : Int32) * x2)) + x1)).toNatClampNeg)
theorem e_M_figureIs (d : Nat) {x1 : Int32} {x2 : Int32} {s : ax_S} {r : Int32} (h : M_figureIs x1 x2 s = some r) : ax_ev true (d + 5) 239 [.ref 63, .int x1, .int x2] s (some (.int r), s) := by
  refine ⟨Nat.le_of_ble_eq_true rfl, ?_⟩
  show ax_go true none (ax_ev true (d + 4)) ax_m239 0 [some (.ref 63), some (.int x1), some (.int x2)] [] s _
  unfold M_figureIs at h
  cases hz1 : M_isFigure x1 s with
  | none => rw [hz1] at h; cases h
  | some v1 =>
  rw [hz1] at h
  dsimp only at h
  by_cases c2 : v1 = 0
  · rw [if_pos c2] at h
    have h := Option.some.inj h
    subst r
    exact ax_end 6 (Exists.intro (some (.int v1), s) (And.intro (e_M_isFigure (d + 2) hz1) (And.intro (fun _ => rfl) (fun q => absurd c2 q))))
  · rw [if_neg c2] at h
    by_cases c3 : (M_in x2 (0 : Int32) (5 : Int32) s) = 0
    · rw [if_pos c3] at h
      have h := Option.some.inj h
      subst r
      exact ax_end 11 (Exists.intro (some (.int v1), s) (And.intro (e_M_isFigure (d + 2) hz1) (And.intro (fun q => absurd q c2) (fun _ => (Exists.intro (some (.int (M_in x2 (0 : Int32) (5 : Int32) s)), s) (And.intro (e_M_in (d + 3) x2 (0 : Int32) (5 : Int32) s) (And.intro (fun q => absurd c3 q) (fun _ => rfl))))))))
    · rw [if_neg c3] at h
      by_cases c4 : x2 = (5 : Int32)
      · rw [if_pos c4] at h
        refine ax_cut (pc' := 28) (la := [some (.ref 63), some (.int x1), some (.int x2)]) [none, none, none] (st' := [.int (1 : Int32), .int x1, .int x1, .ref 63]) (σ' := s) 16 (trivial) (fun _ hh => (Exists.intro (some (.int v1), s) (And.intro (e_M_isFigure (d + 2) hz1) (And.intro (fun q => absurd q c2) (fun _ => (Exists.intro (some (.int (M_in x2 (0 : Int32) (5 : Int32) s)), s) (And.intro (e_M_in (d + 3) x2 (0 : Int32) (5 : Int32) s) (And.intro (fun _ => (And.intro (fun q => absurd c4 q) (fun _ => hh))) (fun q => absurd c3 q))))))))) ?_
        cases hz5 : M_seenOf x1 (x1 + (1 : Int32)) s with
        | none => rw [hz5] at h; cases h
        | some v2 =>
        rw [hz5] at h
        dsimp only at h
        have h := Option.some.inj h
        subst r
        exact ax_end 4 (Exists.intro (some (.int v2), s) (And.intro (e_M_seenOf d hz5) rfl))
      · rw [if_neg c4] at h
        refine ax_cut (pc' := 42) (la := [some (.ref 63), some (.int x1), some (.int x2)]) [none, some (.int x1), some (.int x2)] (st' := [.int (12 : Int32), .int (0 : Int32), .ref 64]) (σ' := s) 16 (And.intro rfl (And.intro rfl (trivial))) (fun _ hh => (Exists.intro (some (.int v1), s) (And.intro (e_M_isFigure (d + 2) hz1) (And.intro (fun q => absurd q c2) (fun _ => (Exists.intro (some (.int (M_in x2 (0 : Int32) (5 : Int32) s)), s) (And.intro (e_M_in (d + 3) x2 (0 : Int32) (5 : Int32) s) (And.intro (fun _ => (And.intro (fun _ => hh) (fun q => absurd c4 q))) (fun q => absurd c3 q))))))))) ?_
        by_cases c6 : ((((0 : Int32) + ((12 : Int32) * x2)) + x1) < 0 ∨ 291 ≤ ((((0 : Int32) + ((12 : Int32) * x2)) + x1)).toNatClampNeg)
        · rw [if_pos c6] at h; cases h
        · rw [if_neg c6] at h
          have h := Option.some.inj h
          subst r
          exact ax_end 7 (And.intro c6 rfl)
def J_fill_58_l5 : Nat → Int32 → Int32 → Int32 → ax_S → Option (ax_S)
  | 0, _, _, _, _ => none
  | n + 1, x1, x2, x3, s =>
    if x3 ≤ x2 then (
      some s) else
    if (x2 < 0 ∨ 16 ≤ (x2).toNatClampNeg) then none else
    J_fill_58_l5 n x1 (x2 + (1)) x3 (ax_sI s 58 (x2).toNatClampNeg x1)
def J_fill_58 (x1 : Int32)  (s : ax_S) : Option (ax_S) :=
  match J_fill_58_l5 70000 x1 (0 : Int32) (16 : Int32) s with
  | none => none
  | some s1 =>
    some s1
theorem w_J_fill_58_l5 (d : Nat) {o : ax_O} : ∀ (n : Nat) (x1 : Int32) (x2 : Int32) (x3 : Int32) (s : ax_S) (r : ax_S) (h : J_fill_58_l5 n x1 x2 x3 s = some r) (hk0 : ∀ (t0 : ax_S), r = t0 → ax_go true none (ax_ev true (d + 0)) ax_m4 20 [none, none, none, none] [] t0 o), ax_go true none (ax_ev true (d + 0)) ax_m4 5 [some (.ref 58), some (.int x1), some (.int x2), some (.int x3)] [] s o := by
  intro n
  induction n with
  | zero => intro x1 x2 x3 s r h hk0; cases h
  | succ n ih =>
    intro x1 x2 x3 s r h hk0
    rw [J_fill_58_l5] at h
    by_cases c1 : x3 ≤ x2
    · rw [if_pos c1] at h
      have h := Option.some.inj h
      subst r
      exact ax_cut (pc' := 20) (la := [some (.ref 58), some (.int x1), some (.int x2), some (.int x3)]) [none, none, none, none] (st' := []) (σ' := s) 3 (trivial) (fun _ hh => (And.intro (fun _ => hh) (fun q => absurd c1 q))) (hk0 _ rfl)
    · rw [if_neg c1] at h
      by_cases c2 : (x2 < 0 ∨ 16 ≤ (x2).toNatClampNeg)
      · rw [if_pos c2] at h; cases h
      · rw [if_neg c2] at h
        exact ax_cut (pc' := 5) (la := [some (.ref 58), some (.int x1), some (.int (x2 + (1))), some (.int x3)]) [some (.ref 58), some (.int x1), some (.int (x2 + (1))), some (.int x3)] (st' := []) (σ' := (ax_sI s 58 (x2).toNatClampNeg x1)) 9 (And.intro rfl (And.intro rfl (And.intro rfl (And.intro rfl (trivial))))) (fun _ hh => (And.intro (fun q => absurd q c1) (fun _ => (And.intro c2 hh)))) (ih x1 (x2 + (1)) x3 (ax_sI s 58 (x2).toNatClampNeg x1) _ h hk0)
theorem e_J_fill_58 (d : Nat) {x1 : Int32} {s : ax_S} {r : ax_S} (h : J_fill_58 x1 s = some r) : ax_ev true (d + 1) 4 [.ref 58, .int x1] s (none, r) := by
  refine ⟨Nat.le_of_ble_eq_true rfl, ?_⟩
  show ax_go true none (ax_ev true (d + 0)) ax_m4 0 [some (.ref 58), some (.int x1), none, none] [] s _
  unfold J_fill_58 at h
  cases hz1 : J_fill_58_l5 70000 x1 (0 : Int32) (16 : Int32) s with
  | none => rw [hz1] at h; cases h
  | some z1 =>
  rw [hz1] at h
  refine ax_cut (pc' := 5) (la := [some (.ref 58), some (.int x1), some (.int (0 : Int32)), some (.int (16 : Int32))]) [some (.ref 58), some (.int x1), some (.int (0 : Int32)), some (.int (16 : Int32))] (st' := []) (σ' := s) 5 (And.intro rfl (And.intro rfl (And.intro rfl (And.intro rfl (trivial))))) (fun _ hh => hh) (w_J_fill_58_l5 d 70000 x1 (0 : Int32) (16 : Int32) s _ hz1 ?_)
  · intro s1 hq
    subst z1
    dsimp only at h
    have h := Option.some.inj h
    subst r
    exact ax_end 1 rfl
def XFi_meets_4 (x1 : Int32) (x2 : Int32) (x3 : Int32) (x4 : Int32) (x5 : Int32)  (s : ax_S) : Option (Int32) :=
  match XFi_isTold_4 x1 s with
  | none => none
  | some v1 =>
    if v1 = 0 then (
      some (0 : Int32)) else
    if (x1 < 0 ∨ 12 ≤ (x1).toNatClampNeg) then none else
    if (x2 + x4) ≤ (s.2.1 6 (x1).toNatClampNeg) then (
      some (0 : Int32)) else
    if (x1 < 0 ∨ 12 ≤ (x1).toNatClampNeg) then none else
    if (x1 < 0 ∨ 12 ≤ (x1).toNatClampNeg) then none else
    if ((s.2.1 6 (x1).toNatClampNeg) + (s.2.1 8 (x1).toNatClampNeg)) ≤ x2 then (
      some (0 : Int32)) else
    if (x1 < 0 ∨ 12 ≤ (x1).toNatClampNeg) then none else
    if (x3 + x5) ≤ (s.2.1 7 (x1).toNatClampNeg) then (
      some (0 : Int32)) else
    if (x1 < 0 ∨ 12 ≤ (x1).toNatClampNeg) then none else
    if (x1 < 0 ∨ 12 ≤ (x1).toNatClampNeg) then none else
    if ((s.2.1 7 (x1).toNatClampNeg) + (s.2.1 9 (x1).toNatClampNeg)) ≤ x3 then (
      some (0 : Int32)) else
    some (1 : Int32)
theorem e_XFi_meets_4 (d : Nat) {x1 : Int32} {x2 : Int32} {x3 : Int32} {x4 : Int32} {x5 : Int32} {s : ax_S} {r : Int32} (h : XFi_meets_4 x1 x2 x3 x4 x5 s = some r) : ax_ev true (d + 2) 117 [.ref 4, .int x1, .int x2, .int x3, .int x4, .int x5] s (some (.int r), s) := by
  refine ⟨Nat.le_of_ble_eq_true rfl, ?_⟩
  show ax_go true none (ax_ev true (d + 1)) ax_m117 0 [some (.ref 4), some (.int x1), some (.int x2), some (.int x3), some (.int x4), some (.int x5)] [] s _
  unfold XFi_meets_4 at h
  cases hz1 : XFi_isTold_4 x1 s with
  | none => rw [hz1] at h; cases h
  | some v1 =>
  rw [hz1] at h
  dsimp only at h
  by_cases c2 : v1 = 0
  · rw [if_pos c2] at h
    have h := Option.some.inj h
    subst r
    exact ax_end 6 (Exists.intro (some (.int v1), s) (And.intro (e_XFi_isTold_4 d hz1) (And.intro (fun _ => (And.intro (Or.inl rfl) rfl)) (fun q => absurd c2 q))))
  · rw [if_neg c2] at h
    by_cases c3 : (x1 < 0 ∨ 12 ≤ (x1).toNatClampNeg)
    · rw [if_pos c3] at h; cases h
    · rw [if_neg c3] at h
      by_cases c4 : (x2 + x4) ≤ (s.2.1 6 (x1).toNatClampNeg)
      · rw [if_pos c4] at h
        have h := Option.some.inj h
        subst r
        exact ax_end 14 (Exists.intro (some (.int v1), s) (And.intro (e_XFi_isTold_4 d hz1) (And.intro (fun q => absurd q c2) (fun _ => (And.intro c3 (And.intro (fun _ => (And.intro (Or.inl rfl) rfl)) (fun q => absurd c4 q)))))))
      · rw [if_neg c4] at h
        refine ax_cut (pc' := 27) (la := [some (.ref 4), some (.int x1), some (.int x2), some (.int x3), some (.int x4), some (.int x5)]) [some (.ref 4), some (.int x1), none, some (.int x3), none, some (.int x5)] (st' := [.int x1, .ref 6, .int x2]) (σ' := s) 16 (And.intro rfl (And.intro rfl (And.intro rfl (And.intro rfl (trivial))))) (fun _ hh => (Exists.intro (some (.int v1), s) (And.intro (e_XFi_isTold_4 d hz1) (And.intro (fun q => absurd q c2) (fun _ => (And.intro c3 (And.intro (fun q => absurd q c4) (fun _ => hh)))))))) ?_
        by_cases c5 : (x1 < 0 ∨ 12 ≤ (x1).toNatClampNeg)
        · rw [if_pos c5] at h; cases h
        · rw [if_neg c5] at h
          by_cases c6 : (x1 < 0 ∨ 12 ≤ (x1).toNatClampNeg)
          · rw [if_pos c6] at h; cases h
          · rw [if_neg c6] at h
            by_cases c7 : ((s.2.1 6 (x1).toNatClampNeg) + (s.2.1 8 (x1).toNatClampNeg)) ≤ x2
            · rw [if_pos c7] at h
              have h := Option.some.inj h
              subst r
              exact ax_end 9 (And.intro c5 (And.intro c6 (And.intro (fun _ => (And.intro (Or.inl rfl) rfl)) (fun q => absurd c7 q))))
            · rw [if_neg c7] at h
              by_cases c8 : (x1 < 0 ∨ 12 ≤ (x1).toNatClampNeg)
              · rw [if_pos c8] at h; cases h
              · rw [if_neg c8] at h
                by_cases c9 : (x3 + x5) ≤ (s.2.1 7 (x1).toNatClampNeg)
                · rw [if_pos c9] at h
                  refine ax_cut (pc' := 73) (la := [some (.ref 4), some (.int x1), none, some (.int x3), none, some (.int x5)]) [none, none, none, none, none, none] (st' := [.int (0 : Int32)]) (σ' := s) 16 (trivial) (fun _ hh => (And.intro c5 (And.intro c6 (And.intro (fun q => absurd q c7) (fun _ => (And.intro c8 (And.intro (fun _ => hh) (fun q => absurd c9 q)))))))) ?_
                  have h := Option.some.inj h
                  subst r
                  exact ax_end 1 (And.intro (Or.inl rfl) rfl)
                · rw [if_neg c9] at h
                  refine ax_cut (pc' := 52) (la := [some (.ref 4), some (.int x1), none, some (.int x3), none, some (.int x5)]) [some (.ref 4), some (.int x1), none, none, none, none] (st' := [.int x3]) (σ' := s) 16 (And.intro rfl (And.intro rfl (trivial))) (fun _ hh => (And.intro c5 (And.intro c6 (And.intro (fun q => absurd q c7) (fun _ => (And.intro c8 (And.intro (fun q => absurd q c9) (fun _ => hh)))))))) ?_
                  by_cases c10 : (x1 < 0 ∨ 12 ≤ (x1).toNatClampNeg)
                  · rw [if_pos c10] at h; cases h
                  · rw [if_neg c10] at h
                    by_cases c11 : (x1 < 0 ∨ 12 ≤ (x1).toNatClampNeg)
                    · rw [if_pos c11] at h; cases h
                    · rw [if_neg c11] at h
                      by_cases c12 : ((s.2.1 7 (x1).toNatClampNeg) + (s.2.1 9 (x1).toNatClampNeg)) ≤ x3
                      · rw [if_pos c12] at h
                        have h := Option.some.inj h
                        subst r
                        exact ax_end 12 (And.intro c10 (And.intro c11 (And.intro (fun _ => (And.intro (Or.inl rfl) rfl)) (fun q => absurd c12 q))))
                      · rw [if_neg c12] at h
                        have h := Option.some.inj h
                        subst r
                        exact ax_end 13 (And.intro c10 (And.intro c11 (And.intro (fun q => absurd q c12) (fun _ => (And.intro (Or.inr rfl) rfl)))))
def XFi_touch_4 (x1 : Int32) (x2 : Int32)  (s : ax_S) : Option (Int32) :=
  match XFi_isTold_4 x1 s with
  | none => none
  | some v1 =>
    if v1 = 0 then (
      some (0 : Int32)) else
    match XFi_isTold_4 x2 s with
    | none => none
    | some v2 =>
      if v2 = 0 then (
        some (0 : Int32)) else
      if (x2 < 0 ∨ 12 ≤ (x2).toNatClampNeg) then none else
      if (x2 < 0 ∨ 12 ≤ (x2).toNatClampNeg) then none else
      if (x2 < 0 ∨ 12 ≤ (x2).toNatClampNeg) then none else
      if (x2 < 0 ∨ 12 ≤ (x2).toNatClampNeg) then none else
      match XFi_meets_4 x1 ((s.2.1 6 (x2).toNatClampNeg) - (1 : Int32)) (s.2.1 7 (x2).toNatClampNeg) ((s.2.1 8 (x2).toNatClampNeg) + (2 : Int32)) (s.2.1 9 (x2).toNatClampNeg) s with
      | none => none
      | some v3 =>
        if v3 = 0 then (
          if (x2 < 0 ∨ 12 ≤ (x2).toNatClampNeg) then none else
          if (x2 < 0 ∨ 12 ≤ (x2).toNatClampNeg) then none else
          if (x2 < 0 ∨ 12 ≤ (x2).toNatClampNeg) then none else
          if (x2 < 0 ∨ 12 ≤ (x2).toNatClampNeg) then none else
          match XFi_meets_4 x1 (s.2.1 6 (x2).toNatClampNeg) ((s.2.1 7 (x2).toNatClampNeg) - (1 : Int32)) (s.2.1 8 (x2).toNatClampNeg) ((s.2.1 9 (x2).toNatClampNeg) + (2 : Int32)) s with
          | none => none
          | some v4 =>
            if v4 = 0 then (
              some (0 : Int32)) else
            some (1 : Int32)) else
        some (1 : Int32)
theorem e_XFi_touch_4 (d : Nat) {x1 : Int32} {x2 : Int32} {s : ax_S} {r : Int32} (h : XFi_touch_4 x1 x2 s = some r) : ax_ev true (d + 3) 116 [.ref 4, .int x1, .int x2] s (some (.int r), s) := by
  refine ⟨Nat.le_of_ble_eq_true rfl, ?_⟩
  show ax_go true none (ax_ev true (d + 2)) ax_m116 0 [some (.ref 4), some (.int x1), some (.int x2)] [] s _
  unfold XFi_touch_4 at h
  cases hz1 : XFi_isTold_4 x1 s with
  | none => rw [hz1] at h; cases h
  | some v1 =>
  rw [hz1] at h
  dsimp only at h
  by_cases c2 : v1 = 0
  · rw [if_pos c2] at h
    have h := Option.some.inj h
    subst r
    exact ax_end 6 (Exists.intro (some (.int v1), s) (And.intro (e_XFi_isTold_4 (d + 1) hz1) (And.intro (fun _ => (And.intro (Or.inl rfl) rfl)) (fun q => absurd c2 q))))
  · rw [if_neg c2] at h
    cases hz3 : XFi_isTold_4 x2 s with
    | none => rw [hz3] at h; cases h
    | some v2 =>
    rw [hz3] at h
    dsimp only at h
    by_cases c4 : v2 = 0
    · rw [if_pos c4] at h
      have h := Option.some.inj h
      subst r
      exact ax_end 10 (Exists.intro (some (.int v1), s) (And.intro (e_XFi_isTold_4 (d + 1) hz1) (And.intro (fun q => absurd q c2) (fun _ => (Exists.intro (some (.int v2), s) (And.intro (e_XFi_isTold_4 (d + 1) hz3) (And.intro (fun q => absurd c4 q) (fun _ => (And.intro (Or.inl rfl) rfl)))))))))
    · rw [if_neg c4] at h
      by_cases c5 : (x2 < 0 ∨ 12 ≤ (x2).toNatClampNeg)
      · rw [if_pos c5] at h; cases h
      · rw [if_neg c5] at h
        refine ax_cut (pc' := 28) (la := [some (.ref 4), some (.int x1), some (.int x2)]) [some (.ref 4), some (.int x1), some (.int x2)] (st' := [.int ((s.2.1 6 (x2).toNatClampNeg) - (1 : Int32)), .int x1, .ref 4]) (σ' := s) 16 (And.intro rfl (And.intro rfl (And.intro rfl (trivial)))) (fun _ hh => (Exists.intro (some (.int v1), s) (And.intro (e_XFi_isTold_4 (d + 1) hz1) (And.intro (fun q => absurd q c2) (fun _ => (Exists.intro (some (.int v2), s) (And.intro (e_XFi_isTold_4 (d + 1) hz3) (And.intro (fun _ => (And.intro c5 hh)) (fun q => absurd c4 q))))))))) ?_
        by_cases c6 : (x2 < 0 ∨ 12 ≤ (x2).toNatClampNeg)
        · rw [if_pos c6] at h; cases h
        · rw [if_neg c6] at h
          by_cases c7 : (x2 < 0 ∨ 12 ≤ (x2).toNatClampNeg)
          · rw [if_pos c7] at h; cases h
          · rw [if_neg c7] at h
            by_cases c8 : (x2 < 0 ∨ 12 ≤ (x2).toNatClampNeg)
            · rw [if_pos c8] at h; cases h
            · rw [if_neg c8] at h
              cases hz9 : XFi_meets_4 x1 ((s.2.1 6 (x2).toNatClampNeg) - (1 : Int32)) (s.2.1 7 (x2).toNatClampNeg) ((s.2.1 8 (x2).toNatClampNeg) + (2 : Int32)) (s.2.1 9 (x2).toNatClampNeg) s with
              | none => rw [hz9] at h; cases h
              | some v3 =>
              rw [hz9] at h
              dsimp only at h
              by_cases c10 : v3 = 0
              · rw [if_pos c10] at h
                refine ax_cut (pc' := 54) (la := [some (.ref 4), some (.int x1), some (.int x2)]) [some (.ref 4), some (.int x1), some (.int x2)] (st' := []) (σ' := s) 16 (And.intro rfl (And.intro rfl (And.intro rfl (trivial)))) (fun _ hh => (And.intro c6 (And.intro c7 (And.intro c8 (Exists.intro (some (.int v3), s) (And.intro (e_XFi_meets_4 d hz9) (And.intro (fun q => absurd c10 q) (fun _ => hh)))))))) ?_
                by_cases c11 : (x2 < 0 ∨ 12 ≤ (x2).toNatClampNeg)
                · rw [if_pos c11] at h; cases h
                · rw [if_neg c11] at h
                  by_cases c12 : (x2 < 0 ∨ 12 ≤ (x2).toNatClampNeg)
                  · rw [if_pos c12] at h; cases h
                  · rw [if_neg c12] at h
                    by_cases c13 : (x2 < 0 ∨ 12 ≤ (x2).toNatClampNeg)
                    · rw [if_pos c13] at h; cases h
                    · rw [if_neg c13] at h
                      refine ax_cut (pc' := 76) (la := [some (.ref 4), some (.int x1), some (.int x2)]) [some (.ref 4), none, some (.int x2)] (st' := [.int (s.2.1 8 (x2).toNatClampNeg), .int ((s.2.1 7 (x2).toNatClampNeg) - (1 : Int32)), .int (s.2.1 6 (x2).toNatClampNeg), .int x1, .ref 4]) (σ' := s) 16 (And.intro rfl (And.intro rfl (trivial))) (fun _ hh => (And.intro c11 (And.intro c12 (And.intro c13 hh)))) ?_
                      by_cases c14 : (x2 < 0 ∨ 12 ≤ (x2).toNatClampNeg)
                      · rw [if_pos c14] at h; cases h
                      · rw [if_neg c14] at h
                        cases hz15 : XFi_meets_4 x1 (s.2.1 6 (x2).toNatClampNeg) ((s.2.1 7 (x2).toNatClampNeg) - (1 : Int32)) (s.2.1 8 (x2).toNatClampNeg) ((s.2.1 9 (x2).toNatClampNeg) + (2 : Int32)) s with
                        | none => rw [hz15] at h; cases h
                        | some v4 =>
                        rw [hz15] at h
                        dsimp only at h
                        by_cases c16 : v4 = 0
                        · rw [if_pos c16] at h
                          have h := Option.some.inj h
                          subst r
                          exact ax_end 10 (And.intro c14 (Exists.intro (some (.int v4), s) (And.intro (e_XFi_meets_4 d hz15) (And.intro (fun _ => (And.intro (Or.inl rfl) rfl)) (fun q => absurd c16 q)))))
                        · rw [if_neg c16] at h
                          have h := Option.some.inj h
                          subst r
                          exact ax_end 11 (And.intro c14 (Exists.intro (some (.int v4), s) (And.intro (e_XFi_meets_4 d hz15) (And.intro (fun q => absurd q c16) (fun _ => (And.intro (Or.inr rfl) rfl))))))
              · rw [if_neg c10] at h
                refine ax_cut (pc' := 90) (la := [some (.ref 4), some (.int x1), some (.int x2)]) [none, none, none] (st' := []) (σ' := s) 16 (trivial) (fun _ hh => (And.intro c6 (And.intro c7 (And.intro c8 (Exists.intro (some (.int v3), s) (And.intro (e_XFi_meets_4 d hz9) (And.intro (fun _ => hh) (fun q => absurd c10 q)))))))) ?_
                have h := Option.some.inj h
                subst r
                exact ax_end 3 (And.intro (Or.inr rfl) rfl)
def XKi_meet_4_l18 : Nat → Int32 → Int32 → ax_S → Option (ax_S)
  | 0, _, _, _ => none
  | n + 1, x2, x3, s =>
    if (12 : Int32) ≤ x3 then (
      some s) else
    match XFi_part_4 x2 (0 : Int32) s with
    | none => none
    | some v2 =>
      if (X_isPerson v2 s) = 0 then (
        XKi_meet_4_l18 n x2 (x3 + (1)) s) else
      match XFi_touch_4 x2 x3 s with
      | none => none
      | some v3 =>
        if v3 = 0 then (
          XKi_meet_4_l18 n x2 (x3 + (1)) s) else
        if (v2 < 0 ∨ 16 ≤ (v2).toNatClampNeg) then none else
        match XFi_personBit_4 x3 s with
        | none => none
        | some v4 =>
          if (v2 < 0 ∨ 16 ≤ (v2).toNatClampNeg) then none else
          XKi_meet_4_l18 n x2 (x3 + (1)) (ax_sI s 58 (v2).toNatClampNeg ((s.2.1 58 (v2).toNatClampNeg) ||| (v4 &&& (((1 : Int32) <<< (v2 &&& 31)) ^^^ (-1 : Int32)))))
def XKi_meet_4_l10 : Nat → Int32 → ax_S → Option (ax_S)
  | 0, _, _ => none
  | n + 1, x2, s =>
    if (12 : Int32) ≤ x2 then (
      some s) else
    match XKi_meet_4_l18 70000 x2 (0 : Int32) s with
    | none => none
    | some s5 =>
      XKi_meet_4_l10 n (x2 + (1)) s5
def XKi_meet_4  (s : ax_S) : Option (ax_S) :=
  match J_fill_58 (0 : Int32) s with
  | none => none
  | some s1 =>
    match XKi_meet_4_l10 70000 (0 : Int32) s1 with
    | none => none
    | some s6 =>
      some s6
theorem w_XKi_meet_4_l18 (d : Nat) {o : ax_O} : ∀ (n : Nat) (x2 : Int32) (x3 : Int32) (s : ax_S) (r : ax_S) (h : XKi_meet_4_l18 n x2 x3 s = some r) (hk0 : ∀ (t0 : ax_S), r = t0 → ax_go true none (ax_ev true (d + 3)) ax_m115 77 [some (.ref 57), some (.ref 4), some (.int x2), none, none] [] t0 o), ax_go true none (ax_ev true (d + 3)) ax_m115 18 [some (.ref 57), some (.ref 4), some (.int x2), some (.int x3), none] [] s o := by
  intro n
  induction n with
  | zero => intro x2 x3 s r h hk0; cases h
  | succ n ih =>
    intro x2 x3 s r h hk0
    rw [XKi_meet_4_l18] at h
    by_cases c1 : (12 : Int32) ≤ x3
    · rw [if_pos c1] at h
      have h := Option.some.inj h
      subst r
      exact ax_cut (pc' := 77) (la := [some (.ref 57), some (.ref 4), some (.int x2), some (.int x3), none]) [some (.ref 57), some (.ref 4), some (.int x2), none, none] (st' := []) (σ' := s) 3 (And.intro rfl (And.intro rfl (And.intro rfl (trivial)))) (fun _ hh => (And.intro (fun _ => hh) (fun q => absurd c1 q))) (hk0 _ rfl)
    · rw [if_neg c1] at h
      cases hz2 : XFi_part_4 x2 (0 : Int32) s with
      | none => rw [hz2] at h; cases h
      | some v2 =>
      rw [hz2] at h
      dsimp only at h
      by_cases c3 : (X_isPerson v2 s) = 0
      · rw [if_pos c3] at h
        exact ax_cut (pc' := 18) (la := [some (.ref 57), some (.ref 4), some (.int x2), some (.int (x3 + (1))), some (.int v2)]) [some (.ref 57), some (.ref 4), some (.int x2), some (.int (x3 + (1))), none] (st' := []) (σ' := s) 13 (And.intro rfl (And.intro rfl (And.intro rfl (And.intro rfl (trivial))))) (fun _ hh => (And.intro (fun q => absurd q c1) (fun _ => (Exists.intro (some (.int v2), s) (And.intro (e_XFi_part_4 (d + 1) hz2) (Exists.intro (some (.int (X_isPerson v2 s)), s) (And.intro (e_X_isPerson (d + 1) v2 s) (And.intro (fun _ => hh) (fun q => absurd c3 q))))))))) (ih x2 (x3 + (1)) s _ h hk0)
      · rw [if_neg c3] at h
        cases hz4 : XFi_touch_4 x2 x3 s with
        | none => rw [hz4] at h; cases h
        | some v3 =>
        rw [hz4] at h
        dsimp only at h
        by_cases c5 : v3 = 0
        · rw [if_pos c5] at h
          refine ax_cut (pc' := 71) (la := [some (.ref 57), some (.ref 4), some (.int x2), some (.int x3), some (.int v2)]) [some (.ref 57), some (.ref 4), some (.int x2), some (.int x3), none] (st' := []) (σ' := s) 16 (And.intro rfl (And.intro rfl (And.intro rfl (And.intro rfl (trivial))))) (fun _ hh => (And.intro (fun q => absurd q c1) (fun _ => (Exists.intro (some (.int v2), s) (And.intro (e_XFi_part_4 (d + 1) hz2) (Exists.intro (some (.int (X_isPerson v2 s)), s) (And.intro (e_X_isPerson (d + 1) v2 s) (And.intro (fun q => absurd q c3) (fun _ => (Exists.intro (some (.int v3), s) (And.intro (e_XFi_touch_4 d hz4) (And.intro (fun _ => hh) (fun q => absurd c5 q))))))))))))) ?_
          exact ax_cut (pc' := 18) (la := [some (.ref 57), some (.ref 4), some (.int x2), some (.int (x3 + (1))), none]) [some (.ref 57), some (.ref 4), some (.int x2), some (.int (x3 + (1))), none] (st' := []) (σ' := s) 2 (And.intro rfl (And.intro rfl (And.intro rfl (And.intro rfl (trivial))))) (fun _ hh => hh) (ih x2 (x3 + (1)) s _ h hk0)
        · rw [if_neg c5] at h
          refine ax_cut (pc' := 49) (la := [some (.ref 57), some (.ref 4), some (.int x2), some (.int x3), some (.int v2)]) [some (.ref 57), some (.ref 4), some (.int x2), some (.int x3), some (.int v2)] (st' := []) (σ' := s) 16 (And.intro rfl (And.intro rfl (And.intro rfl (And.intro rfl (And.intro rfl (trivial)))))) (fun _ hh => (And.intro (fun q => absurd q c1) (fun _ => (Exists.intro (some (.int v2), s) (And.intro (e_XFi_part_4 (d + 1) hz2) (Exists.intro (some (.int (X_isPerson v2 s)), s) (And.intro (e_X_isPerson (d + 1) v2 s) (And.intro (fun q => absurd q c3) (fun _ => (Exists.intro (some (.int v3), s) (And.intro (e_XFi_touch_4 d hz4) (And.intro (fun q => absurd q c5) (fun _ => hh))))))))))))) ?_
          by_cases c6 : (v2 < 0 ∨ 16 ≤ (v2).toNatClampNeg)
          · rw [if_pos c6] at h; cases h
          · rw [if_neg c6] at h
            cases hz7 : XFi_personBit_4 x3 s with
            | none => rw [hz7] at h; cases h
            | some v4 =>
            rw [hz7] at h
            dsimp only at h
            by_cases c8 : (v2 < 0 ∨ 16 ≤ (v2).toNatClampNeg)
            · rw [if_pos c8] at h; cases h
            · rw [if_neg c8] at h
              refine ax_cut (pc' := 71) (la := [some (.ref 57), some (.ref 4), some (.int x2), some (.int x3), some (.int v2)]) [some (.ref 57), some (.ref 4), some (.int x2), some (.int x3), none] (st' := []) (σ' := (ax_sI s 58 (v2).toNatClampNeg ((s.2.1 58 (v2).toNatClampNeg) ||| (v4 &&& (((1 : Int32) <<< (v2 &&& 31)) ^^^ (-1 : Int32)))))) 16 (And.intro rfl (And.intro rfl (And.intro rfl (And.intro rfl (trivial))))) (fun _ hh => (And.intro c6 (Exists.intro (some (.int v4), s) (And.intro (e_XFi_personBit_4 (d + 1) hz7) (And.intro c8 hh))))) ?_
              exact ax_cut (pc' := 18) (la := [some (.ref 57), some (.ref 4), some (.int x2), some (.int (x3 + (1))), none]) [some (.ref 57), some (.ref 4), some (.int x2), some (.int (x3 + (1))), none] (st' := []) (σ' := (ax_sI s 58 (v2).toNatClampNeg ((s.2.1 58 (v2).toNatClampNeg) ||| (v4 &&& (((1 : Int32) <<< (v2 &&& 31)) ^^^ (-1 : Int32)))))) 2 (And.intro rfl (And.intro rfl (And.intro rfl (And.intro rfl (trivial))))) (fun _ hh => hh) (ih x2 (x3 + (1)) (ax_sI s 58 (v2).toNatClampNeg ((s.2.1 58 (v2).toNatClampNeg) ||| (v4 &&& (((1 : Int32) <<< (v2 &&& 31)) ^^^ (-1 : Int32))))) _ h hk0)
theorem w_XKi_meet_4_l10 (d : Nat) {o : ax_O} : ∀ (n : Nat) (x2 : Int32) (s : ax_S) (r : ax_S) (h : XKi_meet_4_l10 n x2 s = some r) (hk0 : ∀ (t0 : ax_S), r = t0 → ax_go true none (ax_ev true (d + 3)) ax_m115 83 [none, none, none, none, none] [] t0 o), ax_go true none (ax_ev true (d + 3)) ax_m115 10 [some (.ref 57), some (.ref 4), some (.int x2), none, none] [] s o := by
  intro n
  induction n with
  | zero => intro x2 s r h hk0; cases h
  | succ n ih =>
    intro x2 s r h hk0
    rw [XKi_meet_4_l10] at h
    by_cases c1 : (12 : Int32) ≤ x2
    · rw [if_pos c1] at h
      have h := Option.some.inj h
      subst r
      exact ax_cut (pc' := 83) (la := [some (.ref 57), some (.ref 4), some (.int x2), none, none]) [none, none, none, none, none] (st' := []) (σ' := s) 3 (trivial) (fun _ hh => (And.intro (fun _ => hh) (fun q => absurd c1 q))) (hk0 _ rfl)
    · rw [if_neg c1] at h
      cases hz2 : XKi_meet_4_l18 70000 x2 (0 : Int32) s with
      | none => rw [hz2] at h; cases h
      | some z2 =>
      rw [hz2] at h
      refine ax_cut (pc' := 18) (la := [some (.ref 57), some (.ref 4), some (.int x2), some (.int (0 : Int32)), none]) [some (.ref 57), some (.ref 4), some (.int x2), some (.int (0 : Int32)), none] (st' := []) (σ' := s) 5 (And.intro rfl (And.intro rfl (And.intro rfl (And.intro rfl (trivial))))) (fun _ hh => (And.intro (fun q => absurd q c1) (fun _ => hh))) (w_XKi_meet_4_l18 d 70000 x2 (0 : Int32) s _ hz2 ?_)
      · intro s5 hq
        subst z2
        dsimp only at h
        exact ax_cut (pc' := 10) (la := [some (.ref 57), some (.ref 4), some (.int (x2 + (1))), none, none]) [some (.ref 57), some (.ref 4), some (.int (x2 + (1))), none, none] (st' := []) (σ' := s5) 2 (And.intro rfl (And.intro rfl (And.intro rfl (trivial)))) (fun _ hh => hh) (ih (x2 + (1)) s5 _ h hk0)
theorem e_XKi_meet_4 (d : Nat)  {s : ax_S} {r : ax_S} (h : XKi_meet_4 s = some r) : ax_ev true (d + 4) 115 [.ref 57, .ref 4] s (none, r) := by
  refine ⟨Nat.le_of_ble_eq_true rfl, ?_⟩
  show ax_go true none (ax_ev true (d + 3)) ax_m115 0 [some (.ref 57), some (.ref 4), none, none, none] [] s _
  unfold XKi_meet_4 at h
  cases hz1 : J_fill_58 (0 : Int32) s with
  | none => rw [hz1] at h; cases h
  | some s1 =>
  rw [hz1] at h
  dsimp only at h
  cases hz2 : XKi_meet_4_l10 70000 (0 : Int32) s1 with
  | none => rw [hz2] at h; cases h
  | some z2 =>
  rw [hz2] at h
  refine ax_cut (pc' := 10) (la := [some (.ref 57), some (.ref 4), some (.int (0 : Int32)), none, none]) [some (.ref 57), some (.ref 4), some (.int (0 : Int32)), none, none] (st' := []) (σ' := s1) 6 (And.intro rfl (And.intro rfl (And.intro rfl (trivial)))) (fun _ hh => (Exists.intro (none, s1) (And.intro (e_J_fill_58 (d + 2) hz1) hh))) (w_XKi_meet_4_l10 d 70000 (0 : Int32) s1 _ hz2 ?_)
  · intro s6 hq
    subst z2
    dsimp only at h
    have h := Option.some.inj h
    subst r
    exact ax_end 1 rfl
def XKi_touchedBy (x1 : Int32)  (s : ax_S) : Option (Int32) :=
  if (X_isPerson x1 s) = 0 then (
    some (0 : Int32)) else
  if (x1 < 0 ∨ 16 ≤ (x1).toNatClampNeg) then none else
  some (s.2.1 58 (x1).toNatClampNeg)
theorem e_XKi_touchedBy (d : Nat) {x1 : Int32} {s : ax_S} {r : Int32} (h : XKi_touchedBy x1 s = some r) : ax_ev true (d + 3) 118 [.ref 57, .int x1] s (some (.int r), s) := by
  refine ⟨Nat.le_of_ble_eq_true rfl, ?_⟩
  show ax_go true none (ax_ev true (d + 2)) ax_m118 0 [some (.ref 57), some (.int x1)] [] s _
  unfold XKi_touchedBy at h
  by_cases c1 : (X_isPerson x1 s) = 0
  · rw [if_pos c1] at h
    have h := Option.some.inj h
    subst r
    exact ax_end 5 (Exists.intro (some (.int (X_isPerson x1 s)), s) (And.intro (e_X_isPerson d x1 s) (And.intro (fun _ => rfl) (fun q => absurd c1 q))))
  · rw [if_neg c1] at h
    by_cases c2 : (x1 < 0 ∨ 16 ≤ (x1).toNatClampNeg)
    · rw [if_pos c2] at h; cases h
    · rw [if_neg c2] at h
      have h := Option.some.inj h
      subst r
      exact ax_end 9 (Exists.intro (some (.int (X_isPerson x1 s)), s) (And.intro (e_X_isPerson d x1 s) (And.intro (fun q => absurd q c1) (fun _ => (And.intro c2 rfl)))))
def XFi_persons_4_l4 : Nat → Int32 → Int32 → ax_S → Option (Int32)
  | 0, _, _, _ => none
  | n + 1, x1, x2, s =>
    if (12 : Int32) ≤ x2 then (
      some x1) else
    match XFi_personBit_4 x2 s with
    | none => none
    | some v1 =>
      XFi_persons_4_l4 n (x1 ||| v1) (x2 + (1)) s
def XFi_persons_4  (s : ax_S) : Option (Int32) :=
  match XFi_persons_4_l4 70000 (0 : Int32) (0 : Int32) s with
  | none => none
  | some v2 =>
    some v2
theorem w_XFi_persons_4_l4 (d : Nat) {o : ax_O} : ∀ (n : Nat) (x1 : Int32) (x2 : Int32) (s : ax_S) (r : Int32) (h : XFi_persons_4_l4 n x1 x2 s = some r) (hk0 : ∀ (t0 : Int32), r = t0 → ax_go true none (ax_ev true (d + 2)) ax_m119 24 [none, some (.int t0), none] [] s o), ax_go true none (ax_ev true (d + 2)) ax_m119 4 [some (.ref 4), some (.int x1), some (.int x2)] [] s o := by
  intro n
  induction n with
  | zero => intro x1 x2 s r h hk0; cases h
  | succ n ih =>
    intro x1 x2 s r h hk0
    rw [XFi_persons_4_l4] at h
    by_cases c1 : (12 : Int32) ≤ x2
    · rw [if_pos c1] at h
      have h := Option.some.inj h
      subst r
      exact ax_cut (pc' := 24) (la := [some (.ref 4), some (.int x1), some (.int x2)]) [none, some (.int x1), none] (st' := []) (σ' := s) 3 (And.intro rfl (trivial)) (fun _ hh => (And.intro (fun _ => hh) (fun q => absurd c1 q))) (hk0 _ rfl)
    · rw [if_neg c1] at h
      cases hz2 : XFi_personBit_4 x2 s with
      | none => rw [hz2] at h; cases h
      | some v1 =>
      rw [hz2] at h
      dsimp only at h
      exact ax_cut (pc' := 4) (la := [some (.ref 4), some (.int (x1 ||| v1)), some (.int (x2 + (1)))]) [some (.ref 4), some (.int (x1 ||| v1)), some (.int (x2 + (1)))] (st' := []) (σ' := s) 11 (And.intro rfl (And.intro rfl (And.intro rfl (trivial)))) (fun _ hh => (And.intro (fun q => absurd q c1) (fun _ => (Exists.intro (some (.int v1), s) (And.intro (e_XFi_personBit_4 d hz2) hh))))) (ih (x1 ||| v1) (x2 + (1)) s _ h hk0)
theorem e_XFi_persons_4 (d : Nat)  {s : ax_S} {r : Int32} (h : XFi_persons_4 s = some r) : ax_ev true (d + 3) 119 [.ref 4] s (some (.int r), s) := by
  refine ⟨Nat.le_of_ble_eq_true rfl, ?_⟩
  show ax_go true none (ax_ev true (d + 2)) ax_m119 0 [some (.ref 4), none, none] [] s _
  unfold XFi_persons_4 at h
  cases hz1 : XFi_persons_4_l4 70000 (0 : Int32) (0 : Int32) s with
  | none => rw [hz1] at h; cases h
  | some z1 =>
  rw [hz1] at h
  refine ax_cut (pc' := 4) (la := [some (.ref 4), some (.int (0 : Int32)), some (.int (0 : Int32))]) [some (.ref 4), some (.int (0 : Int32)), some (.int (0 : Int32))] (st' := []) (σ' := s) 4 (And.intro rfl (And.intro rfl (And.intro rfl (trivial)))) (fun _ hh => hh) (w_XFi_persons_4_l4 d 70000 (0 : Int32) (0 : Int32) s _ hz1 ?_)
  · intro v2 hq
    subst z1
    dsimp only at h
    have h := Option.some.inj h
    subst r
    exact ax_end 2 rfl
def XKi_groupOf_l40 : Nat → Int32 → Int32 → Int32 → Int32 → Int32 → ax_S → Option (Int32)
  | 0, _, _, _, _, _, _ => none
  | n + 1, x2, x3, x4, x5, x6, s =>
    if (16 : Int32) ≤ x6 then (
      some x3) else
    if ((x3 >>> (x6 &&& 31)) &&& (1 : Int32)) = (1 : Int32) then (
      if (x6 < 0 ∨ 16 ≤ (x6).toNatClampNeg) then none else
      XKi_groupOf_l40 n x2 (x3 ||| ((s.2.1 58 (x6).toNatClampNeg) &&& x2)) x4 x5 (x6 + (1)) s) else
    XKi_groupOf_l40 n x2 x3 x4 x5 (x6 + (1)) s
def XKi_groupOf_l21 : Nat → Int32 → Int32 → Int32 → Int32 → ax_S → Option (Int32)
  | 0, _, _, _, _, _ => none
  | n + 1, x2, x3, x4, x5, s =>
    if (16 : Int32) ≤ x5 then (
      some x3) else
    if x3 = x4 then (
      some x3) else
    match XKi_groupOf_l40 70000 x2 x3 x3 x5 (0 : Int32) s with
    | none => none
    | some v1 =>
      XKi_groupOf_l21 n x2 v1 x3 (x5 + (1)) s
def XKi_groupOf (x1 : Int32) (x2 : Int32)  (s : ax_S) : Option (Int32) :=
  if (X_isPerson x1 s) = 0 then (
    some (0 : Int32)) else
  match XKi_groupOf_l21 70000 x2 (((1 : Int32) <<< (x1 &&& 31)) &&& x2) (0 : Int32) (0 : Int32) s with
  | none => none
  | some v2 =>
    some v2
theorem w_XKi_groupOf_l40 (d : Nat) {o : ax_O} : ∀ (n : Nat) (x2 : Int32) (x3 : Int32) (x4 : Int32) (x5 : Int32) (x6 : Int32) (s : ax_S) (r : Int32) (h : XKi_groupOf_l40 n x2 x3 x4 x5 x6 s = some r) (hk0 : ∀ (t0 : Int32), r = t0 → ax_go true none (ax_ev true (d + 2)) ax_m120 75 [some (.ref 57), none, some (.int x2), some (.int t0), some (.int x4), some (.int x5), none] [] s o), ax_go true none (ax_ev true (d + 2)) ax_m120 40 [some (.ref 57), none, some (.int x2), some (.int x3), some (.int x4), some (.int x5), some (.int x6)] [] s o := by
  intro n
  induction n with
  | zero => intro x2 x3 x4 x5 x6 s r h hk0; cases h
  | succ n ih =>
    intro x2 x3 x4 x5 x6 s r h hk0
    rw [XKi_groupOf_l40] at h
    by_cases c1 : (16 : Int32) ≤ x6
    · rw [if_pos c1] at h
      have h := Option.some.inj h
      subst r
      exact ax_cut (pc' := 75) (la := [some (.ref 57), none, some (.int x2), some (.int x3), some (.int x4), some (.int x5), some (.int x6)]) [some (.ref 57), none, some (.int x2), some (.int x3), some (.int x4), some (.int x5), none] (st' := []) (σ' := s) 3 (And.intro rfl (And.intro rfl (And.intro rfl (And.intro rfl (And.intro rfl (trivial)))))) (fun _ hh => (And.intro (fun _ => hh) (fun q => absurd c1 q))) (hk0 _ rfl)
    · rw [if_neg c1] at h
      by_cases c2 : ((x3 >>> (x6 &&& 31)) &&& (1 : Int32)) = (1 : Int32)
      · rw [if_pos c2] at h
        by_cases c3 : (x6 < 0 ∨ 16 ≤ (x6).toNatClampNeg)
        · rw [if_pos c3] at h; cases h
        · rw [if_neg c3] at h
          refine ax_cut (pc' := 66) (la := [some (.ref 57), none, some (.int x2), some (.int x3), some (.int x4), some (.int x5), some (.int x6)]) [some (.ref 57), none, some (.int x2), none, some (.int x4), some (.int x5), some (.int x6)] (st' := [.int x2, .int (s.2.1 58 (x6).toNatClampNeg), .int x3]) (σ' := s) 16 (And.intro rfl (And.intro rfl (And.intro rfl (And.intro rfl (And.intro rfl (trivial)))))) (fun _ hh => (And.intro (fun q => absurd q c1) (fun _ => (And.intro (fun q => absurd c2 q) (fun _ => (And.intro c3 hh)))))) ?_
          exact ax_cut (pc' := 40) (la := [some (.ref 57), none, some (.int x2), some (.int (x3 ||| ((s.2.1 58 (x6).toNatClampNeg) &&& x2))), some (.int x4), some (.int x5), some (.int (x6 + (1)))]) [some (.ref 57), none, some (.int x2), some (.int (x3 ||| ((s.2.1 58 (x6).toNatClampNeg) &&& x2))), some (.int x4), some (.int x5), some (.int (x6 + (1)))] (st' := []) (σ' := s) 5 (And.intro rfl (And.intro rfl (And.intro rfl (And.intro rfl (And.intro rfl (And.intro rfl (trivial))))))) (fun _ hh => hh) (ih x2 (x3 ||| ((s.2.1 58 (x6).toNatClampNeg) &&& x2)) x4 x5 (x6 + (1)) s _ h hk0)
      · rw [if_neg c2] at h
        exact ax_cut (pc' := 40) (la := [some (.ref 57), none, some (.int x2), some (.int x3), some (.int x4), some (.int x5), some (.int (x6 + (1)))]) [some (.ref 57), none, some (.int x2), some (.int x3), some (.int x4), some (.int x5), some (.int (x6 + (1)))] (st' := []) (σ' := s) 12 (And.intro rfl (And.intro rfl (And.intro rfl (And.intro rfl (And.intro rfl (And.intro rfl (trivial))))))) (fun _ hh => (And.intro (fun q => absurd q c1) (fun _ => (And.intro (fun _ => hh) (fun q => absurd c2 q))))) (ih x2 x3 x4 x5 (x6 + (1)) s _ h hk0)
theorem w_XKi_groupOf_l21 (d : Nat) {o : ax_O} : ∀ (n : Nat) (x2 : Int32) (x3 : Int32) (x4 : Int32) (x5 : Int32) (s : ax_S) (r : Int32) (h : XKi_groupOf_l21 n x2 x3 x4 x5 s = some r) (hk0 : ∀ (t0 : Int32), r = t0 → ax_go true none (ax_ev true (d + 2)) ax_m120 81 [none, none, none, some (.int t0), none, none, none] [] s o), ax_go true none (ax_ev true (d + 2)) ax_m120 21 [some (.ref 57), none, some (.int x2), some (.int x3), some (.int x4), some (.int x5), none] [] s o := by
  intro n
  induction n with
  | zero => intro x2 x3 x4 x5 s r h hk0; cases h
  | succ n ih =>
    intro x2 x3 x4 x5 s r h hk0
    rw [XKi_groupOf_l21] at h
    by_cases c1 : (16 : Int32) ≤ x5
    · rw [if_pos c1] at h
      have h := Option.some.inj h
      subst r
      exact ax_cut (pc' := 81) (la := [some (.ref 57), none, some (.int x2), some (.int x3), some (.int x4), some (.int x5), none]) [none, none, none, some (.int x3), none, none, none] (st' := []) (σ' := s) 3 (And.intro rfl (trivial)) (fun _ hh => (And.intro (fun _ => hh) (fun q => absurd c1 q))) (hk0 _ rfl)
    · rw [if_neg c1] at h
      by_cases c2 : x3 = x4
      · rw [if_pos c2] at h
        have h := Option.some.inj h
        subst r
        exact ax_cut (pc' := 81) (la := [some (.ref 57), none, some (.int x2), some (.int x3), some (.int x4), some (.int x5), none]) [none, none, none, some (.int x3), none, none, none] (st' := []) (σ' := s) 6 (And.intro rfl (trivial)) (fun _ hh => (And.intro (fun q => absurd q c1) (fun _ => (And.intro (fun _ => hh) (fun q => absurd c2 q))))) (hk0 _ rfl)
      · rw [if_neg c2] at h
        cases hz3 : XKi_groupOf_l40 70000 x2 x3 x3 x5 (0 : Int32) s with
        | none => rw [hz3] at h; cases h
        | some z3 =>
        rw [hz3] at h
        refine ax_cut (pc' := 40) (la := [some (.ref 57), none, some (.int x2), some (.int x3), some (.int x3), some (.int x5), some (.int (0 : Int32))]) [some (.ref 57), none, some (.int x2), some (.int x3), some (.int x3), some (.int x5), some (.int (0 : Int32))] (st' := []) (σ' := s) 10 (And.intro rfl (And.intro rfl (And.intro rfl (And.intro rfl (And.intro rfl (And.intro rfl (trivial))))))) (fun _ hh => (And.intro (fun q => absurd q c1) (fun _ => (And.intro (fun q => absurd q c2) (fun _ => hh))))) (w_XKi_groupOf_l40 d 70000 x2 x3 x3 x5 (0 : Int32) s _ hz3 ?_)
        · intro v1 hq
          subst z3
          dsimp only at h
          exact ax_cut (pc' := 21) (la := [some (.ref 57), none, some (.int x2), some (.int v1), some (.int x3), some (.int (x5 + (1))), none]) [some (.ref 57), none, some (.int x2), some (.int v1), some (.int x3), some (.int (x5 + (1))), none] (st' := []) (σ' := s) 2 (And.intro rfl (And.intro rfl (And.intro rfl (And.intro rfl (And.intro rfl (trivial)))))) (fun _ hh => hh) (ih x2 v1 x3 (x5 + (1)) s _ h hk0)
theorem e_XKi_groupOf (d : Nat) {x1 : Int32} {x2 : Int32} {s : ax_S} {r : Int32} (h : XKi_groupOf x1 x2 s = some r) : ax_ev true (d + 3) 120 [.ref 57, .int x1, .int x2] s (some (.int r), s) := by
  refine ⟨Nat.le_of_ble_eq_true rfl, ?_⟩
  show ax_go true none (ax_ev true (d + 2)) ax_m120 0 [some (.ref 57), some (.int x1), some (.int x2), none, none, none, none] [] s _
  unfold XKi_groupOf at h
  by_cases c1 : (X_isPerson x1 s) = 0
  · rw [if_pos c1] at h
    have h := Option.some.inj h
    subst r
    exact ax_end 5 (Exists.intro (some (.int (X_isPerson x1 s)), s) (And.intro (e_X_isPerson d x1 s) (And.intro (fun q => absurd c1 q) (fun _ => rfl))))
  · rw [if_neg c1] at h
    cases hz2 : XKi_groupOf_l21 70000 x2 (((1 : Int32) <<< (x1 &&& 31)) &&& x2) (0 : Int32) (0 : Int32) s with
    | none => rw [hz2] at h; cases h
    | some z2 =>
    rw [hz2] at h
    refine ax_cut (pc' := 21) (la := [some (.ref 57), some (.int x1), some (.int x2), some (.int (((1 : Int32) <<< (x1 &&& 31)) &&& x2)), some (.int (0 : Int32)), some (.int (0 : Int32)), none]) [some (.ref 57), none, some (.int x2), some (.int (((1 : Int32) <<< (x1 &&& 31)) &&& x2)), some (.int (0 : Int32)), some (.int (0 : Int32)), none] (st' := []) (σ' := s) 13 (And.intro rfl (And.intro rfl (And.intro rfl (And.intro rfl (And.intro rfl (trivial)))))) (fun _ hh => (Exists.intro (some (.int (X_isPerson x1 s)), s) (And.intro (e_X_isPerson d x1 s) (And.intro (fun _ => hh) (fun q => absurd c1 q))))) (w_XKi_groupOf_l21 d 70000 x2 (((1 : Int32) <<< (x1 &&& 31)) &&& x2) (0 : Int32) (0 : Int32) s _ hz2 ?_)
    · intro v2 hq
      subst z2
      dsimp only at h
      have h := Option.some.inj h
      subst r
      exact ax_end 2 rfl
def X_personIs (x1 : Int32) (x2 : Int32)  (s : ax_S) : Option (Int32 × ax_S) :=
  if (X_isPerson x1 s) = 0 then (
    some ((-1 : Int32), s)) else
  if x2 = (0) then (
    match XSt_painOf_3 x1 s with
    | none => none
    | some v1 =>
      some (v1, s)) else
  if x2 = (1) then (
    match XSt_painOf_3 x1 s with
    | none => none
    | some v2 =>
      if v2 ≤ (s.2.1 0 12) then (
        some ((0 : Int32), s)) else
      some ((1 : Int32), s)) else
  if x2 = (2) then (
    match XFi_howManyOf_4 x1 s with
    | none => none
    | some v3 =>
      some (v3, s)) else
  if x2 = (3) then (
    match XSt_shownOf_3 x1 s with
    | none => none
    | some v4 =>
      some (v4, s)) else
  if x2 = (4) then (
    match XSt_daysSinceShown_3 x1 s with
    | none => none
    | some v5 =>
      some (v5, s)) else
  if x2 = (5) then (
    match XKi_meet_4 s with
    | none => none
    | some s6 =>
      match XKi_touchedBy x1 s6 with
      | none => none
      | some v7 =>
        some (v7, s6)) else
  if x2 = (6) then (
    match XKi_meet_4 s with
    | none => none
    | some s8 =>
      match XFi_persons_4 s8 with
      | none => none
      | some v9 =>
        match XKi_groupOf x1 v9 s8 with
        | none => none
        | some v10 =>
          some (v10, s8)) else
  some ((-1 : Int32), s)
theorem e_X_personIs (d : Nat) {x1 : Int32} {x2 : Int32} {s : ax_S} {r : Int32 × ax_S} (h : X_personIs x1 x2 s = some r) : ax_ev true (d + 5) 114 [.ref 0, .int x1, .int x2] s (some (.int r.1), r.2) := by
  refine ⟨Nat.le_of_ble_eq_true rfl, ?_⟩
  show ax_go true none (ax_ev true (d + 4)) ax_m114 0 [some (.ref 0), some (.int x1), some (.int x2)] [] s _
  unfold X_personIs at h
  by_cases c1 : (X_isPerson x1 s) = 0
  · rw [if_pos c1] at h
    have h := Option.some.inj h
    subst r
    exact ax_end 5 (Exists.intro (some (.int (X_isPerson x1 s)), s) (And.intro (e_X_isPerson (d + 2) x1 s) (And.intro (fun q => absurd c1 q) (fun _ => rfl))))
  · rw [if_neg c1] at h
    by_cases c2_0 : x2 = (0)
    · rw [if_pos c2_0] at h
      cases hz3 : XSt_painOf_3 x1 s with
      | none => rw [hz3] at h; cases h
      | some v1 =>
      rw [hz3] at h
      dsimp only at h
      have h := Option.some.inj h
      subst r
      exact ax_end 10 (Exists.intro (some (.int (X_isPerson x1 s)), s) (And.intro (e_X_isPerson (d + 2) x1 s) (And.intro (fun _ => (ax_tabT (lo := 0) (hg := 6) (j0 := 0) (congrArg Int32.toInt c2_0) (by rw [c2_0]; decide) (Exists.intro (some (.int v1), s) (And.intro (e_XSt_painOf_3 (d + 1) hz3) rfl)))) (fun q => absurd c1 q))))
    rw [if_neg c2_0] at h
    by_cases c2_1 : x2 = (1)
    · rw [if_pos c2_1] at h
      cases hz4 : XSt_painOf_3 x1 s with
      | none => rw [hz4] at h; cases h
      | some v2 =>
      rw [hz4] at h
      dsimp only at h
      by_cases c5 : v2 ≤ (s.2.1 0 12)
      · rw [if_pos c5] at h
        have h := Option.some.inj h
        subst r
        exact ax_end 14 (Exists.intro (some (.int (X_isPerson x1 s)), s) (And.intro (e_X_isPerson (d + 2) x1 s) (And.intro (fun _ => (ax_tabT (lo := 0) (hg := 6) (j0 := 1) (congrArg Int32.toInt c2_1) (by rw [c2_1]; decide) (Exists.intro (some (.int v2), s) (And.intro (e_XSt_painOf_3 (d + 1) hz4) (And.intro (fun _ => rfl) (fun q => absurd c5 q)))))) (fun q => absurd c1 q))))
      · rw [if_neg c5] at h
        have h := Option.some.inj h
        subst r
        exact ax_end 15 (Exists.intro (some (.int (X_isPerson x1 s)), s) (And.intro (e_X_isPerson (d + 2) x1 s) (And.intro (fun _ => (ax_tabT (lo := 0) (hg := 6) (j0 := 1) (congrArg Int32.toInt c2_1) (by rw [c2_1]; decide) (Exists.intro (some (.int v2), s) (And.intro (e_XSt_painOf_3 (d + 1) hz4) (And.intro (fun q => absurd q c5) (fun _ => rfl)))))) (fun q => absurd c1 q))))
    rw [if_neg c2_1] at h
    by_cases c2_2 : x2 = (2)
    · rw [if_pos c2_2] at h
      cases hz6 : XFi_howManyOf_4 x1 s with
      | none => rw [hz6] at h; cases h
      | some v3 =>
      rw [hz6] at h
      dsimp only at h
      have h := Option.some.inj h
      subst r
      exact ax_end 11 (Exists.intro (some (.int (X_isPerson x1 s)), s) (And.intro (e_X_isPerson (d + 2) x1 s) (And.intro (fun _ => (ax_tabT (lo := 0) (hg := 6) (j0 := 2) (congrArg Int32.toInt c2_2) (by rw [c2_2]; decide) (Exists.intro (some (.int v3), s) (And.intro (e_XFi_howManyOf_4 (d + 3) hz6) rfl)))) (fun q => absurd c1 q))))
    rw [if_neg c2_2] at h
    by_cases c2_3 : x2 = (3)
    · rw [if_pos c2_3] at h
      cases hz7 : XSt_shownOf_3 x1 s with
      | none => rw [hz7] at h; cases h
      | some v4 =>
      rw [hz7] at h
      dsimp only at h
      have h := Option.some.inj h
      subst r
      exact ax_end 10 (Exists.intro (some (.int (X_isPerson x1 s)), s) (And.intro (e_X_isPerson (d + 2) x1 s) (And.intro (fun _ => (ax_tabT (lo := 0) (hg := 6) (j0 := 3) (congrArg Int32.toInt c2_3) (by rw [c2_3]; decide) (Exists.intro (some (.int v4), s) (And.intro (e_XSt_shownOf_3 (d + 1) hz7) rfl)))) (fun q => absurd c1 q))))
    rw [if_neg c2_3] at h
    by_cases c2_4 : x2 = (4)
    · rw [if_pos c2_4] at h
      cases hz8 : XSt_daysSinceShown_3 x1 s with
      | none => rw [hz8] at h; cases h
      | some v5 =>
      rw [hz8] at h
      dsimp only at h
      have h := Option.some.inj h
      subst r
      exact ax_end 10 (Exists.intro (some (.int (X_isPerson x1 s)), s) (And.intro (e_X_isPerson (d + 2) x1 s) (And.intro (fun _ => (ax_tabT (lo := 0) (hg := 6) (j0 := 4) (congrArg Int32.toInt c2_4) (by rw [c2_4]; decide) (Exists.intro (some (.int v5), s) (And.intro (e_XSt_daysSinceShown_3 (d + 1) hz8) rfl)))) (fun q => absurd c1 q))))
    rw [if_neg c2_4] at h
    by_cases c2_5 : x2 = (5)
    · rw [if_pos c2_5] at h
      cases hz9 : XKi_meet_4 s with
      | none => rw [hz9] at h; cases h
      | some s6 =>
      rw [hz9] at h
      dsimp only at h
      cases hz10 : XKi_touchedBy x1 s6 with
      | none => rw [hz10] at h; cases h
      | some v7 =>
      rw [hz10] at h
      dsimp only at h
      have h := Option.some.inj h
      subst r
      exact ax_end 16 (Exists.intro (some (.int (X_isPerson x1 s)), s) (And.intro (e_X_isPerson (d + 2) x1 s) (And.intro (fun _ => (ax_tabT (lo := 0) (hg := 6) (j0 := 5) (congrArg Int32.toInt c2_5) (by rw [c2_5]; decide) (Exists.intro (none, s6) (And.intro (e_XKi_meet_4 d hz9) (Exists.intro (some (.int v7), s6) (And.intro (e_XKi_touchedBy (d + 1) hz10) rfl)))))) (fun q => absurd c1 q))))
    rw [if_neg c2_5] at h
    by_cases c2_6 : x2 = (6)
    · rw [if_pos c2_6] at h
      cases hz11 : XKi_meet_4 s with
      | none => rw [hz11] at h; cases h
      | some s8 =>
      rw [hz11] at h
      dsimp only at h
      refine ax_cut (pc' := 158) (la := [some (.ref 0), some (.int x1), some (.int x2)]) [none, none, none] (st' := [.ref 3, .int x1, .ref 57]) (σ' := s8) 16 (trivial) (fun _ hh => (Exists.intro (some (.int (X_isPerson x1 s)), s) (And.intro (e_X_isPerson (d + 2) x1 s) (And.intro (fun _ => (ax_tabT (lo := 0) (hg := 6) (j0 := 6) (congrArg Int32.toInt c2_6) (by rw [c2_6]; decide) (Exists.intro (none, s8) (And.intro (e_XKi_meet_4 d hz11) hh)))) (fun q => absurd c1 q))))) ?_
      cases hz12 : XFi_persons_4 s8 with
      | none => rw [hz12] at h; cases h
      | some v9 =>
      rw [hz12] at h
      dsimp only at h
      cases hz13 : XKi_groupOf x1 v9 s8 with
      | none => rw [hz13] at h; cases h
      | some v10 =>
      rw [hz13] at h
      dsimp only at h
      have h := Option.some.inj h
      subst r
      exact ax_end 4 (Exists.intro (some (.int v9), s8) (And.intro (e_XFi_persons_4 (d + 1) hz12) (Exists.intro (some (.int v10), s8) (And.intro (e_XKi_groupOf (d + 1) hz13) rfl))))
    rw [if_neg c2_6] at h
    have c2_r : (x2).toInt < 0 ∨ 6 < (x2).toInt := by
      have := ax_ne_toInt c2_0
      have := ax_ne_toInt c2_1
      have := ax_ne_toInt c2_2
      have := ax_ne_toInt c2_3
      have := ax_ne_toInt c2_4
      have := ax_ne_toInt c2_5
      have := ax_ne_toInt c2_6
      simp only [show ∀ y : Int32, y.toInt = y.toInt from fun _ => rfl, show ((0) : Int32).toInt = 0 by decide, show ((1) : Int32).toInt = 1 by decide, show ((2) : Int32).toInt = 2 by decide, show ((3) : Int32).toInt = 3 by decide, show ((4) : Int32).toInt = 4 by decide, show ((5) : Int32).toInt = 5 by decide, show ((6) : Int32).toInt = 6 by decide] at *
      omega
    have h := Option.some.inj h
    subst r
    exact ax_end 7 (Exists.intro (some (.int (X_isPerson x1 s)), s) (And.intro (e_X_isPerson (d + 2) x1 s) (And.intro (fun _ => (ax_tabF (lo := 0) (hg := 6) rfl c2_r rfl)) (fun q => absurd c1 q))))
def M_touch (x1 : Int32) (x2 : Int32)  (s : ax_S) : Option (Int32) :=
  match M_right x1 s with
  | none => none
  | some v1 =>
    match M_right x2 s with
    | none => none
    | some v2 =>
      if (((12 : Int32) + x1) < 0 ∨ 291 ≤ (((12 : Int32) + x1)).toNatClampNeg) then none else
      if (((12 : Int32) + x2) < 0 ∨ 291 ≤ (((12 : Int32) + x2)).toNatClampNeg) then none else
      match M_below x1 s with
      | none => none
      | some v3 =>
        match M_below x2 s with
        | none => none
        | some v4 =>
          if (((24 : Int32) + x1) < 0 ∨ 291 ≤ (((24 : Int32) + x1)).toNatClampNeg) then none else
          if (((24 : Int32) + x2) < 0 ∨ 291 ≤ (((24 : Int32) + x2)).toNatClampNeg) then none else
          if ((M_min v1 v2 s) - (M_max (s.2.1 64 (((12 : Int32) + x1)).toNatClampNeg) (s.2.1 64 (((12 : Int32) + x2)).toNatClampNeg) s)) ≤ 0 then (
            if ((M_min v1 v2 s) - (M_max (s.2.1 64 (((12 : Int32) + x1)).toNatClampNeg) (s.2.1 64 (((12 : Int32) + x2)).toNatClampNeg) s)) < 0 then (
              some (0 : Int32)) else
            if ((M_min v3 v4 s) - (M_max (s.2.1 64 (((24 : Int32) + x1)).toNatClampNeg) (s.2.1 64 (((24 : Int32) + x2)).toNatClampNeg) s)) ≤ 0 then (
              some (0 : Int32)) else
            some (1 : Int32)) else
          if 0 ≤ ((M_min v3 v4 s) - (M_max (s.2.1 64 (((24 : Int32) + x1)).toNatClampNeg) (s.2.1 64 (((24 : Int32) + x2)).toNatClampNeg) s)) then (
            some (1 : Int32)) else
          if ((M_min v1 v2 s) - (M_max (s.2.1 64 (((12 : Int32) + x1)).toNatClampNeg) (s.2.1 64 (((12 : Int32) + x2)).toNatClampNeg) s)) < 0 then (
            some (0 : Int32)) else
          if ((M_min v3 v4 s) - (M_max (s.2.1 64 (((24 : Int32) + x1)).toNatClampNeg) (s.2.1 64 (((24 : Int32) + x2)).toNatClampNeg) s)) ≤ 0 then (
            some (0 : Int32)) else
          some (1 : Int32)
theorem e_M_touch (d : Nat) {x1 : Int32} {x2 : Int32} {s : ax_S} {r : Int32} (h : M_touch x1 x2 s = some r) : ax_ev true (d + 2) 244 [.ref 63, .int x1, .int x2] s (some (.int r), s) := by
  refine ⟨Nat.le_of_ble_eq_true rfl, ?_⟩
  show ax_go true none (ax_ev true (d + 1)) ax_m244 0 [some (.ref 63), some (.int x1), some (.int x2), none, none] [] s _
  unfold M_touch at h
  cases hz1 : M_right x1 s with
  | none => rw [hz1] at h; cases h
  | some v1 =>
  rw [hz1] at h
  dsimp only at h
  cases hz2 : M_right x2 s with
  | none => rw [hz2] at h; cases h
  | some v2 =>
  rw [hz2] at h
  dsimp only at h
  by_cases c3 : (((12 : Int32) + x1) < 0 ∨ 291 ≤ (((12 : Int32) + x1)).toNatClampNeg)
  · rw [if_pos c3] at h; cases h
  · rw [if_neg c3] at h
    refine ax_cut (pc' := 28) (la := [some (.ref 63), some (.int x1), some (.int x2), none, none]) [some (.ref 63), some (.int x1), some (.int x2), none, none] (st' := [.int (12 : Int32), .ref 64, .int (s.2.1 64 (((12 : Int32) + x1)).toNatClampNeg), .int (M_min v1 v2 s)]) (σ' := s) 16 (And.intro rfl (And.intro rfl (And.intro rfl (trivial)))) (fun _ hh => (Exists.intro (some (.int v1), s) (And.intro (e_M_right d hz1) (Exists.intro (some (.int v2), s) (And.intro (e_M_right d hz2) (Exists.intro (some (.int (M_min v1 v2 s)), s) (And.intro (e_M_min d v1 v2 s) (And.intro c3 hh)))))))) ?_
    by_cases c4 : (((12 : Int32) + x2) < 0 ∨ 291 ≤ (((12 : Int32) + x2)).toNatClampNeg)
    · rw [if_pos c4] at h; cases h
    · rw [if_neg c4] at h
      cases hz5 : M_below x1 s with
      | none => rw [hz5] at h; cases h
      | some v3 =>
      rw [hz5] at h
      dsimp only at h
      cases hz6 : M_below x2 s with
      | none => rw [hz6] at h; cases h
      | some v4 =>
      rw [hz6] at h
      dsimp only at h
      refine ax_cut (pc' := 55) (la := [some (.ref 63), some (.int x1), some (.int x2), some (.int ((M_min v1 v2 s) - (M_max (s.2.1 64 (((12 : Int32) + x1)).toNatClampNeg) (s.2.1 64 (((12 : Int32) + x2)).toNatClampNeg) s))), none]) [some (.ref 63), some (.int x1), some (.int x2), some (.int ((M_min v1 v2 s) - (M_max (s.2.1 64 (((12 : Int32) + x1)).toNatClampNeg) (s.2.1 64 (((12 : Int32) + x2)).toNatClampNeg) s))), none] (st' := [.int (24 : Int32), .ref 64, .int (M_min v3 v4 s)]) (σ' := s) 16 (And.intro rfl (And.intro rfl (And.intro rfl (And.intro rfl (trivial))))) (fun _ hh => (And.intro c4 (Exists.intro (some (.int (M_max (s.2.1 64 (((12 : Int32) + x1)).toNatClampNeg) (s.2.1 64 (((12 : Int32) + x2)).toNatClampNeg) s)), s) (And.intro (e_M_max d (s.2.1 64 (((12 : Int32) + x1)).toNatClampNeg) (s.2.1 64 (((12 : Int32) + x2)).toNatClampNeg) s) (Exists.intro (some (.int v3), s) (And.intro (e_M_below d hz5) (Exists.intro (some (.int v4), s) (And.intro (e_M_below d hz6) (Exists.intro (some (.int (M_min v3 v4 s)), s) (And.intro (e_M_min d v3 v4 s) hh)))))))))) ?_
      by_cases c7 : (((24 : Int32) + x1) < 0 ∨ 291 ≤ (((24 : Int32) + x1)).toNatClampNeg)
      · rw [if_pos c7] at h; cases h
      · rw [if_neg c7] at h
        by_cases c8 : (((24 : Int32) + x2) < 0 ∨ 291 ≤ (((24 : Int32) + x2)).toNatClampNeg)
        · rw [if_pos c8] at h; cases h
        · rw [if_neg c8] at h
          by_cases c9 : ((M_min v1 v2 s) - (M_max (s.2.1 64 (((12 : Int32) + x1)).toNatClampNeg) (s.2.1 64 (((12 : Int32) + x2)).toNatClampNeg) s)) ≤ 0
          · rw [if_pos c9] at h
            by_cases c10 : ((M_min v1 v2 s) - (M_max (s.2.1 64 (((12 : Int32) + x1)).toNatClampNeg) (s.2.1 64 (((12 : Int32) + x2)).toNatClampNeg) s)) < 0
            · rw [if_pos c10] at h
              refine ax_cut (pc' := 95) (la := [some (.ref 63), some (.int x1), some (.int x2), some (.int ((M_min v1 v2 s) - (M_max (s.2.1 64 (((12 : Int32) + x1)).toNatClampNeg) (s.2.1 64 (((12 : Int32) + x2)).toNatClampNeg) s))), some (.int ((M_min v3 v4 s) - (M_max (s.2.1 64 (((24 : Int32) + x1)).toNatClampNeg) (s.2.1 64 (((24 : Int32) + x2)).toNatClampNeg) s)))]) [none, none, none, none, none] (st' := []) (σ' := s) 16 (trivial) (fun _ hh => (And.intro c7 (And.intro c8 (Exists.intro (some (.int (M_max (s.2.1 64 (((24 : Int32) + x1)).toNatClampNeg) (s.2.1 64 (((24 : Int32) + x2)).toNatClampNeg) s)), s) (And.intro (e_M_max d (s.2.1 64 (((24 : Int32) + x1)).toNatClampNeg) (s.2.1 64 (((24 : Int32) + x2)).toNatClampNeg) s) (And.intro (fun _ => (And.intro (fun _ => hh) (fun q => absurd c10 q))) (fun q => absurd c9 q))))))) ?_
              have h := Option.some.inj h
              subst r
              exact ax_end 2 (And.intro (Or.inl rfl) rfl)
            · rw [if_neg c10] at h
              refine ax_cut (pc' := 86) (la := [some (.ref 63), some (.int x1), some (.int x2), some (.int ((M_min v1 v2 s) - (M_max (s.2.1 64 (((12 : Int32) + x1)).toNatClampNeg) (s.2.1 64 (((12 : Int32) + x2)).toNatClampNeg) s))), some (.int ((M_min v3 v4 s) - (M_max (s.2.1 64 (((24 : Int32) + x1)).toNatClampNeg) (s.2.1 64 (((24 : Int32) + x2)).toNatClampNeg) s)))]) [none, none, none, none, some (.int ((M_min v3 v4 s) - (M_max (s.2.1 64 (((24 : Int32) + x1)).toNatClampNeg) (s.2.1 64 (((24 : Int32) + x2)).toNatClampNeg) s)))] (st' := []) (σ' := s) 16 (And.intro rfl (trivial)) (fun _ hh => (And.intro c7 (And.intro c8 (Exists.intro (some (.int (M_max (s.2.1 64 (((24 : Int32) + x1)).toNatClampNeg) (s.2.1 64 (((24 : Int32) + x2)).toNatClampNeg) s)), s) (And.intro (e_M_max d (s.2.1 64 (((24 : Int32) + x1)).toNatClampNeg) (s.2.1 64 (((24 : Int32) + x2)).toNatClampNeg) s) (And.intro (fun _ => (And.intro (fun q => absurd q c10) (fun _ => hh))) (fun q => absurd c9 q))))))) ?_
              by_cases c11 : ((M_min v3 v4 s) - (M_max (s.2.1 64 (((24 : Int32) + x1)).toNatClampNeg) (s.2.1 64 (((24 : Int32) + x2)).toNatClampNeg) s)) ≤ 0
              · rw [if_pos c11] at h
                have h := Option.some.inj h
                subst r
                exact ax_end 4 (And.intro (fun _ => (And.intro (Or.inl rfl) rfl)) (fun q => absurd c11 q))
              · rw [if_neg c11] at h
                have h := Option.some.inj h
                subst r
                exact ax_end 5 (And.intro (fun q => absurd q c11) (fun _ => (And.intro (Or.inr rfl) rfl)))
          · rw [if_neg c9] at h
            by_cases c12 : 0 ≤ ((M_min v3 v4 s) - (M_max (s.2.1 64 (((24 : Int32) + x1)).toNatClampNeg) (s.2.1 64 (((24 : Int32) + x2)).toNatClampNeg) s))
            · rw [if_pos c12] at h
              refine ax_cut (pc' := 91) (la := [some (.ref 63), some (.int x1), some (.int x2), some (.int ((M_min v1 v2 s) - (M_max (s.2.1 64 (((12 : Int32) + x1)).toNatClampNeg) (s.2.1 64 (((12 : Int32) + x2)).toNatClampNeg) s))), some (.int ((M_min v3 v4 s) - (M_max (s.2.1 64 (((24 : Int32) + x1)).toNatClampNeg) (s.2.1 64 (((24 : Int32) + x2)).toNatClampNeg) s)))]) [none, none, none, none, none] (st' := []) (σ' := s) 16 (trivial) (fun _ hh => (And.intro c7 (And.intro c8 (Exists.intro (some (.int (M_max (s.2.1 64 (((24 : Int32) + x1)).toNatClampNeg) (s.2.1 64 (((24 : Int32) + x2)).toNatClampNeg) s)), s) (And.intro (e_M_max d (s.2.1 64 (((24 : Int32) + x1)).toNatClampNeg) (s.2.1 64 (((24 : Int32) + x2)).toNatClampNeg) s) (And.intro (fun q => absurd q c9) (fun _ => (And.intro (fun _ => hh) (fun q => absurd c12 q))))))))) ?_
              have h := Option.some.inj h
              subst r
              exact ax_end 3 (And.intro (Or.inr rfl) rfl)
            · rw [if_neg c12] at h
              refine ax_cut (pc' := 82) (la := [some (.ref 63), some (.int x1), some (.int x2), some (.int ((M_min v1 v2 s) - (M_max (s.2.1 64 (((12 : Int32) + x1)).toNatClampNeg) (s.2.1 64 (((12 : Int32) + x2)).toNatClampNeg) s))), some (.int ((M_min v3 v4 s) - (M_max (s.2.1 64 (((24 : Int32) + x1)).toNatClampNeg) (s.2.1 64 (((24 : Int32) + x2)).toNatClampNeg) s)))]) [none, none, none, some (.int ((M_min v1 v2 s) - (M_max (s.2.1 64 (((12 : Int32) + x1)).toNatClampNeg) (s.2.1 64 (((12 : Int32) + x2)).toNatClampNeg) s))), some (.int ((M_min v3 v4 s) - (M_max (s.2.1 64 (((24 : Int32) + x1)).toNatClampNeg) (s.2.1 64 (((24 : Int32) + x2)).toNatClampNeg) s)))] (st' := []) (σ' := s) 16 (And.intro rfl (And.intro rfl (trivial))) (fun _ hh => (And.intro c7 (And.intro c8 (Exists.intro (some (.int (M_max (s.2.1 64 (((24 : Int32) + x1)).toNatClampNeg) (s.2.1 64 (((24 : Int32) + x2)).toNatClampNeg) s)), s) (And.intro (e_M_max d (s.2.1 64 (((24 : Int32) + x1)).toNatClampNeg) (s.2.1 64 (((24 : Int32) + x2)).toNatClampNeg) s) (And.intro (fun q => absurd q c9) (fun _ => (And.intro (fun q => absurd q c12) (fun _ => hh))))))))) ?_
              by_cases c13 : ((M_min v1 v2 s) - (M_max (s.2.1 64 (((12 : Int32) + x1)).toNatClampNeg) (s.2.1 64 (((12 : Int32) + x2)).toNatClampNeg) s)) < 0
              · rw [if_pos c13] at h
                have h := Option.some.inj h
                subst r
                exact ax_end 4 (And.intro (fun _ => (And.intro (Or.inl rfl) rfl)) (fun q => absurd c13 q))
              · rw [if_neg c13] at h
                by_cases c14 : ((M_min v3 v4 s) - (M_max (s.2.1 64 (((24 : Int32) + x1)).toNatClampNeg) (s.2.1 64 (((24 : Int32) + x2)).toNatClampNeg) s)) ≤ 0
                · rw [if_pos c14] at h
                  have h := Option.some.inj h
                  subst r
                  exact ax_end 6 (And.intro (fun q => absurd q c13) (fun _ => (And.intro (fun _ => (And.intro (Or.inl rfl) rfl)) (fun q => absurd c14 q))))
                · rw [if_neg c14] at h
                  have h := Option.some.inj h
                  subst r
                  exact ax_end 7 (And.intro (fun q => absurd q c13) (fun _ => (And.intro (fun q => absurd q c14) (fun _ => (And.intro (Or.inr rfl) rfl)))))
def M_touchedBy_l13 : Nat → Int32 → Int32 → Int32 → Int32 → ax_S → Option (Int32)
  | 0, _, _, _, _, _ => none
  | n + 1, x1, x2, x3, x4, s =>
    if (12 : Int32) ≤ x4 then (
      some x2) else
    if (((0 : Int32) + x3) < 0 ∨ 291 ≤ (((0 : Int32) + x3)).toNatClampNeg) then none else
    if (s.2.1 64 (((0 : Int32) + x3)).toNatClampNeg) = x1 then (
      match M_isFigure x4 s with
      | none => none
      | some v1 =>
        if v1 = 0 then (
          M_touchedBy_l13 n x1 x2 x3 (x4 + (1)) s) else
        if (((0 : Int32) + x4) < 0 ∨ 291 ≤ (((0 : Int32) + x4)).toNatClampNeg) then none else
        if (s.2.1 64 (((0 : Int32) + x4)).toNatClampNeg) = x1 then (
          M_touchedBy_l13 n x1 x2 x3 (x4 + (1)) s) else
        match M_touch x3 x4 s with
        | none => none
        | some v2 =>
          if v2 = 0 then (
            M_touchedBy_l13 n x1 x2 x3 (x4 + (1)) s) else
          if (((0 : Int32) + x4) < 0 ∨ 291 ≤ (((0 : Int32) + x4)).toNatClampNeg) then none else
          M_touchedBy_l13 n x1 (x2 ||| ((1 : Int32) <<< ((s.2.1 64 (((0 : Int32) + x4)).toNatClampNeg) &&& 31))) x3 (x4 + (1)) s) else
    M_touchedBy_l13 n x1 x2 x3 (x4 + (1)) s
def M_touchedBy_l4 : Nat → Int32 → Int32 → Int32 → ax_S → Option (Int32)
  | 0, _, _, _, _ => none
  | n + 1, x1, x2, x3, s =>
    if (12 : Int32) ≤ x3 then (
      some x2) else
    match M_touchedBy_l13 70000 x1 x2 x3 (0 : Int32) s with
    | none => none
    | some v3 =>
      M_touchedBy_l4 n x1 v3 (x3 + (1)) s
def M_touchedBy (x1 : Int32)  (s : ax_S) : Option (Int32) :=
  match M_touchedBy_l4 70000 x1 (0 : Int32) (0 : Int32) s with
  | none => none
  | some v4 =>
    some v4
theorem w_M_touchedBy_l13 (d : Nat) {o : ax_O} : ∀ (n : Nat) (x1 : Int32) (x2 : Int32) (x3 : Int32) (x4 : Int32) (s : ax_S) (r : Int32) (h : M_touchedBy_l13 n x1 x2 x3 x4 s = some r) (hk0 : ∀ (t0 : Int32), r = t0 → ax_go true none (ax_ev true (d + 2)) ax_m243 84 [some (.ref 63), some (.int x1), some (.int t0), some (.int x3), none] [] s o), ax_go true none (ax_ev true (d + 2)) ax_m243 13 [some (.ref 63), some (.int x1), some (.int x2), some (.int x3), some (.int x4)] [] s o := by
  intro n
  induction n with
  | zero => intro x1 x2 x3 x4 s r h hk0; cases h
  | succ n ih =>
    intro x1 x2 x3 x4 s r h hk0
    rw [M_touchedBy_l13] at h
    by_cases c1 : (12 : Int32) ≤ x4
    · rw [if_pos c1] at h
      have h := Option.some.inj h
      subst r
      exact ax_cut (pc' := 84) (la := [some (.ref 63), some (.int x1), some (.int x2), some (.int x3), some (.int x4)]) [some (.ref 63), some (.int x1), some (.int x2), some (.int x3), none] (st' := []) (σ' := s) 3 (And.intro rfl (And.intro rfl (And.intro rfl (And.intro rfl (trivial))))) (fun _ hh => (And.intro (fun _ => hh) (fun q => absurd c1 q))) (hk0 _ rfl)
    · rw [if_neg c1] at h
      by_cases c2 : (((0 : Int32) + x3) < 0 ∨ 291 ≤ (((0 : Int32) + x3)).toNatClampNeg)
      · rw [if_pos c2] at h; cases h
      · rw [if_neg c2] at h
        by_cases c3 : (s.2.1 64 (((0 : Int32) + x3)).toNatClampNeg) = x1
        · rw [if_pos c3] at h
          cases hz4 : M_isFigure x4 s with
          | none => rw [hz4] at h; cases h
          | some v1 =>
          rw [hz4] at h
          dsimp only at h
          by_cases c5 : v1 = 0
          · rw [if_pos c5] at h
            refine ax_cut (pc' := 81) (la := [some (.ref 63), some (.int x1), some (.int x2), some (.int x3), some (.int (x4 + (1)))]) [some (.ref 63), some (.int x1), some (.int x2), some (.int x3), some (.int (x4 + (1)))] (st' := []) (σ' := s) 16 (And.intro rfl (And.intro rfl (And.intro rfl (And.intro rfl (And.intro rfl (trivial)))))) (fun _ hh => (And.intro (fun q => absurd q c1) (fun _ => (And.intro c2 (And.intro (fun q => absurd c3 q) (fun _ => (Exists.intro (some (.int v1), s) (And.intro (e_M_isFigure d hz4) (And.intro (fun _ => hh) (fun q => absurd c5 q)))))))))) ?_
            exact ax_cut (pc' := 13) (la := [some (.ref 63), some (.int x1), some (.int x2), some (.int x3), some (.int (x4 + (1)))]) [some (.ref 63), some (.int x1), some (.int x2), some (.int x3), some (.int (x4 + (1)))] (st' := []) (σ' := s) 1 (And.intro rfl (And.intro rfl (And.intro rfl (And.intro rfl (And.intro rfl (trivial)))))) (fun _ hh => hh) (ih x1 x2 x3 (x4 + (1)) s _ h hk0)
          · rw [if_neg c5] at h
            refine ax_cut (pc' := 42) (la := [some (.ref 63), some (.int x1), some (.int x2), some (.int x3), some (.int x4)]) [some (.ref 63), some (.int x1), some (.int x2), some (.int x3), some (.int x4)] (st' := [.ref 63]) (σ' := s) 16 (And.intro rfl (And.intro rfl (And.intro rfl (And.intro rfl (And.intro rfl (trivial)))))) (fun _ hh => (And.intro (fun q => absurd q c1) (fun _ => (And.intro c2 (And.intro (fun q => absurd c3 q) (fun _ => (Exists.intro (some (.int v1), s) (And.intro (e_M_isFigure d hz4) (And.intro (fun q => absurd q c5) (fun _ => hh)))))))))) ?_
            by_cases c6 : (((0 : Int32) + x4) < 0 ∨ 291 ≤ (((0 : Int32) + x4)).toNatClampNeg)
            · rw [if_pos c6] at h; cases h
            · rw [if_neg c6] at h
              by_cases c7 : (s.2.1 64 (((0 : Int32) + x4)).toNatClampNeg) = x1
              · rw [if_pos c7] at h
                exact ax_cut (pc' := 13) (la := [some (.ref 63), some (.int x1), some (.int x2), some (.int x3), some (.int (x4 + (1)))]) [some (.ref 63), some (.int x1), some (.int x2), some (.int x3), some (.int (x4 + (1)))] (st' := []) (σ' := s) 9 (And.intro rfl (And.intro rfl (And.intro rfl (And.intro rfl (And.intro rfl (trivial)))))) (fun _ hh => (And.intro c6 (And.intro (fun _ => hh) (fun q => absurd c7 q)))) (ih x1 x2 x3 (x4 + (1)) s _ h hk0)
              · rw [if_neg c7] at h
                cases hz8 : M_touch x3 x4 s with
                | none => rw [hz8] at h; cases h
                | some v2 =>
                rw [hz8] at h
                dsimp only at h
                by_cases c9 : v2 = 0
                · rw [if_pos c9] at h
                  exact ax_cut (pc' := 13) (la := [some (.ref 63), some (.int x1), some (.int x2), some (.int x3), some (.int (x4 + (1)))]) [some (.ref 63), some (.int x1), some (.int x2), some (.int x3), some (.int (x4 + (1)))] (st' := []) (σ' := s) 14 (And.intro rfl (And.intro rfl (And.intro rfl (And.intro rfl (And.intro rfl (trivial)))))) (fun _ hh => (And.intro c6 (And.intro (fun q => absurd q c7) (fun _ => (Exists.intro (some (.int v2), s) (And.intro (e_M_touch d hz8) (And.intro (fun _ => hh) (fun q => absurd c9 q)))))))) (ih x1 x2 x3 (x4 + (1)) s _ h hk0)
                · rw [if_neg c9] at h
                  refine ax_cut (pc' := 70) (la := [some (.ref 63), some (.int x1), some (.int x2), some (.int x3), some (.int x4)]) [some (.ref 63), some (.int x1), none, some (.int x3), some (.int x4)] (st' := [.ref 64, .int (1 : Int32), .int x2]) (σ' := s) 16 (And.intro rfl (And.intro rfl (And.intro rfl (And.intro rfl (trivial))))) (fun _ hh => (And.intro c6 (And.intro (fun q => absurd q c7) (fun _ => (Exists.intro (some (.int v2), s) (And.intro (e_M_touch d hz8) (And.intro (fun q => absurd q c9) (fun _ => hh)))))))) ?_
                  by_cases c10 : (((0 : Int32) + x4) < 0 ∨ 291 ≤ (((0 : Int32) + x4)).toNatClampNeg)
                  · rw [if_pos c10] at h; cases h
                  · rw [if_neg c10] at h
                    exact ax_cut (pc' := 13) (la := [some (.ref 63), some (.int x1), some (.int (x2 ||| ((1 : Int32) <<< ((s.2.1 64 (((0 : Int32) + x4)).toNatClampNeg) &&& 31)))), some (.int x3), some (.int (x4 + (1)))]) [some (.ref 63), some (.int x1), some (.int (x2 ||| ((1 : Int32) <<< ((s.2.1 64 (((0 : Int32) + x4)).toNatClampNeg) &&& 31)))), some (.int x3), some (.int (x4 + (1)))] (st' := []) (σ' := s) 9 (And.intro rfl (And.intro rfl (And.intro rfl (And.intro rfl (And.intro rfl (trivial)))))) (fun _ hh => (And.intro c10 hh)) (ih x1 (x2 ||| ((1 : Int32) <<< ((s.2.1 64 (((0 : Int32) + x4)).toNatClampNeg) &&& 31))) x3 (x4 + (1)) s _ h hk0)
        · rw [if_neg c3] at h
          exact ax_cut (pc' := 13) (la := [some (.ref 63), some (.int x1), some (.int x2), some (.int x3), some (.int (x4 + (1)))]) [some (.ref 63), some (.int x1), some (.int x2), some (.int x3), some (.int (x4 + (1)))] (st' := []) (σ' := s) 13 (And.intro rfl (And.intro rfl (And.intro rfl (And.intro rfl (And.intro rfl (trivial)))))) (fun _ hh => (And.intro (fun q => absurd q c1) (fun _ => (And.intro c2 (And.intro (fun _ => hh) (fun q => absurd c3 q)))))) (ih x1 x2 x3 (x4 + (1)) s _ h hk0)
theorem w_M_touchedBy_l4 (d : Nat) {o : ax_O} : ∀ (n : Nat) (x1 : Int32) (x2 : Int32) (x3 : Int32) (s : ax_S) (r : Int32) (h : M_touchedBy_l4 n x1 x2 x3 s = some r) (hk0 : ∀ (t0 : Int32), r = t0 → ax_go true none (ax_ev true (d + 2)) ax_m243 90 [none, none, some (.int t0), none, none] [] s o), ax_go true none (ax_ev true (d + 2)) ax_m243 4 [some (.ref 63), some (.int x1), some (.int x2), some (.int x3), none] [] s o := by
  intro n
  induction n with
  | zero => intro x1 x2 x3 s r h hk0; cases h
  | succ n ih =>
    intro x1 x2 x3 s r h hk0
    rw [M_touchedBy_l4] at h
    by_cases c1 : (12 : Int32) ≤ x3
    · rw [if_pos c1] at h
      have h := Option.some.inj h
      subst r
      exact ax_cut (pc' := 90) (la := [some (.ref 63), some (.int x1), some (.int x2), some (.int x3), none]) [none, none, some (.int x2), none, none] (st' := []) (σ' := s) 3 (And.intro rfl (trivial)) (fun _ hh => (And.intro (fun _ => hh) (fun q => absurd c1 q))) (hk0 _ rfl)
    · rw [if_neg c1] at h
      cases hz2 : M_touchedBy_l13 70000 x1 x2 x3 (0 : Int32) s with
      | none => rw [hz2] at h; cases h
      | some z2 =>
      rw [hz2] at h
      refine ax_cut (pc' := 13) (la := [some (.ref 63), some (.int x1), some (.int x2), some (.int x3), some (.int (0 : Int32))]) [some (.ref 63), some (.int x1), some (.int x2), some (.int x3), some (.int (0 : Int32))] (st' := []) (σ' := s) 5 (And.intro rfl (And.intro rfl (And.intro rfl (And.intro rfl (And.intro rfl (trivial)))))) (fun _ hh => (And.intro (fun q => absurd q c1) (fun _ => hh))) (w_M_touchedBy_l13 d 70000 x1 x2 x3 (0 : Int32) s _ hz2 ?_)
      · intro v3 hq
        subst z2
        dsimp only at h
        exact ax_cut (pc' := 4) (la := [some (.ref 63), some (.int x1), some (.int v3), some (.int (x3 + (1))), none]) [some (.ref 63), some (.int x1), some (.int v3), some (.int (x3 + (1))), none] (st' := []) (σ' := s) 2 (And.intro rfl (And.intro rfl (And.intro rfl (And.intro rfl (trivial))))) (fun _ hh => hh) (ih x1 v3 (x3 + (1)) s _ h hk0)
theorem e_M_touchedBy (d : Nat) {x1 : Int32} {s : ax_S} {r : Int32} (h : M_touchedBy x1 s = some r) : ax_ev true (d + 3) 243 [.ref 63, .int x1] s (some (.int r), s) := by
  refine ⟨Nat.le_of_ble_eq_true rfl, ?_⟩
  show ax_go true none (ax_ev true (d + 2)) ax_m243 0 [some (.ref 63), some (.int x1), none, none, none] [] s _
  unfold M_touchedBy at h
  cases hz1 : M_touchedBy_l4 70000 x1 (0 : Int32) (0 : Int32) s with
  | none => rw [hz1] at h; cases h
  | some z1 =>
  rw [hz1] at h
  refine ax_cut (pc' := 4) (la := [some (.ref 63), some (.int x1), some (.int (0 : Int32)), some (.int (0 : Int32)), none]) [some (.ref 63), some (.int x1), some (.int (0 : Int32)), some (.int (0 : Int32)), none] (st' := []) (σ' := s) 4 (And.intro rfl (And.intro rfl (And.intro rfl (And.intro rfl (trivial))))) (fun _ hh => hh) (w_M_touchedBy_l4 d 70000 x1 (0 : Int32) (0 : Int32) s _ hz1 ?_)
  · intro v4 hq
    subst z1
    dsimp only at h
    have h := Option.some.inj h
    subst r
    exact ax_end 2 rfl
