def J_fill_27_l5 : Nat → Int32 → Int32 → Int32 → ax_S → Option (ax_S)
  | 0, _, _, _, _ => none
  | n + 1, x1, x2, x3, s =>
    if x3 ≤ x2 then (
      some s) else
    if (x2 < 0 ∨ 12 ≤ (x2).toNatClampNeg) then none else
    J_fill_27_l5 n x1 (x2 + (1)) x3 (ax_sI s 27 (x2).toNatClampNeg x1)
def J_fill_27 (x1 : Int32)  (s : ax_S) : Option (ax_S) :=
  match J_fill_27_l5 70000 x1 (0 : Int32) (12 : Int32) s with
  | none => none
  | some s1 =>
    some s1
theorem w_J_fill_27_l5 (d : Nat) {o : ax_O} : ∀ (n : Nat) (x1 : Int32) (x2 : Int32) (x3 : Int32) (s : ax_S) (r : ax_S) (h : J_fill_27_l5 n x1 x2 x3 s = some r) (hk0 : ∀ (t0 : ax_S), r = t0 → ax_go true none (ax_ev true (d + 0)) ax_m4 20 [none, none, none, none] [] t0 o), ax_go true none (ax_ev true (d + 0)) ax_m4 5 [some (.ref 27), some (.int x1), some (.int x2), some (.int x3)] [] s o := by
  intro n
  induction n with
  | zero => intro x1 x2 x3 s r h hk0; cases h
  | succ n ih =>
    intro x1 x2 x3 s r h hk0
    rw [J_fill_27_l5] at h
    by_cases c1 : x3 ≤ x2
    · rw [if_pos c1] at h
      have h := Option.some.inj h
      subst r
      exact ax_cut (pc' := 20) (la := [some (.ref 27), some (.int x1), some (.int x2), some (.int x3)]) [none, none, none, none] (st' := []) (σ' := s) 3 (trivial) (fun _ hh => (And.intro (fun _ => hh) (fun q => absurd c1 q))) (hk0 _ rfl)
    · rw [if_neg c1] at h
      by_cases c2 : (x2 < 0 ∨ 12 ≤ (x2).toNatClampNeg)
      · rw [if_pos c2] at h; cases h
      · rw [if_neg c2] at h
        exact ax_cut (pc' := 5) (la := [some (.ref 27), some (.int x1), some (.int (x2 + (1))), some (.int x3)]) [some (.ref 27), some (.int x1), some (.int (x2 + (1))), some (.int x3)] (st' := []) (σ' := (ax_sI s 27 (x2).toNatClampNeg x1)) 9 (And.intro rfl (And.intro rfl (And.intro rfl (And.intro rfl (trivial))))) (fun _ hh => (And.intro (fun q => absurd q c1) (fun _ => (And.intro c2 hh)))) (ih x1 (x2 + (1)) x3 (ax_sI s 27 (x2).toNatClampNeg x1) _ h hk0)
theorem e_J_fill_27 (d : Nat) {x1 : Int32} {s : ax_S} {r : ax_S} (h : J_fill_27 x1 s = some r) : ax_ev true (d + 1) 4 [.ref 27, .int x1] s (none, r) := by
  refine ⟨Nat.le_of_ble_eq_true rfl, ?_⟩
  show ax_go true none (ax_ev true (d + 0)) ax_m4 0 [some (.ref 27), some (.int x1), none, none] [] s _
  unfold J_fill_27 at h
  cases hz1 : J_fill_27_l5 70000 x1 (0 : Int32) (12 : Int32) s with
  | none => rw [hz1] at h; cases h
  | some z1 =>
  rw [hz1] at h
  refine ax_cut (pc' := 5) (la := [some (.ref 27), some (.int x1), some (.int (0 : Int32)), some (.int (12 : Int32))]) [some (.ref 27), some (.int x1), some (.int (0 : Int32)), some (.int (12 : Int32))] (st' := []) (σ' := s) 5 (And.intro rfl (And.intro rfl (And.intro rfl (And.intro rfl (trivial))))) (fun _ hh => hh) (w_J_fill_27_l5 d 70000 x1 (0 : Int32) (12 : Int32) s _ hz1 ?_)
  · intro s1 hq
    subst z1
    dsimp only at h
    have h := Option.some.inj h
    subst r
    exact ax_end 1 rfl
def XFi_clear_26  (s : ax_S) : Option (ax_S) :=
  match J_fill_27 (-1 : Int32) s with
  | none => none
  | some s1 =>
    some s1
theorem e_XFi_clear_26 (d : Nat)  {s : ax_S} {r : ax_S} (h : XFi_clear_26 s = some r) : ax_ev true (d + 2) 68 [.ref 26] s (none, r) := by
  refine ⟨Nat.le_of_ble_eq_true rfl, ?_⟩
  show ax_go true none (ax_ev true (d + 1)) ax_m68 0 [some (.ref 26)] [] s _
  unfold XFi_clear_26 at h
  cases hz1 : J_fill_27 (-1 : Int32) s with
  | none => rw [hz1] at h; cases h
  | some s1 =>
  rw [hz1] at h
  dsimp only at h
  have h := Option.some.inj h
  subst r
  exact ax_end 5 (Exists.intro (none, s1) (And.intro (e_J_fill_27 d hz1) rfl))
def XLiRe_isPersonLetter (x0 : Int32)  (s : ax_S) : Int32 :=
  if x0 < (97 : Int32) then (
    (0 : Int32)) else
  if (112 : Int32) < x0 then (
    (0 : Int32)) else
  (1 : Int32)
theorem e_XLiRe_isPersonLetter (d : Nat) (x0 : Int32) (s : ax_S) : ax_ev true (d + 1) 28 [.int x0] s (some (.int (XLiRe_isPersonLetter x0 s)), s) := by
  refine ⟨Nat.le_of_ble_eq_true rfl, ?_⟩
  generalize h : XLiRe_isPersonLetter x0 s = r
  show ax_go true none (ax_ev true (d + 0)) ax_m28 0 [some (.int x0)] [] s _
  unfold XLiRe_isPersonLetter at h
  by_cases c1 : x0 < (97 : Int32)
  · rw [if_pos c1] at h
    have h := h
    subst r
    exact ax_end 5 (And.intro (fun _ => (And.intro (Or.inl rfl) rfl)) (fun q => absurd c1 q))
  · rw [if_neg c1] at h
    by_cases c2 : (112 : Int32) < x0
    · rw [if_pos c2] at h
      have h := h
      subst r
      exact ax_end 8 (And.intro (fun q => absurd q c1) (fun _ => (And.intro (fun _ => (And.intro (Or.inl rfl) rfl)) (fun q => absurd c2 q))))
    · rw [if_neg c2] at h
      have h := h
      subst r
      exact ax_end 9 (And.intro (fun q => absurd q c1) (fun _ => (And.intro (fun q => absurd q c2) (fun _ => (And.intro (Or.inr rfl) rfl)))))
def XPrRe_canBegin (x1 : Int32)  (s : ax_S) : Int32 :=
  (XLiRe_isPersonLetter x1 s)
theorem e_XPrRe_canBegin (d : Nat) (x1 : Int32) (s : ax_S) : ax_ev true (d + 2) 30 [.ref 52, .int x1] s (some (.int (XPrRe_canBegin x1 s)), s) := by
  refine ⟨Nat.le_of_ble_eq_true rfl, ?_⟩
  generalize h : XPrRe_canBegin x1 s = r
  show ax_go true none (ax_ev true (d + 1)) ax_m30 0 [some (.ref 52), some (.int x1)] [] s _
  unfold XPrRe_canBegin at h
  have h := h
  subst r
  exact ax_end 3 (Exists.intro (some (.int (XLiRe_isPersonLetter x1 s)), s) (And.intro (e_XLiRe_isPersonLetter d x1 s) (And.intro (ax_ev_bool rfl (e_XLiRe_isPersonLetter d x1 s)) rfl)))
def XTa_refuseNumber (x1 : Int32)  (s : ax_S) : ax_S :=
  (XTa_refuseAt x1 (s.2.1 1 4) s)
theorem e_XTa_refuseNumber (d : Nat) (x1 : Int32) (s : ax_S) : ax_ev true (d + 2) 39 [.ref 1, .int x1] s (none, (XTa_refuseNumber x1 s)) := by
  refine ⟨Nat.le_of_ble_eq_true rfl, ?_⟩
  generalize h : XTa_refuseNumber x1 s = r
  show ax_go true none (ax_ev true (d + 1)) ax_m39 0 [some (.ref 1), some (.int x1)] [] s _
  unfold XTa_refuseNumber at h
  have h := h
  subst r
  exact ax_end 6 (Exists.intro (none, (XTa_refuseAt x1 (s.2.1 1 4) s)) (And.intro (e_XTa_refuseAt d x1 (s.2.1 1 4) s) rfl))
def XPrRe_readWithin (x1 : Int32) (x2 : Int32)  (s : ax_S) : Option (Int32 × ax_S) :=
  match XTa_readNumber (2 : Int32) s with
  | none => none
  | some (v1, s2) =>
    if v1 < x1 then (
      some (v1, (XTa_refuseNumber (3 : Int32) s2))) else
    if v1 ≤ x2 then (
      some (v1, s2)) else
    some (v1, (XTa_refuseNumber (3 : Int32) s2))
theorem e_XPrRe_readWithin (d : Nat) {x1 : Int32} {x2 : Int32} {s : ax_S} {r : Int32 × ax_S} (h : XPrRe_readWithin x1 x2 s = some r) : ax_ev true (d + 3) 60 [.ref 52, .int x1, .int x2] s (some (.int r.1), r.2) := by
  refine ⟨Nat.le_of_ble_eq_true rfl, ?_⟩
  show ax_go true none (ax_ev true (d + 2)) ax_m60 0 [some (.ref 52), some (.int x1), some (.int x2), none] [] s _
  unfold XPrRe_readWithin at h
  cases hz1 : XTa_readNumber (2 : Int32) s with
  | none => rw [hz1] at h; cases h
  | some z1 =>
  rw [hz1] at h
  obtain ⟨v1, s2⟩ := z1
  dsimp only at h
  by_cases c2 : v1 < x1
  · rw [if_pos c2] at h
    have h := Option.some.inj h
    subst r
    exact ax_end 14 (Exists.intro (some (.int v1), s2) (And.intro (e_XTa_readNumber d hz1) (And.intro (fun _ => (Exists.intro (none, (XTa_refuseNumber (3 : Int32) s2)) (And.intro (e_XTa_refuseNumber d (3 : Int32) s2) rfl))) (fun q => absurd c2 q))))
  · rw [if_neg c2] at h
    by_cases c3 : v1 ≤ x2
    · rw [if_pos c3] at h
      have h := Option.some.inj h
      subst r
      exact ax_end 13 (Exists.intro (some (.int v1), s2) (And.intro (e_XTa_readNumber d hz1) (And.intro (fun q => absurd q c2) (fun _ => (And.intro (fun _ => rfl) (fun q => absurd c3 q))))))
    · rw [if_neg c3] at h
      refine ax_cut (pc' := 28) (la := [some (.ref 52), some (.int x1), some (.int x2), some (.int v1)]) [none, none, none, none] (st' := [.int v1]) (σ' := (XTa_refuseNumber (3 : Int32) s2)) 16 (trivial) (fun _ hh => (Exists.intro (some (.int v1), s2) (And.intro (e_XTa_readNumber d hz1) (And.intro (fun q => absurd q c2) (fun _ => (And.intro (fun q => absurd q c3) (fun _ => (Exists.intro (none, (XTa_refuseNumber (3 : Int32) s2)) (And.intro (e_XTa_refuseNumber d (3 : Int32) s2) hh))))))))) ?_
      have h := Option.some.inj h
      subst r
      exact ax_end 1 rfl
def XFi_tell_26 (x1 : Int32) (x2 : Int32)  (s : ax_S) : Option (ax_S) :=
  if x1 < 0 then (
    some s) else
  if (12 : Int32) ≤ x1 then (
    some s) else
  if (x1 < 0 ∨ 12 ≤ (x1).toNatClampNeg) then none else
  some (ax_sI s 27 (x1).toNatClampNeg x2)
theorem e_XFi_tell_26 (d : Nat) {x1 : Int32} {x2 : Int32} {s : ax_S} {r : ax_S} (h : XFi_tell_26 x1 x2 s = some r) : ax_ev true (d + 1) 43 [.ref 26, .int x1, .int x2] s (none, r) := by
  refine ⟨Nat.le_of_ble_eq_true rfl, ?_⟩
  show ax_go true none (ax_ev true (d + 0)) ax_m43 0 [some (.ref 26), some (.int x1), some (.int x2)] [] s _
  unfold XFi_tell_26 at h
  by_cases c1 : x1 < 0
  · rw [if_pos c1] at h
    have h := Option.some.inj h
    subst r
    exact ax_end 3 (And.intro (fun _ => rfl) (fun q => absurd c1 q))
  · rw [if_neg c1] at h
    by_cases c2 : (12 : Int32) ≤ x1
    · rw [if_pos c2] at h
      have h := Option.some.inj h
      subst r
      exact ax_end 6 (And.intro (fun q => absurd q c1) (fun _ => (And.intro (fun _ => rfl) (fun q => absurd c2 q))))
    · rw [if_neg c2] at h
      by_cases c3 : (x1 < 0 ∨ 12 ≤ (x1).toNatClampNeg)
      · rw [if_pos c3] at h; cases h
      · rw [if_neg c3] at h
        have h := Option.some.inj h
        subst r
        exact ax_end 11 (And.intro (fun q => absurd q c1) (fun _ => (And.intro (fun q => absurd q c2) (fun _ => (And.intro c3 rfl)))))
def XFi_place_26 (x1 : Int32) (x2 : Int32) (x3 : Int32) (x4 : Int32) (x5 : Int32)  (s : ax_S) : Option (ax_S) :=
  if x1 < 0 then (
    some s) else
  if (12 : Int32) ≤ x1 then (
    some s) else
  if (x1 < 0 ∨ 12 ≤ (x1).toNatClampNeg) then none else
  if (x1 < 0 ∨ 12 ≤ (x1).toNatClampNeg) then none else
  if (x1 < 0 ∨ 12 ≤ (x1).toNatClampNeg) then none else
  if (x1 < 0 ∨ 12 ≤ (x1).toNatClampNeg) then none else
  some (ax_sI (ax_sI (ax_sI (ax_sI s 28 (x1).toNatClampNeg x2) 29 (x1).toNatClampNeg x3) 30 (x1).toNatClampNeg x4) 31 (x1).toNatClampNeg x5)
theorem e_XFi_place_26 (d : Nat) {x1 : Int32} {x2 : Int32} {x3 : Int32} {x4 : Int32} {x5 : Int32} {s : ax_S} {r : ax_S} (h : XFi_place_26 x1 x2 x3 x4 x5 s = some r) : ax_ev true (d + 1) 62 [.ref 26, .int x1, .int x2, .int x3, .int x4, .int x5] s (none, r) := by
  refine ⟨Nat.le_of_ble_eq_true rfl, ?_⟩
  show ax_go true none (ax_ev true (d + 0)) ax_m62 0 [some (.ref 26), some (.int x1), some (.int x2), some (.int x3), some (.int x4), some (.int x5)] [] s _
  unfold XFi_place_26 at h
  by_cases c1 : x1 < 0
  · rw [if_pos c1] at h
    have h := Option.some.inj h
    subst r
    exact ax_end 3 (And.intro (fun _ => rfl) (fun q => absurd c1 q))
  · rw [if_neg c1] at h
    by_cases c2 : (12 : Int32) ≤ x1
    · rw [if_pos c2] at h
      have h := Option.some.inj h
      subst r
      exact ax_end 6 (And.intro (fun q => absurd q c1) (fun _ => (And.intro (fun _ => rfl) (fun q => absurd c2 q))))
    · rw [if_neg c2] at h
      by_cases c3 : (x1 < 0 ∨ 12 ≤ (x1).toNatClampNeg)
      · rw [if_pos c3] at h; cases h
      · rw [if_neg c3] at h
        by_cases c4 : (x1 < 0 ∨ 12 ≤ (x1).toNatClampNeg)
        · rw [if_pos c4] at h; cases h
        · rw [if_neg c4] at h
          refine ax_cut (pc' := 25) (la := [some (.ref 26), some (.int x1), some (.int x2), some (.int x3), some (.int x4), some (.int x5)]) [some (.ref 26), some (.int x1), none, none, some (.int x4), some (.int x5)] (st' := [.ref 26]) (σ' := (ax_sI (ax_sI s 28 (x1).toNatClampNeg x2) 29 (x1).toNatClampNeg x3)) 16 (And.intro rfl (And.intro rfl (And.intro rfl (And.intro rfl (trivial))))) (fun _ hh => (And.intro (fun q => absurd q c1) (fun _ => (And.intro (fun q => absurd q c2) (fun _ => (And.intro c3 (And.intro c4 hh))))))) ?_
          by_cases c5 : (x1 < 0 ∨ 12 ≤ (x1).toNatClampNeg)
          · rw [if_pos c5] at h; cases h
          · rw [if_neg c5] at h
            by_cases c6 : (x1 < 0 ∨ 12 ≤ (x1).toNatClampNeg)
            · rw [if_pos c6] at h; cases h
            · rw [if_neg c6] at h
              have h := Option.some.inj h
              subst r
              exact ax_end 10 (And.intro c5 (And.intro c6 rfl))
def XPrRe_readLine (x1 : Int32)  (s : ax_S) : Option (ax_S) :=
  match XTa_peek s with
  | none => none
  | some v1 =>
    match XPrRe_readWithin (0 : Int32) (15 : Int32) (XTa_step s) with
    | none => none
    | some (v2, s3) =>
      match XTa_take (44 : Int32) s3 with
      | none => none
      | some (v4, s5) =>
        match XPrRe_readWithin (0 : Int32) (11 : Int32) s5 with
        | none => none
        | some (v6, s7) =>
          match XTa_take (58 : Int32) s7 with
          | none => none
          | some (v8, s9) =>
            match XPrRe_readWithin (1 : Int32) ((16 : Int32) - v2) s9 with
            | none => none
            | some (v10, s11) =>
              match XTa_take (120 : Int32) s11 with
              | none => none
              | some (v12, s13) =>
                match XPrRe_readWithin (1 : Int32) ((12 : Int32) - v6) s13 with
                | none => none
                | some (v14, s15) =>
                  if (XTa_isFaulty s15) = 0 then (
                    match XFi_tell_26 x1 (v1 - (97 : Int32)) s15 with
                    | none => none
                    | some s16 =>
                      match XFi_place_26 x1 v2 v6 v10 v14 s16 with
                      | none => none
                      | some s17 =>
                        some s17) else
                  some s15
theorem e_XPrRe_readLine (d : Nat) {x1 : Int32} {s : ax_S} {r : ax_S} (h : XPrRe_readLine x1 s = some r) : ax_ev true (d + 4) 59 [.ref 52, .int x1] s (none, r) := by
  refine ⟨Nat.le_of_ble_eq_true rfl, ?_⟩
  show ax_go true none (ax_ev true (d + 3)) ax_m59 0 [some (.ref 52), some (.int x1), none, none, none, none, none] [] s _
  unfold XPrRe_readLine at h
  cases hz1 : XTa_peek s with
  | none => rw [hz1] at h; cases h
  | some v1 =>
  rw [hz1] at h
  dsimp only at h
  cases hz2 : XPrRe_readWithin (0 : Int32) (15 : Int32) (XTa_step s) with
  | none => rw [hz2] at h; cases h
  | some z2 =>
  rw [hz2] at h
  obtain ⟨v2, s3⟩ := z2
  dsimp only at h
  refine ax_cut (pc' := 30) (la := [some (.ref 52), some (.int x1), some (.int (v1 - (97 : Int32))), some (.int v2), none, none, none]) [some (.ref 52), some (.int x1), some (.int (v1 - (97 : Int32))), some (.int v2), none, none, none] (st' := [.ref 1]) (σ' := s3) 16 (And.intro rfl (And.intro rfl (And.intro rfl (And.intro rfl (trivial))))) (fun _ hh => (Exists.intro (some (.int v1), s) (And.intro (e_XTa_peek (d + 2) hz1) (Exists.intro (none, (XTa_step s)) (And.intro (e_XTa_step (d + 2)  s) (Exists.intro (some (.int v2), s3) (And.intro (e_XPrRe_readWithin d hz2) hh))))))) ?_
  cases hz3 : XTa_take (44 : Int32) s3 with
  | none => rw [hz3] at h; cases h
  | some z3 =>
  rw [hz3] at h
  obtain ⟨v4, s5⟩ := z3
  dsimp only at h
  cases hz4 : XPrRe_readWithin (0 : Int32) (11 : Int32) s5 with
  | none => rw [hz4] at h; cases h
  | some z4 =>
  rw [hz4] at h
  obtain ⟨v6, s7⟩ := z4
  dsimp only at h
  cases hz5 : XTa_take (58 : Int32) s7 with
  | none => rw [hz5] at h; cases h
  | some z5 =>
  rw [hz5] at h
  obtain ⟨v8, s9⟩ := z5
  dsimp only at h
  refine ax_cut (pc' := 59) (la := [some (.ref 52), some (.int x1), some (.int (v1 - (97 : Int32))), some (.int v2), some (.int v6), none, none]) [some (.ref 52), some (.int x1), some (.int (v1 - (97 : Int32))), some (.int v2), some (.int v6), none, none] (st' := [.int (16 : Int32), .int (1 : Int32), .ref 52]) (σ' := s9) 16 (And.intro rfl (And.intro rfl (And.intro rfl (And.intro rfl (And.intro rfl (trivial)))))) (fun _ hh => (Exists.intro (some (.int v4), s5) (And.intro (e_XTa_take (d + 1) hz3) (Exists.intro (some (.int v6), s7) (And.intro (e_XPrRe_readWithin d hz4) (Exists.intro (some (.int v8), s9) (And.intro (e_XTa_take (d + 1) hz5) hh))))))) ?_
  cases hz6 : XPrRe_readWithin (1 : Int32) ((16 : Int32) - v2) s9 with
  | none => rw [hz6] at h; cases h
  | some z6 =>
  rw [hz6] at h
  obtain ⟨v10, s11⟩ := z6
  dsimp only at h
  cases hz7 : XTa_take (120 : Int32) s11 with
  | none => rw [hz7] at h; cases h
  | some z7 =>
  rw [hz7] at h
  obtain ⟨v12, s13⟩ := z7
  dsimp only at h
  cases hz8 : XPrRe_readWithin (1 : Int32) ((12 : Int32) - v6) s13 with
  | none => rw [hz8] at h; cases h
  | some z8 =>
  rw [hz8] at h
  obtain ⟨v14, s15⟩ := z8
  dsimp only at h
  refine ax_cut (pc' := 88) (la := [some (.ref 52), some (.int x1), some (.int (v1 - (97 : Int32))), some (.int v2), some (.int v6), some (.int v10), some (.int v14)]) [some (.ref 52), some (.int x1), some (.int (v1 - (97 : Int32))), some (.int v2), some (.int v6), some (.int v10), some (.int v14)] (st' := []) (σ' := s15) 16 (And.intro rfl (And.intro rfl (And.intro rfl (And.intro rfl (And.intro rfl (And.intro rfl (And.intro rfl (trivial)))))))) (fun _ hh => (Exists.intro (some (.int v10), s11) (And.intro (e_XPrRe_readWithin d hz6) (Exists.intro (some (.int v12), s13) (And.intro (e_XTa_take (d + 1) hz7) (Exists.intro (some (.int v14), s15) (And.intro (e_XPrRe_readWithin d hz8) hh))))))) ?_
  by_cases c9 : (XTa_isFaulty s15) = 0
  · rw [if_pos c9] at h
    cases hz10 : XFi_tell_26 x1 (v1 - (97 : Int32)) s15 with
    | none => rw [hz10] at h; cases h
    | some s16 =>
    rw [hz10] at h
    dsimp only at h
    refine ax_cut (pc' := 119) (la := [some (.ref 52), some (.int x1), some (.int (v1 - (97 : Int32))), some (.int v2), some (.int v6), some (.int v10), some (.int v14)]) [none, none, none, none, none, none, none] (st' := [.int v14, .int v10, .int v6, .int v2, .int x1, .ref 26]) (σ' := s16) 16 (trivial) (fun _ hh => (Exists.intro (some (.int (XTa_isFaulty s15)), s15) (And.intro (e_XTa_isFaulty (d + 2)  s15) (And.intro (fun q => absurd c9 q) (fun _ => (Exists.intro (none, s16) (And.intro (e_XFi_tell_26 (d + 2) hz10) hh))))))) ?_
    cases hz11 : XFi_place_26 x1 v2 v6 v10 v14 s16 with
    | none => rw [hz11] at h; cases h
    | some s17 =>
    rw [hz11] at h
    dsimp only at h
    have h := Option.some.inj h
    subst r
    exact ax_end 2 (Exists.intro (none, s17) (And.intro (e_XFi_place_26 (d + 2) hz11) rfl))
  · rw [if_neg c9] at h
    have h := Option.some.inj h
    subst r
    exact ax_end 5 (Exists.intro (some (.int (XTa_isFaulty s15)), s15) (And.intro (e_XTa_isFaulty (d + 2)  s15) (And.intro (fun _ => rfl) (fun q => absurd c9 q))))
def XLiRe_readLines_52_j29 (x2 : Int32) (y0 : Int32)  (s : ax_S) : Option (ax_S) :=
  if y0 = 0 then (
    some (XTa_refuse (1 : Int32) s)) else
  if x2 = (s.2.1 52 1) then (
    some (XTa_refuse (4 : Int32) s)) else
  match XPrRe_readLine x2 s with
  | none => none
  | some s2 =>
    some s2
def XLiRe_readLines_52_l10 : Nat → Int32 → ax_S → Option (Int32 × ax_S)
  | 0, _, _ => none
  | n + 1, x2, s =>
    if (s.2.1 52 1) < x2 then (
      some ((XTa_fault s), s)) else
    match XTa_peek s with
    | none => none
    | some v1 =>
      match XLiRe_readLines_52_j29 x2 (XPrRe_canBegin v1 s) s with
      | none => none
      | some s3 =>
        if (XTa_isFaulty s3) = 0 then (
          if (XTa_isAtEnd s3) = 0 then (
            match XTa_take (59 : Int32) s3 with
            | none => none
            | some (v4, s5) =>
              if v4 = 0 then (
                some ((XTa_fault s5), s5)) else
              XLiRe_readLines_52_l10 n (x2 + (1)) s5) else
          some ((x2 + (1 : Int32)), s3)) else
        some ((XTa_fault s3), s3)
def XLiRe_readLines_52 (x1 : Int32)  (s : ax_S) : Option (Int32 × ax_S) :=
  match XLiRe_readLines_52_l10 70000 (0 : Int32) (XTa_beginText x1 s) with
  | none => none
  | some r => some r
theorem w_XLiRe_readLines_52_j29 (d : Nat) {o : ax_O} (x2 : Int32) (y0 : Int32) (s : ax_S) (r : ax_S) (h : XLiRe_readLines_52_j29 x2 y0 s = some r) (hk0 : ∀ (t0 : ax_S), r = t0 → ax_go true none (ax_ev true (d + 4)) ax_m24 67 [some (.ref 52), none, some (.int x2)] [] t0 o) : ax_go true none (ax_ev true (d + 4)) ax_m24 29 [some (.ref 52), none, some (.int x2)] [.int y0] s o := by
  unfold XLiRe_readLines_52_j29 at h
  by_cases c1 : y0 = 0
  · rw [if_pos c1] at h
    have h := Option.some.inj h
    subst r
    exact ax_cut (pc' := 67) (la := [some (.ref 52), none, some (.int x2)]) [some (.ref 52), none, some (.int x2)] (st' := []) (σ' := (XTa_refuse (1 : Int32) s)) 6 (And.intro rfl (And.intro rfl (trivial))) (fun _ hh => (And.intro (fun q => absurd c1 q) (fun _ => (Exists.intro (none, (XTa_refuse (1 : Int32) s)) (And.intro (e_XTa_refuse (d + 2) (1 : Int32) s) hh))))) (hk0 _ rfl)
  · rw [if_neg c1] at h
    by_cases c2 : x2 = (s.2.1 52 1)
    · rw [if_pos c2] at h
      have h := Option.some.inj h
      subst r
      exact ax_cut (pc' := 67) (la := [some (.ref 52), none, some (.int x2)]) [some (.ref 52), none, some (.int x2)] (st' := []) (σ' := (XTa_refuse (4 : Int32) s)) 10 (And.intro rfl (And.intro rfl (trivial))) (fun _ hh => (And.intro (fun _ => (And.intro (fun q => absurd c2 q) (fun _ => (Exists.intro (none, (XTa_refuse (4 : Int32) s)) (And.intro (e_XTa_refuse (d + 2) (4 : Int32) s) hh))))) (fun q => absurd c1 q))) (hk0 _ rfl)
    · rw [if_neg c2] at h
      cases hz3 : XPrRe_readLine x2 s with
      | none => rw [hz3] at h; cases h
      | some s2 =>
      rw [hz3] at h
      dsimp only at h
      have h := Option.some.inj h
      subst r
      exact ax_cut (pc' := 67) (la := [some (.ref 52), none, some (.int x2)]) [some (.ref 52), none, some (.int x2)] (st' := []) (σ' := s2) 8 (And.intro rfl (And.intro rfl (trivial))) (fun _ hh => (And.intro (fun _ => (And.intro (fun _ => (Exists.intro (none, s2) (And.intro (e_XPrRe_readLine d hz3) hh))) (fun q => absurd c2 q))) (fun q => absurd c1 q))) (hk0 _ rfl)
theorem w_XLiRe_readLines_52_l10 (d : Nat) {o : ax_O} : ∀ (n : Nat) (x2 : Int32) (s : ax_S) (r : Int32 × ax_S) (h : XLiRe_readLines_52_l10 n x2 s = some r) (hkr : ∀ q, r = q → o = (some (.int q.1), q.2)), ax_go true none (ax_ev true (d + 4)) ax_m24 10 [some (.ref 52), none, some (.int x2)] [] s o := by
  intro n
  induction n with
  | zero => intro x2 s r h hkr; cases h
  | succ n ih =>
    intro x2 s r h hkr
    rw [XLiRe_readLines_52_l10] at h
    by_cases c1 : (s.2.1 52 1) < x2
    · rw [if_pos c1] at h
      have h := Option.some.inj h
      subst r
      exact ax_end 8 (And.intro (fun _ => (Exists.intro (some (.int (XTa_fault s)), s) (And.intro (e_XTa_fault (d + 3)  s) (hkr _ rfl)))) (fun q => absurd c1 q))
    · rw [if_neg c1] at h
      cases hz2 : XTa_peek s with
      | none => rw [hz2] at h; cases h
      | some v1 =>
      rw [hz2] at h
      dsimp only at h
      cases hz3 : XLiRe_readLines_52_j29 x2 (XPrRe_canBegin v1 s) s with
      | none => rw [hz3] at h; cases h
      | some z3 =>
      rw [hz3] at h
      refine ax_cut (pc' := 29) (la := [some (.ref 52), none, some (.int x2)]) [some (.ref 52), none, some (.int x2)] (st' := [.int (XPrRe_canBegin v1 s)]) (σ' := s) 9 (And.intro rfl (And.intro rfl (trivial))) (fun _ hh => (And.intro (fun q => absurd q c1) (fun _ => (Exists.intro (some (.int v1), s) (And.intro (e_XTa_peek (d + 3) hz2) (Exists.intro (some (.int (XPrRe_canBegin v1 s)), s) (And.intro (e_XPrRe_canBegin (d + 2) v1 s) hh))))))) (w_XLiRe_readLines_52_j29 d x2 (XPrRe_canBegin v1 s) s _ hz3 ?_)
      · intro s3 hq
        subst z3
        dsimp only at h
        by_cases c4 : (XTa_isFaulty s3) = 0
        · rw [if_pos c4] at h
          by_cases c5 : (XTa_isAtEnd s3) = 0
          · rw [if_pos c5] at h
            cases hz6 : XTa_take (59 : Int32) s3 with
            | none => rw [hz6] at h; cases h
            | some z6 =>
            rw [hz6] at h
            obtain ⟨v4, s5⟩ := z6
            dsimp only at h
            by_cases c7 : v4 = 0
            · rw [if_pos c7] at h
              refine ax_cut (pc' := 118) (la := [some (.ref 52), none, some (.int x2)]) [none, none, none] (st' := [.int (XTa_fault s5)]) (σ' := s5) 16 (trivial) (fun _ hh => (Exists.intro (some (.int (XTa_isFaulty s3)), s3) (And.intro (e_XTa_isFaulty (d + 3)  s3) (And.intro (fun _ => (Exists.intro (some (.int (XTa_isAtEnd s3)), s3) (And.intro (e_XTa_isAtEnd (d + 3)  s3) (And.intro (fun _ => (Exists.intro (some (.int v4), s5) (And.intro (e_XTa_take (d + 2) hz6) (And.intro (fun q => absurd c7 q) (fun _ => (Exists.intro (some (.int (XTa_fault s5)), s5) (And.intro (e_XTa_fault (d + 3)  s5) hh))))))) (fun q => absurd c5 q))))) (fun q => absurd c4 q))))) ?_
              have h := Option.some.inj h
              subst r
              exact ax_end 1 (hkr _ rfl)
            · rw [if_neg c7] at h
              exact ax_cut (pc' := 10) (la := [some (.ref 52), none, some (.int (x2 + (1)))]) [some (.ref 52), none, some (.int (x2 + (1)))] (st' := []) (σ' := s5) 15 (And.intro rfl (And.intro rfl (trivial))) (fun _ hh => (Exists.intro (some (.int (XTa_isFaulty s3)), s3) (And.intro (e_XTa_isFaulty (d + 3)  s3) (And.intro (fun _ => (Exists.intro (some (.int (XTa_isAtEnd s3)), s3) (And.intro (e_XTa_isAtEnd (d + 3)  s3) (And.intro (fun _ => (Exists.intro (some (.int v4), s5) (And.intro (e_XTa_take (d + 2) hz6) (And.intro (fun _ => hh) (fun q => absurd c7 q))))) (fun q => absurd c5 q))))) (fun q => absurd c4 q))))) (ih (x2 + (1)) s5 _ h hkr)
          · rw [if_neg c5] at h
            have h := Option.some.inj h
            subst r
            exact ax_end 12 (Exists.intro (some (.int (XTa_isFaulty s3)), s3) (And.intro (e_XTa_isFaulty (d + 3)  s3) (And.intro (fun _ => (Exists.intro (some (.int (XTa_isAtEnd s3)), s3) (And.intro (e_XTa_isAtEnd (d + 3)  s3) (And.intro (fun q => absurd q c5) (fun _ => (hkr _ rfl)))))) (fun q => absurd c4 q))))
        · rw [if_neg c4] at h
          have h := Option.some.inj h
          subst r
          exact ax_end 8 (Exists.intro (some (.int (XTa_isFaulty s3)), s3) (And.intro (e_XTa_isFaulty (d + 3)  s3) (And.intro (fun q => absurd q c4) (fun _ => (Exists.intro (some (.int (XTa_fault s3)), s3) (And.intro (e_XTa_fault (d + 3)  s3) (hkr _ rfl)))))))
theorem e_XLiRe_readLines_52 (d : Nat) {x1 : Int32} {s : ax_S} {r : Int32 × ax_S} (h : XLiRe_readLines_52 x1 s = some r) : ax_ev true (d + 5) 24 [.ref 52, .int x1] s (some (.int r.1), r.2) := by
  refine ⟨Nat.le_of_ble_eq_true rfl, ?_⟩
  show ax_go true none (ax_ev true (d + 4)) ax_m24 0 [some (.ref 52), some (.int x1), none] [] s _
  unfold XLiRe_readLines_52 at h
  cases hz1 : XLiRe_readLines_52_l10 70000 (0 : Int32) (XTa_beginText x1 s) with
  | none => rw [hz1] at h; cases h
  | some z1 =>
  rw [hz1] at h
  refine ax_cut (pc' := 10) (la := [some (.ref 52), some (.int x1), some (.int (0 : Int32))]) [some (.ref 52), none, some (.int (0 : Int32))] (st' := []) (σ' := (XTa_beginText x1 s)) 6 (And.intro rfl (And.intro rfl (trivial))) (fun _ hh => (Exists.intro (none, (XTa_beginText x1 s)) (And.intro (e_XTa_beginText (d + 3) x1 s) hh))) (w_XLiRe_readLines_52_l10 d 70000 (0 : Int32) (XTa_beginText x1 s) _ hz1 ?_)
  · intro q hq
    subst z1
    dsimp only at h
    cases h
    rfl
def XFi_copyFrom_4_26  (s : ax_S) : ax_S :=
  (ax_sA (ax_sA (ax_sA (ax_sA (ax_sA s 5 (va_cpy (s.2.1 27) (s.2.1 5) 0 0 12)) 6 (va_cpy (s.2.1 28) (s.2.1 6) 0 0 12)) 7 (va_cpy (s.2.1 29) (s.2.1 7) 0 0 12)) 8 (va_cpy (s.2.1 30) (s.2.1 8) 0 0 12)) 9 (va_cpy (s.2.1 31) (s.2.1 9) 0 0 12))
theorem e_XFi_copyFrom_4_26 (d : Nat)  (s : ax_S) : ax_ev true (d + 1) 69 [.ref 4, .ref 26] s (none, (XFi_copyFrom_4_26 s)) := by
  refine ⟨Nat.le_of_ble_eq_true rfl, ?_⟩
  generalize h : XFi_copyFrom_4_26 s = r
  show ax_go true none (ax_ev true (d + 0)) ax_m69 0 [some (.ref 4), some (.ref 26)] [] s _
  unfold XFi_copyFrom_4_26 at h
  refine ax_cut (pc' := 30) (la := [some (.ref 4), some (.ref 26)]) [some (.ref 4), some (.ref 26)] (st' := []) (σ' := (ax_sA (ax_sA s 5 (va_cpy (s.2.1 27) (s.2.1 5) 0 0 12)) 6 (va_cpy (s.2.1 28) (s.2.1 6) 0 0 12))) 16 (And.intro rfl (And.intro rfl (trivial))) (fun _ hh => (And.intro (show ¬ (0 : Int32) < 0 by decide) (And.intro (show ¬ (0 : Int32) < 0 by decide) (And.intro (show ¬ (12 : Int32) < 0 by decide) (And.intro (by decide) (And.intro (by decide) (And.intro (show ¬ (0 : Int32) < 0 by decide) (And.intro (show ¬ (0 : Int32) < 0 by decide) (And.intro (show ¬ (12 : Int32) < 0 by decide) (And.intro (by decide) (And.intro (by decide) hh))))))))))) ?_
  refine ax_cut (pc' := 60) (la := [some (.ref 4), some (.ref 26)]) [some (.ref 4), some (.ref 26)] (st' := []) (σ' := (ax_sA (ax_sA (ax_sA (ax_sA s 5 (va_cpy (s.2.1 27) (s.2.1 5) 0 0 12)) 6 (va_cpy (s.2.1 28) (s.2.1 6) 0 0 12)) 7 (va_cpy (s.2.1 29) (s.2.1 7) 0 0 12)) 8 (va_cpy (s.2.1 30) (s.2.1 8) 0 0 12))) 16 (And.intro rfl (And.intro rfl (trivial))) (fun _ hh => (And.intro (show ¬ (0 : Int32) < 0 by decide) (And.intro (show ¬ (0 : Int32) < 0 by decide) (And.intro (show ¬ (12 : Int32) < 0 by decide) (And.intro (by decide) (And.intro (by decide) (And.intro (show ¬ (0 : Int32) < 0 by decide) (And.intro (show ¬ (0 : Int32) < 0 by decide) (And.intro (show ¬ (12 : Int32) < 0 by decide) (And.intro (by decide) (And.intro (by decide) hh))))))))))) ?_
  have h := h
  subst r
  exact ax_end 9 (And.intro (show ¬ (0 : Int32) < 0 by decide) (And.intro (show ¬ (0 : Int32) < 0 by decide) (And.intro (show ¬ (12 : Int32) < 0 by decide) (And.intro (by decide) (And.intro (by decide) rfl)))))
def X_print (x1 : Int32)  (s : ax_S) : Option (Int32 × ax_S) :=
  if (X_isWithin x1 (1 : Int32) (160 : Int32) s) = 0 then (
    some ((-1 : Int32), s)) else
  if (XTa_holds x1 s) = 0 then (
    some ((-1 : Int32), s)) else
  match XFi_clear_26 s with
  | none => none
  | some s1 =>
    match XLiRe_readLines_52 x1 s1 with
    | none => none
    | some (v2, s3) =>
      if v2 ≤ 0 then (
        some (v2, (XTa_clear s3))) else
      some (v2, (XFi_copyFrom_4_26 (XTa_clear s3)))
theorem e_X_print (d : Nat) {x1 : Int32} {s : ax_S} {r : Int32 × ax_S} (h : X_print x1 s = some r) : ax_ev true (d + 6) 67 [.ref 0, .int x1] s (some (.int r.1), r.2) := by
  refine ⟨Nat.le_of_ble_eq_true rfl, ?_⟩
  show ax_go true none (ax_ev true (d + 5)) ax_m67 0 [some (.ref 0), some (.int x1), none] [] s _
  unfold X_print at h
  by_cases c1 : (X_isWithin x1 (1 : Int32) (160 : Int32) s) = 0
  · rw [if_pos c1] at h
    have h := Option.some.inj h
    subst r
    exact ax_end 7 (Exists.intro (some (.int (X_isWithin x1 (1 : Int32) (160 : Int32) s)), s) (And.intro (e_X_isWithin (d + 4) x1 (1 : Int32) (160 : Int32) s) (And.intro (fun _ => rfl) (fun q => absurd c1 q))))
  · rw [if_neg c1] at h
    by_cases c2 : (XTa_holds x1 s) = 0
    · rw [if_pos c2] at h
      have h := Option.some.inj h
      subst r
      exact ax_end 12 (Exists.intro (some (.int (X_isWithin x1 (1 : Int32) (160 : Int32) s)), s) (And.intro (e_X_isWithin (d + 4) x1 (1 : Int32) (160 : Int32) s) (And.intro (fun q => absurd q c1) (fun _ => (Exists.intro (some (.int (XTa_holds x1 s)), s) (And.intro (e_XTa_holds (d + 4) x1 s) (And.intro (fun q => absurd c2 q) (fun _ => rfl))))))))
    · rw [if_neg c2] at h
      cases hz3 : XFi_clear_26 s with
      | none => rw [hz3] at h; cases h
      | some s1 =>
      rw [hz3] at h
      dsimp only at h
      refine ax_cut (pc' := 38) (la := [some (.ref 0), some (.int x1), none]) [some (.ref 0), some (.int x1), none] (st' := [.ref 52]) (σ' := s1) 16 (And.intro rfl (And.intro rfl (trivial))) (fun _ hh => (Exists.intro (some (.int (X_isWithin x1 (1 : Int32) (160 : Int32) s)), s) (And.intro (e_X_isWithin (d + 4) x1 (1 : Int32) (160 : Int32) s) (And.intro (fun q => absurd q c1) (fun _ => (Exists.intro (some (.int (XTa_holds x1 s)), s) (And.intro (e_XTa_holds (d + 4) x1 s) (And.intro (fun _ => (Exists.intro (none, s1) (And.intro (e_XFi_clear_26 (d + 3) hz3) hh))) (fun q => absurd c2 q))))))))) ?_
      cases hz4 : XLiRe_readLines_52 x1 s1 with
      | none => rw [hz4] at h; cases h
      | some z4 =>
      rw [hz4] at h
      obtain ⟨v2, s3⟩ := z4
      dsimp only at h
      by_cases c5 : v2 ≤ 0
      · rw [if_pos c5] at h
        have h := Option.some.inj h
        subst r
        exact ax_end 10 (Exists.intro (some (.int v2), s3) (And.intro (e_XLiRe_readLines_52 d hz4) (Exists.intro (none, (XTa_clear s3)) (And.intro (e_XTa_clear (d + 4)  s3) (And.intro (fun _ => rfl) (fun q => absurd c5 q))))))
      · rw [if_neg c5] at h
        refine ax_cut (pc' := 72) (la := [some (.ref 0), some (.int x1), some (.int v2)]) [none, none, none] (st' := [.int v2]) (σ' := (XFi_copyFrom_4_26 (XTa_clear s3))) 16 (trivial) (fun _ hh => (Exists.intro (some (.int v2), s3) (And.intro (e_XLiRe_readLines_52 d hz4) (Exists.intro (none, (XTa_clear s3)) (And.intro (e_XTa_clear (d + 4)  s3) (And.intro (fun q => absurd q c5) (fun _ => (Exists.intro (none, (XFi_copyFrom_4_26 (XTa_clear s3))) (And.intro (e_XFi_copyFrom_4_26 (d + 4)  (XTa_clear s3)) hh))))))))) ?_
        have h := Option.some.inj h
        subst r
        exact ax_end 1 rfl
def M_copies_64_65_l2 : Nat → Int32 → ax_S → Option (ax_S)
  | 0, _, _ => none
  | n + 1, x2, s =>
    if (291 : Int32) ≤ x2 then (
      some s) else
    if (x2 < 0 ∨ 291 ≤ (x2).toNatClampNeg) then none else
    if (x2 < 0 ∨ 291 ≤ (x2).toNatClampNeg) then none else
    M_copies_64_65_l2 n (x2 + (1)) (ax_sI s 65 (x2).toNatClampNeg (s.2.1 64 (x2).toNatClampNeg))
def M_copies_64_65  (s : ax_S) : Option (ax_S) :=
  match M_copies_64_65_l2 70000 (0 : Int32) s with
  | none => none
  | some s1 =>
    some s1
theorem w_M_copies_64_65_l2 (d : Nat) {o : ax_O} : ∀ (n : Nat) (x2 : Int32) (s : ax_S) (r : ax_S) (h : M_copies_64_65_l2 n x2 s = some r) (hk0 : ∀ (t0 : ax_S), r = t0 → ax_go true none (ax_ev true (d + 0)) ax_m206 21 [none, none, none] [] t0 o), ax_go true none (ax_ev true (d + 0)) ax_m206 2 [some (.ref 64), some (.ref 65), some (.int x2)] [] s o := by
  intro n
  induction n with
  | zero => intro x2 s r h hk0; cases h
  | succ n ih =>
    intro x2 s r h hk0
    rw [M_copies_64_65_l2] at h
    by_cases c1 : (291 : Int32) ≤ x2
    · rw [if_pos c1] at h
      have h := Option.some.inj h
      subst r
      exact ax_cut (pc' := 21) (la := [some (.ref 64), some (.ref 65), some (.int x2)]) [none, none, none] (st' := []) (σ' := s) 3 (trivial) (fun _ hh => (And.intro (fun _ => hh) (fun q => absurd c1 q))) (hk0 _ rfl)
    · rw [if_neg c1] at h
      by_cases c2 : (x2 < 0 ∨ 291 ≤ (x2).toNatClampNeg)
      · rw [if_pos c2] at h; cases h
      · rw [if_neg c2] at h
        by_cases c3 : (x2 < 0 ∨ 291 ≤ (x2).toNatClampNeg)
        · rw [if_pos c3] at h; cases h
        · rw [if_neg c3] at h
          exact ax_cut (pc' := 2) (la := [some (.ref 64), some (.ref 65), some (.int (x2 + (1)))]) [some (.ref 64), some (.ref 65), some (.int (x2 + (1)))] (st' := []) (σ' := (ax_sI s 65 (x2).toNatClampNeg (s.2.1 64 (x2).toNatClampNeg))) 11 (And.intro rfl (And.intro rfl (And.intro rfl (trivial)))) (fun _ hh => (And.intro (fun q => absurd q c1) (fun _ => (And.intro c2 (And.intro c3 hh))))) (ih (x2 + (1)) (ax_sI s 65 (x2).toNatClampNeg (s.2.1 64 (x2).toNatClampNeg)) _ h hk0)
theorem e_M_copies_64_65 (d : Nat)  {s : ax_S} {r : ax_S} (h : M_copies_64_65 s = some r) : ax_ev true (d + 1) 206 [.ref 64, .ref 65] s (none, r) := by
  refine ⟨Nat.le_of_ble_eq_true rfl, ?_⟩
  show ax_go true none (ax_ev true (d + 0)) ax_m206 0 [some (.ref 64), some (.ref 65), none] [] s _
  unfold M_copies_64_65 at h
  cases hz1 : M_copies_64_65_l2 70000 (0 : Int32) s with
  | none => rw [hz1] at h; cases h
  | some z1 =>
  rw [hz1] at h
  refine ax_cut (pc' := 2) (la := [some (.ref 64), some (.ref 65), some (.int (0 : Int32))]) [some (.ref 64), some (.ref 65), some (.int (0 : Int32))] (st' := []) (σ' := s) 2 (And.intro rfl (And.intro rfl (And.intro rfl (trivial)))) (fun _ hh => hh) (w_M_copies_64_65_l2 d 70000 (0 : Int32) s _ hz1 ?_)
  · intro s1 hq
    subst z1
    dsimp only at h
    have h := Option.some.inj h
    subst r
    exact ax_end 1 rfl
def M_readsAmount_l27 : Nat → Int32 → ax_S → Option (Int32 × ax_S)
  | 0, _, _ => none
  | n + 1, x1, s =>
    match M_isDigit s with
    | none => none
    | some v2 =>
      if v2 = 0 then (
        some ((1 : Int32), s)) else
      if (s.2.1 63 6) = (x1 + (2 : Int32)) then (
        some ((M_wrongAt (2 : Int32) (s.2.1 63 6) s).1, (M_wrongAt (2 : Int32) (s.2.1 63 6) s).2)) else
      match M_here s with
      | none => none
      | some v3 =>
        M_readsAmount_l27 n x1 (ax_sI (ax_sI s 63 9 ((((10 : Int32) * (s.2.1 63 9)) + v3) - (48 : Int32))) 63 6 ((s.2.1 63 6) + (1 : Int32)))
def M_readsAmount  (s : ax_S) : Option (Int32 × ax_S) :=
  match M_isDigit s with
  | none => none
  | some v1 =>
    if v1 = 0 then (
      some ((M_wrongAt (1 : Int32) (s.2.1 63 6) s).1, (M_wrongAt (1 : Int32) (s.2.1 63 6) s).2)) else
    match M_readsAmount_l27 70000 (s.2.1 63 6) (ax_sI s 63 9 (0 : Int32)) with
    | none => none
    | some r => some r
theorem w_M_readsAmount_l27 (d : Nat) {o : ax_O} : ∀ (n : Nat) (x1 : Int32) (s : ax_S) (r : Int32 × ax_S) (h : M_readsAmount_l27 n x1 s = some r) (hkr : ∀ q, r = q → o = (some (.int q.1), q.2)), ax_go true none (ax_ev true (d + 2)) ax_m209 27 [some (.ref 63), some (.int x1)] [] s o := by
  intro n
  induction n with
  | zero => intro x1 s r h hkr; cases h
  | succ n ih =>
    intro x1 s r h hkr
    rw [M_readsAmount_l27] at h
    cases hz1 : M_isDigit s with
    | none => rw [hz1] at h; cases h
    | some v2 =>
    rw [hz1] at h
    dsimp only at h
    by_cases c2 : v2 = 0
    · rw [if_pos c2] at h
      have h := Option.some.inj h
      subst r
      exact ax_end 5 (Exists.intro (some (.int v2), s) (And.intro (e_M_isDigit d hz1) (And.intro (fun _ => (And.intro (Or.inr rfl) (hkr _ rfl))) (fun q => absurd c2 q))))
    · rw [if_neg c2] at h
      by_cases c3 : (s.2.1 63 6) = (x1 + (2 : Int32))
      · rw [if_pos c3] at h
        have h := Option.some.inj h
        subst r
        exact ax_end 15 (Exists.intro (some (.int v2), s) (And.intro (e_M_isDigit d hz1) (And.intro (fun q => absurd q c2) (fun _ => (And.intro (fun q => absurd c3 q) (fun _ => (Exists.intro (some (.int (M_wrongAt (2 : Int32) (s.2.1 63 6) s).1), (M_wrongAt (2 : Int32) (s.2.1 63 6) s).2) (And.intro (e_M_wrongAt (d + 1) (2 : Int32) (s.2.1 63 6) s) (And.intro (ax_ev_bool rfl (e_M_wrongAt (d + 1) (2 : Int32) (s.2.1 63 6) s)) (hkr _ rfl))))))))))
      · rw [if_neg c3] at h
        cases hz4 : M_here s with
        | none => rw [hz4] at h; cases h
        | some v3 =>
        rw [hz4] at h
        dsimp only at h
        refine ax_cut (pc' := 66) (la := [some (.ref 63), some (.int x1)]) [some (.ref 63), some (.int x1)] (st' := [.int v3, .int ((10 : Int32) * (s.2.1 63 9)), .ref 63]) (σ' := s) 16 (And.intro rfl (And.intro rfl (trivial))) (fun _ hh => (Exists.intro (some (.int v2), s) (And.intro (e_M_isDigit d hz1) (And.intro (fun q => absurd q c2) (fun _ => (And.intro (fun _ => (Exists.intro (some (.int v3), s) (And.intro (e_M_here (d + 1) hz4) hh))) (fun q => absurd c3 q))))))) ?_
        exact ax_cut (pc' := 27) (la := [some (.ref 63), some (.int x1)]) [some (.ref 63), some (.int x1)] (st' := []) (σ' := (ax_sI (ax_sI s 63 9 ((((10 : Int32) * (s.2.1 63 9)) + v3) - (48 : Int32))) 63 6 ((s.2.1 63 6) + (1 : Int32)))) 11 (And.intro rfl (And.intro rfl (trivial))) (fun _ hh => hh) (ih x1 (ax_sI (ax_sI s 63 9 ((((10 : Int32) * (s.2.1 63 9)) + v3) - (48 : Int32))) 63 6 ((s.2.1 63 6) + (1 : Int32))) _ h hkr)
theorem e_M_readsAmount (d : Nat)  {s : ax_S} {r : Int32 × ax_S} (h : M_readsAmount s = some r) : ax_ev true (d + 3) 209 [.ref 63] s (some (.int r.1), r.2) := by
  refine ⟨Nat.le_of_ble_eq_true rfl, ?_⟩
  show ax_go true none (ax_ev true (d + 2)) ax_m209 0 [some (.ref 63), none] [] s _
  unfold M_readsAmount at h
  cases hz1 : M_isDigit s with
  | none => rw [hz1] at h; cases h
  | some v1 =>
  rw [hz1] at h
  dsimp only at h
  by_cases c2 : v1 = 0
  · rw [if_pos c2] at h
    have h := Option.some.inj h
    subst r
    exact ax_end 12 (Exists.intro (some (.int v1), s) (And.intro (e_M_isDigit d hz1) (And.intro (fun q => absurd c2 q) (fun _ => (Exists.intro (some (.int (M_wrongAt (1 : Int32) (s.2.1 63 6) s).1), (M_wrongAt (1 : Int32) (s.2.1 63 6) s).2) (And.intro (e_M_wrongAt (d + 1) (1 : Int32) (s.2.1 63 6) s) (And.intro (ax_ev_bool rfl (e_M_wrongAt (d + 1) (1 : Int32) (s.2.1 63 6) s)) rfl)))))))
  · rw [if_neg c2] at h
    cases hz3 : M_readsAmount_l27 70000 (s.2.1 63 6) (ax_sI s 63 9 (0 : Int32)) with
    | none => rw [hz3] at h; cases h
    | some z3 =>
    rw [hz3] at h
    refine ax_cut (pc' := 27) (la := [some (.ref 63), some (.int (s.2.1 63 6))]) [some (.ref 63), some (.int (s.2.1 63 6))] (st' := []) (σ' := (ax_sI s 63 9 (0 : Int32))) 9 (And.intro rfl (And.intro rfl (trivial))) (fun _ hh => (Exists.intro (some (.int v1), s) (And.intro (e_M_isDigit d hz1) (And.intro (fun _ => hh) (fun q => absurd c2 q))))) (w_M_readsAmount_l27 d 70000 (s.2.1 63 6) (ax_sI s 63 9 (0 : Int32)) _ hz3 ?_)
    · intro q hq
      subst z3
      dsimp only at h
      cases h
      rfl
def M_readsWithin (x1 : Int32) (x2 : Int32) (x3 : Int32)  (s : ax_S) : Option (Int32 × ax_S) :=
  match M_readsAmount s with
  | none => none
  | some (v1, s2) =>
    if v1 = 0 then (
      some ((0 : Int32), s2)) else
    if (M_in (s2.2.1 63 9) x1 x2 s2) = 0 then (
      some ((M_wrongAt (3 : Int32) (s.2.1 63 6) s2).1, (M_wrongAt (3 : Int32) (s.2.1 63 6) s2).2)) else
    if x3 = (-1 : Int32) then (
      some ((1 : Int32), s2)) else
    match M_takes x3 s2 with
    | none => none
    | some (v3, s4) =>
      if v3 = 0 then (
        some ((0 : Int32), s4)) else
      some ((1 : Int32), s4)
theorem e_M_readsWithin (d : Nat) {x1 : Int32} {x2 : Int32} {x3 : Int32} {s : ax_S} {r : Int32 × ax_S} (h : M_readsWithin x1 x2 x3 s = some r) : ax_ev true (d + 4) 208 [.ref 63, .int x1, .int x2, .int x3] s (some (.int r.1), r.2) := by
  refine ⟨Nat.le_of_ble_eq_true rfl, ?_⟩
  show ax_go true none (ax_ev true (d + 3)) ax_m208 0 [some (.ref 63), some (.int x1), some (.int x2), some (.int x3), none] [] s _
  unfold M_readsWithin at h
  cases hz1 : M_readsAmount s with
  | none => rw [hz1] at h; cases h
  | some z1 =>
  rw [hz1] at h
  obtain ⟨v1, s2⟩ := z1
  dsimp only at h
  by_cases c2 : v1 = 0
  · rw [if_pos c2] at h
    have h := Option.some.inj h
    subst r
    exact ax_end 8 (Exists.intro (some (.int v1), s2) (And.intro (e_M_readsAmount d hz1) (And.intro (fun q => absurd c2 q) (fun _ => (And.intro (Or.inl rfl) rfl)))))
  · rw [if_neg c2] at h
    by_cases c3 : (M_in (s2.2.1 63 9) x1 x2 s2) = 0
    · rw [if_pos c3] at h
      refine ax_cut (pc' := 34) (la := [some (.ref 63), some (.int x1), some (.int x2), some (.int x3), some (.int (s.2.1 63 6))]) [none, none, none, none, none] (st' := [.int (M_wrongAt (3 : Int32) (s.2.1 63 6) s2).1]) (σ' := (M_wrongAt (3 : Int32) (s.2.1 63 6) s2).2) 16 (trivial) (fun _ hh => (Exists.intro (some (.int v1), s2) (And.intro (e_M_readsAmount d hz1) (And.intro (fun _ => (Exists.intro (some (.int (M_in (s2.2.1 63 9) x1 x2 s2)), s2) (And.intro (e_M_in (d + 2) (s2.2.1 63 9) x1 x2 s2) (And.intro (fun q => absurd c3 q) (fun _ => (Exists.intro (some (.int (M_wrongAt (3 : Int32) (s.2.1 63 6) s2).1), (M_wrongAt (3 : Int32) (s.2.1 63 6) s2).2) (And.intro (e_M_wrongAt (d + 2) (3 : Int32) (s.2.1 63 6) s2) hh))))))) (fun q => absurd c2 q))))) ?_
      have h := Option.some.inj h
      subst r
      exact ax_end 1 (And.intro (ax_ev_bool rfl (e_M_wrongAt (d + 2) (3 : Int32) (s.2.1 63 6) s2)) rfl)
    · rw [if_neg c3] at h
      by_cases c4 : x3 = (-1 : Int32)
      · rw [if_pos c4] at h
        refine ax_cut (pc' := 49) (la := [some (.ref 63), some (.int x1), some (.int x2), some (.int x3), some (.int (s.2.1 63 6))]) [none, none, none, none, none] (st' := [.int (1 : Int32)]) (σ' := s2) 16 (trivial) (fun _ hh => (Exists.intro (some (.int v1), s2) (And.intro (e_M_readsAmount d hz1) (And.intro (fun _ => (Exists.intro (some (.int (M_in (s2.2.1 63 9) x1 x2 s2)), s2) (And.intro (e_M_in (d + 2) (s2.2.1 63 9) x1 x2 s2) (And.intro (fun _ => (And.intro (fun _ => hh) (fun q => absurd c4 q))) (fun q => absurd c3 q))))) (fun q => absurd c2 q))))) ?_
        have h := Option.some.inj h
        subst r
        exact ax_end 2 (And.intro (Or.inr rfl) rfl)
      · rw [if_neg c4] at h
        refine ax_cut (pc' := 41) (la := [some (.ref 63), some (.int x1), some (.int x2), some (.int x3), some (.int (s.2.1 63 6))]) [none, none, none, some (.int x3), none] (st' := [.ref 63]) (σ' := s2) 16 (And.intro rfl (trivial)) (fun _ hh => (Exists.intro (some (.int v1), s2) (And.intro (e_M_readsAmount d hz1) (And.intro (fun _ => (Exists.intro (some (.int (M_in (s2.2.1 63 9) x1 x2 s2)), s2) (And.intro (e_M_in (d + 2) (s2.2.1 63 9) x1 x2 s2) (And.intro (fun _ => (And.intro (fun q => absurd q c4) (fun _ => hh))) (fun q => absurd c3 q))))) (fun q => absurd c2 q))))) ?_
        cases hz5 : M_takes x3 s2 with
        | none => rw [hz5] at h; cases h
        | some z5 =>
        rw [hz5] at h
        obtain ⟨v3, s4⟩ := z5
        dsimp only at h
        by_cases c6 : v3 = 0
        · rw [if_pos c6] at h
          have h := Option.some.inj h
          subst r
          exact ax_end 5 (Exists.intro (some (.int v3), s4) (And.intro (e_M_takes (d + 1) hz5) (And.intro (fun _ => (And.intro (Or.inl rfl) rfl)) (fun q => absurd c6 q))))
        · rw [if_neg c6] at h
          have h := Option.some.inj h
          subst r
          exact ax_end 6 (Exists.intro (some (.int v3), s4) (And.intro (e_M_takes (d + 1) hz5) (And.intro (fun q => absurd q c6) (fun _ => (And.intro (Or.inr rfl) rfl)))))
def M_readsFigure  (s : ax_S) : Option (Int32 × ax_S) :=
  match M_here s with
  | none => none
  | some v1 =>
    if (M_isPerson (v1 - (97 : Int32)) s) = 0 then (
      some ((M_wrongAt (1 : Int32) (s.2.1 63 6) s).1, (M_wrongAt (1 : Int32) (s.2.1 63 6) s).2)) else
    if (s.2.1 63 28) = (12 : Int32) then (
      some ((M_wrongAt (4 : Int32) (s.2.1 63 6) s).1, (M_wrongAt (4 : Int32) (s.2.1 63 6) s).2)) else
    match M_readsWithin (0 : Int32) (15 : Int32) (44 : Int32) (ax_sI s 63 6 ((s.2.1 63 6) + (1 : Int32))) with
    | none => none
    | some (v2, s3) =>
      if v2 = 0 then (
        some ((0 : Int32), s3)) else
      match M_readsWithin (0 : Int32) (11 : Int32) (58 : Int32) s3 with
      | none => none
      | some (v4, s5) =>
        if v4 = 0 then (
          some ((0 : Int32), s5)) else
        match M_readsWithin (1 : Int32) ((16 : Int32) - (s3.2.1 63 9)) (120 : Int32) s5 with
        | none => none
        | some (v6, s7) =>
          if v6 = 0 then (
            some ((0 : Int32), s7)) else
          match M_readsWithin (1 : Int32) ((12 : Int32) - (s5.2.1 63 9)) (-1 : Int32) s7 with
          | none => none
          | some (v8, s9) =>
            if v8 = 0 then (
              some ((0 : Int32), s9)) else
            if (((0 : Int32) + (s9.2.1 63 28)) < 0 ∨ 291 ≤ (((0 : Int32) + (s9.2.1 63 28))).toNatClampNeg) then none else
            if (((12 : Int32) + (s9.2.1 63 28)) < 0 ∨ 291 ≤ (((12 : Int32) + (s9.2.1 63 28))).toNatClampNeg) then none else
            if (((24 : Int32) + (s9.2.1 63 28)) < 0 ∨ 291 ≤ (((24 : Int32) + (s9.2.1 63 28))).toNatClampNeg) then none else
            if (((36 : Int32) + (s9.2.1 63 28)) < 0 ∨ 291 ≤ (((36 : Int32) + (s9.2.1 63 28))).toNatClampNeg) then none else
            if (((48 : Int32) + (s9.2.1 63 28)) < 0 ∨ 291 ≤ (((48 : Int32) + (s9.2.1 63 28))).toNatClampNeg) then none else
            some ((1 : Int32), (ax_sI (ax_sI (ax_sI (ax_sI (ax_sI (ax_sI s9 64 (((0 : Int32) + (s9.2.1 63 28))).toNatClampNeg (v1 - (97 : Int32))) 64 (((12 : Int32) + (s9.2.1 63 28))).toNatClampNeg (s3.2.1 63 9)) 64 (((24 : Int32) + (s9.2.1 63 28))).toNatClampNeg (s5.2.1 63 9)) 64 (((36 : Int32) + (s9.2.1 63 28))).toNatClampNeg (s7.2.1 63 9)) 64 (((48 : Int32) + (s9.2.1 63 28))).toNatClampNeg (s9.2.1 63 9)) 63 28 ((s9.2.1 63 28) + (1 : Int32))))
theorem e_M_readsFigure (d : Nat)  {s : ax_S} {r : Int32 × ax_S} (h : M_readsFigure s = some r) : ax_ev true (d + 5) 207 [.ref 63] s (some (.int r.1), r.2) := by
  refine ⟨Nat.le_of_ble_eq_true rfl, ?_⟩
  show ax_go true none (ax_ev true (d + 4)) ax_m207 0 [some (.ref 63), none, none, none, none] [] s _
  unfold M_readsFigure at h
  cases hz1 : M_here s with
  | none => rw [hz1] at h; cases h
  | some v1 =>
  rw [hz1] at h
  dsimp only at h
  by_cases c2 : (M_isPerson (v1 - (97 : Int32)) s) = 0
  · rw [if_pos c2] at h
    have h := Option.some.inj h
    subst r
    exact ax_end 14 (Exists.intro (some (.int v1), s) (And.intro (e_M_here (d + 3) hz1) (Exists.intro (some (.int (M_isPerson (v1 - (97 : Int32)) s)), s) (And.intro (e_M_isPerson (d + 2) (v1 - (97 : Int32)) s) (And.intro (fun q => absurd c2 q) (fun _ => (Exists.intro (some (.int (M_wrongAt (1 : Int32) (s.2.1 63 6) s).1), (M_wrongAt (1 : Int32) (s.2.1 63 6) s).2) (And.intro (e_M_wrongAt (d + 3) (1 : Int32) (s.2.1 63 6) s) (And.intro (ax_ev_bool rfl (e_M_wrongAt (d + 3) (1 : Int32) (s.2.1 63 6) s)) rfl)))))))))
  · rw [if_neg c2] at h
    by_cases c3 : (s.2.1 63 28) = (12 : Int32)
    · rw [if_pos c3] at h
      refine ax_cut (pc' := 40) (la := [some (.ref 63), some (.int (v1 - (97 : Int32))), none, none, none]) [none, none, none, none, none] (st' := [.int (s.2.1 63 6), .int (4 : Int32), .ref 63]) (σ' := s) 16 (trivial) (fun _ hh => (Exists.intro (some (.int v1), s) (And.intro (e_M_here (d + 3) hz1) (Exists.intro (some (.int (M_isPerson (v1 - (97 : Int32)) s)), s) (And.intro (e_M_isPerson (d + 2) (v1 - (97 : Int32)) s) (And.intro (fun _ => (And.intro (fun q => absurd c3 q) (fun _ => hh))) (fun q => absurd c2 q))))))) ?_
      have h := Option.some.inj h
      subst r
      exact ax_end 2 (Exists.intro (some (.int (M_wrongAt (4 : Int32) (s.2.1 63 6) s).1), (M_wrongAt (4 : Int32) (s.2.1 63 6) s).2) (And.intro (e_M_wrongAt (d + 3) (4 : Int32) (s.2.1 63 6) s) (And.intro (ax_ev_bool rfl (e_M_wrongAt (d + 3) (4 : Int32) (s.2.1 63 6) s)) rfl)))
    · rw [if_neg c3] at h
      refine ax_cut (pc' := 50) (la := [some (.ref 63), some (.int (v1 - (97 : Int32))), none, none, none]) [some (.ref 63), some (.int (v1 - (97 : Int32))), none, none, none] (st' := [.int (1 : Int32), .int (s.2.1 63 6), .ref 63]) (σ' := s) 16 (And.intro rfl (And.intro rfl (trivial))) (fun _ hh => (Exists.intro (some (.int v1), s) (And.intro (e_M_here (d + 3) hz1) (Exists.intro (some (.int (M_isPerson (v1 - (97 : Int32)) s)), s) (And.intro (e_M_isPerson (d + 2) (v1 - (97 : Int32)) s) (And.intro (fun _ => (And.intro (fun _ => hh) (fun q => absurd c3 q))) (fun q => absurd c2 q))))))) ?_
      cases hz4 : M_readsWithin (0 : Int32) (15 : Int32) (44 : Int32) (ax_sI s 63 6 ((s.2.1 63 6) + (1 : Int32))) with
      | none => rw [hz4] at h; cases h
      | some z4 =>
      rw [hz4] at h
      obtain ⟨v2, s3⟩ := z4
      dsimp only at h
      by_cases c5 : v2 = 0
      · rw [if_pos c5] at h
        have h := Option.some.inj h
        subst r
        exact ax_end 10 (Exists.intro (some (.int v2), s3) (And.intro (e_M_readsWithin d hz4) (And.intro (fun q => absurd c5 q) (fun _ => (And.intro (Or.inl rfl) rfl)))))
      · rw [if_neg c5] at h
        cases hz6 : M_readsWithin (0 : Int32) (11 : Int32) (58 : Int32) s3 with
        | none => rw [hz6] at h; cases h
        | some z6 =>
        rw [hz6] at h
        obtain ⟨v4, s5⟩ := z6
        dsimp only at h
        refine ax_cut (pc' := 82) (la := [some (.ref 63), some (.int (v1 - (97 : Int32))), some (.int (s3.2.1 63 9)), none, none]) [some (.ref 63), some (.int (v1 - (97 : Int32))), some (.int (s3.2.1 63 9)), none, none] (st' := [.int v4]) (σ' := s5) 16 (And.intro rfl (And.intro rfl (And.intro rfl (trivial)))) (fun _ hh => (Exists.intro (some (.int v2), s3) (And.intro (e_M_readsWithin d hz4) (And.intro (fun _ => (Exists.intro (some (.int v4), s5) (And.intro (e_M_readsWithin d hz6) hh))) (fun q => absurd c5 q))))) ?_
        by_cases c7 : v4 = 0
        · rw [if_pos c7] at h
          have h := Option.some.inj h
          subst r
          exact ax_end 3 (And.intro (fun q => absurd c7 q) (fun _ => (And.intro (Or.inl rfl) rfl)))
        · rw [if_neg c7] at h
          cases hz8 : M_readsWithin (1 : Int32) ((16 : Int32) - (s3.2.1 63 9)) (120 : Int32) s5 with
          | none => rw [hz8] at h; cases h
          | some z8 =>
          rw [hz8] at h
          obtain ⟨v6, s7⟩ := z8
          dsimp only at h
          by_cases c9 : v6 = 0
          · rw [if_pos c9] at h
            have h := Option.some.inj h
            subst r
            exact ax_end 14 (And.intro (fun _ => (Exists.intro (some (.int v6), s7) (And.intro (e_M_readsWithin d hz8) (And.intro (fun q => absurd c9 q) (fun _ => (And.intro (Or.inl rfl) rfl)))))) (fun q => absurd c7 q))
          · rw [if_neg c9] at h
            refine ax_cut (pc' := 115) (la := [some (.ref 63), some (.int (v1 - (97 : Int32))), some (.int (s3.2.1 63 9)), some (.int (s5.2.1 63 9)), some (.int (s7.2.1 63 9))]) [some (.ref 63), some (.int (v1 - (97 : Int32))), some (.int (s3.2.1 63 9)), some (.int (s5.2.1 63 9)), some (.int (s7.2.1 63 9))] (st' := [.ref 63]) (σ' := s7) 16 (And.intro rfl (And.intro rfl (And.intro rfl (And.intro rfl (And.intro rfl (trivial)))))) (fun _ hh => (And.intro (fun _ => (Exists.intro (some (.int v6), s7) (And.intro (e_M_readsWithin d hz8) (And.intro (fun _ => hh) (fun q => absurd c9 q))))) (fun q => absurd c7 q))) ?_
            cases hz10 : M_readsWithin (1 : Int32) ((12 : Int32) - (s5.2.1 63 9)) (-1 : Int32) s7 with
            | none => rw [hz10] at h; cases h
            | some z10 =>
            rw [hz10] at h
            obtain ⟨v8, s9⟩ := z10
            dsimp only at h
            by_cases c11 : v8 = 0
            · rw [if_pos c11] at h
              have h := Option.some.inj h
              subst r
              exact ax_end 9 (Exists.intro (some (.int v8), s9) (And.intro (e_M_readsWithin d hz10) (And.intro (fun q => absurd c11 q) (fun _ => (And.intro (Or.inl rfl) rfl)))))
            · rw [if_neg c11] at h
              by_cases c12 : (((0 : Int32) + (s9.2.1 63 28)) < 0 ∨ 291 ≤ (((0 : Int32) + (s9.2.1 63 28))).toNatClampNeg)
              · rw [if_pos c12] at h; cases h
              · rw [if_neg c12] at h
                refine ax_cut (pc' := 142) (la := [some (.ref 63), some (.int (v1 - (97 : Int32))), some (.int (s3.2.1 63 9)), some (.int (s5.2.1 63 9)), some (.int (s7.2.1 63 9))]) [some (.ref 63), none, some (.int (s3.2.1 63 9)), some (.int (s5.2.1 63 9)), some (.int (s7.2.1 63 9))] (st' := [.ref 63]) (σ' := (ax_sI s9 64 (((0 : Int32) + (s9.2.1 63 28))).toNatClampNeg (v1 - (97 : Int32)))) 16 (And.intro rfl (And.intro rfl (And.intro rfl (And.intro rfl (trivial))))) (fun _ hh => (Exists.intro (some (.int v8), s9) (And.intro (e_M_readsWithin d hz10) (And.intro (fun _ => (And.intro c12 hh)) (fun q => absurd c11 q))))) ?_
                by_cases c13 : (((12 : Int32) + (s9.2.1 63 28)) < 0 ∨ 291 ≤ (((12 : Int32) + (s9.2.1 63 28))).toNatClampNeg)
                · rw [if_pos c13] at h; cases h
                · rw [if_neg c13] at h
                  by_cases c14 : (((24 : Int32) + (s9.2.1 63 28)) < 0 ∨ 291 ≤ (((24 : Int32) + (s9.2.1 63 28))).toNatClampNeg)
                  · rw [if_pos c14] at h; cases h
                  · rw [if_neg c14] at h
                    refine ax_cut (pc' := 168) (la := [some (.ref 63), none, some (.int (s3.2.1 63 9)), some (.int (s5.2.1 63 9)), some (.int (s7.2.1 63 9))]) [some (.ref 63), none, none, none, some (.int (s7.2.1 63 9))] (st' := [.ref 63]) (σ' := (ax_sI (ax_sI (ax_sI s9 64 (((0 : Int32) + (s9.2.1 63 28))).toNatClampNeg (v1 - (97 : Int32))) 64 (((12 : Int32) + (s9.2.1 63 28))).toNatClampNeg (s3.2.1 63 9)) 64 (((24 : Int32) + (s9.2.1 63 28))).toNatClampNeg (s5.2.1 63 9))) 16 (And.intro rfl (And.intro rfl (trivial))) (fun _ hh => (And.intro c13 (And.intro c14 hh))) ?_
                    by_cases c15 : (((36 : Int32) + (s9.2.1 63 28)) < 0 ∨ 291 ≤ (((36 : Int32) + (s9.2.1 63 28))).toNatClampNeg)
                    · rw [if_pos c15] at h; cases h
                    · rw [if_neg c15] at h
                      by_cases c16 : (((48 : Int32) + (s9.2.1 63 28)) < 0 ∨ 291 ≤ (((48 : Int32) + (s9.2.1 63 28))).toNatClampNeg)
                      · rw [if_pos c16] at h; cases h
                      · rw [if_neg c16] at h
                        refine ax_cut (pc' := 197) (la := [some (.ref 63), none, none, none, some (.int (s7.2.1 63 9))]) [some (.ref 63), none, none, none, none] (st' := []) (σ' := (ax_sI (ax_sI (ax_sI (ax_sI (ax_sI s9 64 (((0 : Int32) + (s9.2.1 63 28))).toNatClampNeg (v1 - (97 : Int32))) 64 (((12 : Int32) + (s9.2.1 63 28))).toNatClampNeg (s3.2.1 63 9)) 64 (((24 : Int32) + (s9.2.1 63 28))).toNatClampNeg (s5.2.1 63 9)) 64 (((36 : Int32) + (s9.2.1 63 28))).toNatClampNeg (s7.2.1 63 9)) 64 (((48 : Int32) + (s9.2.1 63 28))).toNatClampNeg (s9.2.1 63 9))) 16 (And.intro rfl (trivial)) (fun _ hh => (And.intro c15 (And.intro c16 hh))) ?_
                        have h := Option.some.inj h
                        subst r
                        exact ax_end 8 (And.intro (Or.inr rfl) rfl)
def M_copies_65_64_l2 : Nat → Int32 → ax_S → Option (ax_S)
  | 0, _, _ => none
  | n + 1, x2, s =>
    if (291 : Int32) ≤ x2 then (
      some s) else
    if (x2 < 0 ∨ 291 ≤ (x2).toNatClampNeg) then none else
    if (x2 < 0 ∨ 291 ≤ (x2).toNatClampNeg) then none else
    M_copies_65_64_l2 n (x2 + (1)) (ax_sI s 64 (x2).toNatClampNeg (s.2.1 65 (x2).toNatClampNeg))
def M_copies_65_64  (s : ax_S) : Option (ax_S) :=
  match M_copies_65_64_l2 70000 (0 : Int32) s with
  | none => none
  | some s1 =>
    some s1
theorem w_M_copies_65_64_l2 (d : Nat) {o : ax_O} : ∀ (n : Nat) (x2 : Int32) (s : ax_S) (r : ax_S) (h : M_copies_65_64_l2 n x2 s = some r) (hk0 : ∀ (t0 : ax_S), r = t0 → ax_go true none (ax_ev true (d + 0)) ax_m206 21 [none, none, none] [] t0 o), ax_go true none (ax_ev true (d + 0)) ax_m206 2 [some (.ref 65), some (.ref 64), some (.int x2)] [] s o := by
  intro n
  induction n with
  | zero => intro x2 s r h hk0; cases h
  | succ n ih =>
    intro x2 s r h hk0
    rw [M_copies_65_64_l2] at h
    by_cases c1 : (291 : Int32) ≤ x2
    · rw [if_pos c1] at h
      have h := Option.some.inj h
      subst r
      exact ax_cut (pc' := 21) (la := [some (.ref 65), some (.ref 64), some (.int x2)]) [none, none, none] (st' := []) (σ' := s) 3 (trivial) (fun _ hh => (And.intro (fun _ => hh) (fun q => absurd c1 q))) (hk0 _ rfl)
    · rw [if_neg c1] at h
      by_cases c2 : (x2 < 0 ∨ 291 ≤ (x2).toNatClampNeg)
      · rw [if_pos c2] at h; cases h
      · rw [if_neg c2] at h
        by_cases c3 : (x2 < 0 ∨ 291 ≤ (x2).toNatClampNeg)
        · rw [if_pos c3] at h; cases h
        · rw [if_neg c3] at h
          exact ax_cut (pc' := 2) (la := [some (.ref 65), some (.ref 64), some (.int (x2 + (1)))]) [some (.ref 65), some (.ref 64), some (.int (x2 + (1)))] (st' := []) (σ' := (ax_sI s 64 (x2).toNatClampNeg (s.2.1 65 (x2).toNatClampNeg))) 11 (And.intro rfl (And.intro rfl (And.intro rfl (trivial)))) (fun _ hh => (And.intro (fun q => absurd q c1) (fun _ => (And.intro c2 (And.intro c3 hh))))) (ih (x2 + (1)) (ax_sI s 64 (x2).toNatClampNeg (s.2.1 65 (x2).toNatClampNeg)) _ h hk0)
theorem e_M_copies_65_64 (d : Nat)  {s : ax_S} {r : ax_S} (h : M_copies_65_64 s = some r) : ax_ev true (d + 1) 206 [.ref 65, .ref 64] s (none, r) := by
  refine ⟨Nat.le_of_ble_eq_true rfl, ?_⟩
  show ax_go true none (ax_ev true (d + 0)) ax_m206 0 [some (.ref 65), some (.ref 64), none] [] s _
  unfold M_copies_65_64 at h
  cases hz1 : M_copies_65_64_l2 70000 (0 : Int32) s with
  | none => rw [hz1] at h; cases h
  | some z1 =>
  rw [hz1] at h
  refine ax_cut (pc' := 2) (la := [some (.ref 65), some (.ref 64), some (.int (0 : Int32))]) [some (.ref 65), some (.ref 64), some (.int (0 : Int32))] (st' := []) (σ' := s) 2 (And.intro rfl (And.intro rfl (And.intro rfl (trivial)))) (fun _ hh => hh) (w_M_copies_65_64_l2 d 70000 (0 : Int32) s _ hz1 ?_)
  · intro s1 hq
    subst z1
    dsimp only at h
    have h := Option.some.inj h
    subst r
    exact ax_end 1 rfl
def M_print_l44 : Nat → Int32 → ax_S → Option (ax_S)
  | 0, _, _ => none
  | n + 1, x2, s =>
    if (12 : Int32) ≤ x2 then (
      some s) else
    if (((0 : Int32) + x2) < 0 ∨ 291 ≤ (((0 : Int32) + x2)).toNatClampNeg) then none else
    M_print_l44 n (x2 + (1)) (ax_sI s 64 (((0 : Int32) + x2)).toNatClampNeg (-1 : Int32))
def M_print_l70 : Nat → Int32 → ax_S → Option (Int32 × ax_S)
  | 0, _, _ => none
  | n + 1, x2, s =>
    if x2 = 0 then (
      some (x2, s)) else
    if (s.2.1 63 7) ≤ (s.2.1 63 6) then (
      some (x2, s)) else
    match M_takes (59 : Int32) s with
    | none => none
    | some (v5, s6) =>
      if v5 = 0 then (
        M_print_l70 n (0 : Int32) s6) else
      match M_readsFigure s6 with
      | none => none
      | some (v7, s8) =>
        if v7 = 0 then (
          M_print_l70 n (0 : Int32) s8) else
        M_print_l70 n (1 : Int32) s8
def M_print (x1 : Int32)  (s : ax_S) : Option (Int32 × ax_S) :=
  if (M_in x1 (1 : Int32) (160 : Int32) s) = 0 then (
    some ((-1 : Int32), s)) else
  if x1 ≤ (s.2.1 63 5) then (
    match M_copies_64_65 (ax_sI (M_beginsText x1 s) 63 28 (0 : Int32)) with
    | none => none
    | some s1 =>
      match M_print_l44 70000 (0 : Int32) s1 with
      | none => none
      | some s2 =>
        match M_readsFigure s2 with
        | none => none
        | some (v3, s4) =>
          match M_print_l70 70000 v3 s4 with
          | none => none
          | some (v9, s10) =>
            if v9 = 0 then (
              match M_copies_65_64 (ax_sI s10 63 5 (0 : Int32)) with
              | none => none
              | some s11 =>
                some ((s11.2.1 63 8), s11)) else
            some ((s10.2.1 63 28), (ax_sI s10 63 5 (0 : Int32)))) else
  some ((-1 : Int32), s)
theorem w_M_print_l44 (d : Nat) {o : ax_O} : ∀ (n : Nat) (x2 : Int32) (s : ax_S) (r : ax_S) (h : M_print_l44 n x2 s = some r) (hk0 : ∀ (t0 : ax_S), r = t0 → ax_go true none (ax_ev true (d + 5)) ax_m205 65 [some (.ref 63), none, none] [] t0 o), ax_go true none (ax_ev true (d + 5)) ax_m205 44 [some (.ref 63), none, some (.int x2)] [] s o := by
  intro n
  induction n with
  | zero => intro x2 s r h hk0; cases h
  | succ n ih =>
    intro x2 s r h hk0
    rw [M_print_l44] at h
    by_cases c1 : (12 : Int32) ≤ x2
    · rw [if_pos c1] at h
      have h := Option.some.inj h
      subst r
      exact ax_cut (pc' := 65) (la := [some (.ref 63), none, some (.int x2)]) [some (.ref 63), none, none] (st' := []) (σ' := s) 3 (And.intro rfl (trivial)) (fun _ hh => (And.intro (fun _ => hh) (fun q => absurd c1 q))) (hk0 _ rfl)
    · rw [if_neg c1] at h
      by_cases c2 : (((0 : Int32) + x2) < 0 ∨ 291 ≤ (((0 : Int32) + x2)).toNatClampNeg)
      · rw [if_pos c2] at h; cases h
      · rw [if_neg c2] at h
        exact ax_cut (pc' := 44) (la := [some (.ref 63), none, some (.int (x2 + (1)))]) [some (.ref 63), none, some (.int (x2 + (1)))] (st' := []) (σ' := (ax_sI s 64 (((0 : Int32) + x2)).toNatClampNeg (-1 : Int32))) 12 (And.intro rfl (And.intro rfl (trivial))) (fun _ hh => (And.intro (fun q => absurd q c1) (fun _ => (And.intro c2 hh)))) (ih (x2 + (1)) (ax_sI s 64 (((0 : Int32) + x2)).toNatClampNeg (-1 : Int32)) _ h hk0)
theorem w_M_print_l70 (d : Nat) {o : ax_O} : ∀ (n : Nat) (x2 : Int32) (s : ax_S) (r : Int32 × ax_S) (h : M_print_l70 n x2 s = some r) (hk0 : ∀ (t0 : Int32) (t1 : ax_S), r = (t0, t1) → ax_go true none (ax_ev true (d + 5)) ax_m205 110 [some (.ref 63), none, some (.int t0)] [] t1 o), ax_go true none (ax_ev true (d + 5)) ax_m205 70 [some (.ref 63), none, some (.int x2)] [] s o := by
  intro n
  induction n with
  | zero => intro x2 s r h hk0; cases h
  | succ n ih =>
    intro x2 s r h hk0
    rw [M_print_l70] at h
    by_cases c1 : x2 = 0
    · rw [if_pos c1] at h
      have h := Option.some.inj h
      subst r
      exact ax_cut (pc' := 110) (la := [some (.ref 63), none, some (.int x2)]) [some (.ref 63), none, some (.int x2)] (st' := []) (σ' := s) 2 (And.intro rfl (And.intro rfl (trivial))) (fun _ hh => (And.intro (fun _ => hh) (fun q => absurd c1 q))) (hk0 _ _ rfl)
    · rw [if_neg c1] at h
      by_cases c2 : (s.2.1 63 7) ≤ (s.2.1 63 6)
      · rw [if_pos c2] at h
        have h := Option.some.inj h
        subst r
        exact ax_cut (pc' := 110) (la := [some (.ref 63), none, some (.int x2)]) [some (.ref 63), none, some (.int x2)] (st' := []) (σ' := s) 7 (And.intro rfl (And.intro rfl (trivial))) (fun _ hh => (And.intro (fun q => absurd q c1) (fun _ => (And.intro (fun _ => hh) (fun q => absurd c2 q))))) (hk0 _ _ rfl)
      · rw [if_neg c2] at h
        cases hz3 : M_takes (59 : Int32) s with
        | none => rw [hz3] at h; cases h
        | some z3 =>
        rw [hz3] at h
        obtain ⟨v5, s6⟩ := z3
        dsimp only at h
        by_cases c4 : v5 = 0
        · rw [if_pos c4] at h
          exact ax_cut (pc' := 70) (la := [some (.ref 63), none, some (.int (0 : Int32))]) [some (.ref 63), none, some (.int (0 : Int32))] (st' := []) (σ' := s6) 14 (And.intro rfl (And.intro rfl (trivial))) (fun _ hh => (And.intro (fun q => absurd q c1) (fun _ => (And.intro (fun q => absurd q c2) (fun _ => (Exists.intro (some (.int v5), s6) (And.intro (e_M_takes (d + 3) hz3) (And.intro (fun _ => hh) (fun q => absurd c4 q))))))))) (ih (0 : Int32) s6 _ h hk0)
        · rw [if_neg c4] at h
          cases hz5 : M_readsFigure s6 with
          | none => rw [hz5] at h; cases h
          | some z5 =>
          rw [hz5] at h
          obtain ⟨v7, s8⟩ := z5
          dsimp only at h
          by_cases c6 : v7 = 0
          · rw [if_pos c6] at h
            refine ax_cut (pc' := 107) (la := [some (.ref 63), none, some (.int (0 : Int32))]) [some (.ref 63), none, some (.int (0 : Int32))] (st' := []) (σ' := s8) 16 (And.intro rfl (And.intro rfl (trivial))) (fun _ hh => (And.intro (fun q => absurd q c1) (fun _ => (And.intro (fun q => absurd q c2) (fun _ => (Exists.intro (some (.int v5), s6) (And.intro (e_M_takes (d + 3) hz3) (And.intro (fun q => absurd q c4) (fun _ => (Exists.intro (some (.int v7), s8) (And.intro (e_M_readsFigure d hz5) (And.intro (fun _ => hh) (fun q => absurd c6 q))))))))))))) ?_
            exact ax_cut (pc' := 70) (la := [some (.ref 63), none, some (.int (0 : Int32))]) [some (.ref 63), none, some (.int (0 : Int32))] (st' := []) (σ' := s8) 1 (And.intro rfl (And.intro rfl (trivial))) (fun _ hh => hh) (ih (0 : Int32) s8 _ h hk0)
          · rw [if_neg c6] at h
            refine ax_cut (pc' := 106) (la := [some (.ref 63), none, some (.int x2)]) [some (.ref 63), none, none] (st' := [.int (1 : Int32)]) (σ' := s8) 16 (And.intro rfl (trivial)) (fun _ hh => (And.intro (fun q => absurd q c1) (fun _ => (And.intro (fun q => absurd q c2) (fun _ => (Exists.intro (some (.int v5), s6) (And.intro (e_M_takes (d + 3) hz3) (And.intro (fun q => absurd q c4) (fun _ => (Exists.intro (some (.int v7), s8) (And.intro (e_M_readsFigure d hz5) (And.intro (fun q => absurd q c6) (fun _ => hh))))))))))))) ?_
            exact ax_cut (pc' := 70) (la := [some (.ref 63), none, some (.int (1 : Int32))]) [some (.ref 63), none, some (.int (1 : Int32))] (st' := []) (σ' := s8) 2 (And.intro rfl (And.intro rfl (trivial))) (fun _ hh => hh) (ih (1 : Int32) s8 _ h hk0)
theorem e_M_print (d : Nat) {x1 : Int32} {s : ax_S} {r : Int32 × ax_S} (h : M_print x1 s = some r) : ax_ev true (d + 6) 205 [.ref 63, .int x1] s (some (.int r.1), r.2) := by
  refine ⟨Nat.le_of_ble_eq_true rfl, ?_⟩
  show ax_go true none (ax_ev true (d + 5)) ax_m205 0 [some (.ref 63), some (.int x1), none] [] s _
  unfold M_print at h
  by_cases c1 : (M_in x1 (1 : Int32) (160 : Int32) s) = 0
  · rw [if_pos c1] at h
    have h := Option.some.inj h
    subst r
    exact ax_end 7 (Exists.intro (some (.int (M_in x1 (1 : Int32) (160 : Int32) s)), s) (And.intro (e_M_in (d + 4) x1 (1 : Int32) (160 : Int32) s) (And.intro (fun _ => rfl) (fun q => absurd c1 q))))
  · rw [if_neg c1] at h
    by_cases c2 : x1 ≤ (s.2.1 63 5)
    · rw [if_pos c2] at h
      refine ax_cut (pc' := 32) (la := [some (.ref 63), some (.int x1), none]) [some (.ref 63), none, none] (st' := [.ref 63]) (σ' := (ax_sI (M_beginsText x1 s) 63 28 (0 : Int32))) 16 (And.intro rfl (trivial)) (fun _ hh => (Exists.intro (some (.int (M_in x1 (1 : Int32) (160 : Int32) s)), s) (And.intro (e_M_in (d + 4) x1 (1 : Int32) (160 : Int32) s) (And.intro (fun q => absurd q c1) (fun _ => (And.intro (fun _ => (Exists.intro (none, (M_beginsText x1 s)) (And.intro (e_M_beginsText (d + 4) x1 s) hh))) (fun q => absurd c2 q))))))) ?_
      cases hz3 : M_copies_64_65 (ax_sI (M_beginsText x1 s) 63 28 (0 : Int32)) with
      | none => rw [hz3] at h; cases h
      | some s1 =>
      rw [hz3] at h
      dsimp only at h
      cases hz4 : M_print_l44 70000 (0 : Int32) s1 with
      | none => rw [hz4] at h; cases h
      | some z4 =>
      rw [hz4] at h
      refine ax_cut (pc' := 44) (la := [some (.ref 63), none, some (.int (0 : Int32))]) [some (.ref 63), none, some (.int (0 : Int32))] (st' := []) (σ' := s1) 6 (And.intro rfl (And.intro rfl (trivial))) (fun _ hh => (Exists.intro (none, s1) (And.intro (e_M_copies_64_65 (d + 4) hz3) hh))) (w_M_print_l44 d 70000 (0 : Int32) s1 _ hz4 ?_)
      · intro s2 hq
        subst z4
        dsimp only at h
        cases hz5 : M_readsFigure s2 with
        | none => rw [hz5] at h; cases h
        | some z5 =>
        rw [hz5] at h
        obtain ⟨v3, s4⟩ := z5
        dsimp only at h
        cases hz6 : M_print_l70 70000 v3 s4 with
        | none => rw [hz6] at h; cases h
        | some z6 =>
        rw [hz6] at h
        refine ax_cut (pc' := 70) (la := [some (.ref 63), none, some (.int v3)]) [some (.ref 63), none, some (.int v3)] (st' := []) (σ' := s4) 3 (And.intro rfl (And.intro rfl (trivial))) (fun _ hh => (Exists.intro (some (.int v3), s4) (And.intro (e_M_readsFigure d hz5) hh))) (w_M_print_l70 d 70000 v3 s4 _ hz6 ?_)
        · intro v9 s10 hq
          subst z6
          dsimp only at h
          by_cases c7 : v9 = 0
          · rw [if_pos c7] at h
            cases hz8 : M_copies_65_64 (ax_sI s10 63 5 (0 : Int32)) with
            | none => rw [hz8] at h; cases h
            | some s11 =>
            rw [hz8] at h
            dsimp only at h
            have h := Option.some.inj h
            subst r
            exact ax_end 13 (And.intro (fun _ => (Exists.intro (none, s11) (And.intro (e_M_copies_65_64 (d + 4) hz8) rfl))) (fun q => absurd c7 q))
          · rw [if_neg c7] at h
            have h := Option.some.inj h
            subst r
            exact ax_end 8 (And.intro (fun q => absurd q c7) (fun _ => rfl))
    · rw [if_neg c2] at h
      have h := Option.some.inj h
      subst r
      exact ax_end 11 (Exists.intro (some (.int (M_in x1 (1 : Int32) (160 : Int32) s)), s) (And.intro (e_M_in (d + 4) x1 (1 : Int32) (160 : Int32) s) (And.intro (fun q => absurd q c1) (fun _ => (And.intro (fun q => absurd q c2) (fun _ => rfl))))))
def XFi_copyFrom_26_4  (s : ax_S) : ax_S :=
  (ax_sA (ax_sA (ax_sA (ax_sA (ax_sA s 27 (va_cpy (s.2.1 5) (s.2.1 27) 0 0 12)) 28 (va_cpy (s.2.1 6) (s.2.1 28) 0 0 12)) 29 (va_cpy (s.2.1 7) (s.2.1 29) 0 0 12)) 30 (va_cpy (s.2.1 8) (s.2.1 30) 0 0 12)) 31 (va_cpy (s.2.1 9) (s.2.1 31) 0 0 12))
theorem e_XFi_copyFrom_26_4 (d : Nat)  (s : ax_S) : ax_ev true (d + 1) 69 [.ref 26, .ref 4] s (none, (XFi_copyFrom_26_4 s)) := by
  refine ⟨Nat.le_of_ble_eq_true rfl, ?_⟩
  generalize h : XFi_copyFrom_26_4 s = r
  show ax_go true none (ax_ev true (d + 0)) ax_m69 0 [some (.ref 26), some (.ref 4)] [] s _
  unfold XFi_copyFrom_26_4 at h
  refine ax_cut (pc' := 30) (la := [some (.ref 26), some (.ref 4)]) [some (.ref 26), some (.ref 4)] (st' := []) (σ' := (ax_sA (ax_sA s 27 (va_cpy (s.2.1 5) (s.2.1 27) 0 0 12)) 28 (va_cpy (s.2.1 6) (s.2.1 28) 0 0 12))) 16 (And.intro rfl (And.intro rfl (trivial))) (fun _ hh => (And.intro (show ¬ (0 : Int32) < 0 by decide) (And.intro (show ¬ (0 : Int32) < 0 by decide) (And.intro (show ¬ (12 : Int32) < 0 by decide) (And.intro (by decide) (And.intro (by decide) (And.intro (show ¬ (0 : Int32) < 0 by decide) (And.intro (show ¬ (0 : Int32) < 0 by decide) (And.intro (show ¬ (12 : Int32) < 0 by decide) (And.intro (by decide) (And.intro (by decide) hh))))))))))) ?_
  refine ax_cut (pc' := 60) (la := [some (.ref 26), some (.ref 4)]) [some (.ref 26), some (.ref 4)] (st' := []) (σ' := (ax_sA (ax_sA (ax_sA (ax_sA s 27 (va_cpy (s.2.1 5) (s.2.1 27) 0 0 12)) 28 (va_cpy (s.2.1 6) (s.2.1 28) 0 0 12)) 29 (va_cpy (s.2.1 7) (s.2.1 29) 0 0 12)) 30 (va_cpy (s.2.1 8) (s.2.1 30) 0 0 12))) 16 (And.intro rfl (And.intro rfl (trivial))) (fun _ hh => (And.intro (show ¬ (0 : Int32) < 0 by decide) (And.intro (show ¬ (0 : Int32) < 0 by decide) (And.intro (show ¬ (12 : Int32) < 0 by decide) (And.intro (by decide) (And.intro (by decide) (And.intro (show ¬ (0 : Int32) < 0 by decide) (And.intro (show ¬ (0 : Int32) < 0 by decide) (And.intro (show ¬ (12 : Int32) < 0 by decide) (And.intro (by decide) (And.intro (by decide) hh))))))))))) ?_
  have h := h
  subst r
  exact ax_end 9 (And.intro (show ¬ (0 : Int32) < 0 by decide) (And.intro (show ¬ (0 : Int32) < 0 by decide) (And.intro (show ¬ (12 : Int32) < 0 by decide) (And.intro (by decide) (And.intro (by decide) rfl)))))
def XSt_copyFrom_25_3  (s : ax_S) : ax_S :=
  (ax_sI (ax_sI (ax_sA (ax_sA (ax_sA (ax_sA (XFi_copyFrom_26_4 s) 32 (va_cpy ((XFi_copyFrom_26_4 s).2.1 10) ((XFi_copyFrom_26_4 s).2.1 32) 0 0 16)) 33 (va_cpy ((XFi_copyFrom_26_4 s).2.1 11) ((XFi_copyFrom_26_4 s).2.1 33) 0 0 16)) 34 (va_cpy ((XFi_copyFrom_26_4 s).2.1 12) ((XFi_copyFrom_26_4 s).2.1 34) 0 0 16)) 35 (va_cpy ((XFi_copyFrom_26_4 s).2.1 13) ((XFi_copyFrom_26_4 s).2.1 35) 0 0 180)) 25 5 ((XFi_copyFrom_26_4 s).2.1 3 5)) 25 6 ((XFi_copyFrom_26_4 s).2.1 3 6))
theorem e_XSt_copyFrom_25_3 (d : Nat)  (s : ax_S) : ax_ev true (d + 2) 71 [.ref 25, .ref 3] s (none, (XSt_copyFrom_25_3 s)) := by
  refine ⟨Nat.le_of_ble_eq_true rfl, ?_⟩
  generalize h : XSt_copyFrom_25_3 s = r
  show ax_go true none (ax_ev true (d + 1)) ax_m71 0 [some (.ref 25), some (.ref 3)] [] s _
  unfold XSt_copyFrom_25_3 at h
  refine ax_cut (pc' := 31) (la := [some (.ref 25), some (.ref 3)]) [some (.ref 25), some (.ref 3)] (st' := [.int (0 : Int32), .ref 11]) (σ' := (ax_sA (XFi_copyFrom_26_4 s) 32 (va_cpy ((XFi_copyFrom_26_4 s).2.1 10) ((XFi_copyFrom_26_4 s).2.1 32) 0 0 16))) 16 (And.intro rfl (And.intro rfl (trivial))) (fun _ hh => (Exists.intro (none, (XFi_copyFrom_26_4 s)) (And.intro (e_XFi_copyFrom_26_4 d  s) (And.intro (show ¬ (0 : Int32) < 0 by decide) (And.intro (show ¬ (0 : Int32) < 0 by decide) (And.intro (show ¬ (16 : Int32) < 0 by decide) (And.intro (by decide) (And.intro (by decide) hh)))))))) ?_
  refine ax_cut (pc' := 61) (la := [some (.ref 25), some (.ref 3)]) [some (.ref 25), some (.ref 3)] (st' := [.int (0 : Int32), .ref 13]) (σ' := (ax_sA (ax_sA (ax_sA (XFi_copyFrom_26_4 s) 32 (va_cpy ((XFi_copyFrom_26_4 s).2.1 10) ((XFi_copyFrom_26_4 s).2.1 32) 0 0 16)) 33 (va_cpy ((XFi_copyFrom_26_4 s).2.1 11) ((XFi_copyFrom_26_4 s).2.1 33) 0 0 16)) 34 (va_cpy ((XFi_copyFrom_26_4 s).2.1 12) ((XFi_copyFrom_26_4 s).2.1 34) 0 0 16))) 16 (And.intro rfl (And.intro rfl (trivial))) (fun _ hh => (And.intro (show ¬ (0 : Int32) < 0 by decide) (And.intro (show ¬ (0 : Int32) < 0 by decide) (And.intro (show ¬ (16 : Int32) < 0 by decide) (And.intro (by decide) (And.intro (by decide) (And.intro (show ¬ (0 : Int32) < 0 by decide) (And.intro (show ¬ (0 : Int32) < 0 by decide) (And.intro (show ¬ (16 : Int32) < 0 by decide) (And.intro (by decide) (And.intro (by decide) hh))))))))))) ?_
  have h := h
  subst r
  exact ax_end 14 (And.intro (show ¬ (0 : Int32) < 0 by decide) (And.intro (show ¬ (0 : Int32) < 0 by decide) (And.intro (show ¬ (180 : Int32) < 0 by decide) (And.intro (by decide) (And.intro (by decide) rfl)))))
def XEdRe_canBegin (x1 : Int32)  (s : ax_S) : Int32 :=
  if x1 = (35 : Int32) then (
    (1 : Int32)) else
  if (XLiRe_isPersonLetter x1 s) = 0 then (
    (0 : Int32)) else
  (1 : Int32)
theorem e_XEdRe_canBegin (d : Nat) (x1 : Int32) (s : ax_S) : ax_ev true (d + 2) 27 [.ref 53, .int x1] s (some (.int (XEdRe_canBegin x1 s)), s) := by
  refine ⟨Nat.le_of_ble_eq_true rfl, ?_⟩
  generalize h : XEdRe_canBegin x1 s = r
  show ax_go true none (ax_ev true (d + 1)) ax_m27 0 [some (.ref 53), some (.int x1)] [] s _
  unfold XEdRe_canBegin at h
  by_cases c1 : x1 = (35 : Int32)
  · rw [if_pos c1] at h
    have h := h
    subst r
    exact ax_end 6 (And.intro (fun _ => (And.intro (Or.inr rfl) rfl)) (fun q => absurd c1 q))
  · rw [if_neg c1] at h
    by_cases c2 : (XLiRe_isPersonLetter x1 s) = 0
    · rw [if_pos c2] at h
      have h := h
      subst r
      exact ax_end 8 (And.intro (fun q => absurd q c1) (fun _ => (Exists.intro (some (.int (XLiRe_isPersonLetter x1 s)), s) (And.intro (e_XLiRe_isPersonLetter d x1 s) (And.intro (fun _ => (And.intro (Or.inl rfl) rfl)) (fun q => absurd c2 q))))))
    · rw [if_neg c2] at h
      have h := h
      subst r
      exact ax_end 9 (And.intro (fun q => absurd q c1) (fun _ => (Exists.intro (some (.int (XLiRe_isPersonLetter x1 s)), s) (And.intro (e_XLiRe_isPersonLetter d x1 s) (And.intro (fun q => absurd q c2) (fun _ => (And.intro (Or.inr rfl) rfl)))))))
def XSt_painOf_25 (x1 : Int32)  (s : ax_S) : Option (Int32) :=
  if (X_isPerson x1 s) = 0 then (
    some (0 : Int32)) else
  if (x1 < 0 ∨ 16 ≤ (x1).toNatClampNeg) then none else
  some (s.2.1 32 (x1).toNatClampNeg)
theorem e_XSt_painOf_25 (d : Nat) {x1 : Int32} {s : ax_S} {r : Int32} (h : XSt_painOf_25 x1 s = some r) : ax_ev true (d + 3) 45 [.ref 25, .int x1] s (some (.int r), s) := by
  refine ⟨Nat.le_of_ble_eq_true rfl, ?_⟩
  show ax_go true none (ax_ev true (d + 2)) ax_m45 0 [some (.ref 25), some (.int x1)] [] s _
  unfold XSt_painOf_25 at h
  by_cases c1 : (X_isPerson x1 s) = 0
  · rw [if_pos c1] at h
    have h := Option.some.inj h
    subst r
    exact ax_end 5 (Exists.intro (some (.int (X_isPerson x1 s)), s) (And.intro (e_X_isPerson d x1 s) (And.intro (fun _ => rfl) (fun q => absurd c1 q))))
  · rw [if_neg c1] at h
    by_cases c2 : (x1 < 0 ∨ 16 ≤ (x1).toNatClampNeg)
    · rw [if_pos c2] at h; cases h
    · rw [if_neg c2] at h
      have h := Option.some.inj h
      subst r
      exact ax_end 9 (Exists.intro (some (.int (X_isPerson x1 s)), s) (And.intro (e_X_isPerson d x1 s) (And.intro (fun q => absurd q c1) (fun _ => (And.intro c2 rfl)))))
def XSt_setPain_25 (x1 : Int32) (x2 : Int32)  (s : ax_S) : Option (ax_S) :=
  if (X_isPerson x1 s) = 0 then (
    some s) else
  if (x1 < 0 ∨ 16 ≤ (x1).toNatClampNeg) then none else
  some (ax_sI s 32 (x1).toNatClampNeg (if (0 : Int32) < (if x2 < (99 : Int32) then x2 else (99 : Int32)) then (if x2 < (99 : Int32) then x2 else (99 : Int32)) else (0 : Int32)))
theorem e_XSt_setPain_25 (d : Nat) {x1 : Int32} {x2 : Int32} {s : ax_S} {r : ax_S} (h : XSt_setPain_25 x1 x2 s = some r) : ax_ev true (d + 3) 16 [.ref 25, .int x1, .int x2] s (none, r) := by
  refine ⟨Nat.le_of_ble_eq_true rfl, ?_⟩
  show ax_go true none (ax_ev true (d + 2)) ax_m16 0 [some (.ref 25), some (.int x1), some (.int x2)] [] s _
  unfold XSt_setPain_25 at h
  by_cases c1 : (X_isPerson x1 s) = 0
  · rw [if_pos c1] at h
    have h := Option.some.inj h
    subst r
    exact ax_end 4 (Exists.intro (some (.int (X_isPerson x1 s)), s) (And.intro (e_X_isPerson d x1 s) (And.intro (fun _ => rfl) (fun q => absurd c1 q))))
  · rw [if_neg c1] at h
    by_cases c2 : (x1 < 0 ∨ 16 ≤ (x1).toNatClampNeg)
    · rw [if_pos c2] at h; cases h
    · rw [if_neg c2] at h
      have h := Option.some.inj h
      subst r
      exact ax_end 13 (Exists.intro (some (.int (X_isPerson x1 s)), s) (And.intro (e_X_isPerson d x1 s) (And.intro (fun q => absurd q c1) (fun _ => (And.intro c2 rfl)))))
def XEdRe_readPainEdit_j61 (x3 : Int32) (y1 : Int32) (y2 : Int32) (y3 : Int32)  (s : ax_S) : Int32 :=
  if y3 = (43 : Int32) then (
    x3) else
  (-x3)
def XEdRe_readPainEdit_j61_1 (x3 : Int32) (y1 : Int32) (y2 : Int32) (y3 : Int32)  (s : ax_S) : Int32 :=
  if y3 = (43 : Int32) then (
    x3) else
  (-x3)
def XEdRe_readPainEdit (x1 : Int32)  (s : ax_S) : Option (ax_S) :=
  match XTa_peek s with
  | none => none
  | some v1 =>
    if v1 = (43 : Int32) then (
      match XTa_readNumber (2 : Int32) (XTa_step s) with
      | none => none
      | some (v2, s3) =>
        match XSt_painOf_25 x1 s3 with
        | none => none
        | some v4 =>
          match XSt_setPain_25 x1 (v4 + (XEdRe_readPainEdit_j61 v2 x1 v4 v1 s3)) s3 with
          | none => none
          | some s6 =>
            some s6) else
    if v1 = (45 : Int32) then (
      match XTa_readNumber (2 : Int32) (XTa_step s) with
      | none => none
      | some (v7, s8) =>
        match XSt_painOf_25 x1 s8 with
        | none => none
        | some v9 =>
          match XSt_setPain_25 x1 (v9 + (XEdRe_readPainEdit_j61_1 v7 x1 v9 v1 s8)) s8 with
          | none => none
          | some s11 =>
            some s11) else
    some (XTa_refuse (1 : Int32) s)
theorem w_XEdRe_readPainEdit_j61 (d : Nat) {o : ax_O} (x3 : Int32) (y1 : Int32) (y2 : Int32) (y3 : Int32) (s : ax_S) (r : Int32) (h : XEdRe_readPainEdit_j61 x3 y1 y2 y3 s = r) (hk0 : ∀ (t0 : Int32), r = t0 → ax_go true none (ax_ev true (d + 3)) ax_m44 70 [none, none, none, none] [.int t0, .int y2, .int y1, .ref 25] s o) : ax_go true none (ax_ev true (d + 3)) ax_m44 61 [none, none, none, some (.int x3)] [.int (43 : Int32), .int y3, .int y2, .int y1, .ref 25] s o := by
  unfold XEdRe_readPainEdit_j61 at h
  by_cases c1 : y3 = (43 : Int32)
  · rw [if_pos c1] at h
    have h := h
    subst r
    exact ax_cut (pc' := 70) (la := [none, none, none, some (.int x3)]) [none, none, none, none] (st' := [.int x3, .int y2, .int y1, .ref 25]) (σ' := s) 3 (trivial) (fun _ hh => (And.intro (fun q => absurd c1 q) (fun _ => hh))) (hk0 _ rfl)
  · rw [if_neg c1] at h
    have h := h
    subst r
    exact ax_cut (pc' := 70) (la := [none, none, none, some (.int x3)]) [none, none, none, none] (st' := [.int (-x3), .int y2, .int y1, .ref 25]) (σ' := s) 3 (trivial) (fun _ hh => (And.intro (fun _ => hh) (fun q => absurd c1 q))) (hk0 _ rfl)
theorem w_XEdRe_readPainEdit_j61_1 (d : Nat) {o : ax_O} (x3 : Int32) (y1 : Int32) (y2 : Int32) (y3 : Int32) (s : ax_S) (r : Int32) (h : XEdRe_readPainEdit_j61_1 x3 y1 y2 y3 s = r) (hk0 : ∀ (t0 : Int32), r = t0 → ax_go true none (ax_ev true (d + 3)) ax_m44 70 [none, none, none, none] [.int t0, .int y2, .int y1, .ref 25] s o) : ax_go true none (ax_ev true (d + 3)) ax_m44 61 [none, none, none, some (.int x3)] [.int (43 : Int32), .int y3, .int y2, .int y1, .ref 25] s o := by
  unfold XEdRe_readPainEdit_j61_1 at h
  by_cases c1 : y3 = (43 : Int32)
  · rw [if_pos c1] at h
    have h := h
    subst r
    exact ax_cut (pc' := 70) (la := [none, none, none, some (.int x3)]) [none, none, none, none] (st' := [.int x3, .int y2, .int y1, .ref 25]) (σ' := s) 3 (trivial) (fun _ hh => (And.intro (fun q => absurd c1 q) (fun _ => hh))) (hk0 _ rfl)
  · rw [if_neg c1] at h
    have h := h
    subst r
    exact ax_cut (pc' := 70) (la := [none, none, none, some (.int x3)]) [none, none, none, none] (st' := [.int (-x3), .int y2, .int y1, .ref 25]) (σ' := s) 3 (trivial) (fun _ hh => (And.intro (fun _ => hh) (fun q => absurd c1 q))) (hk0 _ rfl)
theorem e_XEdRe_readPainEdit (d : Nat) {x1 : Int32} {s : ax_S} {r : ax_S} (h : XEdRe_readPainEdit x1 s = some r) : ax_ev true (d + 4) 44 [.ref 53, .int x1] s (none, r) := by
  refine ⟨Nat.le_of_ble_eq_true rfl, ?_⟩
  show ax_go true none (ax_ev true (d + 3)) ax_m44 0 [some (.ref 53), some (.int x1), none, none] [] s _
  unfold XEdRe_readPainEdit at h
  cases hz1 : XTa_peek s with
  | none => rw [hz1] at h; cases h
  | some v1 =>
  rw [hz1] at h
  dsimp only at h
  by_cases c2 : v1 = (43 : Int32)
  · rw [if_pos c2] at h
    cases hz3 : XTa_readNumber (2 : Int32) (XTa_step s) with
    | none => rw [hz3] at h; cases h
    | some z3 =>
    rw [hz3] at h
    obtain ⟨v2, s3⟩ := z3
    dsimp only at h
    refine ax_cut (pc' := 46) (la := [some (.ref 53), some (.int x1), some (.int v1), some (.int v2)]) [some (.ref 53), some (.int x1), some (.int v1), some (.int v2)] (st' := [.ref 53]) (σ' := s3) 16 (And.intro rfl (And.intro rfl (And.intro rfl (And.intro rfl (trivial))))) (fun _ hh => (Exists.intro (some (.int v1), s) (And.intro (e_XTa_peek (d + 2) hz1) (And.intro (fun _ => (Exists.intro (none, (XTa_step s)) (And.intro (e_XTa_step (d + 2)  s) (Exists.intro (some (.int v2), s3) (And.intro (e_XTa_readNumber (d + 1) hz3) hh))))) (fun q => absurd c2 q))))) ?_
    cases hz4 : XSt_painOf_25 x1 s3 with
    | none => rw [hz4] at h; cases h
    | some v4 =>
    rw [hz4] at h
    dsimp only at h
    refine ax_cut (pc' := 61) (la := [some (.ref 53), some (.int x1), some (.int v1), some (.int v2)]) [none, none, none, some (.int v2)] (st' := [.int (43 : Int32), .int v1, .int v4, .int x1, .ref 25]) (σ' := s3) 8 (And.intro rfl (trivial)) (fun _ hh => (Exists.intro (some (.int v4), s3) (And.intro (e_XSt_painOf_25 d hz4) hh))) (w_XEdRe_readPainEdit_j61 d v2 x1 v4 v1 s3 _ rfl (fun v5 hq => ?_))
    obtain rfl : v5 = (XEdRe_readPainEdit_j61 v2 x1 v4 v1 s3) := hq.symm
    cases hz5 : XSt_setPain_25 x1 (v4 + (XEdRe_readPainEdit_j61 v2 x1 v4 v1 s3)) s3 with
    | none => rw [hz5] at h; cases h
    | some s6 =>
    rw [hz5] at h
    dsimp only at h
    have h := Option.some.inj h
    subst r
    exact ax_end 3 (Exists.intro (none, s6) (And.intro (e_XSt_setPain_25 d hz5) rfl))
  · rw [if_neg c2] at h
    by_cases c6 : v1 = (45 : Int32)
    · rw [if_pos c6] at h
      refine ax_cut (pc' := 41) (la := [some (.ref 53), some (.int x1), some (.int v1), none]) [some (.ref 53), some (.int x1), some (.int v1), none] (st' := [.int (2 : Int32), .ref 1]) (σ' := (XTa_step s)) 16 (And.intro rfl (And.intro rfl (And.intro rfl (trivial)))) (fun _ hh => (Exists.intro (some (.int v1), s) (And.intro (e_XTa_peek (d + 2) hz1) (And.intro (fun q => absurd q c2) (fun _ => (And.intro (fun _ => (Exists.intro (none, (XTa_step s)) (And.intro (e_XTa_step (d + 2)  s) hh))) (fun q => absurd c6 q))))))) ?_
      cases hz7 : XTa_readNumber (2 : Int32) (XTa_step s) with
      | none => rw [hz7] at h; cases h
      | some z7 =>
      rw [hz7] at h
      obtain ⟨v7, s8⟩ := z7
      dsimp only at h
      cases hz8 : XSt_painOf_25 x1 s8 with
      | none => rw [hz8] at h; cases h
      | some v9 =>
      rw [hz8] at h
      dsimp only at h
      refine ax_cut (pc' := 61) (la := [some (.ref 53), some (.int x1), some (.int v1), some (.int v7)]) [none, none, none, some (.int v7)] (st' := [.int (43 : Int32), .int v1, .int v9, .int x1, .ref 25]) (σ' := s8) 11 (And.intro rfl (trivial)) (fun _ hh => (Exists.intro (some (.int v7), s8) (And.intro (e_XTa_readNumber (d + 1) hz7) (Exists.intro (some (.int v9), s8) (And.intro (e_XSt_painOf_25 d hz8) hh))))) (w_XEdRe_readPainEdit_j61_1 d v7 x1 v9 v1 s8 _ rfl (fun v10 hq => ?_))
      obtain rfl : v10 = (XEdRe_readPainEdit_j61_1 v7 x1 v9 v1 s8) := hq.symm
      cases hz9 : XSt_setPain_25 x1 (v9 + (XEdRe_readPainEdit_j61_1 v7 x1 v9 v1 s8)) s8 with
      | none => rw [hz9] at h; cases h
      | some s11 =>
      rw [hz9] at h
      dsimp only at h
      have h := Option.some.inj h
      subst r
      exact ax_end 3 (Exists.intro (none, s11) (And.intro (e_XSt_setPain_25 d hz9) rfl))
    · rw [if_neg c6] at h
      have h := Option.some.inj h
      subst r
      exact ax_end 15 (Exists.intro (some (.int v1), s) (And.intro (e_XTa_peek (d + 2) hz1) (And.intro (fun q => absurd q c2) (fun _ => (And.intro (fun q => absurd q c6) (fun _ => (Exists.intro (none, (XTa_refuse (1 : Int32) s)) (And.intro (e_XTa_refuse (d + 1) (1 : Int32) s) rfl))))))))
def XFi_isTold_26 (x1 : Int32)  (s : ax_S) : Option (Int32) :=
  if x1 < 0 then (
    some (0 : Int32)) else
  if (12 : Int32) ≤ x1 then (
    some (0 : Int32)) else
  if (x1 < 0 ∨ 12 ≤ (x1).toNatClampNeg) then none else
  if (s.2.1 27 (x1).toNatClampNeg) = (-1 : Int32) then (
    some (0 : Int32)) else
  some (1 : Int32)
theorem e_XFi_isTold_26 (d : Nat) {x1 : Int32} {s : ax_S} {r : Int32} (h : XFi_isTold_26 x1 s = some r) : ax_ev true (d + 1) 38 [.ref 26, .int x1] s (some (.int r), s) := by
  refine ⟨Nat.le_of_ble_eq_true rfl, ?_⟩
  show ax_go true none (ax_ev true (d + 0)) ax_m38 0 [some (.ref 26), some (.int x1)] [] s _
  unfold XFi_isTold_26 at h
  by_cases c1 : x1 < 0
  · rw [if_pos c1] at h
    have h := Option.some.inj h
    subst r
    exact ax_end 4 (And.intro (fun _ => (And.intro (Or.inl rfl) rfl)) (fun q => absurd c1 q))
  · rw [if_neg c1] at h
    by_cases c2 : (12 : Int32) ≤ x1
    · rw [if_pos c2] at h
      have h := Option.some.inj h
      subst r
      exact ax_end 7 (And.intro (fun q => absurd q c1) (fun _ => (And.intro (fun _ => (And.intro (Or.inl rfl) rfl)) (fun q => absurd c2 q))))
    · rw [if_neg c2] at h
      by_cases c3 : (x1 < 0 ∨ 12 ≤ (x1).toNatClampNeg)
      · rw [if_pos c3] at h; cases h
      · rw [if_neg c3] at h
        by_cases c4 : (s.2.1 27 (x1).toNatClampNeg) = (-1 : Int32)
        · rw [if_pos c4] at h
          have h := Option.some.inj h
          subst r
          exact ax_end 13 (And.intro (fun q => absurd q c1) (fun _ => (And.intro (fun q => absurd q c2) (fun _ => (And.intro c3 (And.intro (fun _ => (And.intro (Or.inl rfl) rfl)) (fun q => absurd c4 q)))))))
        · rw [if_neg c4] at h
          have h := Option.some.inj h
          subst r
          exact ax_end 14 (And.intro (fun q => absurd q c1) (fun _ => (And.intro (fun q => absurd q c2) (fun _ => (And.intro c3 (And.intro (fun q => absurd q c4) (fun _ => (And.intro (Or.inr rfl) rfl))))))))
def XFi_takeOut_26 (x1 : Int32)  (s : ax_S) : Option (ax_S) :=
  match XFi_tell_26 x1 (-1 : Int32) s with
  | none => none
  | some s1 =>
    some s1
theorem e_XFi_takeOut_26 (d : Nat) {x1 : Int32} {s : ax_S} {r : ax_S} (h : XFi_takeOut_26 x1 s = some r) : ax_ev true (d + 2) 42 [.ref 26, .int x1] s (none, r) := by
  refine ⟨Nat.le_of_ble_eq_true rfl, ?_⟩
  show ax_go true none (ax_ev true (d + 1)) ax_m42 0 [some (.ref 26), some (.int x1)] [] s _
  unfold XFi_takeOut_26 at h
  cases hz1 : XFi_tell_26 x1 (-1 : Int32) s with
  | none => rw [hz1] at h; cases h
  | some s1 =>
  rw [hz1] at h
  dsimp only at h
  have h := Option.some.inj h
  subst r
  exact ax_end 5 (Exists.intro (none, s1) (And.intro (e_XFi_tell_26 d hz1) rfl))
def X_isOnPrint (x0 : Int32) (x1 : Int32) (x2 : Int32) (x3 : Int32)  (s : ax_S) : Int32 :=
  if (X_isWithin x0 (0 : Int32) (15 : Int32) s) = 0 then (
    (0 : Int32)) else
  if (X_isWithin x1 (0 : Int32) (11 : Int32) s) = 0 then (
    (0 : Int32)) else
  if (X_isWithin x2 (1 : Int32) ((16 : Int32) - x0) s) = 0 then (
    (0 : Int32)) else
  if (X_isWithin x3 (1 : Int32) ((12 : Int32) - x1) s) = 0 then (
    (0 : Int32)) else
  (1 : Int32)
theorem e_X_isOnPrint (d : Nat) (x0 : Int32) (x1 : Int32) (x2 : Int32) (x3 : Int32) (s : ax_S) : ax_ev true (d + 2) 41 [.int x0, .int x1, .int x2, .int x3] s (some (.int (X_isOnPrint x0 x1 x2 x3 s)), s) := by
  refine ⟨Nat.le_of_ble_eq_true rfl, ?_⟩
  generalize h : X_isOnPrint x0 x1 x2 x3 s = r
  show ax_go true none (ax_ev true (d + 1)) ax_m41 0 [some (.int x0), some (.int x1), some (.int x2), some (.int x3)] [] s _
  unfold X_isOnPrint at h
  by_cases c1 : (X_isWithin x0 (0 : Int32) (15 : Int32) s) = 0
  · rw [if_pos c1] at h
    have h := h
    subst r
    exact ax_end 7 (Exists.intro (some (.int (X_isWithin x0 (0 : Int32) (15 : Int32) s)), s) (And.intro (e_X_isWithin d x0 (0 : Int32) (15 : Int32) s) (And.intro (fun _ => (And.intro (Or.inl rfl) rfl)) (fun q => absurd c1 q))))
  · rw [if_neg c1] at h
    by_cases c2 : (X_isWithin x1 (0 : Int32) (11 : Int32) s) = 0
    · rw [if_pos c2] at h
      have h := h
      subst r
      exact ax_end 12 (Exists.intro (some (.int (X_isWithin x0 (0 : Int32) (15 : Int32) s)), s) (And.intro (e_X_isWithin d x0 (0 : Int32) (15 : Int32) s) (And.intro (fun q => absurd q c1) (fun _ => (Exists.intro (some (.int (X_isWithin x1 (0 : Int32) (11 : Int32) s)), s) (And.intro (e_X_isWithin d x1 (0 : Int32) (11 : Int32) s) (And.intro (fun _ => (And.intro (Or.inl rfl) rfl)) (fun q => absurd c2 q))))))))
    · rw [if_neg c2] at h
      refine ax_cut (pc' := 29) (la := [some (.int x0), some (.int x1), some (.int x2), some (.int x3)]) [none, some (.int x1), none, some (.int x3)] (st' := [.int (X_isWithin x2 (1 : Int32) ((16 : Int32) - x0) s)]) (σ' := s) 16 (And.intro rfl (And.intro rfl (trivial))) (fun _ hh => (Exists.intro (some (.int (X_isWithin x0 (0 : Int32) (15 : Int32) s)), s) (And.intro (e_X_isWithin d x0 (0 : Int32) (15 : Int32) s) (And.intro (fun q => absurd q c1) (fun _ => (Exists.intro (some (.int (X_isWithin x1 (0 : Int32) (11 : Int32) s)), s) (And.intro (e_X_isWithin d x1 (0 : Int32) (11 : Int32) s) (And.intro (fun q => absurd q c2) (fun _ => (Exists.intro (some (.int (X_isWithin x2 (1 : Int32) ((16 : Int32) - x0) s)), s) (And.intro (e_X_isWithin d x2 (1 : Int32) ((16 : Int32) - x0) s) hh))))))))))) ?_
      by_cases c3 : (X_isWithin x2 (1 : Int32) ((16 : Int32) - x0) s) = 0
      · rw [if_pos c3] at h
        have h := h
        subst r
        exact ax_end 3 (And.intro (fun _ => (And.intro (Or.inl rfl) rfl)) (fun q => absurd c3 q))
      · rw [if_neg c3] at h
        by_cases c4 : (X_isWithin x3 (1 : Int32) ((12 : Int32) - x1) s) = 0
        · rw [if_pos c4] at h
          have h := h
          subst r
          exact ax_end 10 (And.intro (fun q => absurd q c3) (fun _ => (Exists.intro (some (.int (X_isWithin x3 (1 : Int32) ((12 : Int32) - x1) s)), s) (And.intro (e_X_isWithin d x3 (1 : Int32) ((12 : Int32) - x1) s) (And.intro (fun _ => (And.intro (Or.inl rfl) rfl)) (fun q => absurd c4 q))))))
        · rw [if_neg c4] at h
          have h := h
          subst r
          exact ax_end 11 (And.intro (fun q => absurd q c3) (fun _ => (Exists.intro (some (.int (X_isWithin x3 (1 : Int32) ((12 : Int32) - x1) s)), s) (And.intro (e_X_isWithin d x3 (1 : Int32) ((12 : Int32) - x1) s) (And.intro (fun q => absurd q c4) (fun _ => (And.intro (Or.inr rfl) rfl)))))))
